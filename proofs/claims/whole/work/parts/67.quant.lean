/-! quantiles -/
section S67
variable {E : EE} {G G' G2 G0 : Gt} {c s : Nat} {Q X : Int → Gt → Prop} {a r q l u v n m p sp w k set fr wd g sh : Int} {W : Nat → Nat → Int → Prop} {L A : Int → Prop} {R T : List (Int × Int)}
theorem mula {x y A B : Int} (hx : -A ≤ x ∧ x ≤ A) (hy : -B ≤ y ∧ y ≤ B) : -(A * B) ≤ x * y ∧ x * y ≤ A * B := by
  by_cases h1 : 0 ≤ x <;> by_cases h2 : 0 ≤ y
  · have := mulb (x := x) (y := y) (A := A) (B := B) (by omega) (by omega)
    omega
  · have := mulb (x := x) (y := -y) (A := A) (B := B) (by omega) (by omega)
    rw [Int.mul_neg] at this
    omega
  · have := mulb (x := -x) (y := y) (A := A) (B := B) (by omega) (by omega)
    rw [Int.neg_mul] at this
    omega
  · have := mulb (x := -x) (y := -y) (A := A) (B := B) (by omega) (by omega)
    rw [Int.neg_mul_neg] at this
    omega
def qtE (rank ahead bound : Int) (y : Int × Int) : Int := if Int.tmod y.1 10 < 5 ∧ 0 < y.2 - ahead then bound + Int.tdiv ((wBound (Int.tmod y.1 10) - bound) * (rank - ahead)) (y.2 - ahead) else bound
def qtF (rank : Int) : Int → Int → List (Int × Int) → Int
  | _, _, [] => 0
  | ahead, bound, [y] => qtE rank ahead bound y
  | ahead, bound, y :: z :: r => if y.2 < rank then qtF rank y.2 (wBound (Int.tmod y.1 10)) (z :: r) else qtE rank ahead bound y
def grt (R : List (Int × Int)) : Int := R.foldl (fun x y => max x y.2) 0
/-- the quantile of a group -/
def qtV (sh : Int) (R : List (Int × Int)) : Option Int := if 0 < grt R then some (qtF (Int.tdiv (sh * grt R) 1000) 0 0 R) else none
theorem wBound_in (t : Int) : 0 ≤ wBound t ∧ wBound t ≤ 20000 := by
  unfold wBound
  repeat' split
  all_goals omega
theorem foldl_grt : ∀ (R : List (Int × Int)) (x : Int), 0 ≤ x → x ≤ 100000000000000 → (∀ y ∈ R, bnd y.2) → 0 ≤ R.foldl (fun x y => max x y.2) x ∧ R.foldl (fun x y => max x y.2) x ≤ 100000000000000
  | [], x, h0, h1, _ => ⟨h0, h1⟩
  | y :: R, x, h0, h1, h => by
    have hy := h y List.mem_cons_self
    unfold bnd at hy
    exact foldl_grt R (max x y.2) (by omega) (by omega) (fun z hz => h z (List.mem_cons_of_mem _ hz))
/-- the spare result and the one that quantiles are taken of -/
def QtS (E : EE) (G0 G : Gt) (p sp fr : Int) (n : Int) (R : List (Int × Int)) : Prop := spF E G0 G sp ∧ gcl G p = 3 ∧ gfd G 2 2 p = sp ∧ RowH G fr n R
theorem seg_at {b e i : Nat} (hb : b + i < e) (he : e ≤ R.length) : ((R.drop b).take (e - b))[i]? = some (R.getD (b + i) (0, 0)) := by
  rw [List.getElem?_take, if_pos (by omega), List.getElem?_drop, List.getD_eq_getElem?_getD, List.getElem?_eq_getElem (by omega)]; rfl
theorem seg_cons {b e : Nat} (hb : b < e) (he : e ≤ R.length) : (R.drop b).take (e - b) = R.getD b (0, 0) :: (R.drop (b + 1)).take (e - (b + 1)) := by
  have : R.drop b = R.getD b (0, 0) :: R.drop (b + 1) := by
    rw [List.drop_eq_getElem_cons (show b < R.length by omega), List.getD_eq_getElem?_getD, List.getElem?_eq_getElem (show b < R.length by omega)]; rfl
  rw [this, show e - b = (e - (b + 1)) + 1 by omega, List.take_succ_cons]
theorem v_quant55 {b e : Nat} {rank : Int} (hw : wt E G) (hp : gcl G p = 3) (hsp : gfd G 2 2 p = sp) (hs : RowH G sp 0 T) (hT : ascL T) (hT12 : T.length < 12) (h5 : RowH G fr n R) (hR : RV n R) (hbe : b < e) (he : e ≤ R.length) (hrk : 0 ≤ rank ∧ rank ≤ 100000000000000) :
    ∀ (j i : Nat) (ahead bound : Int), b ≤ i → i + 1 + j = e → (ahead = if (i : Int) ≤ b then 0 else (R.getD (i - 1) (0, 0)).2) → (bound = if (i : Int) ≤ b then 0 else wBound (Int.tmod (R.getD (i - 1) (0, 0)).1 10)) →
    V E M_X2_takeQuantile 55 [some (rv p), some (rv fr), some (iv (b : Int)), some (iv (e : Int)), none, none, none, some (jv rank), none, some (iv (i : Int)), none, none, none, none, none, none, none, none] [] G c s (fun _ G' => RU G G' sp ∧ RowH G' sp 0 (putL (Int.tdiv (R.getD b (0, 0)).1 10 * 10 + 6) (qtF rank ahead bound ((R.drop i).take (e - i))) T)) X := by
  have h12 := hR.1
  obtain ⟨hb19, hbl, -⟩ := hw.2.2.2.2.2.2.2.2.2.1
  have hby := hR.at (show b < R.length by omega)
  obtain ⟨b1, b2, b3, b4, b5⟩ := h5.elt (show b < R.length by omega)
  have hlb := hby.1
  unfold cOk at hlb
  have hd10 : 0 ≤ Int.tdiv (R.getD b (0, 0)).1 10 ∧ Int.tdiv (R.getD b (0, 0)).1 10 ≤ 66 := by rw [Int.tdiv_eq_ediv_of_nonneg hlb.1]; omega
  have fin : ∀ (i : Nat) (ahead bound : Int), b ≤ i → i < e → (ahead = if (i : Int) ≤ b then 0 else (R.getD (i - 1) (0, 0)).2) → (bound = if (i : Int) ≤ b then 0 else wBound (Int.tmod (R.getD (i - 1) (0, 0)).1 10)) →
      (gcl G fr = 4 ∧ gcl G (gfd G 3 0 fr) = 15 ∧ 0 ≤ (b : Int) ∧ (b : Int) < gln G (gfd G 3 0 fr) ∧ i32 ((Int.tdiv (gel G (gfd G 3 0 fr) (b : Int)) 10) * 10) ∧ i32 (((Int.tdiv (gel G (gfd G 3 0 fr) (b : Int)) 10) * 10) + 6) ∧ ((b : Int) < (i : Int) → gcl G fr = 4) ∧ ((b : Int) < (i : Int) → i32 ((i : Int) - 1)) ∧ ((b : Int) < (i : Int) → gcl G (gfd G 3 1 fr) = 16) ∧ ((b : Int) < (i : Int) → 0 ≤ ((i : Int) - 1)) ∧ ((b : Int) < (i : Int) → ((i : Int) - 1) < gln G (gfd G 3 1 fr)) ∧ ((b : Int) < (i : Int) → gcl G fr = 4) ∧ ((b : Int) < (i : Int) → i32 ((i : Int) - 1)) ∧ ((b : Int) < (i : Int) → gcl G (gfd G 3 0 fr) = 15) ∧ ((b : Int) < (i : Int) → 0 ≤ ((i : Int) - 1)) ∧ ((b : Int) < (i : Int) → ((i : Int) - 1) < gln G (gfd G 3 0 fr)) ∧ ((b : Int) < (i : Int) → OkP E M_X2_boundOf [iv (Int.tmod (gel G (gfd G 3 0 fr) ((i : Int) - 1)) 10)] G (wBound (Int.tmod (gel G (gfd G 3 0 fr) ((i : Int) - 1)) 10))) ∧ gcl G fr = 4 ∧ gcl G (gfd G 3 1 fr) = 16 ∧ 0 ≤ (i : Int) ∧ (i : Int) < gln G (gfd G 3 1 fr) ∧ i64 ((gel G (gfd G 3 1 fr) (i : Int)) - (if (i : Int) ≤ (b : Int) then (0 : Int) else (gel G (gfd G 3 1 fr) ((i : Int) - 1)))) ∧ gcl G fr = 4 ∧ gcl G (gfd G 3 0 fr) = 15 ∧ 0 ≤ (i : Int) ∧ (i : Int) < gln G (gfd G 3 0 fr) ∧ 15 ≤ gcl G (eB E) ∧ ((Int.tmod (gel G (gfd G 3 0 fr) (i : Int)) 10) < (gln G (eB E)) → 0 < ((gel G (gfd G 3 1 fr) (i : Int)) - (if (i : Int) ≤ (b : Int) then (0 : Int) else (gel G (gfd G 3 1 fr) ((i : Int) - 1)))) → OkP E M_X2_boundOf [iv (Int.tmod (gel G (gfd G 3 0 fr) (i : Int)) 10)] G (wBound (Int.tmod (gel G (gfd G 3 0 fr) (i : Int)) 10))) ∧ ((Int.tmod (gel G (gfd G 3 0 fr) (i : Int)) 10) < (gln G (eB E)) → 0 < ((gel G (gfd G 3 1 fr) (i : Int)) - (if (i : Int) ≤ (b : Int) then (0 : Int) else (gel G (gfd G 3 1 fr) ((i : Int) - 1)))) → i64 ((wBound (Int.tmod (gel G (gfd G 3 0 fr) (i : Int)) 10)) - (if (i : Int) ≤ (b : Int) then (0 : Int) else (wBound (Int.tmod (gel G (gfd G 3 0 fr) ((i : Int) - 1)) 10))))) ∧ ((Int.tmod (gel G (gfd G 3 0 fr) (i : Int)) 10) < (gln G (eB E)) → 0 < ((gel G (gfd G 3 1 fr) (i : Int)) - (if (i : Int) ≤ (b : Int) then (0 : Int) else (gel G (gfd G 3 1 fr) ((i : Int) - 1)))) → i64 (rank - (if (i : Int) ≤ (b : Int) then (0 : Int) else (gel G (gfd G 3 1 fr) ((i : Int) - 1))))) ∧ ((Int.tmod (gel G (gfd G 3 0 fr) (i : Int)) 10) < (gln G (eB E)) → 0 < ((gel G (gfd G 3 1 fr) (i : Int)) - (if (i : Int) ≤ (b : Int) then (0 : Int) else (gel G (gfd G 3 1 fr) ((i : Int) - 1)))) → i64 (((wBound (Int.tmod (gel G (gfd G 3 0 fr) (i : Int)) 10)) - (if (i : Int) ≤ (b : Int) then (0 : Int) else (wBound (Int.tmod (gel G (gfd G 3 0 fr) ((i : Int) - 1)) 10)))) * (rank - (if (i : Int) ≤ (b : Int) then (0 : Int) else (gel G (gfd G 3 1 fr) ((i : Int) - 1)))))) ∧ ((Int.tmod (gel G (gfd G 3 0 fr) (i : Int)) 10) < (gln G (eB E)) → 0 < ((gel G (gfd G 3 1 fr) (i : Int)) - (if (i : Int) ≤ (b : Int) then (0 : Int) else (gel G (gfd G 3 1 fr) ((i : Int) - 1)))) → ((gel G (gfd G 3 1 fr) (i : Int)) - (if (i : Int) ≤ (b : Int) then (0 : Int) else (gel G (gfd G 3 1 fr) ((i : Int) - 1)))) ≠ 0) ∧ ((Int.tmod (gel G (gfd G 3 0 fr) (i : Int)) 10) < (gln G (eB E)) → 0 < ((gel G (gfd G 3 1 fr) (i : Int)) - (if (i : Int) ≤ (b : Int) then (0 : Int) else (gel G (gfd G 3 1 fr) ((i : Int) - 1)))) → i64 (Int.tdiv (((wBound (Int.tmod (gel G (gfd G 3 0 fr) (i : Int)) 10)) - (if (i : Int) ≤ (b : Int) then (0 : Int) else (wBound (Int.tmod (gel G (gfd G 3 0 fr) ((i : Int) - 1)) 10)))) * (rank - (if (i : Int) ≤ (b : Int) then (0 : Int) else (gel G (gfd G 3 1 fr) ((i : Int) - 1))))) ((gel G (gfd G 3 1 fr) (i : Int)) - (if (i : Int) ≤ (b : Int) then (0 : Int) else (gel G (gfd G 3 1 fr) ((i : Int) - 1)))))) ∧ ((Int.tmod (gel G (gfd G 3 0 fr) (i : Int)) 10) < (gln G (eB E)) → 0 < ((gel G (gfd G 3 1 fr) (i : Int)) - (if (i : Int) ≤ (b : Int) then (0 : Int) else (gel G (gfd G 3 1 fr) ((i : Int) - 1)))) → i64 ((if (i : Int) ≤ (b : Int) then (0 : Int) else (wBound (Int.tmod (gel G (gfd G 3 0 fr) ((i : Int) - 1)) 10))) + (Int.tdiv (((wBound (Int.tmod (gel G (gfd G 3 0 fr) (i : Int)) 10)) - (if (i : Int) ≤ (b : Int) then (0 : Int) else (wBound (Int.tmod (gel G (gfd G 3 0 fr) ((i : Int) - 1)) 10)))) * (rank - (if (i : Int) ≤ (b : Int) then (0 : Int) else (gel G (gfd G 3 1 fr) ((i : Int) - 1))))) ((gel G (gfd G 3 1 fr) (i : Int)) - (if (i : Int) ≤ (b : Int) then (0 : Int) else (gel G (gfd G 3 1 fr) ((i : Int) - 1))))))) ∧ gcl G p = 3 ∧ gcl G (gfd G 2 2 p) = 4 ∧ Call E M_X3_put [rv (gfd G 2 2 p), iv (((Int.tdiv (gel G (gfd G 3 0 fr) (b : Int)) 10) * 10) + 6), jv (if (gln G (eB E)) ≤ (Int.tmod (gel G (gfd G 3 0 fr) (i : Int)) 10) then ((if (i : Int) ≤ (b : Int) then (0 : Int) else (wBound (Int.tmod (gel G (gfd G 3 0 fr) ((i : Int) - 1)) 10))) : Int) else (if ((gel G (gfd G 3 1 fr) (i : Int)) - (if (i : Int) ≤ (b : Int) then (0 : Int) else (gel G (gfd G 3 1 fr) ((i : Int) - 1)))) ≤ 0 then ((if (i : Int) ≤ (b : Int) then (0 : Int) else (wBound (Int.tmod (gel G (gfd G 3 0 fr) ((i : Int) - 1)) 10))) : Int) else ((if (i : Int) ≤ (b : Int) then (0 : Int) else (wBound (Int.tmod (gel G (gfd G 3 0 fr) ((i : Int) - 1)) 10))) + (Int.tdiv (((wBound (Int.tmod (gel G (gfd G 3 0 fr) (i : Int)) 10)) - (if (i : Int) ≤ (b : Int) then (0 : Int) else (wBound (Int.tmod (gel G (gfd G 3 0 fr) ((i : Int) - 1)) 10)))) * (rank - (if (i : Int) ≤ (b : Int) then (0 : Int) else (gel G (gfd G 3 1 fr) ((i : Int) - 1))))) ((gel G (gfd G 3 1 fr) (i : Int)) - (if (i : Int) ≤ (b : Int) then (0 : Int) else (gel G (gfd G 3 1 fr) ((i : Int) - 1))))))))] G c s X (fun r43 G44 c45 s46 => RU G G44 sp ∧ RowH G44 sp 0 (putL (Int.tdiv (R.getD b (0, 0)).1 10 * 10 + 6) (qtE rank ahead bound (R.getD i (0, 0))) T))) := by
    intro i ahead bound hbi hie ha hb
    have hr0 := h5.1.2.1
    have hr1 := h5.1.2.2.1
    have hyi := hR.at (show i < R.length by omega)
    obtain ⟨i1, i2, i3, i4, i5⟩ := h5.elt (show i < R.length by omega)
    have eA : (if (i : Int) ≤ (b : Int) then (0 : Int) else (gel G (gfd G 3 1 fr) ((i : Int) - 1))) = ahead := by
      rw [ha]
      by_cases h9 : (i : Int) ≤ (b : Int)
      · rw [if_pos h9, if_pos h9]
      · obtain ⟨k1, k2, -⟩ := h5.elt (show i - 1 < R.length by omega)
        rw [if_neg h9, if_neg h9, show (i : Int) - 1 = ((i - 1 : Nat) : Int) by omega, k2]
    have eB : (if (i : Int) ≤ (b : Int) then (0 : Int) else (wBound (Int.tmod (gel G (gfd G 3 0 fr) ((i : Int) - 1)) 10))) = bound := by
      rw [hb]
      by_cases h9 : (i : Int) ≤ (b : Int)
      · rw [if_pos h9, if_pos h9]
      · obtain ⟨k1, k2, -⟩ := h5.elt (show i - 1 < R.length by omega)
        rw [if_neg h9, if_neg h9, show (i : Int) - 1 = ((i - 1 : Nat) : Int) by omega, k1]
    rw [eA, eB, i1, i2, b1, hsp, hbl]
    have hab : bnd ahead := by
      rw [ha]
      by_cases h9 : (i : Int) ≤ (b : Int)
      · rw [if_pos h9]; unfold bnd; omega
      · rw [if_neg h9]; exact (hR.at (show i - 1 < R.length by omega)).2
    have hbb : 0 ≤ bound ∧ bound ≤ 20000 := by
      rw [hb]
      by_cases h9 : (i : Int) ≤ (b : Int)
      · rw [if_pos h9]; omega
      · rw [if_neg h9]; exact wBound_in _
    have hyb := hyi.2
    unfold bnd at hab hyb
    have hwb := wBound_in (Int.tmod (R.getD i (0, 0)).1 10)
    have hmul : -(20000 * 200000000000000) ≤ (wBound (Int.tmod (R.getD i (0, 0)).1 10) - bound) * (rank - ahead) ∧ (wBound (Int.tmod (R.getD i (0, 0)).1 10) - bound) * (rank - ahead) ≤ 20000 * 200000000000000 := by
      exact mula (by omega) (by omega)
    have hdv := fun h9 : 0 < (R.getD i (0, 0)).2 - ahead => tdiv_abs (x := (wBound (Int.tmod (R.getD i (0, 0)).1 10) - bound) * (rank - ahead)) (y := (R.getD i (0, 0)).2 - ahead) (A := 20000 * 200000000000000) hmul (by omega)
    refine ⟨h5.1.1, hr0.1, by omega, b4, i32s (by omega), i32s (by omega), fun _ => h5.1.1, fun _ => i32s (by omega), fun _ => hr1.1, fun h9 => by omega, fun h9 => by rw [hr1.2]; omega, fun _ => h5.1.1, fun _ => i32s (by omega), fun _ => hr0.1, fun h9 => by omega, fun h9 => by rw [hr0.2]; omega, fun _ => okp_boundOf, h5.1.1, hr1.1, by omega, i5, i64s (by omega), h5.1.1, hr0.1, by omega, i4, by omega, fun _ _ => okp_boundOf, fun _ _ => i64s (by omega), fun _ _ => i64s (by omega), fun _ _ => i64s (by omega), fun _ h9 => by omega, fun _ h9 => i64s (by have := hdv h9; omega), fun _ h9 => i64s (by have := hdv h9; omega), hp, hs.1.1, ?_⟩
    refine Call.to (ok_putR hs hT hT12) (Nat.zero_le _) (Nat.zero_le _) fun _ G44 hq => ?_
    have e : (if 5 ≤ Int.tmod (R.getD i (0, 0)).1 10 then (bound : Int) else (if (R.getD i (0, 0)).2 - ahead ≤ 0 then (bound : Int) else bound + Int.tdiv ((wBound (Int.tmod (R.getD i (0, 0)).1 10) - bound) * (rank - ahead)) ((R.getD i (0, 0)).2 - ahead))) = qtE rank ahead bound (R.getD i (0, 0)) := by
      unfold qtE
      by_cases c1 : 5 ≤ Int.tmod (R.getD i (0, 0)).1 10
      · rw [if_pos c1, if_neg (fun h9 => by omega)]
      · rw [if_neg c1]
        by_cases c2 : (R.getD i (0, 0)).2 - ahead ≤ 0
        · rw [if_pos c2, if_neg (fun h9 => by omega)]
        · rw [if_neg c2, if_pos ⟨by omega, by omega⟩]
    rw [e] at hq
    exact hq
  intro j
  induction j with
  | zero =>
    intro i ahead bound hbi hij ha hb
    have hseg : (R.drop i).take (e - i) = [R.getD i (0, 0)] := by
      rw [seg_cons (by omega) he, show e - (i + 1) = 0 by omega, List.take_zero]
    rw [hseg]
    refine b_X2_takeQuantile_55 ⟨i32s (by omega), fun J hJ => ⟨fun _ => hJ (fin i ahead bound hbi (by omega) ha hb), fun h9 => by omega⟩⟩
  | succ j ih =>
    intro i ahead bound hbi hij ha hb
    have hseg : (R.drop i).take (e - i) = R.getD i (0, 0) :: R.getD (i + 1) (0, 0) :: (R.drop (i + 1 + 1)).take (e - (i + 1 + 1)) := by
      rw [seg_cons (by omega) he, seg_cons (b := i + 1) (by omega) he]
    obtain ⟨i1, i2, i3, i4, i5⟩ := h5.elt (show i < R.length by omega)
    have hF := fin i ahead bound hbi (by omega) ha hb
    refine b_X2_takeQuantile_55 ⟨i32s (by omega), fun J hJ => ⟨fun h9 => by omega, fun _ => ⟨h5.1.1, h5.1.2.2.1.1, by omega, i5, ?_⟩⟩⟩
    rw [i2]
    refine ⟨fun h9 => hJ ?_, fun h9 => ⟨i32s (by omega), ?_⟩⟩
    · have : qtF rank ahead bound ((R.drop i).take (e - i)) = qtE rank ahead bound (R.getD i (0, 0)) := by
        rw [hseg]
        show (if (R.getD i (0, 0)).2 < rank then _ else _) = _
        rw [if_neg (by omega)]
      rw [this]
      exact hF
    · have : qtF rank ahead bound ((R.drop i).take (e - i)) = qtF rank (R.getD i (0, 0)).2 (wBound (Int.tmod (R.getD i (0, 0)).1 10)) ((R.drop (i + 1)).take (e - (i + 1))) := by
        rw [hseg, seg_cons (b := i + 1) (by omega) he]
        show (if (R.getD i (0, 0)).2 < rank then _ else _) = _
        rw [if_pos h9]
      rw [this]
      have hnl : ¬ (((i + 1 : Nat) : Int) ≤ (b : Int)) := by omega
      have := ih (i + 1) (R.getD i (0, 0)).2 (wBound (Int.tmod (R.getD i (0, 0)).1 10)) (by omega) (by omega) (by rw [if_neg hnl]; rfl) (by rw [if_neg hnl]; rfl)
      rw [show ((i + 1 : Nat) : Int) = (i : Int) + 1 by omega] at this
      exact this
theorem v_quant6 {b e : Nat} (hw : wt E G) (hp : gcl G p = 3) (hsp : gfd G 2 2 p = sp) (hs : RowH G sp 0 T) (hT : ascL T) (hT12 : T.length < 12) (h5 : RowH G fr n R) (hR : RV n R) (hbe : b ≤ e) (he : e ≤ R.length) (hbR : b < R.length) (hsh : 0 ≤ sh ∧ sh ≤ 1000) :
    ∀ (j i : Nat) (x : Int), b ≤ i → i + j = e → (0 ≤ x ∧ x ≤ 100000000000000) → x = grt ((R.drop b).take (i - b)) →
    V E M_X2_takeQuantile 6 [some (rv p), some (rv fr), some (iv (b : Int)), some (iv (e : Int)), some (iv sh), some (jv x), none, some (iv (i : Int)), none, none, none, none, none, none, none, none, none, none] [] G c s (fun _ G' => RU G G' sp ∧ RowH G' sp 0 (putO (Int.tdiv (R.getD b (0, 0)).1 10 * 10 + 6) (qtV sh ((R.drop b).take (e - b))) T)) X := by
  have h12 := hR.1
  intro j
  induction j with
  | zero =>
    intro i x hbi hij hx hxe
    have hie : i = e := by omega
    subst hie
    have hm := mulb (x := sh) (y := x) (A := 1000) (B := 100000000000000) hsh hx
    refine b_X2_takeQuantile_6 ⟨fun _ => ⟨fun h9 => ⟨i64s (by omega), ?_⟩, fun h9 => ?_⟩, fun h9 => by omega⟩
    · have hlt : b < i := by
        by_cases h8 : b < i
        · exact h8
        · have : i - b = 0 := by omega
          rw [this, List.take_zero] at hxe
          have : x = 0 := hxe
          omega
      unfold qtV
      rw [← hxe, if_pos h9]
      have ht := tdivb (x := sh * x) (y := 1000) (A := 1000 * 100000000000000) (by omega) (by omega)
      have ht2 : Int.tdiv (sh * x) 1000 ≤ 100000000000000 := by rw [Int.tdiv_eq_ediv_of_nonneg hm.1]; omega
      exact v_quant55 hw hp hsp hs hT hT12 h5 hR hlt he ⟨ht.1, ht2⟩ (i - 1 - b) b 0 0 (Nat.le_refl _) (by omega) (by rw [if_pos (Int.le_refl _)]) (by rw [if_pos (Int.le_refl _)])
    · unfold qtV
      rw [← hxe, if_neg (by omega)]
      exact ⟨RU.refl G sp, hs⟩
  | succ j ih =>
    intro i x hbi hij hx hxe
    obtain ⟨i1, i2, i3, i4, i5⟩ := h5.elt (show i < R.length by omega)
    have hyi := (hR.at (show i < R.length by omega)).2
    unfold bnd at hyi
    refine b_X2_takeQuantile_6 ⟨fun h9 => by omega, fun _ => ⟨h5.1.1, h5.1.2.2.1.1, by omega, i5, i32s (by omega), ?_⟩⟩
    rw [i2]
    have hseg : (R.drop b).take (i + 1 - b) = (R.drop b).take (i - b) ++ [R.getD i (0, 0)] := by
      rw [show i + 1 - b = (i - b) + 1 by omega, takeS (d := ((0, 0) : Int × Int)) (by rw [List.length_drop]; omega)]
      congr 2
      rw [List.getD_eq_getElem?_getD, List.getElem?_drop, show b + (i - b) = i by omega, ← List.getD_eq_getElem?_getD]
    have := ih (i + 1) (max x (R.getD i (0, 0)).2) (by omega) (by omega) (by omega) (by
      rw [hseg, hxe]
      unfold grt
      rw [List.foldl_append]; rfl)
    rw [show ((i + 1 : Nat) : Int) = (i : Int) + 1 by omega] at this
    exact this
theorem ok_takeQuantile {b e : Nat} (hp : gcl G p = 3) (hsp : gfd G 2 2 p = sp) (hs : RowH G sp 0 T) (hT : ascL T) (hT12 : T.length < 12) (h5 : RowH G fr n R) (hR : RV n R) (hbe : b ≤ e) (he : e ≤ R.length) (hbR : b < R.length) (hsh : 0 ≤ sh ∧ sh ≤ 1000) :
    Ok E M_X2_takeQuantile [rv p, rv fr, iv (b : Int), iv (e : Int), iv sh] G 0 0 (fun _ G' => RU G G' sp ∧ RowH G' sp 0 (putO (Int.tdiv (R.getD b (0, 0)).1 10 * 10 + 6) (qtV sh ((R.drop b).take (e - b))) T)) (fun _ _ => False) :=
  Ok.wt fun hw => i_X2_takeQuantile (v_quant6 hw.1 hp hsp hs hT hT12 h5 hR hbe he hbR hsh (e - b) b 0 (Nat.le_refl _) (by omega) (by omega) (by rw [Nat.sub_self, List.take_zero]; rfl))
end S67
