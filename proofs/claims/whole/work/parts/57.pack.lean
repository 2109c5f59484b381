/-! a series is packed into blocks -/
section S57
variable {E : EE} {G G' G2 : Gt} {c s : Nat} {Q X : Int → Gt → Prop} {a st x q l t v f e r g u : Int} {W : Nat → Nat → Int → Prop} {L A : Int → Prop}
def bitU (u k : Int) : Int := and32 (ushr32 u k) 1
def hiB (u : Int) : Nat → Int
  | 0 => 0
  | k + 1 => if bitU u ((k + 1 : Nat) : Int) = 0 then hiB u k else ((k + 1 : Nat) : Int)
def loB (u : Int) : Nat → Int → Int
  | 0, k => k
  | n + 1, k => if bitU u k = 0 then loB u n (k + 1) else k
theorem hiB_in (u : Int) (n : Nat) : 0 ≤ hiB u n ∧ hiB u n ≤ n := by
  induction n with
  | zero => exact ⟨Int.le_refl 0, Int.le_refl 0⟩
  | succ n ih => unfold hiB; split <;> omega
theorem loB_in (u : Int) : ∀ (n : Nat) (k : Int), k ≤ loB u n k ∧ loB u n k ≤ k + n
  | 0, k => by unfold loB; omega
  | n + 1, k => by
    have := loB_in u n (k + 1)
    unfold loB
    split <;> omega
/-- the bits of a value unlike the one ahead -/
def bvV (u : Int) : Int := if u = 0 then 1 else 12 + hiB u 31 - loB u (hiB u 31).toNat 0 + 1
theorem v_bv29 {h : Int} (hh : 0 ≤ h ∧ h ≤ 31) : ∀ (n : Nat) (k : Int), 0 ≤ k → k + n = h → V E M_X7_bitsOfValue 29 [some (iv u), some (iv h), some (iv k)] [] G c s (fun rr G' => rr = 12 + h - loB u n k + 1 ∧ G' = G) X := by
  intro n
  induction n with
  | zero =>
    intro k h0 hk
    refine b_X7_bitsOfValue_29 ⟨fun _ => ⟨i32s (by omega), i32s (by omega), i32s (by omega), rfl, rfl⟩, fun h9 => by omega⟩
  | succ n ih =>
    intro k h0 hk
    refine b_X7_bitsOfValue_29 ⟨fun h9 => by omega, fun _ => ⟨fun h9 => ⟨i32s (by omega), i32s (by omega), i32s (by omega), ?_, rfl⟩, fun h9 => ⟨i32s (by omega), ?_⟩⟩⟩
    · have : loB u (n + 1) k = k := by
        show (if bitU u k = 0 then loB u n (k + 1) else k) = k
        exact if_neg h9
      rw [this]
    · have : loB u (n + 1) k = loB u n (k + 1) := by
        show (if bitU u k = 0 then loB u n (k + 1) else k) = _
        exact if_pos h9
      rw [this]
      exact ih (k + 1) (by omega) (by omega)
theorem v_bv9 : ∀ (n : Nat), n ≤ 31 → V E M_X7_bitsOfValue 9 [some (iv u), some (iv (n : Int)), none] [] G c s (fun rr G' => rr = 12 + hiB u n - loB u (hiB u n).toNat 0 + 1 ∧ G' = G) X := by
  intro n
  induction n with
  | zero =>
    intro _
    refine b_X7_bitsOfValue_9 ⟨fun _ => v_bv29 (by omega) 0 0 (Int.le_refl 0) rfl, fun h9 => by omega⟩
  | succ n ih =>
    intro hn
    have e1 : ((n + 1 : Nat) : Int) + (-1) = (n : Int) := by omega
    refine b_X7_bitsOfValue_9 ⟨fun h9 => by omega, fun _ => ⟨fun h9 => ?_, fun h9 => ?_⟩⟩
    · have : hiB u (n + 1) = ((n + 1 : Nat) : Int) := by
        show (if bitU u ((n + 1 : Nat) : Int) = 0 then hiB u n else ((n + 1 : Nat) : Int)) = _
        exact if_neg h9
      rw [this]
      exact v_bv29 (by omega) _ 0 (Int.le_refl 0) (by omega)
    · have : hiB u (n + 1) = hiB u n := by
        show (if bitU u ((n + 1 : Nat) : Int) = 0 then hiB u n else ((n + 1 : Nat) : Int)) = _
        exact if_pos h9
      rw [this, e1]
      exact ⟨i32s (by omega), ih (by omega)⟩
theorem okp_bitsOfValue : OkP E M_X7_bitsOfValue [iv u] G (bvV u) := by
  refine i_X7_bitsOfValue ⟨fun h => ?_, fun h => ⟨by unfold bvV; rw [if_pos h], rfl⟩⟩
  unfold bvV
  rw [if_neg h]
  exact v_bv9 31 (by omega)
theorem bvV_in (u : Int) : 1 ≤ bvV u ∧ bvV u ≤ 44 := by
  unfold bvV
  have h1 := hiB_in u 31
  have h2 := loB_in u (hiB u 31).toNat 0
  split <;> omega
theorem btV_in (d : Int) : 1 ≤ btV d ∧ btV d ≤ 36 := by
  unfold btV
  split
  · omega
  · split
    · omega
    · split <;> omega
/-- the blocks of a series, as they lie in its rows -/
def blkL (G : Gt) (a : Int) : List (Int × Int) := (List.range (gfd G 7 4 a).toNat).map fun i : Nat => (gel G (gfd G 7 2 a) (i : Int), gel G (gfd G 7 3 a) (i : Int))
theorem blkL_len : (blkL G a).length = (gfd G 7 4 a).toNat := by unfold blkL; rw [List.length_map, List.length_range]
theorem blkL_at {i : Nat} (h : i < (gfd G 7 4 a).toNat) : (blkL G a)[i]? = some (gel G (gfd G 7 2 a) (i : Int), gel G (gfd G 7 3 a) (i : Int)) := by
  unfold blkL
  rw [List.getElem?_map, List.getElem?_range h]; rfl
theorem blkL_of {B : List (Int × Int)} (h1 : gfd G 7 4 a = B.length) (h2 : ∀ i : Nat, i < B.length → B[i]? = some (gel G (gfd G 7 2 a) (i : Int), gel G (gfd G 7 3 a) (i : Int))) : blkL G a = B := by
  apply List.ext_getElem?
  intro i
  by_cases hi : i < B.length
  · rw [blkL_at (by omega), h2 i hi]
  · rw [List.getElem?_eq_none (by rw [blkL_len]; omega), List.getElem?_eq_none (by omega)]
def bkW (a : Int) : Nat → Nat → Int → Prop := fun c k y => c = 7 ∧ k = 4 ∧ y = a
def bkA (G : Gt) (a : Int) : Int → Prop := fun y => y = gfd G 7 2 a ∨ y = gfd G 7 3 a
def pkQ (E : EE) (G G' : Gt) (a : Int) (B : List (Int × Int)) : Prop := LW E G' ∧ ONW G G' ∧ FR G G' (bkW a) noA (bkA G a) ∧ BSh G' a ∧ blkL G' a = B ∧ gfd G' 7 2 a = gfd G 7 2 a ∧ gfd G' 7 3 a = gfd G 7 3 a
theorem ok_openBlock {h : Int} (hL : LW E G) (hb : BSh G a) (hne : gfd G 7 2 a ≠ gfd G 7 3 a) (hn : gfd G 7 4 a < 60) : Ok E M_X7_openBlock [rv a, iv h] G 0 0 (fun _ G' => pkQ E G G' a (blkL G a ++ [(h, 64)])) (fun _ _ => False) := by
  obtain ⟨h1, ⟨h2, h3⟩, ⟨h4, h5⟩, h6, h7⟩ := hb
  refine i_X7_openBlock ⟨h1, h1, by omega, fun h9 => by omega, fun _ => ⟨h1, h1, by omega, fun h9 => by omega, fun _ => ⟨h1, h1, h2, h6, by omega, fun G1 e1 => ⟨by rw [e1]; exact h1, by rw [e1]; exact h1, by rw [e1]; exact h4, by rw [e1]; exact h6, by rw [e1]; show gfd G 7 4 a < gln G (gfd G 7 3 a); omega, fun G2 e2 => ⟨by rw [e2, e1]; exact h1, by rw [e2, e1]; exact i32s (by show _ ≤ gfd G 7 4 a + 1 ∧ gfd G 7 4 a + 1 ≤ _; omega), by rw [e2, e1]; exact h1, fun G3 e3 => ?_⟩⟩⟩⟩⟩
  have hL1 : LW E G1 := by rw [e1]; exact hL.sel
  have hL2 : LW E G2 := by rw [e2]; exact hL1.sel
  have F1 : FR G G1 (bkW a) noA (bkA G a) := by rw [e1]; exact (FR.mSel hL (by omega)).mono (fun _ _ _ h9 => h9.elim) (fun _ h9 => h9) (fun _ h9 => Or.inl h9)
  have F2 : FR G G2 (bkW a) noA (bkA G a) := by
    rw [e2]
    have hc : gcl G1 (gfd G1 7 3 a) ≠ 18 := by rw [e1]; show gcl G (gfd G 7 3 a) ≠ 18; omega
    exact F1.andThen (FR.mSel hL1 hc) (fun _ _ _ _ h9 => h9.elim) (fun _ _ h9 => h9) (fun y _ h9 => Or.inr (by rw [h9, e1]; rfl))
  have F3 : FR G G3 (bkW a) noA (bkA G a) := by rw [e3]; exact F2.sfdIn ⟨rfl, rfl, rfl⟩ (by decide)
  have g2 : gfd G3 7 2 a = gfd G 7 2 a := by rw [e3, gfd_sfd, if_neg (by omega), e2, e1]; rfl
  have g3 : gfd G3 7 3 a = gfd G 7 3 a := by rw [e3, gfd_sfd, if_neg (by omega), e2, e1]; rfl
  have g4 : gfd G3 7 4 a = gfd G 7 4 a + 1 := by rw [e3, gfd_sfd, if_pos ⟨rfl, rfl, rfl⟩, e2, e1]; rfl
  have eg : ∀ i, gel G3 (gfd G 7 2 a) i = if i = gfd G 7 4 a then h else gel G (gfd G 7 2 a) i := fun i => by
    rw [e3, gel_sfd, e2, gel_sel, if_neg (fun h9 => hne (by rw [h9.1, e1]; rfl)), e1, gel_sel]
    by_cases h9 : i = gfd G 7 4 a
    · rw [if_pos ⟨rfl, h9⟩, if_pos h9]
    · rw [if_neg (fun h8 => h9 h8.2), if_neg h9]
  have eh : ∀ i, gel G3 (gfd G 7 3 a) i = if i = gfd G 7 4 a then 64 else gel G (gfd G 7 3 a) i := fun i => by
    rw [e3, gel_sfd, e2, gel_sel, e1]
    show (if gfd G 7 3 a = gfd G 7 3 a ∧ i = gfd G 7 4 a then 64 else gel (sel G (gfd G 7 2 a) (gfd G 7 4 a) h) (gfd G 7 3 a) i) = _
    by_cases h9 : i = gfd G 7 4 a
    · rw [if_pos ⟨rfl, h9⟩, if_pos h9]
    · rw [if_neg (fun h8 => h9 h8.2), if_neg h9, gel_sel, if_neg (fun h8 => hne h8.1.symm)]
  refine ⟨by rw [e3]; exact hL2.sfd (by decide), by rw [e3, e2, e1]; exact ((ONW.mSel).trans ONW.mSel).sfdT (by decide), F3, ⟨by rw [F3.1 a (by omega)]; exact h1, by rw [g2, F3.1 _ (by omega), (F3.2.2.2 _ (by omega) (by omega)).1]; exact ⟨h2, h3⟩, by rw [g3, F3.1 _ (by omega), (F3.2.2.2 _ (by omega) (by omega)).1]; exact ⟨h4, h5⟩, by omega, by omega⟩, ?_, g2, g3⟩
  refine blkL_of ?_ fun i hi => ?_
  · rw [g4, List.length_append, blkL_len]
    show _ = ((_ + 1 : Nat) : Int)
    omega
  · rw [List.length_append, blkL_len] at hi
    have hi' : i < (gfd G 7 4 a).toNat + 1 := hi
    rw [g2, g3, eg, eh]
    by_cases h9 : (i : Int) = gfd G 7 4 a
    · rw [if_pos h9, if_pos h9, List.getElem?_append_right (by rw [blkL_len]; omega), blkL_len, show i - (gfd G 7 4 a).toNat = 0 by omega]; rfl
    · rw [if_neg h9, if_neg h9, List.getElem?_append_left (by rw [blkL_len]; omega), blkL_at (by omega)]
theorem ok_growBlock {m h b : Int} {B : List (Int × Int)} (hL : LW E G) (hb : BSh G a) (hne : gfd G 7 2 a ≠ gfd G 7 3 a) (hB : blkL G a = B ++ [(h, b)]) (hm : 0 ≤ b ∧ b ≤ 100000 ∧ 0 ≤ m ∧ m ≤ 1000) : Ok E M_X7_growBlock [rv a, iv m] G 0 0 (fun _ G' => pkQ E G G' a (B ++ [(h, b + m)])) (fun _ _ => False) := by
  obtain ⟨h1, ⟨h2, h3⟩, ⟨h4, h5⟩, h6, h7⟩ := hb
  have hl := congrArg List.length hB
  rw [blkL_len, List.length_append] at hl
  have hl' : (gfd G 7 4 a).toNat = B.length + 1 := hl
  have hlast : gel G (gfd G 7 2 a) (B.length : Int) = h ∧ gel G (gfd G 7 3 a) (B.length : Int) = b := by
    have h9 := blkL_at (G := G) (a := a) (i := B.length) (by omega)
    rw [hB, List.getElem?_append_right (Nat.le_refl _), Nat.sub_self] at h9
    have h8 : ((h, b) : Int × Int) = (gel G (gfd G 7 2 a) (B.length : Int), gel G (gfd G 7 3 a) (B.length : Int)) := Option.some.inj h9
    exact ⟨(congrArg Prod.fst h8).symm, (congrArg Prod.snd h8).symm⟩
  have e4 : gfd G 7 4 a - 1 = (B.length : Int) := by omega
  refine i_X7_growBlock ⟨h1, fun h9 => by omega, fun _ => ⟨h1, h1, by omega, fun h9 => by omega, fun _ => ?_⟩⟩
  rw [e4, hlast.2]
  refine ⟨h1, h1, i32s (by omega), h4, by omega, by omega, i32s (by omega), h4, by omega, by omega, fun G1 e1 => ?_⟩
  have F1 : FR G G1 (bkW a) noA (bkA G a) := by rw [e1]; exact (FR.mSel hL (by omega)).mono (fun _ _ _ h9 => h9.elim) (fun _ h9 => h9) (fun _ h9 => Or.inr h9)
  have g : ∀ k, gfd G1 7 k a = gfd G 7 k a := fun k => by rw [e1]; rfl
  refine ⟨by rw [e1]; exact hL.sel, by rw [e1]; exact ONW.mSel, F1, ⟨by rw [e1]; exact h1, by rw [g, e1]; exact ⟨h2, h3⟩, by rw [g, e1]; exact ⟨h4, h5⟩, by rw [g]; exact h6, by rw [g]; exact h7⟩, ?_, g 2, g 3⟩
  refine blkL_of ?_ fun i hi => ?_
  · rw [g, List.length_append]
    show _ = ((_ + 1 : Nat) : Int)
    omega
  · rw [List.length_append] at hi
    have hi' : i < B.length + 1 := hi
    rw [g, g, e1, gel_sel, if_neg (fun h9 => hne h9.1), gel_sel]
    by_cases h9 : i = B.length
    · rw [if_pos ⟨rfl, by omega⟩, h9, List.getElem?_append_right (Nat.le_refl _), Nat.sub_self, hlast.1]; rfl
    · rw [if_neg (fun h8 => h9 (by omega)), List.getElem?_append_left (by omega)]
      have h8 := blkL_at (G := G) (a := a) (i := i) (by omega)
      rw [hB, List.getElem?_append_left (by omega)] at h8
      exact h8
theorem pkQ.trans {B1 B2 : List (Int × Int)} (h : pkQ E G G' a B1) (h2 : pkQ E G' G2 a B2) : pkQ E G G2 a B2 := by
  obtain ⟨k1, k2, k3, k4, k5, k6, k7⟩ := h2
  refine ⟨k1, h.2.1.trans k2, h.2.2.1.andThen k3 (fun _ _ _ _ h9 => h9) (fun _ _ h9 => h9) (fun y _ h9 => ?_), k4, k5, k6.trans h.2.2.2.2.2.1, k7.trans h.2.2.2.2.2.2⟩
  unfold bkA at *
  rw [h.2.2.2.2.2.1, h.2.2.2.2.2.2] at h9; exact h9
/-- packing: the sample ahead, the distance before, the block that is open -/
def pk : Int → Int → Int → Int → Int → List (Int × Int) → List (Int × Int)
  | _, _, _, h, b, [] => [(h, b)]
  | t, v, d, h, b, y :: r => if Int.tdiv y.1 100 = Int.tdiv t 100 then pk y.1 y.2 (y.1 - t) h (b + (btV (y.1 - t - d) + bvV (xor32 y.2 v))) r else (h, b) :: pk y.1 y.2 0 (Int.tdiv y.1 100) 64 r
def pack : List (Int × Int) → List (Int × Int)
  | [] => []
  | y :: r => pk y.1 y.2 0 (Int.tdiv y.1 100) 64 r
end S57
