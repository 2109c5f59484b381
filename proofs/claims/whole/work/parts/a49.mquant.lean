/-! the model's quantile: one group -/
section Sa49
variable {E : EE} {G G' G2 G0 Gs : Gt} {c s : Nat} {Q X : Int → Gt → Prop} {m v b l r u x i nn sh kq gr rank ahead bound w e : Int} {k j n a : Nat} {R A B C F T : List (Int × Int)} {S : List Rw}
theorem mB_wB {t : Int} (h : 0 ≤ t ∧ t ≤ 4) : mBound t = wBound t := by
  unfold mBound wBound
  by_cases h0 : t = 0
  · rw [if_pos h0, if_pos h0]
  · by_cases h1 : t = 1
    · rw [if_neg h0, if_neg h0, if_pos h1, if_pos h1]
    · by_cases h2 : t = 2
      · rw [if_neg h0, if_neg h0, if_neg h1, if_neg h1, if_pos h2, if_pos h2]
      · by_cases h3 : t = 3
        · rw [if_neg h0, if_neg h0, if_neg h1, if_neg h1, if_neg h2, if_neg h2, if_pos h3, if_pos h3]
        · rw [if_neg h0, if_neg h0, if_neg h1, if_neg h1, if_neg h2, if_neg h2, if_neg h3, if_neg h3, if_pos (by omega)]
theorem wB_mono {t y : Int} (h : 0 ≤ t ∧ t ≤ y ∧ y ≤ 4) : wBound t ≤ wBound y := by
  have ht : t = 0 ∨ t = 1 ∨ t = 2 ∨ t = 3 ∨ t = 4 := by omega
  have hy : y = 0 ∨ y = 1 ∨ y = 2 ∨ y = 3 ∨ y = 4 := by omega
  rcases ht with rfl | rfl | rfl | rfl | rfl <;> rcases hy with rfl | rfl | rfl | rfl | rfl <;> first | decide | omega
theorem q188e (hs : MSh E G m) (hx : 0 ≤ x ∧ x < 12) (hkq : 0 ≤ kq ∧ kq ≤ 66) (hw : 0 ≤ w)
    (hput : ∀ G7 G14, G7 = sel G (gfd G 12 49 m) x w → G14 = sel G7 (gfd G7 12 50 m) x (10 * kq + 6) → V E M_X12_quantile 46 [some (rv m), some (iv sh), some (iv (12 * n)), some (iv (R.length : Int)), some (iv (x + 1)), some (iv e), none, none, none, none, none, none, none, none, none, none, none, none, none, none, none, none, none] [] G14 c s Q X) :
    V E M_X12_quantile 188 [some (rv m), some (iv sh), some (iv (12 * n)), some (iv (R.length : Int)), some (iv x), none, some (iv kq), some (iv e), some (jv gr), none, some (jv rank), none, some (jv ahead), none, some (jv bound), none, some (jv w), none, some (iv i), none, none, none, none] [] G c s Q X := by
  have x49 := hs.fx 49 16 12
  refine b_X12_quantile_188 fun J1 hJ1 => ?_
  have j1 : J1 := hJ1 ⟨fun h9 => by omega, fun _ => ⟨hs.1, x49.1, hx.1, by omega, fun G7 e7 => by
    have hs7 : MSh E G7 m := by rw [e7]; exact hs
    have y50 := hs7.fx 50 15 12
    exact ⟨hs7.1, i32s' (by omega), i32s' (by omega), y50.1, hx.1, by omega, fun G14 e14 => ⟨i32s' (by omega), hput G7 G14 e7 e14⟩⟩⟩⟩
  exact ⟨fun _ => j1, fun _ => ⟨fun _ => j1, fun h9 => by omega⟩⟩
theorem qtE_nn {y : Int × Int} (hb : 0 ≤ bound) (hle : Int.tmod y.1 10 < 5 → bound ≤ wBound (Int.tmod y.1 10)) (hr : ahead ≤ rank) : 0 ≤ qtE rank ahead bound y := by
  unfold qtE
  by_cases h9 : Int.tmod y.1 10 < 5 ∧ 0 < y.2 - ahead
  · rw [if_pos h9]
    have h1 := hle h9.1
    have h2 : 0 ≤ (wBound (Int.tmod y.1 10) - bound) * (rank - ahead) := Int.mul_nonneg (by omega) (by omega)
    have h3 : 0 ≤ Int.tdiv ((wBound (Int.tmod y.1 10) - bound) * (rank - ahead)) (y.2 - ahead) := Int.tdiv_nonneg h2 (by omega)
    omega
  · rw [if_neg h9]; exact hb
theorem qtE_le {y : Int × Int} (hb : 0 ≤ bound ∧ bound ≤ 20000) (hle : Int.tmod y.1 10 < 5 → bound ≤ wBound (Int.tmod y.1 10)) (hr : ahead ≤ rank) (hy : rank ≤ y.2) : qtE rank ahead bound y ≤ 20000 := by
  unfold qtE
  by_cases h9 : Int.tmod y.1 10 < 5 ∧ 0 < y.2 - ahead
  · rw [if_pos h9]
    have h1 := hle h9.1
    have h5 := wBound_in (Int.tmod y.1 10)
    have h2 : 0 ≤ (wBound (Int.tmod y.1 10) - bound) * (rank - ahead) := Int.mul_nonneg (by omega) (by omega)
    have h3 : (wBound (Int.tmod y.1 10) - bound) * (rank - ahead) ≤ (wBound (Int.tmod y.1 10) - bound) * (y.2 - ahead) := Int.mul_le_mul_of_nonneg_left (by omega) (by omega)
    have h4 : (wBound (Int.tmod y.1 10) - bound) * (rank - ahead) / (y.2 - ahead) ≤ wBound (Int.tmod y.1 10) - bound := Int.ediv_le_of_le_mul h9.2 h3
    rw [Int.tdiv_eq_ediv_of_nonneg h2]
    omega
  · rw [if_neg h9]; exact hb.2
theorem v_q188 (hs : MSh E G m) (hn : n < 10) (hx : 0 ≤ x ∧ x < 12) (hkq : 0 ≤ kq ∧ kq ≤ 66) (hR12 : R.length ≤ 12) (he : e ≤ R.length) (hgr : 0 < gr) (hrk : 0 ≤ rank ∧ rank ≤ 100000000000000) (hrow : ∀ j : Nat, j < R.length → gel G (gfd G 12 31 m) (12 * n + j) = (R.getD j (0, 0)).1 ∧ gel G (gfd G 12 32 m) (12 * n + j) = (R.getD j (0, 0)).2) :
    ∀ (B : List (Int × Int)) (i : Nat) (ahead bound : Int), (i : Int) + B.length = e → (∀ j : Nat, j < B.length → R.getD (i + j) (0, 0) = B.getD j (0, 0)) → ascL B → (∀ y ∈ B, (0 ≤ y.1 ∧ 0 ≤ Int.tmod y.1 10 ∧ Int.tmod y.1 10 ≤ 6 ∧ Int.tdiv y.1 10 = kq) ∧ bnd y.2) → (∃ y ∈ B.filter not6, rank ≤ y.2) → bnd ahead → ahead ≤ rank → 0 ≤ bound ∧ bound ≤ 20000 → (∀ y ∈ B, Int.tmod y.1 10 < 5 → bound ≤ wBound (Int.tmod y.1 10)) →
    (0 ≤ qtF rank ahead bound (B.filter not6) → qtF rank ahead bound (B.filter not6) ≤ 20000 → ∀ G7 G14, G7 = sel G (gfd G 12 49 m) x (qtF rank ahead bound (B.filter not6)) → G14 = sel G7 (gfd G7 12 50 m) x (10 * kq + 6) → V E M_X12_quantile 46 [some (rv m), some (iv sh), some (iv (12 * n)), some (iv (R.length : Int)), some (iv (x + 1)), some (iv e), none, none, none, none, none, none, none, none, none, none, none, none, none, none, none, none, none] [] G14 c s Q X) →
    V E M_X12_quantile 188 [some (rv m), some (iv sh), some (iv (12 * n)), some (iv (R.length : Int)), some (iv x), none, some (iv kq), some (iv e), some (jv gr), none, some (jv rank), none, some (jv ahead), none, some (jv bound), none, some (jv (-1)), none, some (iv (i : Int)), none, none, none, none] [] G c s Q X := by
  have x31 := hs.fx 31 15 120
  have x32 := hs.fx 32 16 120
  intro B
  induction B with
  | nil => intro i ahead bound _ _ _ _ hex; obtain ⟨y, hy, -⟩ := hex; exact (List.not_mem_nil hy).elim
  | cons y B ih =>
    intro i ahead bound hie hg hasc hB hex hah har hbd hmo hput
    have hp := List.pairwise_cons.mp hasc
    have hy := hB y List.mem_cons_self
    have hil : i < R.length := by rw [List.length_cons] at hie; omega
    have hrw := hrow i hil
    have hgy : R.getD i (0, 0) = y := hg 0 (Nat.succ_pos _)
    rw [hgy] at hrw
    have hyb := hy.2
    unfold bnd at hah hyb
    have hlen : ((y :: B).length : Int) = (B.length : Int) + 1 := rfl
    have hih := ih (i + 1)
    have hnx : ∀ z ∈ B, Int.tmod y.1 10 < Int.tmod z.1 10 := fun z hz => by
      have h1 := hp.1 z hz
      have h2 := hB z (List.mem_cons_of_mem _ hz)
      have e1 := Int.mul_tdiv_add_tmod y.1 10
      have e2 := Int.mul_tdiv_add_tmod z.1 10
      rw [hy.1.2.2.2] at e1
      rw [h2.1.2.2.2] at e2
      omega
    have ic : ((i + 1 : Nat) : Int) = (i : Int) + 1 := rfl
    have cont := fun (ah bo : Int) (h1 : (∃ z ∈ B.filter not6, rank ≤ z.2)) (h2 : bnd ah) (h3 : ah ≤ rank) (h4 : 0 ≤ bo ∧ bo ≤ 20000) (h5 : ∀ z ∈ B, Int.tmod z.1 10 < 5 → bo ≤ wBound (Int.tmod z.1 10)) (h6 : qtF rank ahead bound ((y :: B).filter not6) = qtF rank ah bo (B.filter not6)) => hih ah bo (by omega) (fun j hj => by
      have := hg (j + 1) (by rw [List.length_cons]; omega)
      rw [show i + 1 + j = i + (j + 1) by omega, this]; rfl) hp.2 (fun z hz => hB z (List.mem_cons_of_mem _ hz)) h1 h2 h3 h4 h5 (by rw [← h6]; exact hput)
    have i1 : i32 (12 * (n : Int) + i) := i32s' (by omega)
    have hab : bnd ahead := by unfold bnd; exact hah
    have hwb := wBound_in (Int.tmod y.1 10)
    refine b_X12_quantile_188 fun J1 _ => ⟨fun h9 => by omega, fun _ => ⟨fun h9 => absurd h9 (by decide), fun _ => ⟨fun h9 => by omega, fun _ => ⟨hs.1, i1, x31.1, by omega, by omega, hs.1, i1, x32.1, by omega, by omega, ?_⟩⟩⟩⟩
    rw [hrw.1, hrw.2]
    have hmb : Int.tmod y.1 10 < 5 → mBound (Int.tmod y.1 10) = wBound (Int.tmod y.1 10) := fun h9 => mB_wB ⟨hy.1.2.1, by omega⟩
    have f5 : Int.tmod y.1 10 < 6 → Int.tmod y.1 10 ≠ 5 → Int.tmod y.1 10 < 5 := fun h1 h2 => by omega
    have hmul : -(20000 * 200000000000000) ≤ (wBound (Int.tmod y.1 10) - bound) * (rank - ahead) ∧ (wBound (Int.tmod y.1 10) - bound) * (rank - ahead) ≤ 20000 * 200000000000000 := mula (by omega) (by omega)
    have hdv := fun h9 : y.2 - ahead ≠ 0 => tdiv_abs (x := (wBound (Int.tmod y.1 10) - bound) * (rank - ahead)) (y := y.2 - ahead) (A := 20000 * 200000000000000) hmul h9
    refine ⟨fun _ _ => okp_bound, fun _ _ _ _ => okp_bound, fun h1 _ h2 _ => by rw [hmb (f5 h1 h2)]; exact i64s (by omega), fun _ _ _ _ => i64s (by omega), fun h1 _ h2 _ => by rw [hmb (f5 h1 h2)]; exact i64s (by omega), fun _ _ _ _ => i64s (by omega), fun _ _ _ h2 => by omega, fun h1 _ h2 h3 => by
      rw [hmb (f5 h1 h2)]
      have := hdv (by omega)
      exact i64s (by omega), fun h1 _ h2 h3 => by
      rw [hmb (f5 h1 h2)]
      have := hdv (by omega)
      exact i64s (by omega), i32s' (by omega), ?_⟩
    by_cases h6 : 6 ≤ Int.tmod y.1 10
    · rw [if_pos h6, if_pos h6, if_pos h6]
      have hf : (y :: B).filter not6 = B.filter not6 := List.filter_cons_of_neg (by
        unfold not6
        rw [decide_eq_true_eq]
        omega)
      have := cont ahead bound (by rw [← hf]; exact hex) hab har hbd (fun z hz => hmo z (List.mem_cons_of_mem _ hz)) (by rw [hf])
      rw [ic] at this
      exact this
    · rw [if_neg h6, if_neg h6, if_neg h6]
      have hf : (y :: B).filter not6 = y :: B.filter not6 := List.filter_cons_of_pos (by
        unfold not6
        exact decide_eq_true (by omega))
      by_cases hlt : y.2 < rank
      · rw [if_pos hlt, if_pos hlt, if_pos hlt]
        have hex2 : ∃ z ∈ B.filter not6, rank ≤ z.2 := by
          obtain ⟨z, hz, hz2⟩ := hex
          rw [hf] at hz
          rcases List.mem_cons.mp hz with h9 | h9
          · rw [h9] at hz2; omega
          · exact ⟨z, h9, hz2⟩
        have ht5 : Int.tmod y.1 10 < 5 := by
          obtain ⟨z, hz, -⟩ := hex2
          have hz' := List.mem_filter.mp hz
          have h1 := hnx z hz'.1
          have h2 := of_decide_eq_true hz'.2
          have h3 := (hB z (List.mem_cons_of_mem _ hz'.1)).1.2.2.1
          omega
        rw [hmb ht5]
        have := cont y.2 (wBound (Int.tmod y.1 10)) hex2 hy.2 (by omega) (by omega) (fun z hz hz5 => wB_mono ⟨hy.1.2.1, Int.le_of_lt (hnx z hz), by omega⟩) (by
          rw [hf]
          obtain ⟨z, hz, -⟩ := hex2
          cases e9 : B.filter not6 with
          | nil => rw [e9] at hz; exact (List.not_mem_nil hz).elim
          | cons z2 W =>
            show (if y.2 < rank then qtF rank y.2 (wBound (Int.tmod y.1 10)) (z2 :: W) else qtE rank ahead bound y) = _
            rw [if_pos hlt])
        rw [ic] at this
        exact this
      · rw [if_neg hlt, if_neg hlt, if_neg hlt]
        have hq : qtF rank ahead bound ((y :: B).filter not6) = qtE rank ahead bound y := by
          rw [hf]
          cases B.filter not6 with
          | nil => rfl
          | cons z2 W =>
            show (if y.2 < rank then qtF rank y.2 (wBound (Int.tmod y.1 10)) (z2 :: W) else qtE rank ahead bound y) = _
            rw [if_neg hlt]
        have hnn : 0 ≤ qtE rank ahead bound y := qtE_nn hbd.1 (hmo y List.mem_cons_self) har
        have hv : (if Int.tmod y.1 10 = 5 then (bound : Int) else (if y.2 = ahead then (bound : Int) else (bound + (Int.tdiv ((mBound (Int.tmod y.1 10) - bound) * (rank - ahead)) (y.2 - ahead))))) = qtE rank ahead bound y := by
          unfold qtE
          by_cases c1 : Int.tmod y.1 10 = 5
          · rw [if_pos c1, if_neg (fun h9 => by omega)]
          · rw [if_neg c1, hmb (by omega)]
            by_cases c2 : y.2 = ahead
            · rw [if_pos c2, if_neg (fun h9 => by omega)]
            · rw [if_neg c2, if_pos ⟨by omega, by omega⟩]
        rw [hv]
        rw [hq] at hput
        exact q188e hs hx hkq hnn (hput hnn (qtE_le hbd (hmo y List.mem_cons_self) har (by omega)))
end Sa49
