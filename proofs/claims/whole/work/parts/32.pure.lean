/-! the methods that only answer -/
section P32
variable {E : EE} {G G' G2 : Gt} {bc bs : Nat} {Q X : Int → Gt → Prop} {a m : Int}
theorem wIn01 (x l h : Int) : wIn x l h = 0 ∨ wIn x l h = 1 := by unfold wIn; split <;> simp
theorem wIn_eq {x l h : Int} : (if x < l then (0 : Int) else (if h < x then (0 : Int) else 1)) = wIn x l h := by
  unfold wIn
  by_cases h1 : x < l
  · rw [if_pos h1, if_neg (by omega)]
  · rw [if_neg h1]
    by_cases h2 : h < x
    · rw [if_pos h2, if_neg (by omega)]
    · rw [if_neg h2, if_pos (by omega)]
theorem wIn1 {x l h : Int} : wIn x l h = 1 ↔ l ≤ x ∧ x ≤ h := by unfold wIn; split <;> simp_all
theorem wIn0 {x l h : Int} : wIn x l h = 0 ↔ ¬ (l ≤ x ∧ x ≤ h) := by unfold wIn; split <;> simp_all
theorem okp_isWithin {x l h : Int} : OkP E M_X11_isWithin [iv x, iv l, iv h] G (wIn x l h) := i_X11_isWithin ⟨by rw [wIn_eq]; exact wIn01 _ _ _, wIn_eq, rfl⟩
theorem okp_isLevel {x : Int} : OkP E M_X11_isLevel [iv x] G (wLevel x) := by
  have e : (if x = 10 then (1 : Int) else (if x = 100 then (1 : Int) else 0)) = wLevel x := by
    unfold wLevel
    by_cases h1 : x = 10
    · rw [if_pos h1, if_pos (Or.inl h1)]
    · rw [if_neg h1]
      by_cases h2 : x = 100
      · rw [if_pos h2, if_pos (Or.inr h2)]
      · rw [if_neg h2, if_neg (by omega)]
  exact i_X11_isLevel ⟨by rw [e]; unfold wLevel; split <;> simp, e, rfl⟩
theorem okp_reads {x : Int} : OkP E M_X10_reads [iv x] G (wIn x 1 7) := i_X10_reads ⟨okp_isWithin, wIn01 _ _ _, rfl, rfl⟩
theorem okp_joins {x : Int} : OkP E M_X10_joins [iv x] G (wIn x 10 14) := i_X10_joins ⟨okp_isWithin, wIn01 _ _ _, rfl, rfl⟩
theorem okp_needs {x : Int} : OkP E M_X10_needs [iv x] G (wNeeds x) := by
  refine i_X10_needs ⟨fun h => ⟨?_, rfl⟩, fun h => ⟨okp_reads, fun h2 => ⟨okp_joins, ?_, rfl⟩, fun h2 => ⟨?_, rfl⟩⟩⟩
  · unfold wNeeds; rw [if_pos (by omega)]
  · have h3 := wIn0.mp h2
    by_cases h4 : 10 ≤ x ∧ x ≤ 14
    · rw [wIn1.mpr h4, if_neg (by decide)]
      unfold wNeeds
      rw [if_neg (by omega), if_pos h4]
    · rw [wIn0.mpr h4, if_pos rfl]
      unfold wNeeds
      rw [if_neg (by omega), if_neg h4]
  · have h3 : 1 ≤ x ∧ x ≤ 7 := by
      rcases wIn01 x 1 7 with h4 | h4
      · exact (h2 h4).elim
      · exact wIn1.mp h4
    unfold wNeeds; rw [if_pos (by omega)]
theorem okp_selects {l : Int} (ha : gcl G a = 7) : OkP E M_X6_selects [rv a, iv l] G (slS G a l) := by
  refine i_X6_selects ⟨ha, ha, ha, ?_, rfl, rfl⟩
  split <;> simp
theorem okp_records (ha : gcl G a = 5) : OkP E M_X4_records [rv a] G (if gfd G 4 1 a = -1 then 0 else 1) := by
  refine i_X4_records ⟨ha, ?_, rfl, rfl⟩
  split <;> simp
theorem and_small : ∀ n : Nat, n < 8 → (and32 n 1 = if n % 2 = 1 then 1 else 0) ∧ (and32 n 2 = if (n / 2) % 2 = 1 then 2 else 0) ∧ (and32 n 4 = if (n / 4) % 2 = 1 then 4 else 0) ∧ (and32 (shr32 n 1) 1 = if (n / 2) % 2 = 1 then 1 else 0) ∧ (and32 (shr32 n 2) 1 = if (n / 4) % 2 = 1 then 1 else 0) := by decide
theorem wMask_eq {l s a b c : Int} (hs : 0 ≤ s ∧ s ≤ 7) (ha : a = if s % 2 = 1 then Int.tdiv l 100 else 6) (hb : b = if s / 2 % 2 = 1 then Int.tmod (Int.tdiv l 10) 10 else 6) (hc : c = if s / 4 % 2 = 1 then Int.tmod l 10 else 6) : 100 * a + 10 * b + c = wMask l s := by
  rw [ha, hb, hc]; rfl
theorem dig {l : Int} (h : 0 ≤ l ∧ l ≤ 1000) : (0 ≤ Int.tdiv l 100 ∧ Int.tdiv l 100 ≤ 10) ∧ (0 ≤ Int.tmod (Int.tdiv l 10) 10 ∧ Int.tmod (Int.tdiv l 10) 10 ≤ 9) ∧ (0 ≤ Int.tmod l 10 ∧ Int.tmod l 10 ≤ 9) := by
  rw [Int.tdiv_eq_ediv_of_nonneg h.1, Int.tdiv_eq_ediv_of_nonneg h.1, Int.tmod_eq_emod_of_nonneg (by omega), Int.tmod_eq_emod_of_nonneg h.1]
  omega
theorem i32s {x : Int} (h : -100000000 ≤ x ∧ x ≤ 100000000) : i32 x := ⟨by omega, by omega⟩
theorem okp_only {l s : Int} (hl : 0 ≤ l ∧ l ≤ 1000) (hs : 0 ≤ s ∧ s ≤ 7) : OkP E M_X2_only [iv l, iv s] G (wMask l s) := by
  obtain ⟨n, rfl⟩ := Int.eq_ofNat_of_zero_le hs.1
  have hn := and_small n (by omega)
  have hd := dig hl
  have e1 : (if and32 (n : Int) 1 = 0 then (6 : Int) else Int.tdiv l 100) = if (n : Int) % 2 = 1 then Int.tdiv l 100 else 6 := by
    by_cases h : n % 2 = 1
    · rw [hn.1, if_pos h, if_neg (by decide), if_pos (by omega)]
    · rw [hn.1, if_neg h, if_pos rfl, if_neg (by omega)]
  have e2 : (if and32 (n : Int) 2 = 0 then (6 : Int) else Int.tmod (Int.tdiv l 10) 10) = if (n : Int) / 2 % 2 = 1 then Int.tmod (Int.tdiv l 10) 10 else 6 := by
    by_cases h : n / 2 % 2 = 1
    · rw [hn.2.1, if_pos h, if_neg (by decide), if_pos (by omega)]
    · rw [hn.2.1, if_neg h, if_pos rfl, if_neg (by omega)]
  have e3 : (if and32 (n : Int) 4 = 0 then (6 : Int) else Int.tmod l 10) = if (n : Int) / 4 % 2 = 1 then Int.tmod l 10 else 6 := by
    by_cases h : n / 4 % 2 = 1
    · rw [hn.2.2.1, if_pos h, if_neg (by decide), if_pos (by omega)]
    · rw [hn.2.2.1, if_neg h, if_pos rfl, if_neg (by omega)]
  refine i_X2_only ?_
  rw [e1, e2, e3]
  generalize hA : (if (n : Int) % 2 = 1 then Int.tdiv l 100 else 6) = A
  generalize hB : (if (n : Int) / 2 % 2 = 1 then Int.tmod (Int.tdiv l 10) 10 else 6) = B
  generalize hC : (if (n : Int) / 4 % 2 = 1 then Int.tmod l 10 else 6) = C
  have hA' : 0 ≤ A ∧ A ≤ 10 := by rw [← hA]; split <;> omega
  have hB' : 0 ≤ B ∧ B ≤ 10 := by rw [← hB]; split <;> omega
  have hC' : 0 ≤ C ∧ C ≤ 10 := by rw [← hC]; split <;> omega
  exact ⟨i32s (by omega), i32s (by omega), i32s (by omega), i32s (by omega), wMask_eq hs hA.symm hB.symm hC.symm, rfl⟩
theorem okp_boundOf {t : Int} : OkP E M_X2_boundOf [iv t] G (wBound t) := by
  refine Ok.wt fun hw => ?_
  obtain ⟨h1, h2, h3, h4, h5, h6, h7⟩ := hw.1.2.2.2.2.2.2.2.2.2.1
  refine i_X2_boundOf ⟨fun _ => by omega, fun _ _ => Or.inr h1, fun h _ => h, fun _ h => h, ?_, rfl⟩
  rw [h2]
  unfold wBound
  by_cases a1 : t < 0
  · rw [if_pos a1, if_neg (by omega), if_neg (by omega), if_neg (by omega), if_neg (by omega), if_neg (by omega)]
  · rw [if_neg a1]
    by_cases a2 : 5 ≤ t
    · rw [if_pos a2, if_neg (by omega), if_neg (by omega), if_neg (by omega), if_neg (by omega), if_neg (by omega)]
    · rw [if_neg a2]
      have : t = 0 ∨ t = 1 ∨ t = 2 ∨ t = 3 ∨ t = 4 := by omega
      rcases this with rfl | rfl | rfl | rfl | rfl
      · rw [h3]; rfl
      · rw [h4]; rfl
      · rw [h5]; rfl
      · rw [h6]; rfl
      · rw [h7]; rfl
end P32
