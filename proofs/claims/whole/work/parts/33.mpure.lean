/-! the model: its arrays, and its methods that only answer -/
section M33
variable {E : EE} {G G' G2 : Gt} {bc bs : Nat} {Q X : Int → Gt → Prop} {a m : Int}
/-- the model's arrays of a fixed length: field, kind, length -/
def mFix : List (Nat × Nat × Int) := [(3, 15, 12), (4, 15, 12), (5, 15, 12), (16, 15, 600), (17, 15, 600), (18, 15, 600), (20, 15, 12), (21, 15, 540), (22, 15, 9), (24, 17, 8), (25, 15, 8), (26, 15, 8), (27, 15, 8), (28, 15, 8), (29, 17, 10), (30, 15, 10), (31, 15, 120), (32, 16, 120), (36, 15, 12), (37, 16, 12), (38, 15, 8), (39, 15, 192), (40, 15, 192), (41, 15, 192), (42, 15, 192), (43, 17, 192), (44, 15, 40), (47, 15, 180), (49, 16, 12), (50, 15, 12)]
def mGrow : List (Nat × Nat) := [(7, 15), (8, 15), (9, 15), (10, 15), (11, 17), (13, 15)]
def mArr : List Nat := mFix.map (·.1) ++ mGrow.map (·.1)
/-- the model's shape -/
def MSh (E : EE) (G : Gt) (m : Int) : Prop :=
  gcl G m = 13 ∧ (∀ q ∈ mFix, gcl G (gfd G 12 q.1 m) = q.2.1 ∧ gln G (gfd G 12 q.1 m) = q.2.2 ∧ (eb E : Int) ≤ gfd G 12 q.1 m) ∧
  (∀ q ∈ mGrow, gcl G (gfd G 12 q.1 m) = q.2 ∧ 40000 ≤ gln G (gfd G 12 q.1 m) ∧ (eb E : Int) ≤ gfd G 12 q.1 m) ∧
  (∀ k ∈ mArr, ∀ j ∈ mArr, gfd G 12 k m = gfd G 12 j m → k = j)
theorem MSh.fx (h : MSh E G m) (k t : Nat) (n : Int) (hk : (k, t, n) ∈ mFix := by decide) : gcl G (gfd G 12 k m) = t ∧ gln G (gfd G 12 k m) = n ∧ (eb E : Int) ≤ gfd G 12 k m := h.2.1 _ hk
theorem MSh.gw (h : MSh E G m) (k t : Nat) (hk : (k, t) ∈ mGrow := by decide) : gcl G (gfd G 12 k m) = t ∧ 40000 ≤ gln G (gfd G 12 k m) ∧ (eb E : Int) ≤ gfd G 12 k m := h.2.2.1 _ hk
theorem MSh.ne (h : MSh E G m) (k j : Nat) (hkj : k ≠ j := by decide) (hk : k ∈ mArr := by decide) (hj : j ∈ mArr := by decide) : gfd G 12 k m ≠ gfd G 12 j m := fun h9 => hkj (h.2.2.2 k hk j hj h9)
theorem okp_in {x l h : Int} : OkP E M_X12_in [iv x, iv l, iv h] G (wIn x l h) := i_X12_in ⟨by rw [wIn_eq]; exact wIn01 _ _ _, wIn_eq, rfl⟩
theorem okp_codeOf {x y z : Int} (hx : 0 ≤ x ∧ x ≤ 1000) (hy : 0 ≤ y ∧ y ≤ 1000) (hz : 0 ≤ z ∧ z ≤ 1000) : OkP E M_X12_codeOf [iv x, iv y, iv z] G (wCode x y z) :=
  i_X12_codeOf ⟨i32s (by omega), i32s (by omega), i32s (by omega), i32s (by omega), rfl, rfl⟩
/-- the labels of the model's series are in order -/
def MLb (G : Gt) (m : Int) : Prop := 0 ≤ gfd G 12 6 m ∧ gfd G 12 6 m ≤ 12 ∧ ∀ s, 0 ≤ s → s < gfd G 12 6 m → (0 ≤ gel G (gfd G 12 3 m) s ∧ gel G (gfd G 12 3 m) s ≤ 6) ∧ (0 ≤ gel G (gfd G 12 4 m) s ∧ gel G (gfd G 12 4 m) s ≤ 6) ∧ (0 ≤ gel G (gfd G 12 5 m) s ∧ gel G (gfd G 12 5 m) s ≤ 6)
theorem okp_codeOfSeries {s : Int} (h : MSh E G m) (hl : MLb G m) (h0 : 0 ≤ s) (h1 : s < gfd G 12 6 m) : OkP E M_X12_codeOfSeries [rv m, iv s] G (mCode G m s) := by
  have e3 := h.fx 3 15 12
  have e4 := h.fx 4 15 12
  have e5 := h.fx 5 15 12
  have hb := hl.2.2 s h0 h1
  have hl2 := hl.2.1
  exact i_X12_codeOfSeries ⟨h.1, e3.1, h0, by omega, h.1, e4.1, h0, by omega, h.1, e5.1, h0, by omega, okp_codeOf (by omega) (by omega) (by omega), rfl, rfl⟩
theorem mIn01 (z o t l : Int) : mIn z o t l = 0 ∨ mIn z o t l = 1 := by unfold mIn; split <;> simp
theorem okp_isIn {z o t l : Int} : OkP E M_X12_isIn [iv z, iv o, iv t, iv l] G (mIn z o t l) := by
  have e : (if (and32 (shr32 z (Int.tdiv l 100)) 1) = 1 then ((if (and32 (shr32 o (Int.tmod (Int.tdiv l 10) 10)) 1) = 1 then ((if (and32 (shr32 t (Int.tmod l 10)) 1) = 1 then (1 : Int) else 0) : Int) else 0) : Int) else 0) = mIn z o t l := by
    unfold mIn
    by_cases h1 : and32 (shr32 z (Int.tdiv l 100)) 1 = 1
    · by_cases h2 : and32 (shr32 o (Int.tmod (Int.tdiv l 10) 10)) 1 = 1
      · by_cases h3 : and32 (shr32 t (Int.tmod l 10)) 1 = 1
        · rw [if_pos h1, if_pos h2, if_pos h3, if_pos ⟨h1, h2, h3⟩]
        · rw [if_pos h1, if_pos h2, if_neg h3, if_neg (fun h9 => h3 h9.2.2)]
      · rw [if_pos h1, if_neg h2, if_neg (fun h9 => h2 h9.2.1)]
    · rw [if_neg h1, if_neg (fun h9 => h1 h9.1)]
  exact i_X12_isIn ⟨by rw [e]; exact mIn01 _ _ _ _, e, rfl⟩
theorem okp_isSelected {q s : Int} (h : MSh E G m) (hl : MLb G m) (hq : 0 ≤ q ∧ q ≤ 3) (h0 : 0 ≤ s) (h1 : s < gfd G 12 6 m) : OkP E M_X12_isSelected [rv m, iv q, iv s] G (mSel G m q s) := by
  have e := h.fx 20 15 12
  exact i_X12_isSelected ⟨h.1, i32s (by omega), e.1, by omega, by omega, h.1, i32s (by omega), i32s (by omega), e.1, by omega, by omega, h.1, i32s (by omega), i32s (by omega), e.1, by omega, by omega, h.1, okp_codeOfSeries h hl h0 h1, okp_isIn, mIn01 _ _ _ _, rfl, rfl⟩
theorem mSeen01 (G : Gt) (a k : Int) : mSeen G a k = 0 ∨ mSeen G a k = 1 := by unfold mSeen; split <;> simp
theorem okp_isSeen {k : Int} (h : MSh E G m) (h0 : 0 ≤ k) (h1 : k < gln G (gfd G 12 10 m)) : OkP E M_X12_isSeen [rv m, iv k] G (mSeen G m k) :=
  i_X12_isSeen ⟨h.1, (h.gw 10 15).1, h0, h1, mSeen01 _ _ _, rfl, rfl⟩
theorem okp_isSeries {s : Int} (h : MSh E G m) (hl : MLb G m) : OkP E M_X12_isSeries [rv m, iv s] G (wIn s 0 (gfd G 12 6 m - 1)) :=
  i_X12_isSeries ⟨h.1, i32s (by have := hl.1; have := hl.2.1; omega), okp_in, wIn01 _ _ _, rfl, rfl⟩
theorem okp_bounded {v : Int} : OkP E M_X12_bounded [jv v] G (wBd v) := by
  refine i_X12_bounded ⟨?_, rfl⟩
  unfold wBd
  repeat' split
  all_goals omega
theorem okp_masked {l s : Int} (hl : 0 ≤ l ∧ l ≤ 1000) (hs : 0 ≤ s ∧ s ≤ 7) : OkP E M_X12_masked [iv l, iv s] G (wMask l s) := by
  obtain ⟨n, rfl⟩ := Int.eq_ofNat_of_zero_le hs.1
  have hn := and_small n (by omega)
  have hd := dig hl
  have e1 : (if and32 (n : Int) 1 = 1 then Int.tdiv l 100 else (6 : Int)) = if (n : Int) % 2 = 1 then Int.tdiv l 100 else 6 := by
    by_cases h : n % 2 = 1
    · rw [hn.1, if_pos h, if_pos rfl, if_pos (by omega)]
    · rw [hn.1, if_neg h, if_neg (by decide), if_neg (by omega)]
  have e2 : (if and32 (shr32 (n : Int) 1) 1 = 1 then Int.tmod (Int.tdiv l 10) 10 else (6 : Int)) = if (n : Int) / 2 % 2 = 1 then Int.tmod (Int.tdiv l 10) 10 else 6 := by
    by_cases h : n / 2 % 2 = 1
    · rw [hn.2.2.2.1, if_pos h, if_pos rfl, if_pos (by omega)]
    · rw [hn.2.2.2.1, if_neg h, if_neg (by decide), if_neg (by omega)]
  have e3 : (if and32 (shr32 (n : Int) 2) 1 = 1 then Int.tmod l 10 else (6 : Int)) = if (n : Int) / 4 % 2 = 1 then Int.tmod l 10 else 6 := by
    by_cases h : n / 4 % 2 = 1
    · rw [hn.2.2.2.2, if_pos h, if_pos rfl, if_pos (by omega)]
    · rw [hn.2.2.2.2, if_neg h, if_neg (by decide), if_neg (by omega)]
  refine i_X12_masked ?_
  rw [e1, e2, e3]
  generalize hA : (if (n : Int) % 2 = 1 then Int.tdiv l 100 else 6) = A
  generalize hB : (if (n : Int) / 2 % 2 = 1 then Int.tmod (Int.tdiv l 10) 10 else 6) = B
  generalize hC : (if (n : Int) / 4 % 2 = 1 then Int.tmod l 10 else 6) = C
  have hA' : 0 ≤ A ∧ A ≤ 10 := by rw [← hA]; split <;> omega
  have hB' : 0 ≤ B ∧ B ≤ 10 := by rw [← hB]; split <;> omega
  have hC' : 0 ≤ C ∧ C ≤ 10 := by rw [← hC]; split <;> omega
  exact ⟨okp_codeOf (by omega) (by omega) (by omega), wMask_eq hs hA.symm hB.symm hC.symm, rfl⟩
theorem okp_bound {t : Int} : OkP E M_X12_bound [iv t] G (mBound t) := i_X12_bound ⟨rfl, rfl⟩
theorem okp_least {x y : Int} : OkP E M_X12_least [jv x, jv y] G (min x y) := by
  refine i_X12_least ⟨?_, rfl⟩
  by_cases h : y ≤ x
  · rw [if_pos h]; omega
  · rw [if_neg h]; omega
theorem xor_nn {x y : Int} (hx : 0 ≤ x ∧ x ≤ 2147483647) (hy : 0 ≤ y ∧ y ≤ 2147483647) : 0 ≤ xor32 x y := by
  obtain ⟨n, rfl⟩ := Int.eq_ofNat_of_zero_le hx.1
  obtain ⟨k, rfl⟩ := Int.eq_ofNat_of_zero_le hy.1
  have e : (Int32.ofInt n ^^^ Int32.ofInt k).toBitVec.toNat = n ^^^ k := by
    rw [Int32.toBitVec_xor, BitVec.toNat_xor]
    have f : ∀ z : Nat, z < 2147483648 → (Int32.ofInt (z : Int)).toBitVec.toNat = z := fun z hz => by
      show (BitVec.ofInt 32 (z : Int)).toNat = z
      rw [BitVec.toNat_ofInt]; omega
    rw [f n (by omega), f k (by omega)]
  have h1 : n ^^^ k < 2 ^ 31 := Nat.xor_lt_two_pow (by omega) (by omega)
  show 0 ≤ (Int32.ofInt n ^^^ Int32.ofInt k).toBitVec.toInt
  rw [BitVec.toInt_eq_toNat_of_lt (by rw [e]; omega)]
  omega
theorem okp_floorMod {x y : Int} (hx : 0 ≤ x ∧ x ≤ 1000000) (hy : 1 ≤ y ∧ y ≤ 1000) : OkP E M_T_floorMod [iv x, iv y] G (Int.emod x y) := by
  have e1 : Int.tdiv x y = x / y := Int.tdiv_eq_ediv_of_nonneg hx.1
  have e2 : Int.tmod x y = x % y := Int.tmod_eq_emod_of_nonneg hx.1
  have e3 : 0 ≤ x % y := Int.emod_nonneg x (by omega)
  have e4 : x % y < y := Int.emod_lt_of_pos x (by omega)
  have e5 : 0 ≤ x / y := Int.ediv_nonneg hx.1 (by omega)
  have e6 : x / y ≤ x := Int.ediv_le_self y hx.1
  refine i_T_floorMod ?_
  rw [e1, e2]
  refine ⟨by omega, i32s (by omega), i32s (by omega), fun _ => ⟨rfl, rfl⟩, fun h => ?_⟩
  have := xor_nn (x := x) (y := y) (by omega) (by omega)
  omega
end M33
