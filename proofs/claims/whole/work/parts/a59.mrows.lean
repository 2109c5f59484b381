/-! the model's rows of entries -/
section Sa59
variable {E : EE} {G G' G2 G0 : Gt} {c s : Nat} {Q X : Int → Gt → Prop} {m p q v : Int} {k r : Nat} {es A B : List En} {x x9 : En}
/-- an entry's part in a row of the model -/
def cE (e : En) (k : Nat) : Int := if k = 39 then e.1 else if k = 40 then e.2.1 else if k = 41 then e.2.2.1 else if k = 42 then e.2.2.2.1 else e.2.2.2.2
theorem cE39 (e : En) : cE e 39 = e.1 := rfl
theorem cE40 (e : En) : cE e 40 = e.2.1 := rfl
theorem cE41 (e : En) : cE e 41 = e.2.2.1 := rfl
theorem cE42 (e : En) : cE e 42 = e.2.2.2.1 := rfl
theorem cE43 (e : En) : cE e 43 = e.2.2.2.2 := rfl
theorem k5 {P : Nat → Prop} (h39 : P 39) (h40 : P 40) (h41 : P 41) (h42 : P 42) (h43 : P 43) : ∀ k, 39 ≤ k → k ≤ 43 → P k := fun k h1 h2 => by
  have : k = 39 ∨ k = 40 ∨ k = 41 ∨ k = 42 ∨ k = 43 := by omega
  rcases this with h | h | h | h | h <;> rw [h] <;> assumption
theorem EnM.all {e : En} (h : EnM G m p e) : ∀ k, 39 ≤ k → k ≤ 43 → gel G (gfd G 12 k m) p = cE e k := k5 h.1 h.2.1 h.2.2.1 h.2.2.2.1 h.2.2.2.2
theorem EnM.of {e : En} (h : ∀ k, 39 ≤ k → k ≤ 43 → gel G (gfd G 12 k m) p = cE e k) : EnM G m p e := ⟨h 39 (by decide) (by decide), h 40 (by decide) (by decide), h 41 (by decide) (by decide), h 42 (by decide) (by decide), h 43 (by decide) (by decide)⟩
theorem mEnt : ∀ k, 38 ≤ k → k ≤ 43 → k ∈ mArr := fun k h1 h2 => by
  have : k = 38 ∨ k = 39 ∨ k = 40 ∨ k = 41 ∨ k = 42 ∨ k = 43 := by omega
  rcases this with h | h | h | h | h | h <;> rw [h] <;> decide
/-- only the entries of rule r are written -/
def EsU (E : EE) (G0 G : Gt) (m : Int) (r : Nat) : Prop :=
  MU E G0 G m (fun k => 38 ≤ k ∧ k ≤ 43) ∧ (∀ k, gfd G 12 k m = gfd G0 12 k m) ∧ (∀ i : Int, i ≠ r → gel G (gfd G0 12 38 m) i = gel G0 (gfd G0 12 38 m) i) ∧
  ∀ k, 39 ≤ k → k ≤ 43 → ∀ i : Int, ¬ (24 * (r : Int) ≤ i ∧ i < 24 * (r : Int) + 24) → gel G (gfd G0 12 k m) i = gel G0 (gfd G0 12 k m) i
theorem EsU.rfl9 (hs : MSh E G m) (hL : LW E G) (hO : OW G) : EsU E G G m r := ⟨MU.refl hs hL hO, fun _ => rfl, fun _ _ => rfl, fun _ _ _ _ _ => rfl⟩
theorem EsU.s38 (h : EsU E G0 G m r) (v : Int) : EsU E G0 (sel G (gfd G 12 38 m) r v) m r ∧ gel (sel G (gfd G 12 38 m) r v) (gfd G0 12 38 m) r = v ∧ ∀ k, 39 ≤ k → k ≤ 43 → ∀ i : Int, gel (sel G (gfd G 12 38 m) r v) (gfd G0 12 k m) i = gel G (gfd G0 12 k m) i := by
  have hn : ∀ k, 39 ≤ k → k ≤ 43 → gfd G0 12 k m ≠ gfd G 12 38 m := fun k h1 h2 h9 => by
    rw [← h.2.1 k] at h9
    have := h.1.1.2.2.2 k (mEnt k (by omega) h2) 38 (by decide) h9
    omega
  refine ⟨⟨h.1.mSel (by decide) (by omega), h.2.1, fun i hi => ?_, fun k h1 h2 i hi => ?_⟩, ?_, fun k h1 h2 i => ?_⟩
  · rw [gel_sel, if_neg (fun h9 => hi h9.2)]; exact h.2.2.1 i hi
  · rw [gel_sel, if_neg (fun h9 => hn k h1 h2 h9.1)]; exact h.2.2.2 k h1 h2 i hi
  · rw [gel_sel, if_pos ⟨(h.2.1 38).symm, rfl⟩]
  · rw [gel_sel, if_neg (fun h9 => hn k h1 h2 h9.1)]
theorem EsU.sk (h : EsU E G0 G m r) (hk1 : 39 ≤ k) (hk2 : k ≤ 43) (hp : 24 * (r : Int) ≤ p ∧ p < 24 * (r : Int) + 24) (v : Int) : EsU E G0 (sel G (gfd G 12 k m) p v) m r ∧ (∀ i : Int, gel (sel G (gfd G 12 k m) p v) (gfd G0 12 38 m) i = gel G (gfd G0 12 38 m) i) ∧ ∀ k', 39 ≤ k' → k' ≤ 43 → ∀ i : Int, gel (sel G (gfd G 12 k m) p v) (gfd G0 12 k' m) i = if k' = k ∧ i = p then v else gel G (gfd G0 12 k' m) i := by
  have hn : ∀ j, 38 ≤ j → j ≤ 43 → (gfd G0 12 j m = gfd G 12 k m ↔ j = k) := fun j h1 h2 => by
    rw [← h.2.1 j]
    exact ⟨fun h9 => h.1.1.2.2.2 j (mEnt j h1 h2) k (mEnt k (by omega) hk2) h9, fun h9 => by rw [h9]⟩
  refine ⟨⟨h.1.mSel (mEnt k (by omega) hk2) (by omega), h.2.1, fun i hi => ?_, fun k' h1 h2 i hi => ?_⟩, fun i => ?_, fun k' h1 h2 i => ?_⟩
  · rw [gel_sel, if_neg (fun h9 => by have := (hn 38 (by omega) (by omega)).mp h9.1; omega)]; exact h.2.2.1 i hi
  · rw [gel_sel, if_neg (fun h9 => hi (by rw [h9.2]; exact hp))]; exact h.2.2.2 k' h1 h2 i hi
  · rw [gel_sel, if_neg (fun h9 => by have := (hn 38 (by omega) (by omega)).mp h9.1; omega)]
  · rw [gel_sel]
    by_cases h9 : k' = k ∧ i = p
    · rw [if_pos ⟨(hn k' (by omega) h2).mpr h9.1, h9.2⟩, if_pos h9]
    · rw [if_neg (fun h8 => h9 ⟨(hn k' (by omega) h2).mp h8.1, h8.2⟩), if_neg h9]
/-- what a moving leaves -/
def mvQ (E : EE) (G0 G G' : Gt) (m : Int) (r : Nat) (p q : Int) : Prop := EsU E G0 G' m r ∧ (∀ i : Int, gel G' (gfd G0 12 38 m) i = gel G (gfd G0 12 38 m) i) ∧ ∀ k, 39 ≤ k → k ≤ 43 → ∀ i : Int, gel G' (gfd G0 12 k m) i = if i = p then gel G (gfd G0 12 k m) q else gel G (gfd G0 12 k m) i
theorem om_moves (hU : EsU E G0 G m r) (hr : r < 8) (hp : 24 * (r : Int) ≤ p ∧ p < 24 * (r : Int) + 24) (hq : 24 * (r : Int) ≤ q ∧ q < 24 * (r : Int) + 24) (hpq : p ≠ q) : Ok E M_X12_moves [rv m, iv p, iv q] G c s (fun _ G' => mvQ E G0 G G' m r p q) (fun _ _ => False) := by
  refine Ok.wt fun hw => ?_
  have hwt := hw.1.2.2.2.2.2.2.1
  have x39 := hU.1.1.fx 39 15 192
  have x43 := hU.1.1.fx 43 17 192
  have f0 := hU.2.1
  refine i_X12_moves ⟨hU.1.1.1, hU.1.1.1, x39.1, by omega, by omega, x39.1, by omega, by omega, fun G9 e9 => ?_⟩
  obtain ⟨a1, a2, a3⟩ := hU.sk (k := 39) (by decide) (by decide) hp (gel G (gfd G 12 39 m) q)
  rw [← e9] at a1 a2 a3
  have y40 := a1.1.1.fx 40 15 192
  refine ⟨a1.1.1.1, a1.1.1.1, y40.1, by omega, by omega, y40.1, by omega, by omega, fun G18 e18 => ?_⟩
  obtain ⟨b1, b2, b3⟩ := a1.sk (k := 40) (by decide) (by decide) hp (gel G9 (gfd G9 12 40 m) q)
  rw [← e18] at b1 b2 b3
  have y41 := b1.1.1.fx 41 15 192
  refine ⟨b1.1.1.1, b1.1.1.1, y41.1, by omega, by omega, y41.1, by omega, by omega, fun G27 e27 => ?_⟩
  obtain ⟨c1, c2, c3⟩ := b1.sk (k := 41) (by decide) (by decide) hp (gel G18 (gfd G18 12 41 m) q)
  rw [← e27] at c1 c2 c3
  have y42 := c1.1.1.fx 42 15 192
  refine ⟨c1.1.1.1, c1.1.1.1, y42.1, by omega, by omega, y42.1, by omega, by omega, fun G36 e36 => ?_⟩
  obtain ⟨d1, d2, d3⟩ := c1.sk (k := 42) (by decide) (by decide) hp (gel G27 (gfd G27 12 42 m) q)
  rw [← e36] at d1 d2 d3
  have y43 := d1.1.1.fx 43 17 192
  have v43 : gel G36 (gfd G36 12 43 m) q = gel G (gfd G0 12 43 m) q := by
    rw [d1.2.1, d3 43 (by decide) (by decide), if_neg (by omega), c3 43 (by decide) (by decide), if_neg (by omega), b3 43 (by decide) (by decide), if_neg (by omega), a3 43 (by decide) (by decide), if_neg (by omega)]
  refine ⟨d1.1.1.1, d1.1.1.1, y43.1, by omega, by omega, y43.1, by omega, by omega, by rw [v43, ← f0 43]; exact hwt _ _ x43.1, fun G46 e46 => ?_⟩
  obtain ⟨g1, g2, g3⟩ := d1.sk (k := 43) (by decide) (by decide) hp (gel G36 (gfd G36 12 43 m) q)
  rw [← e46, v43] at g3
  rw [← e46] at g1 g2
  rw [c1.2.1, c3 42 (by decide) (by decide), if_neg (by omega), b3 42 (by decide) (by decide), if_neg (by omega), a3 42 (by decide) (by decide), if_neg (by omega)] at d3
  rw [b1.2.1, b3 41 (by decide) (by decide), if_neg (by omega), a3 41 (by decide) (by decide), if_neg (by omega)] at c3
  rw [a1.2.1, a3 40 (by decide) (by decide), if_neg (by omega)] at b3
  rw [f0] at a3
  refine ⟨g1, fun i => by rw [g2, d2, c2, b2, a2], fun k h1 h2 i => ?_⟩
  rw [g3 k h1 h2, d3 k h1 h2, c3 k h1 h2, b3 k h1 h2, a3 k h1 h2]
  have hk : k = 39 ∨ k = 40 ∨ k = 41 ∨ k = 42 ∨ k = 43 := by omega
  by_cases hi : i = p
  · rw [if_pos hi]
    rcases hk with rfl | rfl | rfl | rfl | rfl <;> simp [hi]
  · rw [if_neg hi, if_neg (fun h9 => hi h9.2), if_neg (fun h9 => hi h9.2), if_neg (fun h9 => hi h9.2), if_neg (fun h9 => hi h9.2), if_neg (fun h9 => hi h9.2)]
/-- the entries of rule r are es -/
def EsS (E : EE) (G0 G : Gt) (m : Int) (r : Nat) (es : List En) : Prop := EsU E G0 G m r ∧ gel G (gfd G0 12 38 m) r = es.length ∧ es.length ≤ 24 ∧ ∀ k, 39 ≤ k → k ≤ 43 → ∀ i : Nat, i < es.length → gel G (gfd G0 12 k m) (24 * (r : Int) + i) = cE (es.getD i e0) k
theorem EsS.of (hs : MSh E G m) (hL : LW E G) (hO : OW G) (h : MEs G m r es) : EsS E G G m r es := ⟨EsU.rfl9 hs hL hO, h.1, h.2.1, fun k h1 h2 i hi => (h.2.2 i hi).all k h1 h2⟩
theorem EsS.mes (h : EsS E G0 G m r es) : MEs G m r es := ⟨by rw [h.1.2.1]; exact h.2.1, h.2.2.1, fun i hi => EnM.of fun k h1 h2 => by rw [h.1.2.1]; exact h.2.2.2 k h1 h2 i hi⟩
theorem MEs.es0 {j : Nat} (h : MEs G0 m j es) (k : EsU E G0 G m r) (hj : j ≠ r) : MEs G m j es := by
  refine ⟨by rw [k.2.1, k.2.2.1 _ (by omega)]; exact h.1, h.2.1, fun i hi => EnM.of fun k' h1 h2 => ?_⟩
  have h24 := h.2.1
  rw [k.2.1, k.2.2.2 k' h1 h2 _ (by omega)]
  exact (h.2.2 i hi).all k' h1 h2
theorem apG {i : Nat} : (A ++ x :: B).getD i e0 = if i < A.length then A.getD i e0 else if i = A.length then x else B.getD (i - A.length - 1) e0 := by
  rw [List.getD_eq_getElem?_getD, List.getElem?_append]
  by_cases h1 : i < A.length
  · rw [if_pos h1, if_pos h1, ← List.getD_eq_getElem?_getD]
  · rw [if_neg h1, if_neg h1]
    by_cases h2 : i = A.length
    · rw [if_pos h2, h2, Nat.sub_self]; rfl
    · rw [if_neg h2]
      obtain ⟨q, hq⟩ : ∃ q, i - A.length = q + 1 := ⟨i - A.length - 1, by omega⟩
      rw [hq, List.getElem?_cons_succ, ← List.getD_eq_getElem?_getD]; rfl
/-- one part of one entry is written -/
theorem EsS.put (h : EsS E G0 G m r (A ++ x :: B)) (hk1 : 39 ≤ k) (hk2 : k ≤ 43) (hx : ∀ k', 39 ≤ k' → k' ≤ 43 → cE x9 k' = if k' = k then v else cE x k') : EsS E G0 (sel G (gfd G 12 k m) (24 * (r : Int) + A.length) v) m r (A ++ x9 :: B) := by
  have hl : (A ++ x :: B).length = A.length + B.length + 1 := by rw [List.length_append, List.length_cons]; omega
  have hl9 : (A ++ x9 :: B).length = A.length + B.length + 1 := by rw [List.length_append, List.length_cons]; omega
  have h24 := h.2.2.1
  obtain ⟨a1, a2, a3⟩ := h.1.sk (p := 24 * (r : Int) + A.length) hk1 hk2 ⟨by omega, by omega⟩ v
  refine ⟨a1, by rw [a2, h.2.1, hl, hl9], by omega, fun k' h1 h2 i hi => ?_⟩
  rw [a3 k' h1 h2, h.2.2.2 k' h1 h2 i (by omega), apG, apG]
  by_cases hi9 : i = A.length
  · have hn : ¬ i < A.length := by omega
    rw [if_neg hn, if_neg hn, if_pos hi9, if_pos hi9, hx k' h1 h2]
    by_cases hkk : k' = k
    · rw [if_pos ⟨hkk, by omega⟩, if_pos hkk]
    · rw [if_neg (fun h9 => hkk h9.1), if_neg hkk]
  · rw [if_neg (fun h9 : k' = k ∧ 24 * (r : Int) + i = 24 * (r : Int) + A.length => by omega)]
    by_cases h7 : i < A.length
    · rw [if_pos h7, if_pos h7]
    · rw [if_neg h7, if_neg h7, if_neg hi9, if_neg hi9]
theorem EsS.at (h : EsS E G0 G m r (A ++ x :: B)) (hk1 : 39 ≤ k) (hk2 : k ≤ 43) : gel G (gfd G 12 k m) (24 * (r : Int) + A.length) = cE x k := by
  rw [h.1.2.1, h.2.2.2 k hk1 hk2 A.length (by rw [List.length_append, List.length_cons]; omega), apG, if_neg (by omega), if_pos rfl]
end Sa59
