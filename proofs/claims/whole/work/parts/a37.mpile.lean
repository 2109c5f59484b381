/-! the model's pile: one value put on it -/
section Sa37
variable {E : EE} {G G' G2 G0 : Gt} {c s : Nat} {Q X : Int → Gt → Prop} {m ml mr t v b l n r u s9 x i nn time two what : Int} {k j : Nat} {T : Nat → Prop} {ser : List Int} {smp : List (Sm4 × Int)} {sm : List Sm4} {d : DS} {R A B S9 : List (Int × Int)} {S : List Rw} {W W' : Nat → Int}
/-- one result in the model -/
def RowM (G : Gt) (m i : Int) (p : Rw) : Prop := gel G (gfd G 12 29 m) i = p.1 ∧ gel G (gfd G 12 30 m) i = p.2.length ∧ p.2.length ≤ 12 ∧ ∀ j : Nat, j < p.2.length → gel G (gfd G 12 31 m) (12 * i + j) = (p.2.getD j (0, 0)).1 ∧ gel G (gfd G 12 32 m) (12 * i + j) = (p.2.getD j (0, 0)).2
def PiM (G : Gt) (m : Int) (S : List Rw) : Prop := gfd G 12 33 m = S.length ∧ S.length ≤ 10 ∧ ∀ i : Nat, i < S.length → RowM G m i (S.getD i (0, []))
def scP (k : Nat) : Prop := (29 ≤ k ∧ k ≤ 33) ∨ 49 ≤ k
theorem om_open (hU : MU E G0 G m scP) (h : PiM G m S) (h10 : S.length < 10) (hx : x = 0 ∨ x = 1) : Ok E M_X12_open [rv m, iv x] G c s (fun _ G' => MU E G0 G' m scP ∧ PiM G' m (S ++ [(x, [])])) (fun _ _ => False) := by
  obtain ⟨h1, h2, h3⟩ := h
  have x29 := hU.1.fx 29 17 10
  refine i_X12_open ⟨hU.1.1, hU.1.1, x29.1, by omega, by omega, hx, fun G7 e7 => ?_⟩
  have k7 : MU E G0 G7 m scP := by rw [e7]; exact hU.mSel (by decide) (Or.inl ⟨by decide, by decide⟩)
  have f7 : ∀ k, gfd G7 12 k m = gfd G 12 k m := fun k => by rw [e7]; rfl
  have y30 := k7.1.fx 30 15 10
  rw [f7 33, h1]
  refine ⟨k7.1.1, k7.1.1, y30.1, by omega, by omega, fun G13 e13 => ?_⟩
  have k13 : MU E G0 G13 m scP := by rw [e13]; exact k7.mSel (by decide) (Or.inl ⟨by decide, by decide⟩)
  have f13 : ∀ k, gfd G13 12 k m = gfd G 12 k m := fun k => by rw [e13]; exact f7 k
  rw [f13 33, h1]
  refine ⟨k13.1.1, i32s' (by omega), k13.1.1, fun G17 e17 => ?_⟩
  have k17 : MU E G0 G17 m scP := by rw [e17]; exact k13.mSfd (by decide) (Or.inl ⟨by decide, by decide⟩)
  have f17 : ∀ k, k ≠ 33 → gfd G17 12 k m = gfd G 12 k m := fun k hk => by rw [e17, gfd_sfd, if_neg (fun h9 => hk h9.2.1)]; exact f13 k
  have n1 : gfd G 12 29 m ≠ gfd G 12 30 m := hU.1.ne 29 30
  have n2 : gfd G 12 29 m ≠ gfd G 12 31 m := hU.1.ne 29 31
  have n3 : gfd G 12 29 m ≠ gfd G 12 32 m := hU.1.ne 29 32
  have n4 : gfd G 12 30 m ≠ gfd G 12 31 m := hU.1.ne 30 31
  have n5 : gfd G 12 30 m ≠ gfd G 12 32 m := hU.1.ne 30 32
  rw [f7 30] at e13
  rw [h1] at e7
  have el : ∀ y i, gel G17 y i = if y = gfd G 12 30 m ∧ i = S.length then 0 else if y = gfd G 12 29 m ∧ i = S.length then x else gel G y i := fun y i => by
    rw [e17]
    show gel G13 y i = _
    rw [e13, gel_sel, e7, gel_sel]
  refine ⟨k17, by rw [e17, gfd_sfd, if_pos ⟨rfl, rfl, rfl⟩, List.length_append]; rfl, by rw [List.length_append]; show S.length + 1 ≤ 10; omega, fun i hi => ?_⟩
  rw [List.length_append] at hi
  have hi' : i < S.length + 1 := hi
  unfold RowM
  rw [appD hi', f17 29 (by decide), f17 30 (by decide), f17 31 (by decide), f17 32 (by decide)]
  by_cases hil : i < S.length
  · have hne : ¬ ((i : Int) = S.length) := by omega
    rw [if_pos hil, el, if_neg (fun h9 => hne h9.2), if_neg (fun h9 => hne h9.2), el, if_neg (fun h9 => hne h9.2), if_neg (fun h9 => hne h9.2)]
    have := h3 i hil
    refine ⟨this.1, this.2.1, this.2.2.1, fun j hj => ?_⟩
    rw [el, if_neg (fun h9 => n4 h9.1.symm), if_neg (fun h9 => n2 h9.1.symm), el, if_neg (fun h9 => n5 h9.1.symm), if_neg (fun h9 => n3 h9.1.symm)]
    exact this.2.2.2 j hj
  · have he : (i : Int) = S.length := by omega
    rw [if_neg hil, el, if_neg (fun h9 => n1 h9.1), if_pos ⟨rfl, he⟩, el, if_pos ⟨rfl, he⟩]
    exact ⟨rfl, rfl, Nat.zero_le _, fun j hj => absurd hj (Nat.not_lt_zero j)⟩
theorem om_add (hU : MU E G0 G m scP) (h : PiM G m (S ++ [(nn, R)])) (h12 : R.length < 12) : Ok E M_X12_add [rv m, iv l, jv v] G c s (fun _ G' => MU E G0 G' m scP ∧ PiM G' m (S ++ [(nn, R ++ [(l, wBd v)])])) (fun _ _ => False) := by
  obtain ⟨h1, h2, h3⟩ := h
  have hl : (S ++ [((nn, R) : Rw)]).length = S.length + 1 := by rw [List.length_append]; rfl
  rw [hl] at h1 h2 h3
  have h1' : gfd G 12 33 m - 1 = S.length := by omega
  have ht := h3 S.length (by omega)
  rw [appZ, if_neg (by omega), if_pos rfl] at ht
  obtain ⟨t1, t2, t3, t4⟩ := ht
  have t2' : gel G (gfd G 12 30 m) (S.length : Int) = R.length := t2
  have x30 := hU.1.fx 30 15 10
  have x31 := hU.1.fx 31 15 120
  rw [← h1'] at t2'
  refine i_X12_add ⟨hU.1.1, i32s' (by omega), i32s' (by omega), hU.1.1, hU.1.1, i32s' (by omega), x30.1, by omega, by omega, ?_⟩
  rw [h1']
  rw [h1'] at t2'
  rw [t2']
  refine ⟨i32s' (by omega), hU.1.1, x31.1, by omega, by omega, fun G15 e15 => ?_⟩
  have k15 : MU E G0 G15 m scP := by rw [e15]; exact hU.mSel (by decide) (Or.inl ⟨by decide, by decide⟩)
  have f15 : ∀ k, gfd G15 12 k m = gfd G 12 k m := fun k => by rw [e15]; rfl
  have y32 := k15.1.fx 32 16 120
  refine ⟨k15.1.1, okp_bounded, y32.1, by omega, by omega, fun G21 e21 => ?_⟩
  have k21 : MU E G0 G21 m scP := by rw [e21]; exact k15.mSel (by decide) (Or.inl ⟨by decide, by decide⟩)
  have f21 : ∀ k, gfd G21 12 k m = gfd G 12 k m := fun k => by rw [e21]; exact f15 k
  have z30 := k21.1.fx 30 15 10
  have n1 : gfd G 12 30 m ≠ gfd G 12 31 m := hU.1.ne 30 31
  have n2 : gfd G 12 30 m ≠ gfd G 12 32 m := hU.1.ne 30 32
  have n3 : gfd G 12 31 m ≠ gfd G 12 32 m := hU.1.ne 31 32
  have n4 : gfd G 12 29 m ≠ gfd G 12 30 m := hU.1.ne 29 30
  have n5 : gfd G 12 29 m ≠ gfd G 12 31 m := hU.1.ne 29 31
  have n6 : gfd G 12 29 m ≠ gfd G 12 32 m := hU.1.ne 29 32
  rw [f15 32] at e21
  have v30 : gel G21 (gfd G21 12 30 m) (S.length : Int) = R.length := by
    rw [f21, e21, gel_sel, if_neg (fun h9 => n2 h9.1), e15, gel_sel, if_neg (fun h9 => n1 h9.1)]; exact t2'
  refine ⟨k21.1.1, k21.1.1, by rw [f21]; exact i32s' (by omega), ?_⟩
  rw [f21 33, h1', v30]
  refine ⟨z30.1, by omega, by omega, i32s' (by omega), z30.1, by omega, by omega, fun G32 e32 => ?_⟩
  have k32 : MU E G0 G32 m scP := by rw [e32]; exact k21.mSel (by decide) (Or.inl ⟨by decide, by decide⟩)
  have f32 : ∀ k, gfd G32 12 k m = gfd G 12 k m := fun k => by rw [e32]; exact f21 k
  rw [f21 30] at e32
  have el : ∀ y i, gel G32 y i = if y = gfd G 12 30 m ∧ i = S.length then (R.length : Int) + 1 else if y = gfd G 12 32 m ∧ i = 12 * S.length + R.length then wBd v else if y = gfd G 12 31 m ∧ i = 12 * S.length + R.length then l else gel G y i := fun y i => by
    rw [e32, gel_sel, e21, gel_sel, e15, gel_sel]
  refine ⟨k32, by rw [f32, List.length_append]; show _ = ((S.length + 1 : Nat) : Int); omega, by rw [List.length_append]; show S.length + 1 ≤ 10; omega, fun i hi => ?_⟩
  rw [List.length_append] at hi
  have hi' : i < S.length + 1 := hi
  have hr := h3 i hi'
  rw [appD hi'] at hr
  unfold RowM at hr ⊢
  rw [appD hi', f32 29, f32 30, f32 31, f32 32]
  by_cases hil : i < S.length
  · rw [if_pos hil] at hr ⊢
    have hne : ¬ ((i : Int) = S.length) := by omega
    refine ⟨?_, ?_, hr.2.2.1, fun j hj => ?_⟩
    · rw [el, if_neg (fun h9 => n4 h9.1), if_neg (fun h9 => n6 h9.1), if_neg (fun h9 => n5 h9.1)]; exact hr.1
    · rw [el, if_neg (fun h9 => hne h9.2), if_neg (fun h9 => n2 h9.1), if_neg (fun h9 => n1 h9.1)]; exact hr.2.1
    · have hj12 := hr.2.2.1
      rw [el, if_neg (fun h9 => n1 h9.1.symm), if_neg (fun h9 => n3 h9.1), if_neg (by omega), el, if_neg (fun h9 => n2 h9.1.symm), if_neg (by omega), if_neg (fun h9 => n3 h9.1.symm)]
      exact hr.2.2.2 j hj
  · rw [if_neg hil] at hr ⊢
    have he : (i : Int) = S.length := by omega
    have hr1 : gel G (gfd G 12 29 m) i = nn := hr.1
    refine ⟨?_, ?_, by show (R ++ [(l, wBd v)]).length ≤ 12; rw [List.length_append]; show R.length + 1 ≤ 12; omega, fun j hj => ?_⟩
    · rw [el, if_neg (fun h9 => n4 h9.1), if_neg (fun h9 => n6 h9.1), if_neg (fun h9 => n5 h9.1)]; exact hr1
    · rw [el, if_pos ⟨rfl, he⟩]
      show _ = (((R ++ [(l, wBd v)]).length : Nat) : Int)
      rw [List.length_append]; rfl
    · have hj9 : j < R.length + 1 := by
        have h9 : j < (R ++ [(l, wBd v)]).length := hj
        rw [List.length_append] at h9
        exact h9
      show gel G32 _ _ = ((R ++ [(l, wBd v)]).getD j (0, 0)).1 ∧ gel G32 _ _ = ((R ++ [(l, wBd v)]).getD j (0, 0)).2
      rw [appD hj9]
      by_cases hjl : j < R.length
      · rw [if_pos hjl]
        refine ⟨?_, ?_⟩
        · rw [el, if_neg (fun h9 => n1 h9.1.symm), if_neg (fun h9 => n3 h9.1), if_neg (by omega)]
          exact (hr.2.2.2 j hjl).1
        · rw [el, if_neg (fun h9 => n2 h9.1.symm), if_neg (by omega), if_neg (fun h9 => n3 h9.1.symm)]
          exact (hr.2.2.2 j hjl).2
      · rw [if_neg hjl]
        refine ⟨?_, ?_⟩
        · rw [el, if_neg (fun h9 => n1 h9.1.symm), if_neg (fun h9 => n3 h9.1), if_pos ⟨rfl, by omega⟩]
        · rw [el, if_neg (fun h9 => n2 h9.1.symm), if_pos ⟨rfl, by omega⟩]
/-! what a word tells of a series: the window -/
theorem gaP_zero : ∀ (L : List (Int × Int)), gaP L (fun _ => 0) 0 = 0 → gaP L (fun _ => 0) = fun _ => 0 := by
  have key : ∀ (L : List (Int × Int)) (W : Nat → Int), 0 ≤ W 0 → gaP L W 0 = 0 → gaP L W = W ∧ W 0 = 0 := by
    intro L
    induction L with
    | nil => intro W h0 h; exact ⟨rfl, h⟩
    | cons y L ih =>
      intro W h0 h
      have e : gaP (y :: L) W = gaP L (if y.2 = -2147483648 then W else incW W y.1 y.2) := rfl
      rw [e] at h ⊢
      by_cases hy : y.2 = -2147483648
      · rw [if_pos hy] at h ⊢; exact ih W h0 h
      · rw [if_neg hy] at h ⊢
        have h1 : incW W y.1 y.2 0 = W 0 + 1 := by
          unfold incW
          by_cases h9 : W 0 = 0
          · rw [if_pos h9]; rfl
          · rw [if_neg h9]; rfl
        have := (ih (incW W y.1 y.2) (by omega) h).2
        omega
  exact fun L h => (key L (fun _ => 0) (Int.le_refl 0) h).1
theorem gaP_snoc (L : List (Int × Int)) (y : Int × Int) (W : Nat → Int) : gaP (L ++ [y]) W = if y.2 = -2147483648 then gaP L W else incW (gaP L W) y.1 y.2 := by
  unfold gaP
  rw [List.foldl_append]; rfl
/-- the window of a sorted list -/
theorem gaP_ok : ∀ (L : List (Int × Int)), ascL L → L.length ≤ 100 → (∀ y ∈ L, (0 ≤ y.1 ∧ y.1 ≤ 100000) ∧ vOk y.2) → WB (gaP L (fun _ => 0)) ∧ gaP L (fun _ => 0) 0 ≤ L.length ∧ (0 < gaP L (fun _ => 0) 0 → ∃ y ∈ L, gaP L (fun _ => 0) 2 = y.1) ∧ (1 < gaP L (fun _ => 0) 0 → gaP L (fun _ => 0) 1 < gaP L (fun _ => 0) 2) := by
  have key : ∀ (n : Nat) (L : List (Int × Int)), L.length = n → ascL L → L.length ≤ 100 → (∀ y ∈ L, (0 ≤ y.1 ∧ y.1 ≤ 100000) ∧ vOk y.2) → WB (gaP L (fun _ => 0)) ∧ gaP L (fun _ => 0) 0 ≤ L.length ∧ (0 < gaP L (fun _ => 0) 0 → ∃ y ∈ L, gaP L (fun _ => 0) 2 = y.1) ∧ (1 < gaP L (fun _ => 0) 0 → gaP L (fun _ => 0) 1 < gaP L (fun _ => 0) 2) := by
    intro n
    induction n with
    | zero =>
      intro L hL _ _ _
      rw [List.length_eq_zero_iff.mp hL]
      exact ⟨⟨Int.le_refl 0, by show (0 : Int) ≤ 100; decide, fun h => absurd h (Int.lt_irrefl 0)⟩, Int.le_refl 0, fun h => absurd h (Int.lt_irrefl 0), fun h => absurd h (by show ¬ (1 : Int) < 0; decide)⟩
    | succ n ih =>
      intro L hL hasc h100 hv
      have hne : L ≠ [] := fun h9 => by rw [h9] at hL; exact absurd hL (by show ¬ 0 = n + 1; omega)
      obtain ⟨L', y, rfl⟩ : ∃ L' y, L = L' ++ [y] := ⟨L.dropLast, L.getLast hne, (List.dropLast_concat_getLast hne).symm⟩
      rw [List.length_append] at hL h100
      have hL' : L'.length = n := by have : L'.length + 1 = n + 1 := hL; omega
      have hpw := List.pairwise_append.mp hasc
      obtain ⟨w1, w2, w3, w4⟩ := ih L' hL' hpw.1 (by have : L'.length + 1 ≤ 100 := h100; omega) (fun z hz => hv z (List.mem_append_left _ hz))
      have hy := hv y (List.mem_append_right _ (List.mem_singleton.mpr rfl))
      have hlast : ∀ z ∈ L', z.1 < y.1 := fun z hz => hpw.2.2 z hz y (List.mem_singleton.mpr rfl)
      have hlen : ((L' ++ [y]).length : Int) = L'.length + 1 := by rw [List.length_append]; rfl
      rw [gaP_snoc, hlen]
      by_cases hst : y.2 = -2147483648
      · rw [if_pos hst]
        exact ⟨w1, by omega, fun h9 => by obtain ⟨z, hz, e⟩ := w3 h9; exact ⟨z, List.mem_append_left _ hz, e⟩, w4⟩
      · rw [if_neg hst]
        have hv9 : -1000000 ≤ y.2 ∧ y.2 ≤ 1000000 := by
          rcases hy.2 with h9 | h9
          · exact (hst h9).elim
          · exact h9
        have h2 : 0 < gaP L' (fun _ => 0) 0 → gaP L' (fun _ => 0) 2 < y.1 := fun h9 => by
          obtain ⟨z, hz, e⟩ := w3 h9
          rw [e]; exact hlast z hz
        have h1001 : L'.length + 1 ≤ 100 := h100
        obtain ⟨o1, o2, o3⟩ := incW_ok (t := y.1) (v := y.2) w1 (by omega) hy.1 (fun h9 => Int.le_of_lt (h2 h9)) hv9
        refine ⟨o1, by rw [o2]; omega, fun _ => ⟨y, List.mem_append_right _ (List.mem_singleton.mpr rfl), o3⟩, fun h9 => ?_⟩
        rw [o2] at h9
        rw [o3]
        have e1 : incW (gaP L' (fun _ => 0)) y.1 y.2 1 = gaP L' (fun _ => 0) 1 := by
          unfold incW
          rw [if_neg (by omega)]; rfl
        rw [e1]
        have := h2 (by omega)
        have h8 := w1.2.2 (by omega)
        omega
  exact fun L => key L.length L rfl
end Sa37
