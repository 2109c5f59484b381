/-! the groups are copied: a result folded -/
section Sa42
variable {E : EE} {G G' G2 G0 Gs : Gt} {c s : Nat} {Q X : Int → Gt → Prop} {m v b l r u x i nn set g kk : Int} {k j n : Nat} {R A B F T : List (Int × Int)} {S : List Rw}
/-- the row n is written from 0 up -/
def St97 (E : EE) (Gs G : Gt) (m : Int) (n : Nat) (F : List (Int × Int)) (a : Nat) : Prop :=
  MU E Gs G m scP ∧ (∀ k, gfd G 12 k m = gfd Gs 12 k m) ∧ (∀ i : Int, gel G (gfd Gs 12 29 m) i = gel Gs (gfd Gs 12 29 m) i) ∧ (∀ i : Int, i ≠ n → gel G (gfd Gs 12 30 m) i = gel Gs (gfd Gs 12 30 m) i) ∧ gel G (gfd Gs 12 30 m) n = F.length ∧
  (∀ i : Int, i < 12 * n → gel G (gfd Gs 12 31 m) i = gel Gs (gfd Gs 12 31 m) i ∧ gel G (gfd Gs 12 32 m) i = gel Gs (gfd Gs 12 32 m) i) ∧ (∀ j : Nat, j < a → gel G (gfd Gs 12 31 m) (12 * n + j) = (F.getD j (0, 0)).1 ∧ gel G (gfd Gs 12 32 m) (12 * n + j) = (F.getD j (0, 0)).2)
theorem v_g297 (hn : n < 10) (hF : F.length ≤ 12) (hQ : ∀ G', St97 E Gs G' m n (bdL F) F.length → Q 0 G') :
    ∀ (j a : Nat) (G : Gt), a + j = F.length → St97 E Gs G m n (bdL F) a → (∀ i : Nat, i < F.length → gel G (gfd Gs 12 49 m) i = wBd (F.getD i (0, 0)).2 ∧ gel G (gfd Gs 12 50 m) i = (F.getD i (0, 0)).1) → V E M_X12_groups 297 [some (rv m), none, none, some (iv (12 * n)), none, some (iv (F.length : Int)), none, none, some (iv (a : Int)), none, none, none, none] [] G c s Q X := by
  intro j
  induction j with
  | zero =>
    intro a G ha hS _
    refine b_X12_groups_297 ⟨fun _ => hQ G ?_, fun h9 => by omega⟩
    rw [show F.length = a by omega]; exact hS
  | succ j ih =>
    intro a G ha hS h49
    obtain ⟨k0, hf, h29, h30, h30n, h31, hw⟩ := hS
    have hs := k0.1
    have x49 := hs.fx 49 16 12
    have x32 := hs.fx 32 16 120
    have hv := h49 a (by omega)
    refine b_X12_groups_297 ⟨fun h9 => by omega, fun _ => ⟨hs.1, i32s' (by omega), hs.1, x49.1, by omega, by omega, x32.1, by omega, by omega, fun G11 e11 => ?_⟩⟩
    have k11 : MU E Gs G11 m scP := by rw [e11]; exact k0.mSel (by decide) (Or.inl ⟨by decide, by decide⟩)
    have f11 : ∀ k, gfd G11 12 k m = gfd Gs 12 k m := fun k => by rw [e11]; exact hf k
    have y50 := k11.1.fx 50 15 12
    have y31 := k11.1.fx 31 15 120
    refine ⟨k11.1.1, i32s' (by omega), k11.1.1, y50.1, by omega, by omega, y31.1, by omega, by omega, fun G21 e21 => ⟨i32s' (by omega), ?_⟩⟩
    have k21 : MU E Gs G21 m scP := by rw [e21]; exact k11.mSel (by decide) (Or.inl ⟨by decide, by decide⟩)
    have f21 : ∀ k, gfd G21 12 k m = gfd Gs 12 k m := fun k => by rw [e21]; exact f11 k
    have ne : ∀ p q : Nat, p ≠ q → p ∈ mArr → q ∈ mArr → gfd Gs 12 p m ≠ gfd Gs 12 q m := fun p q h1 h2 h3 => by
      rw [← hf p, ← hf q]; exact hs.ne p q h1 h2 h3
    rw [hf 32, hf 49, hv.1] at e11
    rw [f11 31, f11 50] at e21
    have v50 : gel G11 (gfd Gs 12 50 m) a = (F.getD a (0, 0)).1 := by
      rw [e11, gel_sel, if_neg (fun h9 => ne 50 32 (by decide) (by decide) (by decide) h9.1)]
      exact hv.2
    rw [v50] at e21
    have el : ∀ y i, gel G21 y i = if y = gfd Gs 12 31 m ∧ i = 12 * n + a then (F.getD a (0, 0)).1 else if y = gfd Gs 12 32 m ∧ i = 12 * n + a then wBd (F.getD a (0, 0)).2 else gel G y i := fun y i => by
      rw [e21, gel_sel, e11, gel_sel]
    have hot : ∀ (y i : Int), (y ≠ gfd Gs 12 31 m ∧ y ≠ gfd Gs 12 32 m) ∨ i ≠ 12 * (n : Int) + (a : Int) → gel G21 y i = gel G y i := fun y i h9 => by
      have q1 : ¬ (y = gfd Gs 12 31 m ∧ i = 12 * (n : Int) + (a : Int)) := fun h8 => h9.elim (fun h7 => h7.1 h8.1) (fun h7 => h7 h8.2)
      have q2 : ¬ (y = gfd Gs 12 32 m ∧ i = 12 * (n : Int) + (a : Int)) := fun h8 => h9.elim (fun h7 => h7.2 h8.1) (fun h7 => h7 h8.2)
      rw [el, if_neg q1, if_neg q2]
    have ebd : (bdL F).getD a (0, 0) = ((F.getD a (0, 0)).1, wBd (F.getD a (0, 0)).2) := by
      unfold bdL
      rw [List.getD_eq_getElem?_getD, List.getElem?_map, List.getD_eq_getElem?_getD, List.getElem?_eq_getElem (by omega)]; rfl
    have := ih (a + 1) G21 (by omega) ⟨k21, f21, fun i => by
        rw [hot _ _ (Or.inl ⟨ne 29 31 (by decide) (by decide) (by decide), ne 29 32 (by decide) (by decide) (by decide)⟩)]; exact h29 i, fun i hi => by
        rw [hot _ _ (Or.inl ⟨ne 30 31 (by decide) (by decide) (by decide), ne 30 32 (by decide) (by decide) (by decide)⟩)]; exact h30 i hi, by
        rw [hot _ _ (Or.inl ⟨ne 30 31 (by decide) (by decide) (by decide), ne 30 32 (by decide) (by decide) (by decide)⟩)]; exact h30n, fun i hi => by
        rw [hot _ _ (Or.inr (by omega)), hot _ _ (Or.inr (by omega))]; exact h31 i hi, fun i hi => by
        by_cases h9 : i = a
        · rw [h9, ebd, el, if_pos ⟨rfl, rfl⟩, el, if_neg (fun h8 => ne 32 31 (by decide) (by decide) (by decide) h8.1), if_pos ⟨rfl, rfl⟩]
          exact ⟨rfl, rfl⟩
        · rw [hot _ _ (Or.inr (by omega)), hot _ _ (Or.inr (by omega))]
          exact hw i (by omega)⟩ (fun i hi => by
        rw [hot _ _ (Or.inl ⟨ne 49 31 (by decide) (by decide) (by decide), ne 49 32 (by decide) (by decide) (by decide)⟩), hot _ _ (Or.inl ⟨ne 50 31 (by decide) (by decide) (by decide), ne 50 32 (by decide) (by decide) (by decide)⟩)]
        exact h49 i hi)
    exact this
/-- what the written row makes of the pile -/
theorem St97.pile (h : St97 E Gs G m S.length F F.length) (hP : PiM Gs m (S ++ [(nn, R)])) (hF : F.length ≤ 12) : PiM G m (S ++ [(nn, F)]) := by
  obtain ⟨k0, hf, h29, h30, h30n, h31, hw⟩ := h
  obtain ⟨h1, h2, h3⟩ := hP
  have hl : ∀ z : Rw, (S ++ [z]).length = S.length + 1 := fun z => by rw [List.length_append]; rfl
  rw [hl] at h1 h2 h3
  refine ⟨by rw [hf 33, hl]; exact h1, by rw [hl]; exact h2, fun i hi => ?_⟩
  rw [hl] at hi
  have hr := h3 i hi
  rw [appD hi] at hr ⊢
  unfold RowM at hr ⊢
  rw [hf 29, hf 30, hf 31, hf 32, h29]
  by_cases hil : i < S.length
  · rw [if_pos hil] at hr ⊢
    rw [h30 i (by omega)]
    refine ⟨hr.1, hr.2.1, hr.2.2.1, fun j hj => ?_⟩
    have := hr.2.2.1
    have e := h31 (12 * i + j) (by omega)
    rw [e.1, e.2]
    exact hr.2.2.2 j hj
  · rw [if_neg hil] at hr ⊢
    have he : i = S.length := by omega
    rw [he] at hr ⊢
    exact ⟨hr.1, h30n, hF, fun j hj => hw j hj⟩
theorem bdL_id (h : ∀ y ∈ R, bnd y.2) : bdL R = R := by
  unfold bdL
  conv => rhs; rw [← List.map_id R]
  refine List.map_congr_left fun y hy => ?_
  rw [wBd_id (h y hy)]; rfl
theorem bdL_len : (bdL R).length = R.length := by unfold bdL; rw [List.length_map]
theorem PiM.row (hP : PiM G m (S ++ [(nn, R)])) : gfd G 12 33 m = (S.length : Int) + 1 ∧ S.length < 10 ∧ RowM G m (S.length : Int) (nn, R) := by
  obtain ⟨h1, h2, h3⟩ := hP
  have hl : (S ++ [((nn, R) : Rw)]).length = S.length + 1 := by rw [List.length_append]; rfl
  rw [hl] at h1 h2 h3
  have := h3 S.length (by omega)
  rw [appZ, if_neg (Nat.lt_irrefl _), if_pos rfl] at this
  exact ⟨h1, by omega, this⟩
/-- a word folds a result -/
theorem om_groups (hU : MU E G0 G m scP) (hP : PiM G m (S ++ [(nn, R)])) (hR : RV nn R) (hset : 0 ≤ set ∧ set ≤ 7) : Ok E M_X12_groups [rv m, iv kk, iv set] G c s (fun _ G' => MU E G0 G' m scP ∧ PiM G' m (S ++ [(nn, bdL (if nn = 0 then foldR kk set R else R))])) (fun _ _ => False) := by
  obtain ⟨h1, h10, hr1, hr2, hr3, hr4⟩ := hP.row
  have hr1' : gel G (gfd G 12 29 m) (S.length : Int) = nn := hr1
  have hr2' : gel G (gfd G 12 30 m) (S.length : Int) = R.length := hr2
  have hs := hU.1
  have x29 := hs.fx 29 17 10
  have x30 := hs.fx 30 15 10
  have e1 : gfd G 12 33 m - 1 = S.length := by omega
  refine i_X12_groups ?_
  rw [e1, hr1', hr2']
  refine ⟨hs.1, i32s' (by omega), i32s' (by omega), hs.1, hs.1, i32s' (by omega), x30.1, by omega, by omega, hs.1, hs.1, i32s' (by omega), x29.1, by omega, by omega, fun h0 => ?_, fun h0 => ?_⟩
  · rw [if_pos h0]
    have hx : RoX G m S.length R := ⟨h10, hr3, fun j hj => hr4 j hj⟩
    have hFl : (foldR kk set R).length ≤ 12 := Nat.le_trans foldR_len hR.1
    have e0 : upL (-1) (foldR kk set R) = [] := List.filter_eq_nil_iff.mpr fun y hy h9 => by
      obtain ⟨⟨z, hz, e⟩, -⟩ := foldR_mem.mp hy
      have := (cOk_mask (hR.2.2.1 z hz).1 hset).1
      have := of_decide_eq_true h9
      omega
    have := v_g47 (E := E) (X := fun _ _ => False) (kk := kk) (c := c) (s := s) (Q := fun _ G' => MU E G0 G' m scP ∧ PiM G' m (S ++ [(nn, bdL (foldR kk set R))])) hx hR.2.2.1 hset h1 (fun G' G8 hS e8 => ?_) 668 (-1) G (by decide) (Int.le_refl _) (by rw [e0]; exact ⟨MU.refl hs hU.2.1 (hU.2.2.1.1), fun _ => rfl, fun j hj => absurd hj (Nat.not_lt_zero j)⟩)
    · rw [e0] at this
      exact this
    · obtain ⟨k7, f7, h7⟩ := hS
      have k7' : MU E G G' m scP := k7.mono fun k h9 => by unfold scP; omega
      have k8 : MU E G G8 m scP := by
        rw [e8, ← f7 30]; exact k7'.mSel (by decide) (Or.inl ⟨by decide, by decide⟩)
      have f8 : ∀ k, gfd G8 12 k m = gfd G 12 k m := fun k => by rw [e8]; exact f7 k
      have t7 := k7.2.2.2.2.2
      have l7 : ∀ k, ¬ (k = 49 ∨ k = 50) → k ∈ mArr → ∀ i, gel G' (gfd G 12 k m) i = gel G (gfd G 12 k m) i := fun k h8 h9 i => by
        have := t7.e k h8 h9 i
        rw [f7 k] at this; exact this
      have ne : ∀ p q : Nat, p ≠ q → p ∈ mArr → q ∈ mArr → gfd G 12 p m ≠ gfd G 12 q m := fun p q h1 h2 h3 => hs.ne p q h1 h2 h3
      refine v_g297 (F := foldR kk set R) h10 hFl (fun G' hS' => ?_) (foldR kk set R).length 0 G8 (Nat.zero_add _) ⟨k8, f8, fun i => ?_, fun i hi => ?_, ?_, fun i hi => ?_, fun j hj => absurd hj (Nat.not_lt_zero j)⟩ (fun i hi => ?_)
      · rw [← bdL_len (R := foldR kk set R)] at hS'
        exact ⟨hU.trans hS'.1, hS'.pile hP (by rw [bdL_len]; exact hFl)⟩
      · rw [e8, gel_sel, if_neg (fun h9 => ne 29 30 (by decide) (by decide) (by decide) h9.1)]; exact l7 29 (by omega) (by decide) i
      · rw [e8, gel_sel, if_neg (fun h9 => hi h9.2)]; exact l7 30 (by omega) (by decide) i
      · rw [e8, gel_sel, if_pos ⟨rfl, rfl⟩, bdL_len]
      · rw [e8, gel_sel, gel_sel, if_neg (fun h9 => ne 31 30 (by decide) (by decide) (by decide) h9.1), if_neg (fun h9 => ne 32 30 (by decide) (by decide) (by decide) h9.1)]
        exact ⟨l7 31 (by omega) (by decide) i, l7 32 (by omega) (by decide) i⟩
      · rw [e8, gel_sel, gel_sel, if_neg (fun h9 => ne 49 30 (by decide) (by decide) (by decide) h9.1), if_neg (fun h9 => ne 50 30 (by decide) (by decide) (by decide) h9.1)]
        exact h7 i hi
  · rw [if_neg h0, bdL_id fun y hy => (hR.2.2.1 y hy).2]
    exact ⟨hU, hP⟩
end Sa42
