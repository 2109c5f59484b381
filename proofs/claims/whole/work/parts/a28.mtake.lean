/-! the model takes a sample -/
section Sa28
variable {E : EE} {G G' G2 G0 : Gt} {c s bc bs : Nat} {Q X : Int → Gt → Prop} {a i v q m x ml mr u l t w z o two wt9 kp f e p n r sx : Int} {k j b : Nat} {T T' : Nat → Prop} {d d' : DS} {ser : List Int} {smp : List (Sm4 × Int)} {sm : List Sm4} {rs : List Int}
theorem sfd_same {c' k' : Nat} {y : Int} : sfd G c' k' y (gfd G c' k' y) = G := by
  have : (fun c2 k2 y2 => if c2 = c' ∧ k2 = k' ∧ y2 = y then gfd G c' k' y else G.2.1 c2 k2 y2) = G.2.1 := by
    funext c2 k2 y2
    split
    · rename_i h9
      rw [h9.1, h9.2.1, h9.2.2]; rfl
    · rfl
  exact Prod.ext rfl (Prod.ext this rfl)
/-- the greatest time of the seen samples of labels -/
def mxT (l : Int) (sm : List Sm4) : Int := sm.foldl (fun a q => if own l q = true then (if qT q ≤ a then a else qT q) else a) (-1)
theorem mxT_snoc (l : Int) (sm : List Sm4) (q : Sm4) : mxT l (sm ++ [q]) = if own l q = true then (if qT q ≤ mxT l sm then mxT l sm else qT q) else mxT l sm := by
  unfold mxT
  rw [List.foldl_append]; rfl
theorem mxT_in (h : ∀ q ∈ sm, 0 ≤ qT q ∧ qT q ≤ 100000) : ∀ n : Nat, n ≤ sm.length → -1 ≤ mxT l (sm.take n) ∧ mxT l (sm.take n) ≤ 100000 ∧ (∀ q ∈ sm.take n, own l q = true → qT q ≤ mxT l (sm.take n)) ∧ (mxT l (sm.take n) = -1 ∨ ∃ q ∈ sm.take n, own l q = true ∧ qT q = mxT l (sm.take n)) := by
  intro n
  induction n with
  | zero => intro _; exact ⟨Int.le_refl _, by show (-1 : Int) ≤ 100000; decide, fun q hq => (List.not_mem_nil hq).elim, Or.inl rfl⟩
  | succ n ih =>
    intro hn
    obtain ⟨a1, a2, a3, a4⟩ := ih (by omega)
    have hlt : n < sm.length := by omega
    rw [takeS (d := (0, 0, 0, 0)) hlt, mxT_snoc]
    have hq := h _ (getD_mem' (v := ((0, 0, 0, 0) : Sm4)) hlt)
    generalize sm.getD n (0, 0, 0, 0) = q at hq ⊢
    by_cases ho : own l q = true
    · rw [if_pos ho]
      by_cases hle : qT q ≤ mxT l (sm.take n)
      · rw [if_pos hle]
        refine ⟨a1, a2, fun y hy hoy => ?_, ?_⟩
        · rcases List.mem_append.mp hy with h9 | h9
          · exact a3 y h9 hoy
          · rw [List.mem_singleton.mp h9]; exact hle
        · rcases a4 with h9 | ⟨y, h9, h8⟩
          · exact Or.inl h9
          · exact Or.inr ⟨y, List.mem_append_left _ h9, h8⟩
      · rw [if_neg hle]
        refine ⟨by omega, by omega, fun y hy hoy => ?_, Or.inr ⟨q, List.mem_append_right _ (List.mem_singleton.mpr rfl), ho, rfl⟩⟩
        rcases List.mem_append.mp hy with h9 | h9
        · have := a3 y h9 hoy; omega
        · rw [List.mem_singleton.mp h9]; exact Int.le_refl _
    · rw [if_neg ho]
      refine ⟨a1, a2, fun y hy hoy => ?_, ?_⟩
      · rcases List.mem_append.mp hy with h9 | h9
        · exact a3 y h9 hoy
        · rw [List.mem_singleton.mp h9] at hoy; exact (ho hoy).elim
      · rcases a4 with h9 | ⟨y, h9, h8⟩
        · exact Or.inl h9
        · exact Or.inr ⟨y, List.mem_append_left _ h9, h8⟩
theorem jdg_hit {A B : List Sm4} {y : Sm4} (hno : ∀ q ∈ A, own l q = true → qT q ≠ t) (ho : own l y = true) (ht : qT y = t) : jdg (A ++ y :: B) l t v = if qV y = v then 2 else 3 := by
  unfold jdg
  have h1 : A.find? (fun q => own l q && decide (qT q = t)) = none := List.find?_eq_none.mpr fun q hq h9 => by
    rw [Bool.and_eq_true] at h9
    exact hno q hq h9.1 (of_decide_eq_true h9.2)
  have h2 : (y :: B).find? (fun q => own l q && decide (qT q = t)) = some y := by
    rw [List.find?_cons_of_pos]
    show (own l y && decide (qT y = t)) = true
    rw [ho, decide_eq_true ht]; rfl
  rw [List.find?_append, h1, h2]; rfl
theorem jdg_miss (ht0 : 0 ≤ t) (h : ∀ q ∈ sm, 0 ≤ qT q ∧ qT q ≤ 100000) (hno : ∀ q ∈ sm, own l q = true → qT q ≠ t) : jdg sm l t v = if t < mxT l sm - 100 then 4 else 0 := by
  have hm := mxT_in (l := l) h sm.length (Nat.le_refl _)
  rw [List.take_length] at hm
  unfold jdg
  have h1 : sm.find? (fun q => own l q && decide (qT q = t)) = none := List.find?_eq_none.mpr fun q hq h9 => by
    rw [Bool.and_eq_true] at h9
    exact hno q hq h9.1 (of_decide_eq_true h9.2)
  rw [h1]
  show (if sm.any (fun q => own l q && decide (t < qT q - 100)) = true then (4 : Int) else 0) = _
  by_cases hh : t < mxT l sm - 100
  · rw [if_pos hh, if_pos]
    rcases hm.2.2.2 with h9 | ⟨q, hq, ho, he⟩
    · omega
    · exact List.any_eq_true.mpr ⟨q, hq, by rw [ho, decide_eq_true (by omega)]; rfl⟩
  · rw [if_neg hh, if_neg]
    intro h9
    obtain ⟨q, hq, h8⟩ := List.any_eq_true.mp h9
    rw [Bool.and_eq_true] at h8
    have := hm.2.2.1 q hq h8.1
    have := of_decide_eq_true h8.2
    omega
theorem MSm.app (h : MSm G m ser smp ml) : MSm G m (ser ++ [l]) smp ml := by
  obtain ⟨h1, h2, h3, h4⟩ := h
  refine ⟨h1, h2, h3, fun k hk => ?_⟩
  obtain ⟨⟨a1, a2, a3⟩, a4⟩ := h4 k hk
  refine ⟨⟨a1, by rw [List.length_append]; show _ < ((ser.length + 1 : Nat) : Int); omega, ?_⟩, a4⟩
  rw [appZ, if_pos (by omega)]; exact a3
/-- a new series in the model -/
theorem mser_add (hU : MU E G0 G m T) (h : MSer G m ser) (hT : T 3 ∧ T 4 ∧ T 5 ∧ T 6) (hn : ser.length < 12) (hz : 0 ≤ z ∧ z ≤ 6) (ho : 0 ≤ o ∧ o ≤ 6) (hw : 0 ≤ w ∧ w ≤ 6) {K : Int → Gt → Prop} (hK : ∀ G2, MU E G0 G2 m T → MT G G2 m (fun k => k = 3 ∨ k = 4 ∨ k = 5 ∨ k = 6) → MSer G2 m (ser ++ [wCode z o w]) → K (gfd G 12 6 m) G2) :
    (gcl G m = 13 ∧ gcl G m = 13 ∧ gcl G (gfd G 12 3 m) = 15 ∧ 0 ≤ (gfd G 12 6 m) ∧ (gfd G 12 6 m) < gln G (gfd G 12 3 m) ∧ ∀ G138 : Gt, G138 = (sel G (gfd G 12 3 m) (gfd G 12 6 m) z) → gcl G138 m = 13 ∧ gcl G138 (gfd G138 12 4 m) = 15 ∧ 0 ≤ (gfd G 12 6 m) ∧ (gfd G 12 6 m) < gln G138 (gfd G138 12 4 m) ∧ ∀ G143 : Gt, G143 = (sel G138 (gfd G138 12 4 m) (gfd G 12 6 m) o) → gcl G143 m = 13 ∧ gcl G143 (gfd G143 12 5 m) = 15 ∧ 0 ≤ (gfd G 12 6 m) ∧ (gfd G 12 6 m) < gln G143 (gfd G143 12 5 m) ∧ ∀ G148 : Gt, G148 = (sel G143 (gfd G143 12 5 m) (gfd G 12 6 m) w) → gcl G148 m = 13 ∧ i32 ((gfd G148 12 6 m) + 1) ∧ gcl G148 m = 13 ∧ ∀ G152 : Gt, G152 = (sfd G148 12 6 m ((gfd G148 12 6 m) + 1)) → K (gfd G 12 6 m) G152) := by
  obtain ⟨h1, h2, h3⟩ := h
  have c3 := hU.1.fx 3 15 12
  refine ⟨hU.1.1, hU.1.1, c3.1, by omega, by omega, fun Ga ea => ?_⟩
  have kA : MU E G0 Ga m T := by rw [ea]; exact hU.mSel (by decide) hT.1
  have a4 := kA.1.fx 4 15 12
  refine ⟨kA.1.1, a4.1, by omega, by omega, fun Gb eb' => ?_⟩
  have kB : MU E G0 Gb m T := by rw [eb']; exact kA.mSel (by decide) hT.2.1
  have b5 := kB.1.fx 5 15 12
  refine ⟨kB.1.1, b5.1, by omega, by omega, fun Gc ec => ?_⟩
  have kC : MU E G0 Gc m T := by rw [ec]; exact kB.mSel (by decide) hT.2.2.1
  have fa : ∀ k, gfd Ga 12 k m = gfd G 12 k m := fun k => by rw [ea]; rfl
  have fb : ∀ k, gfd Gb 12 k m = gfd G 12 k m := fun k => by rw [eb']; exact fa k
  have fc : ∀ k, gfd Gc 12 k m = gfd G 12 k m := fun k => by rw [ec]; exact fb k
  refine ⟨kC.1.1, by rw [fc]; exact i32s' (by omega), kC.1.1, fun Gd ed => hK Gd ?_ ?_ ?_⟩
  · rw [ed]; exact kC.mSfd (by decide) hT.2.2.2
  · have r0 : MU E G G m (fun k => k = 3 ∨ k = 4 ∨ k = 5 ∨ k = 6) := MU.refl hU.1 hU.2.1 hU.2.2.1.1
    have r1 : MU E G Ga m (fun k => k = 3 ∨ k = 4 ∨ k = 5 ∨ k = 6) := by rw [ea]; exact r0.mSel (by decide) (Or.inl rfl)
    have r2 : MU E G Gb m (fun k => k = 3 ∨ k = 4 ∨ k = 5 ∨ k = 6) := by rw [eb']; exact r1.mSel (by decide) (Or.inr (Or.inl rfl))
    have r3 : MU E G Gc m (fun k => k = 3 ∨ k = 4 ∨ k = 5 ∨ k = 6) := by rw [ec]; exact r2.mSel (by decide) (Or.inr (Or.inr (Or.inl rfl)))
    have r4 : MU E G Gd m (fun k => k = 3 ∨ k = 4 ∨ k = 5 ∨ k = 6) := by rw [ed]; exact r3.mSfd (by decide) (Or.inr (Or.inr (Or.inr rfl)))
    exact r4.2.2.2.2.2
  · have fd : ∀ k, k ≠ 6 → gfd Gd 12 k m = gfd G 12 k m := fun k hk => by rw [ed, gfd_sfd, if_neg (fun h9 => hk h9.2.1)]; exact fc k
    have f6 : gfd Gd 12 6 m = (ser.length : Int) + 1 := by rw [ed, gfd_sfd, if_pos ⟨rfl, rfl, rfl⟩, fc, h1]
    have n34 : gfd G 12 3 m ≠ gfd G 12 4 m := hU.1.ne 3 4
    have n35 : gfd G 12 3 m ≠ gfd G 12 5 m := hU.1.ne 3 5
    have n45 : gfd G 12 4 m ≠ gfd G 12 5 m := hU.1.ne 4 5
    have ed' : ∀ y i, gel Gd y i = gel Gc y i := fun y i => by rw [ed]; rfl
    have e3 : ∀ i, gel Gd (gfd Gd 12 3 m) i = if i = ser.length then z else gel G (gfd G 12 3 m) i := fun i => by
      rw [fd 3 (by decide), ed', ec, gel_sel, fb, if_neg (fun h9 => n35 h9.1), eb', gel_sel, fa, if_neg (fun h9 => n34 h9.1), ea, gel_sel, h1]
      simp only [true_and]
    have e4 : ∀ i, gel Gd (gfd Gd 12 4 m) i = if i = ser.length then o else gel G (gfd G 12 4 m) i := fun i => by
      rw [fd 4 (by decide), ed', ec, gel_sel, fb, if_neg (fun h9 => n45 h9.1), eb', gel_sel, fa, h1]
      by_cases hi : i = ser.length
      · rw [if_pos ⟨rfl, hi⟩, if_pos hi]
      · rw [if_neg (fun h9 => hi h9.2), if_neg hi, ea, gel_sel, if_neg (fun h9 => n34 h9.1.symm)]
    have e5 : ∀ i, gel Gd (gfd Gd 12 5 m) i = if i = ser.length then w else gel G (gfd G 12 5 m) i := fun i => by
      rw [fd 5 (by decide), ed', ec, gel_sel, fb, h1]
      by_cases hi : i = ser.length
      · rw [if_pos ⟨rfl, hi⟩, if_pos hi]
      · rw [if_neg (fun h9 => hi h9.2), if_neg hi, eb', gel_sel, fa, if_neg (fun h9 => n45 h9.1.symm), ea, gel_sel, if_neg (fun h9 => n35 h9.1.symm)]
    refine ⟨by rw [f6, List.length_append]; rfl, by rw [List.length_append]; show ser.length + 1 ≤ 12; omega, fun i hi => ?_⟩
    rw [List.length_append] at hi
    have hi' : i < ser.length + 1 := hi
    rw [e3, e4, e5, appD hi']
    by_cases hil : i < ser.length
    · rw [if_neg (by omega), if_neg (by omega), if_neg (by omega), if_pos hil]
      exact h3 i hil
    · rw [if_pos (by omega), if_pos (by omega), if_pos (by omega), if_neg hil]
      exact ⟨⟨hz, ho, hw⟩, rfl⟩
/-- the samples in longer rows -/
theorem MSm.grown {N : Int} (h : MSm G m ser smp ml) (hN : ml ≤ N ∧ N ≤ 20000000) (h12 : gfd G' 12 12 m = gfd G 12 12 m) (hk : ∀ k, 7 ≤ k → k ≤ 11 → gln G' (gfd G' 12 k m) = N ∧ ∀ i : Int, 0 ≤ i → i < smp.length → gel G' (gfd G' 12 k m) i = gel G (gfd G 12 k m) i) : MSm G' m ser smp N := by
  obtain ⟨h1, h2, h3, h4⟩ := h
  refine ⟨h12.trans h1, ⟨by omega, hN.2⟩, ⟨(hk 7 (by decide) (by decide)).1, (hk 8 (by decide) (by decide)).1, (hk 9 (by decide) (by decide)).1, (hk 10 (by decide) (by decide)).1, (hk 11 (by decide) (by decide)).1⟩, fun k hk9 => ?_⟩
  rw [(hk 7 (by decide) (by decide)).2 _ (by omega) (by omega), (hk 8 (by decide) (by decide)).2 _ (by omega) (by omega), (hk 9 (by decide) (by decide)).2 _ (by omega) (by omega), (hk 10 (by decide) (by decide)).2 _ (by omega) (by omega), (hk 11 (by decide) (by decide)).2 _ (by omega) (by omega)]
  exact h4 k hk9
/-- one more sample -/
theorem MSm.put {q9 : Sm4 × Int} (h : MSm G m ser smp ml) (hlt : smp.length < ml) (h12 : gfd G' 12 12 m = (smp.length : Int) + 1) (hl : ∀ k, 7 ≤ k → k ≤ 11 → gln G' (gfd G' 12 k m) = ml) (hx : 0 ≤ x ∧ x < ser.length ∧ ser.getD x.toNat 0 = qC q9.1)
    (e7 : ∀ i, gel G' (gfd G' 12 7 m) i = if i = smp.length then x else gel G (gfd G 12 7 m) i) (e8 : ∀ i, gel G' (gfd G' 12 8 m) i = if i = smp.length then qT q9.1 else gel G (gfd G 12 8 m) i) (e9 : ∀ i, gel G' (gfd G' 12 9 m) i = if i = smp.length then qV q9.1 else gel G (gfd G 12 9 m) i) (e10 : ∀ i, gel G' (gfd G' 12 10 m) i = if i = smp.length then qH q9.1 else gel G (gfd G 12 10 m) i) (e11 : ∀ i, gel G' (gfd G' 12 11 m) i = if i = smp.length then q9.2 else gel G (gfd G 12 11 m) i) : MSm G' m ser (smp ++ [q9]) ml := by
  obtain ⟨h1, h2, h3, h4⟩ := h
  refine ⟨by rw [h12, List.length_append]; rfl, ⟨by rw [List.length_append]; show ((smp.length + 1 : Nat) : Int) ≤ ml; omega, h2.2⟩, ⟨hl 7 (by decide) (by decide), hl 8 (by decide) (by decide), hl 9 (by decide) (by decide), hl 10 (by decide) (by decide), hl 11 (by decide) (by decide)⟩, fun k hk => ?_⟩
  rw [List.length_append] at hk
  have hk' : k < smp.length + 1 := hk
  rw [e7, e8, e9, e10, e11, appD hk']
  by_cases hkl : k < smp.length
  · have hne : ¬ ((k : Int) = smp.length) := by omega
    simp only [if_neg hne, if_pos hkl]
    exact h4 k hkl
  · have he : (k : Int) = smp.length := by omega
    simp only [if_pos he, if_neg hkl, and_self, and_true]
    exact hx
end Sa28
