/-! the model joins two results: the call -/
section Sa46
variable {E : EE} {G G' G2 G0 Gs G8 G15 : Gt} {c s : Nat} {Q X : Int → Gt → Prop} {m v b l r u x i nn set g kk fl nl nu : Int} {k j n a : Nat} {R A B F T L U : List (Int × Int)} {S : List Rw}
theorem j_fin (h0 : MU E G0 Gs m scJ) (hS : St93 E Gs G' m F fl) (hF : F.length ≤ 12) (hn : n = S.length) (hn8 : n ≤ 8) (h33 : gfd Gs 12 33 m = (n : Int) + 1) (hrow : ∀ i : Nat, i < n → RowM Gs m i (S.getD i (0, []))) (e8 : G8 = sel G' (gfd Gs 12 29 m) (n : Int) 0) (e15 : G15 = sel G8 (gfd Gs 12 30 m) (n : Int) (F.length : Int))
    (hQ : ∀ G2, MU E G0 G2 m scJ → gfd G2 12 34 m = fl → PiM G2 m (S ++ [(0, bdL F)]) → Q 0 G2) :
    V E M_X12_joins 523 [some (rv m), none, none, some (iv (12 * n)), none, none, none, none, some (iv (F.length : Int)), none, none, some (iv 0), none, none, none, none, none] [] G15 c s Q X := by
  obtain ⟨k1, f1, f34, h49⟩ := id hS
  have k1' : MU E Gs G' m scJ := k1.mono fun k h9 => by unfold scJ; omega
  have k8 : MU E Gs G8 m scJ := by rw [e8, ← f1 29 (by decide) (by decide)]; exact k1'.mSel (by decide) (Or.inl ⟨by decide, by decide⟩)
  have g8 : ∀ k, gfd G8 12 k m = gfd G' 12 k m := fun k => by rw [e8]; rfl
  have k15 : MU E Gs G15 m scJ := by rw [e15, ← f1 30 (by decide) (by decide), ← g8 30]; exact k8.mSel (by decide) (Or.inl ⟨by decide, by decide⟩)
  have g15 : ∀ k, gfd G15 12 k m = gfd G' 12 k m := fun k => by rw [e15]; exact g8 k
  have ne : ∀ p q : Nat, p ≠ q → p ≠ 34 → p ≠ 51 → q ≠ 34 → q ≠ 51 → p ∈ mArr → q ∈ mArr → gfd Gs 12 p m ≠ gfd Gs 12 q m := fun p q h1 h2 h3 h4 h5 h6 h7 h8 => by
    rw [← f1 p h2 h3, ← f1 q h4 h5] at h8; exact k1.1.ne p q h1 h6 h7 h8
  have el : ∀ y i, gel G15 y i = if y = gfd Gs 12 30 m ∧ i = n then (F.length : Int) else if y = gfd Gs 12 29 m ∧ i = n then 0 else gel G' y i := fun y i => by
    rw [e15, gel_sel, e8, gel_sel]
  have l1 : ∀ k, ¬ (k = 34 ∨ 49 ≤ k) → k ∈ mArr → ∀ i, gel G' (gfd Gs 12 k m) i = gel Gs (gfd Gs 12 k m) i := fun k h8 h9 i => by
    have := k1.2.2.2.2.2.e k h8 h9 i
    rw [f1 k (by omega) (by omega)] at this; exact this
  have n3 : gfd Gs 12 29 m ≠ gfd Gs 12 30 m := ne 29 30 (by decide) (by decide) (by decide) (by decide) (by decide) (by decide) (by decide)
  have e3 : ∀ k, k ≠ 29 → k ≠ 30 → ¬ (k = 34 ∨ 49 ≤ k) → k ∈ mArr → ∀ i, gel G15 (gfd Gs 12 k m) i = gel Gs (gfd Gs 12 k m) i := fun k h1 h2 h3 h4 i => by
    rw [el, if_neg (fun h9 => ne k 30 h2 (by omega) (by omega) (by decide) (by decide) h4 (by decide) h9.1), if_neg (fun h9 => ne k 29 h1 (by omega) (by omega) (by decide) (by decide) h4 (by decide) h9.1)]
    exact l1 k h3 h4 i
  have g15s : ∀ k, k ≠ 34 → k ≠ 51 → gfd G15 12 k m = gfd Gs 12 k m := fun k h1 h2 => by rw [g15]; exact f1 k h1 h2
  refine v_j523 (Gs := G15) (F := F) (n := n) (by omega) hF (fun G2 hS2 => ?_) F.length 0 G15 (Nat.zero_add _) ⟨MU.refl k15.1 k15.2.1 k15.2.2.1.1, fun _ => rfl, fun _ => rfl, fun _ _ => rfl, ?_, fun _ _ => ⟨rfl, rfl⟩, fun j hj => absurd hj (Nat.not_lt_zero j)⟩ (fun i hi => ?_)
  · rw [← bdL_len (R := F)] at hS2
    refine hQ G2 (h0.trans (k15.trans (hS2.1.mono fun k h9 => scP_J h9))) (by rw [hS2.2.1, g15]; exact f34) (hS2.pile2 hn (by rw [g15s 33 (by decide) (by decide)]; exact h33) (by omega) ?_ (fun i hi => ?_) (by rw [bdL_len]; exact hF))
    · rw [g15s 29 (by decide) (by decide), el, if_neg (fun h9 => n3 h9.1), if_pos ⟨rfl, rfl⟩]
    · have hr := hrow i hi
      have hni : ¬ ((i : Int) = n) := by omega
      unfold RowM at hr ⊢
      rw [g15s 29 (by decide) (by decide), g15s 30 (by decide) (by decide), g15s 31 (by decide) (by decide), g15s 32 (by decide) (by decide)]
      refine ⟨?_, ?_, hr.2.2.1, fun j hj => ?_⟩
      · rw [el, if_neg (fun h9 => hni h9.2), if_neg (fun h9 => hni h9.2), l1 29 (by decide) (by decide)]; exact hr.1
      · rw [el, if_neg (fun h9 => hni h9.2), if_neg (fun h9 => hni h9.2), l1 30 (by decide) (by decide)]; exact hr.2.1
      · rw [e3 31 (by decide) (by decide) (by decide) (by decide), e3 32 (by decide) (by decide) (by decide) (by decide)]
        exact hr.2.2.2 j hj
  · rw [g15s 30 (by decide) (by decide), el, if_pos ⟨rfl, rfl⟩, bdL_len]
  · have := h49 i hi
    rw [g15s 49 (by decide) (by decide), g15s 50 (by decide) (by decide), el, el, if_neg (fun h9 => ne 49 30 (by decide) (by decide) (by decide) (by decide) (by decide) (by decide) (by decide) h9.1), if_neg (fun h9 => ne 49 29 (by decide) (by decide) (by decide) (by decide) (by decide) (by decide) (by decide) h9.1), if_neg (fun h9 => ne 50 30 (by decide) (by decide) (by decide) (by decide) (by decide) (by decide) (by decide) h9.1), if_neg (fun h9 => ne 50 29 (by decide) (by decide) (by decide) (by decide) (by decide) (by decide) (by decide) h9.1)]
    exact this
theorem find_last {f : Int × Int → Bool} (h : ¬ 2 ≤ U.countP f) : (U.filter f).getLast? = U.find? f := by
  rw [← List.head?_filter]
  rw [List.countP_eq_length_filter] at h
  cases e : U.filter f with
  | nil => rfl
  | cons y W =>
    rw [e, List.length_cons] at h
    have : W = [] := List.length_eq_zero_iff.mp (by omega)
    rw [this]; rfl
theorem jm_jn (h : L.any (fun y => decide (2 ≤ U.countP (sml set (wMask y.1 set)))) = false) : fmJ (jmF kk set U) L = fmJ (jnF kk set U) L := by
  unfold fmJ
  have hf : ∀ y ∈ L, jmF kk set U y = jnF kk set U y := fun y hy => by
    have h1 := List.any_eq_false.mp h y hy
    have h2 : ¬ 2 ≤ U.countP (sml set (wMask y.1 set)) := fun h9 => h1 (decide_eq_true h9)
    unfold jmF jnF
    rw [find_last h2]
    cases U.find? (sml set (wMask y.1 set)) <;> rfl
  clear h
  induction L with
  | nil => rfl
  | cons y L ih =>
    rw [List.filterMap_cons, List.filterMap_cons, hf y List.mem_cons_self, ih fun z hz => hf z (List.mem_cons_of_mem _ hz)]
/-- what a join leaves -/
def JsQ (E : EE) (G0 G' : Gt) (m : Int) (S : List Rw) (o : Option Rw) : Prop := MU E G0 G' m scJ ∧ ((gfd G' 12 34 m = 0 ∧ ∃ x, o = some x ∧ PiM G' m (S ++ [(x.1, bdL x.2)])) ∨ (gfd G' 12 34 m ≠ 0 ∧ o = none))
end Sa46
