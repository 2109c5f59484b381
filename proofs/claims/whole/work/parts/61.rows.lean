/-! results as lists of labels and values -/
section S61
variable {E : EE} {G G' G2 : Gt} {c s : Nat} {Q X : Int → Gt → Prop} {a r q l v n m : Int} {W : Nat → Nat → Int → Prop} {L A : Int → Prop}
/-- a result that is a number (1) or not (0), and what it holds -/
def RowH (G : Gt) (r n : Int) (R : List (Int × Int)) : Prop := RSh G r ∧ gfd G 3 3 r = n ∧ rsL G r = R
def putL (l v : Int) : List (Int × Int) → List (Int × Int)
  | [] => [(l, v)]
  | y :: R => if l < y.1 then (l, v) :: y :: R else y :: putL l v R
theorem putL_perm (l v : Int) : ∀ R : List (Int × Int), (putL l v R).Perm ((l, v) :: R)
  | [] => List.Perm.refl _
  | y :: R => by
    unfold putL
    split
    · exact List.Perm.refl _
    · exact ((putL_perm l v R).cons y).trans (List.Perm.swap (l, v) y R)
def ascL (R : List (Int × Int)) : Prop := R.Pairwise (fun p q => p.1 < q.1)
theorem putL_asc : ∀ {R : List (Int × Int)}, ascL R → (∀ p ∈ R, p.1 ≠ l) → ascL (putL l v R)
  | [], _, _ => List.pairwise_singleton _ _
  | y :: R, h, hn => by
    have h1 := List.pairwise_cons.mp h
    unfold putL
    split
    · rename_i hlt
      refine List.pairwise_cons.mpr ⟨fun w hw => ?_, h⟩
      rcases List.mem_cons.mp hw with h9 | h9
      · rw [h9]; exact hlt
      · exact Int.lt_trans hlt (h1.1 w h9)
    · rename_i hlt
      refine List.pairwise_cons.mpr ⟨fun w hw => ?_, putL_asc h1.2 (fun p hp => hn p (List.mem_cons_of_mem _ hp))⟩
      have hy := hn y List.mem_cons_self
      rcases List.mem_cons.mp ((putL_perm l v R).mem_iff.mp hw) with h9 | h9
      · rw [h9]; show y.1 < l; omega
      · exact h1.1 w h9
theorem putL_at : ∀ {R : List (Int × Int)} {p : Nat}, p ≤ R.length → (∀ i, i < p → (R.getD i (0, 0)).1 ≤ l) → (∀ i, p ≤ i → i < R.length → l < (R.getD i (0, 0)).1) → putL l v R = R.take p ++ (l, v) :: R.drop p
  | [], p, hp, _, _ => by
    have : p = 0 := by simpa using hp
    subst this; rfl
  | y :: R, 0, _, _, h2 => by
    have := h2 0 (Nat.le_refl 0) (Nat.succ_pos _)
    unfold putL
    rw [if_pos (show l < y.1 from this)]; rfl
  | y :: R, p + 1, hp, h1, h2 => by
    have h0 := h1 0 (Nat.succ_pos p)
    unfold putL
    rw [if_neg (show ¬ l < y.1 from Int.not_lt.mpr h0)]
    rw [putL_at (R := R) (p := p) (by simpa using hp) (fun i hi => h1 (i + 1) (by omega)) (fun i hi hi2 => h2 (i + 1) (by omega) (by rw [List.length_cons]; omega))]
    rfl
theorem RowH.len {L' : List (Int × Int)} (h : RowH G r n L') : (L'.length : Int) = rN G r := by
  have := congrArg List.length h.2.2
  rw [rsL_len] at this
  have := h.1.2.2.2.1.1
  omega
theorem RowH.at {R : List (Int × Int)} (h : RowH G r n R) {i : Nat} (hi : i < R.length) : R.getD i (0, 0) = (rK G r (i : Int), rW G r (i : Int)) := by
  have hl := h.len
  have := rsL_at (G := G) (r := r) (i := i) (by omega)
  rw [h.2.2] at this
  rw [List.getD_eq_getElem?_getD, this]; rfl
theorem RowH.of {R : List (Int × Int)} (hs : RSh G r) (hn : gfd G 3 3 r = n) (hl : rN G r = R.length) (ha : ∀ i : Nat, i < R.length → (rK G r (i : Int), rW G r (i : Int)) = R.getD i (0, 0)) : RowH G r n R := by
  refine ⟨hs, hn, ?_⟩
  apply List.ext_getElem?
  intro i
  by_cases hi : i < R.length
  · rw [rsL_at (by omega), ha i hi, List.getD_eq_getElem?_getD, List.getElem?_eq_getElem hi]; rfl
  · rw [List.getElem?_eq_none (by rw [rsL_len]; omega), List.getElem?_eq_none (by omega)]
theorem RU.sh (h : RU G G' r) (hs : RSh G r) (hn : 0 ≤ rN G' r ∧ rN G' r ≤ 12) (hf : gfd G' 3 3 r = 0 ∨ gfd G' 3 3 r = 1) : RSh G' r := by
  have e0 : gfd G' 3 0 r = gfd G 3 0 r := h.2.1 3 0 r (by omega)
  have e1 : gfd G' 3 1 r = gfd G 3 1 r := h.2.1 3 1 r (by omega)
  exact ⟨by rw [h.1]; exact hs.1, by rw [e0, h.1, h.2.2.1]; exact hs.2.1, by rw [e1, h.1, h.2.2.1]; exact hs.2.2.1, hn, hf⟩
theorem ok_vec {R : List (Int × Int)} (h : RowH G r n R) : Ok E M_X3_becomeVector [rv r] G 0 0 (fun _ G' => RU G G' r ∧ RowH G' r 0 []) (fun _ _ => False) := by
  refine Ok.mono (ok_becomeVector h.1.1) (fun _ G' ⟨h1, h2, h3⟩ => ⟨h1, RowH.of (h1.sh h.1 (by omega) (Or.inl h3)) h3 h2 (fun i hi => absurd hi (Nat.not_lt_zero i))⟩) (fun _ _ h9 => h9)
theorem ok_num {R : List (Int × Int)} (h : RowH G r n R) : Ok E M_X3_becomeNumber [rv r, jv v] G 0 0 (fun _ G' => RU G G' r ∧ RowH G' r 1 [(666, v)]) (fun _ _ => False) := by
  refine Ok.mono (ok_becomeNumber h.1) (fun _ G' ⟨h1, h2, h3, h4, h5⟩ => ⟨h1, RowH.of (h1.sh h.1 (by omega) (Or.inr h3)) h3 h2 (fun i hi => ?_)⟩) (fun _ _ h9 => h9)
  have : i = 0 := by simpa using hi
  subst this
  exact Prod.ext h4 h5
theorem ok_putR {R : List (Int × Int)} (h : RowH G r n R) (ha : ascL R) (h12 : R.length < 12) : Ok E M_X3_put [rv r, iv l, jv v] G 0 0 (fun _ G' => RU G G' r ∧ RowH G' r n (putL l v R)) (fun _ _ => False) := by
  have hl := h.len
  refine Ok.mono (ok_put h.1 (by omega)) (fun _ G' ⟨p, h1, h2, h3, h4, h5, h6, h7, h8⟩ => ⟨h1, ?_⟩) (fun _ _ h9 => h9)
  obtain ⟨k, rfl⟩ := Int.eq_ofNat_of_zero_le h4.1
  have hk : k ≤ R.length := by omega
  have hlt : ∀ i, i < k → (R.getD i (0, 0)).1 ≤ l := fun i hi => by
    rcases h7 with h9 | h9
    · omega
    · have e1 := h.at (i := k - 1) (by omega)
      have e2 : (R.getD (k - 1) (0, 0)).1 ≤ l := by
        rw [e1, show (((k - 1 : Nat)) : Int) = (k : Int) - 1 by omega]; exact h9
      by_cases h10 : i = k - 1
      · rw [h10]; exact e2
      · have hp := List.pairwise_iff_getElem.mp ha i (k - 1) (by omega) (by omega) (by omega)
        rw [List.getD_eq_getElem?_getD, List.getElem?_eq_getElem (by omega)] at e2 ⊢
        exact Int.le_trans (Int.le_of_lt hp) e2
  have hgt : ∀ i, k ≤ i → i < R.length → l < (R.getD i (0, 0)).1 := fun i hi hi2 => by
    rw [h.at hi2]
    exact h8 i (by omega) (by omega)
  rw [putL_at hk hlt hgt]
  have hlen : (R.take k ++ (l, v) :: R.drop k).length = R.length + 1 := by
    rw [List.length_append, List.length_cons, List.length_take, List.length_drop]; omega
  refine RowH.of (h1.sh h.1 (by omega) (by rw [h3]; exact h.1.2.2.2.2)) (h3.trans h.2.1) (by rw [h2, hlen]; omega) (fun i hi => ?_)
  rw [hlen] at hi
  have k5 := h5 i (by omega) (by omega)
  have k6 := h6 i (by omega) (by omega)
  rw [k5, k6]
  by_cases c1 : i < k
  · have q1 : (i : Int) < (k : Int) := by omega
    rw [if_pos q1, if_pos q1, List.getD_eq_getElem?_getD, List.getElem?_append_left (by rw [List.length_take]; omega), List.getElem?_take, if_pos c1, ← List.getD_eq_getElem?_getD, h.at (by omega)]
  · have q1 : ¬ (i : Int) < (k : Int) := by omega
    rw [if_neg q1, if_neg q1]
    by_cases c2 : i = k
    · have q2 : (i : Int) = (k : Int) := by omega
      rw [if_pos q2, if_pos q2, List.getD_eq_getElem?_getD, List.getElem?_append_right (by rw [List.length_take]; omega), List.length_take, show i - min k R.length = 0 by omega]; rfl
    · have q2 : ¬ (i : Int) = (k : Int) := by omega
      rw [if_neg q2, if_neg q2, List.getD_eq_getElem?_getD, List.getElem?_append_right (by rw [List.length_take]; omega), List.length_take]
      obtain ⟨j, rfl⟩ : ∃ j, i = k + 1 + j := ⟨i - (k + 1), by omega⟩
      rw [show k + 1 + j - min k R.length = j + 1 by omega, List.getElem?_cons_succ, List.getElem?_drop, ← List.getD_eq_getElem?_getD, h.at (by omega), show ((k + 1 + j : Nat) : Int) - 1 = ((k + j : Nat) : Int) by omega]
theorem ok_bndR {R : List (Int × Int)} (h : RowH G r n R) : Ok E M_X3_keepInBounds [rv r] G 0 0 (fun _ G' => RU G G' r ∧ RowH G' r n (R.map fun p => (p.1, wBd p.2))) (fun _ _ => False) := by
  have hl := h.len
  have h12 := h.1.2.2.2.1
  refine Ok.mono (ok_keepInBounds h.1) (fun _ G' ⟨h1, h2, h3, h4, h5⟩ => ⟨h1, ?_⟩) (fun _ _ h9 => h9)
  refine RowH.of (h1.sh h.1 (by omega) (by rw [h3]; exact h.1.2.2.2.2)) (h3.trans h.2.1) (by rw [h2, List.length_map]; omega) (fun i hi => ?_)
  rw [List.length_map] at hi
  rw [h4, h5 i (by omega) (by omega), cB_eq, List.getD_eq_getElem?_getD, List.getElem?_map, List.getElem?_eq_getElem hi]
  have := h.at hi
  rw [List.getD_eq_getElem?_getD, List.getElem?_eq_getElem hi] at this
  have e : R[i] = (rK G r (i : Int), rW G r (i : Int)) := this
  rw [e]; rfl
/-- a result is left -/
theorem RowH.fr {R : List (Int × Int)} (h : RowH G r n R) (k : FR G G' W L A) (w : ∀ j, ¬ W 3 j r) (a0 : ¬ A (gfd G 3 0 r)) (a1 : ¬ A (gfd G 3 1 r)) : RowH G' r n R := by
  obtain ⟨⟨h1, ⟨h2, h3⟩, ⟨h4, h5⟩, h6, h7⟩, h8, h9⟩ := h
  have e : ∀ j, gfd G' 3 j r = gfd G 3 j r := fun j => k.2.1 3 j r (by decide) (by omega) (w j)
  have g0 := k.2.2.2 (gfd G 3 0 r) (by omega) (by omega)
  have g1 := k.2.2.2 (gfd G 3 1 r) (by omega) (by omega)
  have eN : rN G' r = rN G r := e 2
  refine ⟨⟨by rw [k.1 r (by omega)]; exact h1, by rw [e, k.1 _ (by omega), g0.1]; exact ⟨h2, h3⟩, by rw [e, k.1 _ (by omega), g1.1]; exact ⟨h4, h5⟩, by rw [eN]; exact h6, by rw [e]; exact h7⟩, by rw [e]; exact h8, ?_⟩
  rw [← h9]
  unfold rsL
  rw [eN]
  refine List.map_congr_left fun i _ => ?_
  unfold rK rW
  rw [e, e, g0.2 a0, g1.2 a1]
/-- labels found -/
theorem find_none {R : List (Int × Int)} (h : RowH G r n R) : ∀ j : Nat, j ≤ R.length → (rfV G r l j = -1 ∧ ∀ i, R.length - j ≤ i → i < R.length → (R.getD i (0, 0)).1 ≠ l) ∨ (∃ i, R.length - j ≤ i ∧ i < R.length ∧ rfV G r l j = i ∧ (R.getD i (0, 0)).1 = l) := by
  have hl := h.len
  intro j
  induction j with
  | zero => exact fun _ => Or.inl ⟨rfl, fun i h1 h2 => by omega⟩
  | succ j ih =>
    intro hj
    have e : rfV G r l (j + 1) = if rK G r (rN G r - (j + 1 : Nat)) = l then rN G r - (j + 1 : Nat) else rfV G r l j := rfl
    have ea := h.at (i := R.length - (j + 1)) (by omega)
    have ei : ((R.length - (j + 1) : Nat) : Int) = rN G r - (j + 1 : Nat) := by omega
    rw [e]
    by_cases hk : rK G r (rN G r - (j + 1 : Nat)) = l
    · rw [if_pos hk]
      refine Or.inr ⟨R.length - (j + 1), Nat.le_refl _, by omega, ei.symm, ?_⟩
      rw [ea, ei]; exact hk
    · rw [if_neg hk]
      rcases ih (by omega) with ⟨h1, h2⟩ | ⟨i, h1, h2, h3, h4⟩
      · refine Or.inl ⟨h1, fun i h3 h4 => ?_⟩
        by_cases h5 : i = R.length - (j + 1)
        · rw [h5, ea, ei]; exact hk
        · exact h2 i (by omega) h4
      · exact Or.inr ⟨i, by omega, h2, h3, h4⟩
/-- where labels are, -1 for nowhere -/
def fdL (l : Int) (R : List (Int × Int)) (x : Int) : Prop := (x = -1 ∧ ∀ p ∈ R, p.1 ≠ l) ∨ ∃ i : Nat, i < R.length ∧ x = i ∧ (R.getD i (0, 0)).1 = l
theorem RowH.find {R : List (Int × Int)} (h : RowH G r n R) (l : Int) : ∃ x, OkP E M_X3_find [rv r, iv l] G x ∧ fdL l R x := by
  refine ⟨_, okp_rfind h.1, ?_⟩
  have hl := h.len
  rw [show (rN G r).toNat = R.length by omega]
  rcases find_none (l := l) h R.length (Nat.le_refl _) with ⟨h1, h2⟩ | ⟨i, h1, h2, h3, h4⟩
  · refine Or.inl ⟨h1, fun p hp h9 => ?_⟩
    obtain ⟨i, hi, e⟩ := List.getElem_of_mem hp
    refine h2 i (by omega) hi ?_
    rw [List.getD_eq_getElem?_getD, List.getElem?_eq_getElem hi]
    show (R[i]).1 = l
    rw [e]; exact h9
  · exact Or.inr ⟨i, h2, h3, h4⟩
end S61
