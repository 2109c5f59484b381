/-! the class's results -/
section S38
variable {E : EE} {G G' G2 : Gt} {c s : Nat} {Q X : Int → Gt → Prop} {a x r : Int}
def rK (G : Gt) (r i : Int) : Int := gel G (gfd G 3 0 r) i
def rW (G : Gt) (r i : Int) : Int := gel G (gfd G 3 1 r) i
def rN (G : Gt) (r : Int) : Int := gfd G 3 2 r
/-- what a result holds: labels and values -/
def rsL (G : Gt) (r : Int) : List (Int × Int) := (List.range (rN G r).toNat).map fun i : Nat => (rK G r (i : Int), rW G r (i : Int))
/-- a result's shape -/
def RSh (G : Gt) (r : Int) : Prop := gcl G r = 4 ∧ (gcl G (gfd G 3 0 r) = 15 ∧ gln G (gfd G 3 0 r) = 12) ∧ (gcl G (gfd G 3 1 r) = 16 ∧ gln G (gfd G 3 1 r) = 12) ∧ (0 ≤ rN G r ∧ rN G r ≤ 12) ∧ (gfd G 3 3 r = 0 ∨ gfd G 3 3 r = 1)
/-- the heap but for one result -/
def RU (G G' : Gt) (r : Int) : Prop := (∀ x, gcl G' x = gcl G x) ∧ (∀ c k x, ¬ (c = 3 ∧ 2 ≤ k ∧ x = r) → gfd G' c k x = gfd G c k x) ∧ (∀ x, gln G' x = gln G x) ∧ (∀ x i, x ≠ gfd G 3 0 r → x ≠ gfd G 3 1 r → gel G' x i = gel G x i)
theorem rsL_len : (rsL G r).length = (rN G r).toNat := by unfold rsL; rw [List.length_map, List.length_range]
theorem rsL_at {i : Nat} (h : i < (rN G r).toNat) : (rsL G r)[i]? = some (rK G r (i : Int), rW G r (i : Int)) := by
  unfold rsL
  rw [List.getElem?_map, List.getElem?_range h]; rfl
def siV (G : Gt) (r : Int) : Int := if gfd G 3 3 r = 0 then 0 else if rN G r ≤ 0 then 0 else rW G r 0
theorem okp_single (h : RSh G r) : OkP E M_X3_single [rv r] G (siV G r) :=
  i_X3_single ⟨h.1, fun _ => h.1, fun _ _ => h.1, fun _ _ => h.2.2.1.1, fun _ _ => by have := h.2.2.1.2; omega, rfl, rfl⟩
/-- where a result has labels, -1 for nowhere -/
def rfV (G : Gt) (r l : Int) : Nat → Int
  | 0 => -1
  | j + 1 => if rK G r (rN G r - (j + 1 : Nat)) = l then rN G r - (j + 1 : Nat) else rfV G r l j
theorem v_rfind {l : Int} (h : RSh G r) : ∀ (j : Nat) (i : Int), 0 ≤ i → i + j = rN G r → V E M_X3_find 2 [some (rv r), some (iv l), some (iv i)] [] G c s (fun q G' => q = rfV G r l j ∧ G' = G) X := by
  have hn : gfd G 3 2 r = rN G r := rfl
  have h12 := h.2.2.2.1
  have hl := h.2.1.2
  intro j
  induction j with
  | zero =>
    intro i h0 hi
    exact b_X3_find_2 ⟨h.1, fun _ => ⟨rfl, rfl⟩, fun h9 => by omega⟩
  | succ j ih =>
    intro i h0 hi
    have e : rN G r - ((j + 1 : Nat) : Int) = i := by omega
    refine b_X3_find_2 ⟨h.1, fun h9 => by omega, fun _ => ⟨h.1, h.2.1.1, h0, by omega, fun h9 => ⟨i32s (by omega), ?_⟩, fun h9 => ⟨?_, rfl⟩⟩⟩
    · have e2 : rfV G r l (j + 1) = rfV G r l j := by
        show (if rK G r (rN G r - ((j + 1 : Nat) : Int)) = l then rN G r - ((j + 1 : Nat) : Int) else rfV G r l j) = _
        rw [e]; exact if_neg h9
      rw [e2]
      exact ih (i + 1) (by omega) (by omega)
    · show i = (if rK G r (rN G r - ((j + 1 : Nat) : Int)) = l then rN G r - ((j + 1 : Nat) : Int) else rfV G r l j)
      rw [e]; exact (if_pos h9).symm
theorem okp_rfind {l : Int} (h : RSh G r) : OkP E M_X3_find [rv r, iv l] G (rfV G r l (rN G r).toNat) :=
  i_X3_find (v_rfind h (rN G r).toNat 0 (Int.le_refl 0) (by have := h.2.2.2.1; omega))
theorem ok_becomeVector (h : gcl G r = 4) : Ok E M_X3_becomeVector [rv r] G 0 0 (fun _ G' => RU G G' r ∧ rN G' r = 0 ∧ gfd G' 3 3 r = 0) (fun _ _ => False) := by
  refine i_X3_becomeVector ⟨h, fun G1 e1 => ⟨by rw [e1]; exact h, fun G2 e2 => ?_⟩⟩
  subst e1 e2
  refine ⟨⟨fun x => rfl, fun c k x hx => ?_, fun x => rfl, fun x i _ _ => rfl⟩, ?_, ?_⟩
  · simp only [gfd_sfd]
    rw [if_neg (fun h9 => hx ⟨h9.1, by omega, h9.2.2⟩), if_neg (fun h9 => hx ⟨h9.1, by omega, h9.2.2⟩)]
  · unfold rN
    rw [gfd_sfd, if_neg (fun h9 => by omega), gfd_sfd, if_pos ⟨rfl, rfl, rfl⟩]
  · rw [gfd_sfd, if_pos ⟨rfl, rfl, rfl⟩]
theorem RU.trans (h : RU G G' r) (h2 : RU G' G2 r) : RU G G2 r := by
  have a0 : gfd G' 3 0 r = gfd G 3 0 r := h.2.1 3 0 r (by omega)
  have a1 : gfd G' 3 1 r = gfd G 3 1 r := h.2.1 3 1 r (by omega)
  exact ⟨fun x => (h2.1 x).trans (h.1 x), fun c k x hx => (h2.2.1 c k x hx).trans (h.2.1 c k x hx), fun x => (h2.2.2.1 x).trans (h.2.2.1 x), fun x i hx hy => (h2.2.2.2 x i (by rw [a0]; exact hx) (by rw [a1]; exact hy)).trans (h.2.2.2 x i hx hy)⟩
theorem RU.refl (G : Gt) (r : Int) : RU G G r := ⟨fun _ => rfl, fun _ _ _ _ => rfl, fun _ => rfl, fun _ _ _ _ => rfl⟩
def cB (v : Int) : Int := max (-100000000000000) (min 100000000000000 v)
theorem cB_eq (v : Int) : cB v = wBd v := by
  unfold cB wBd
  repeat' split
  all_goals omega
theorem v_keepInBounds (h : RSh G r) : ∀ (j : Nat) (i : Int) (G1 : Gt), 0 ≤ i → i + j = rN G r → RU G G1 r → rN G1 r = rN G r → gfd G1 3 3 r = gfd G 3 3 r → (∀ k, rK G1 r k = rK G r k) → (∀ k, rW G1 r k = if 0 ≤ k ∧ k < i then cB (rW G r k) else rW G r k) →
    V E M_X3_keepInBounds 2 [some (rv r), some (iv i)] [] G1 c s (fun _ G' => RU G G' r ∧ rN G' r = rN G r ∧ gfd G' 3 3 r = gfd G 3 3 r ∧ (∀ k, rK G' r k = rK G r k) ∧ ∀ k, 0 ≤ k → k < rN G r → rW G' r k = cB (rW G r k)) X := by
  have h12 := h.2.2.2.1
  intro j
  induction j with
  | zero =>
    intro i G1 h0 hi hU hn hf hK hW
    have hn' : gfd G1 3 2 r = rN G r := hn
    refine b_X3_keepInBounds_2 ⟨by rw [hU.1]; exact h.1, fun _ => ⟨hU, hn, hf, hK, fun k h1 h2 => ?_⟩, fun h9 => by omega⟩
    rw [hW, if_pos ⟨h1, by omega⟩]
  | succ j ih =>
    intro i G1 h0 hi hU hn hf hK hW
    have hn' : gfd G1 3 2 r = rN G r := hn
    have w1 : gcl G1 r = 4 := by rw [hU.1]; exact h.1
    have a0 : gfd G1 3 0 r = gfd G 3 0 r := hU.2.1 3 0 r (by omega)
    have a1 : gfd G1 3 1 r = gfd G 3 1 r := hU.2.1 3 1 r (by omega)
    have c1 : gcl G1 (gfd G1 3 1 r) = 16 := by rw [a1, hU.1]; exact h.2.2.1.1
    have n1 : gln G1 (gfd G1 3 1 r) = 12 := by rw [a1, hU.2.2.1]; exact h.2.2.1.2
    have hne : gfd G 3 0 r ≠ gfd G 3 1 r := fun h9 => by
      have q1 := h.2.1.1
      have q2 := h.2.2.1.1
      rw [h9] at q1; omega
    refine b_X3_keepInBounds_2 ⟨w1, fun h9 => by omega, fun _ => ⟨w1, w1, c1, h0, by omega, c1, h0, by omega, fun G3 e3 => ⟨i32s (by omega), ?_⟩⟩⟩
    have ev : gel G1 (gfd G1 3 1 r) i = rW G r i := by
      have := hW i
      rw [if_neg (by omega)] at this
      exact this
    rw [ev] at e3
    subst e3
    refine ih (i + 1) _ (by omega) (by omega) (hU.trans ⟨fun x => rfl, fun c k x hx => rfl, fun x => rfl, fun x k hx hy => ?_⟩) hn hf (fun k => ?_) (fun k => ?_)
    · rw [gel_sel, if_neg (fun h9 => hy h9.1)]
    · show gel (sel G1 (gfd G1 3 1 r) i _) (gfd G1 3 0 r) k = _
      rw [gel_sel, if_neg (fun h9 => hne (by rw [← a0, ← a1]; exact h9.1))]
      exact hK k
    · show gel (sel G1 (gfd G1 3 1 r) i _) (gfd G1 3 1 r) k = _
      rw [gel_sel]
      by_cases h9 : k = i
      · rw [if_pos ⟨rfl, h9⟩, if_pos (by omega), h9]; rfl
      · rw [if_neg (fun h8 => h9 h8.2)]
        have := hW k
        by_cases h8 : 0 ≤ k ∧ k < i
        · rw [if_pos h8] at this
          rw [if_pos (by omega)]; exact this
        · rw [if_neg h8] at this
          rw [if_neg (by omega)]; exact this
theorem ok_keepInBounds (h : RSh G r) : Ok E M_X3_keepInBounds [rv r] G 0 0 (fun _ G' => RU G G' r ∧ rN G' r = rN G r ∧ gfd G' 3 3 r = gfd G 3 3 r ∧ (∀ k, rK G' r k = rK G r k) ∧ ∀ k, 0 ≤ k → k < rN G r → rW G' r k = cB (rW G r k)) (fun _ _ => False) :=
  i_X3_keepInBounds (v_keepInBounds h (rN G r).toNat 0 G (Int.le_refl 0) (by have := h.2.2.2.1; omega) (RU.refl G r) rfl rfl (fun _ => rfl) (fun k => by rw [if_neg (by omega)]))
end S38
