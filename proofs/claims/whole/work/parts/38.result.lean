/-! the class's results -/
section S38
variable {E : EE} {G G' G2 : Gt} {c s : Nat} {Q X : Int → Gt → Prop} {a x r : Int}
def rK (G : Gt) (r i : Int) : Int := gel G (gfd G 3 0 r) i
def rW (G : Gt) (r i : Int) : Int := gel G (gfd G 3 1 r) i
def rN (G : Gt) (r : Int) : Int := gfd G 3 2 r
/-- what a result holds: labels and values -/
def rsL (G : Gt) (r : Int) : List (Int × Int) := (List.range (rN G r).toNat).map fun i : Nat => (rK G r (i : Int), rW G r (i : Int))
/-- a result's shape -/
def RSh (G : Gt) (r : Int) : Prop := gcl G r = 4 ∧ (gcl G (gfd G 3 0 r) = 15 ∧ gln G (gfd G 3 0 r) = 12) ∧ (gcl G (gfd G 3 1 r) = 16 ∧ gln G (gfd G 3 1 r) = 12) ∧ (0 ≤ rN G r ∧ rN G r ≤ 12) ∧ (gfd G 3 3 r = 0 ∨ gfd G 3 3 r = 1)
/-- the heap but for one result -/
def RU (G G' : Gt) (r : Int) : Prop := (∀ x, gcl G' x = gcl G x) ∧ (∀ c k x, ¬ (c = 3 ∧ 2 ≤ k ∧ x = r) → gfd G' c k x = gfd G c k x) ∧ (∀ x, gln G' x = gln G x) ∧ (∀ x i, x ≠ gfd G 3 0 r → x ≠ gfd G 3 1 r → gel G' x i = gel G x i)
theorem rsL_len : (rsL G r).length = (rN G r).toNat := by unfold rsL; rw [List.length_map, List.length_range]
theorem rsL_at {i : Nat} (h : i < (rN G r).toNat) : (rsL G r)[i]? = some (rK G r (i : Int), rW G r (i : Int)) := by
  unfold rsL
  rw [List.getElem?_map, List.getElem?_range h]; rfl
def siV (G : Gt) (r : Int) : Int := if gfd G 3 3 r = 0 then 0 else if rN G r ≤ 0 then 0 else rW G r 0
theorem okp_single (h : RSh G r) : OkP E M_X3_single [rv r] G (siV G r) :=
  i_X3_single ⟨h.1, fun _ => h.1, fun _ _ => h.1, fun _ _ => h.2.2.1.1, fun _ _ => by have := h.2.2.1.2; omega, rfl, rfl⟩
/-- where a result has labels, -1 for nowhere -/
def rfV (G : Gt) (r l : Int) : Nat → Int
  | 0 => -1
  | j + 1 => if rK G r (rN G r - (j + 1 : Nat)) = l then rN G r - (j + 1 : Nat) else rfV G r l j
theorem v_rfind {l : Int} (h : RSh G r) : ∀ (j : Nat) (i : Int), 0 ≤ i → i + j = rN G r → V E M_X3_find 2 [some (rv r), some (iv l), some (iv i)] [] G c s (fun q G' => q = rfV G r l j ∧ G' = G) X := by
  have hn : gfd G 3 2 r = rN G r := rfl
  have h12 := h.2.2.2.1
  have hl := h.2.1.2
  intro j
  induction j with
  | zero =>
    intro i h0 hi
    exact b_X3_find_2 ⟨h.1, fun _ => ⟨rfl, rfl⟩, fun h9 => by omega⟩
  | succ j ih =>
    intro i h0 hi
    have e : rN G r - ((j + 1 : Nat) : Int) = i := by omega
    refine b_X3_find_2 ⟨h.1, fun h9 => by omega, fun _ => ⟨h.1, h.2.1.1, h0, by omega, fun h9 => ⟨i32s (by omega), ?_⟩, fun h9 => ⟨?_, rfl⟩⟩⟩
    · have e2 : rfV G r l (j + 1) = rfV G r l j := by
        show (if rK G r (rN G r - ((j + 1 : Nat) : Int)) = l then rN G r - ((j + 1 : Nat) : Int) else rfV G r l j) = _
        rw [e]; exact if_neg h9
      rw [e2]
      exact ih (i + 1) (by omega) (by omega)
    · show i = (if rK G r (rN G r - ((j + 1 : Nat) : Int)) = l then rN G r - ((j + 1 : Nat) : Int) else rfV G r l j)
      rw [e]; exact (if_pos h9).symm
theorem okp_rfind {l : Int} (h : RSh G r) : OkP E M_X3_find [rv r, iv l] G (rfV G r l (rN G r).toNat) :=
  i_X3_find (v_rfind h (rN G r).toNat 0 (Int.le_refl 0) (by have := h.2.2.2.1; omega))
theorem ok_becomeVector (h : gcl G r = 4) : Ok E M_X3_becomeVector [rv r] G 0 0 (fun _ G' => RU G G' r ∧ rN G' r = 0 ∧ gfd G' 3 3 r = 0) (fun _ _ => False) := by
  refine i_X3_becomeVector ⟨h, fun G1 e1 => ⟨by rw [e1]; exact h, fun G2 e2 => ?_⟩⟩
  subst e1 e2
  refine ⟨⟨fun x => rfl, fun c k x hx => ?_, fun x => rfl, fun x i _ _ => rfl⟩, ?_, ?_⟩
  · simp only [gfd_sfd]
    rw [if_neg (fun h9 => hx ⟨h9.1, by omega, h9.2.2⟩), if_neg (fun h9 => hx ⟨h9.1, by omega, h9.2.2⟩)]
  · unfold rN
    rw [gfd_sfd, if_neg (fun h9 => by omega), gfd_sfd, if_pos ⟨rfl, rfl, rfl⟩]
  · rw [gfd_sfd, if_pos ⟨rfl, rfl, rfl⟩]
theorem RU.trans (h : RU G G' r) (h2 : RU G' G2 r) : RU G G2 r := by
  have a0 : gfd G' 3 0 r = gfd G 3 0 r := h.2.1 3 0 r (by omega)
  have a1 : gfd G' 3 1 r = gfd G 3 1 r := h.2.1 3 1 r (by omega)
  exact ⟨fun x => (h2.1 x).trans (h.1 x), fun c k x hx => (h2.2.1 c k x hx).trans (h.2.1 c k x hx), fun x => (h2.2.2.1 x).trans (h.2.2.1 x), fun x i hx hy => (h2.2.2.2 x i (by rw [a0]; exact hx) (by rw [a1]; exact hy)).trans (h.2.2.2 x i hx hy)⟩
theorem RU.refl (G : Gt) (r : Int) : RU G G r := ⟨fun _ => rfl, fun _ _ _ _ => rfl, fun _ => rfl, fun _ _ _ _ => rfl⟩
def cB (v : Int) : Int := max (-100000000000000) (min 100000000000000 v)
theorem cB_eq (v : Int) : cB v = wBd v := by
  unfold cB wBd
  repeat' split
  all_goals omega
theorem v_keepInBounds (h : RSh G r) : ∀ (j : Nat) (i : Int) (G1 : Gt), 0 ≤ i → i + j = rN G r → RU G G1 r → rN G1 r = rN G r → gfd G1 3 3 r = gfd G 3 3 r → (∀ k, rK G1 r k = rK G r k) → (∀ k, rW G1 r k = if 0 ≤ k ∧ k < i then cB (rW G r k) else rW G r k) →
    V E M_X3_keepInBounds 2 [some (rv r), some (iv i)] [] G1 c s (fun _ G' => RU G G' r ∧ rN G' r = rN G r ∧ gfd G' 3 3 r = gfd G 3 3 r ∧ (∀ k, rK G' r k = rK G r k) ∧ ∀ k, 0 ≤ k → k < rN G r → rW G' r k = cB (rW G r k)) X := by
  have h12 := h.2.2.2.1
  intro j
  induction j with
  | zero =>
    intro i G1 h0 hi hU hn hf hK hW
    have hn' : gfd G1 3 2 r = rN G r := hn
    refine b_X3_keepInBounds_2 ⟨by rw [hU.1]; exact h.1, fun _ => ⟨hU, hn, hf, hK, fun k h1 h2 => ?_⟩, fun h9 => by omega⟩
    rw [hW, if_pos ⟨h1, by omega⟩]
  | succ j ih =>
    intro i G1 h0 hi hU hn hf hK hW
    have hn' : gfd G1 3 2 r = rN G r := hn
    have w1 : gcl G1 r = 4 := by rw [hU.1]; exact h.1
    have a0 : gfd G1 3 0 r = gfd G 3 0 r := hU.2.1 3 0 r (by omega)
    have a1 : gfd G1 3 1 r = gfd G 3 1 r := hU.2.1 3 1 r (by omega)
    have c1 : gcl G1 (gfd G1 3 1 r) = 16 := by rw [a1, hU.1]; exact h.2.2.1.1
    have n1 : gln G1 (gfd G1 3 1 r) = 12 := by rw [a1, hU.2.2.1]; exact h.2.2.1.2
    have hne : gfd G 3 0 r ≠ gfd G 3 1 r := fun h9 => by
      have q1 := h.2.1.1
      have q2 := h.2.2.1.1
      rw [h9] at q1; omega
    refine b_X3_keepInBounds_2 ⟨w1, fun h9 => by omega, fun _ => ⟨w1, w1, c1, h0, by omega, c1, h0, by omega, fun G3 e3 => ⟨i32s (by omega), ?_⟩⟩⟩
    have ev : gel G1 (gfd G1 3 1 r) i = rW G r i := by
      have := hW i
      rw [if_neg (by omega)] at this
      exact this
    rw [ev] at e3
    subst e3
    refine ih (i + 1) _ (by omega) (by omega) (hU.trans ⟨fun x => rfl, fun c k x hx => rfl, fun x => rfl, fun x k hx hy => ?_⟩) hn hf (fun k => ?_) (fun k => ?_)
    · rw [gel_sel, if_neg (fun h9 => hy h9.1)]
    · show gel (sel G1 (gfd G1 3 1 r) i _) (gfd G1 3 0 r) k = _
      rw [gel_sel, if_neg (fun h9 => hne (by rw [← a0, ← a1]; exact h9.1))]
      exact hK k
    · show gel (sel G1 (gfd G1 3 1 r) i _) (gfd G1 3 1 r) k = _
      rw [gel_sel]
      by_cases h9 : k = i
      · rw [if_pos ⟨rfl, h9⟩, if_pos (by omega), h9]; rfl
      · rw [if_neg (fun h8 => h9 h8.2)]
        have := hW k
        by_cases h8 : 0 ≤ k ∧ k < i
        · rw [if_pos h8] at this
          rw [if_pos (by omega)]; exact this
        · rw [if_neg h8] at this
          rw [if_neg (by omega)]; exact this
theorem ok_keepInBounds (h : RSh G r) : Ok E M_X3_keepInBounds [rv r] G 0 0 (fun _ G' => RU G G' r ∧ rN G' r = rN G r ∧ gfd G' 3 3 r = gfd G 3 3 r ∧ (∀ k, rK G' r k = rK G r k) ∧ ∀ k, 0 ≤ k → k < rN G r → rW G' r k = cB (rW G r k)) (fun _ _ => False) :=
  i_X3_keepInBounds (v_keepInBounds h (rN G r).toNat 0 G (Int.le_refl 0) (by have := h.2.2.2.1; omega) (RU.refl G r) rfl rfl (fun _ => rfl) (fun k => by rw [if_neg (by omega)]))
/-- a label and a value put at their place -/
def PUT (G G' : Gt) (r l v p : Int) : Prop := RU G G' r ∧ rN G' r = rN G r + 1 ∧ gfd G' 3 3 r = gfd G 3 3 r ∧ (0 ≤ p ∧ p ≤ rN G r) ∧ (∀ k, 0 ≤ k → k ≤ rN G r → rK G' r k = if k < p then rK G r k else if k = p then l else rK G r (k - 1)) ∧
  (∀ k, 0 ≤ k → k ≤ rN G r → rW G' r k = if k < p then rW G r k else if k = p then v else rW G r (k - 1)) ∧ (p = 0 ∨ rK G r (p - 1) ≤ l) ∧ ∀ k, p ≤ k → k < rN G r → l < rK G r k
theorem v_put {l v : Int} (h : RSh G r) (hn12 : rN G r < 12) : ∀ (j : Nat) (G1 : Gt), (j : Int) ≤ rN G r → RU G G1 r → rN G1 r = rN G r → gfd G1 3 3 r = gfd G 3 3 r → (∀ k, rK G1 r k = if (j : Int) < k ∧ k ≤ rN G r then rK G r (k - 1) else rK G r k) → (∀ k, rW G1 r k = if (j : Int) < k ∧ k ≤ rN G r then rW G r (k - 1) else rW G r k) → (∀ k, (j : Int) ≤ k → k < rN G r → l < rK G r k) →
    V E M_X3_put 31 [some (rv r), some (iv l), some (jv v), none, some (iv (j : Int))] [] G1 c s (fun _ G' => ∃ p, PUT G G' r l v p) X := by
  have h12 := h.2.2.2.1
  have hne : gfd G 3 0 r ≠ gfd G 3 1 r := fun h9 => by
    have q1 := h.2.1.1
    have q2 := h.2.2.1.1
    rw [h9] at q1; omega
  have body : ∀ (p : Nat) (G1 : Gt), (p : Int) ≤ rN G r → RU G G1 r → rN G1 r = rN G r → gfd G1 3 3 r = gfd G 3 3 r → (∀ k, rK G1 r k = if (p : Int) < k ∧ k ≤ rN G r then rK G r (k - 1) else rK G r k) → (∀ k, rW G1 r k = if (p : Int) < k ∧ k ≤ rN G r then rW G r (k - 1) else rW G r k) → (∀ k, (p : Int) ≤ k → k < rN G r → l < rK G r k) → ((p : Int) = 0 ∨ rK G r ((p : Int) - 1) ≤ l) →
      (gcl G1 r = 4 ∧ gcl G1 (gfd G1 3 0 r) = 15 ∧ 0 ≤ (p : Int) ∧ (p : Int) < gln G1 (gfd G1 3 0 r) ∧ ∀ G6 : Gt, G6 = (sel G1 (gfd G1 3 0 r) p l) → gcl G6 r = 4 ∧ gcl G6 (gfd G6 3 1 r) = 16 ∧ 0 ≤ (p : Int) ∧ (p : Int) < gln G6 (gfd G6 3 1 r) ∧ ∀ G11 : Gt, G11 = (sel G6 (gfd G6 3 1 r) p v) → gcl G11 r = 4 ∧ i32 ((gfd G11 3 2 r) + 1) ∧ gcl G11 r = 4 ∧ ∀ G15 : Gt, G15 = (sfd G11 3 2 r ((gfd G11 3 2 r) + 1)) → ∃ q, PUT G G15 r l v q) := by
    intro p G1 hj hU hn hf hK hW hg hp
    have w1 : gcl G1 r = 4 := by rw [hU.1]; exact h.1
    have a0 : gfd G1 3 0 r = gfd G 3 0 r := hU.2.1 3 0 r (by omega)
    have a1 : gfd G1 3 1 r = gfd G 3 1 r := hU.2.1 3 1 r (by omega)
    have c0 : gcl G1 (gfd G1 3 0 r) = 15 := by rw [a0, hU.1]; exact h.2.1.1
    have n0 : gln G1 (gfd G1 3 0 r) = 12 := by rw [a0, hU.2.2.1]; exact h.2.1.2
    have c1 : gcl G1 (gfd G1 3 1 r) = 16 := by rw [a1, hU.1]; exact h.2.2.1.1
    have n1 : gln G1 (gfd G1 3 1 r) = 12 := by rw [a1, hU.2.2.1]; exact h.2.2.1.2
    have hn' : gfd G1 3 2 r = rN G r := hn
    refine ⟨w1, c0, by omega, by omega, fun G2 e2 => ⟨by rw [e2]; exact w1, by rw [e2]; exact c1, by omega, by rw [e2]; show (p : Int) < gln G1 (gfd G1 3 1 r); omega, fun G3 e3 => ⟨by rw [e3, e2]; exact w1, by rw [e3, e2]; exact i32s (by show _ ≤ gfd G1 3 2 r + 1 ∧ gfd G1 3 2 r + 1 ≤ _; omega), by rw [e3, e2]; exact w1, fun G4 e4 => ⟨p, ?_⟩⟩⟩⟩
    subst e2 e3 e4
    have hne1 : gfd G1 3 0 r ≠ gfd G1 3 1 r := by rw [a0, a1]; exact hne
    refine ⟨hU.trans ⟨fun x => rfl, fun c k x hx => ?_, fun x => rfl, fun x k hx hy => ?_⟩, ?_, hf, ⟨by omega, hj⟩, fun k h1 h2 => ?_, fun k h1 h2 => ?_, hp, hg⟩
    · rw [gfd_sfd, if_neg (fun h9 => hx ⟨h9.1, by omega, h9.2.2⟩)]; rfl
    · rw [gel_sfd, gel_sel]
      rw [if_neg (fun h9 => hy h9.1), gel_sel, if_neg (fun h9 => hx h9.1)]
    · unfold rN
      rw [gfd_sfd, if_pos ⟨rfl, rfl, rfl⟩]
      show gfd G1 3 2 r + 1 = rN G r + 1
      omega
    · show gel (sel (sel G1 (gfd G1 3 0 r) p l) (gfd G1 3 1 r) p v) (gfd G1 3 0 r) k = _
      rw [gel_sel, if_neg (fun h9 => hne1 h9.1), gel_sel]
      have := hK k
      by_cases e1 : k = p
      · rw [if_pos ⟨rfl, e1⟩, if_neg (by omega), if_pos e1]
      · rw [if_neg (fun h9 => e1 h9.2)]
        by_cases e2 : k < p
        · rw [if_pos e2]; rw [if_neg (by omega)] at this; exact this
        · rw [if_neg e2, if_neg e1]; rw [if_pos (by omega)] at this; exact this
    · show gel (sel (sel G1 (gfd G1 3 0 r) p l) (gfd G1 3 1 r) p v) (gfd G1 3 1 r) k = _
      rw [gel_sel]
      have := hW k
      by_cases e1 : k = p
      · rw [if_pos ⟨rfl, e1⟩, if_neg (by omega), if_pos e1]
      · rw [if_neg (fun h9 => e1 h9.2), gel_sel, if_neg (fun h9 => hne1 h9.1.symm)]
        by_cases e2 : k < p
        · rw [if_pos e2]; rw [if_neg (by omega)] at this; exact this
        · rw [if_neg e2, if_neg e1]; rw [if_pos (by omega)] at this; exact this
  intro j
  induction j with
  | zero =>
    intro G1 hj hU hn hf hK hW hg
    exact b_X3_put_31 (fun J hJ => ⟨fun _ => hJ (body 0 G1 hj hU hn hf hK hW hg (Or.inl rfl)), fun h9 => by omega⟩)
  | succ j ih =>
    intro G1 hj hU hn hf hK hW hg
    have w1 : gcl G1 r = 4 := by rw [hU.1]; exact h.1
    have a0 : gfd G1 3 0 r = gfd G 3 0 r := hU.2.1 3 0 r (by omega)
    have a1 : gfd G1 3 1 r = gfd G 3 1 r := hU.2.1 3 1 r (by omega)
    have c0 : gcl G1 (gfd G1 3 0 r) = 15 := by rw [a0, hU.1]; exact h.2.1.1
    have n0 : gln G1 (gfd G1 3 0 r) = 12 := by rw [a0, hU.2.2.1]; exact h.2.1.2
    have c1 : gcl G1 (gfd G1 3 1 r) = 16 := by rw [a1, hU.1]; exact h.2.2.1.1
    have n1 : gln G1 (gfd G1 3 1 r) = 12 := by rw [a1, hU.2.2.1]; exact h.2.2.1.2
    have hne1 : gfd G1 3 0 r ≠ gfd G1 3 1 r := by rw [a0, a1]; exact hne
    have e0 : ((j + 1 : Nat) : Int) - 1 = (j : Int) := by omega
    have e1 : ((j + 1 : Nat) : Int) + (-1) = (j : Int) := by omega
    have kj : rK G1 r j = rK G r j := by rw [hK, if_neg (by omega)]
    have wj : rW G1 r j = rW G r j := by rw [hW, if_neg (by omega)]
    refine b_X3_put_31 (fun J hJ => ⟨fun h9 => by omega, fun _ => ?_⟩)
    rw [e0, e1]
    refine ⟨w1, i32s (by omega), c0, by omega, by omega, fun h9 => hJ (body (j + 1) G1 hj hU hn hf hK hW hg (Or.inr ?_)), fun h9 => ⟨w1, w1, i32s (by omega), c0, by omega, by omega, c0, by omega, by omega, fun G2 e2 => ⟨by rw [e2]; exact w1, by rw [e2]; exact w1, i32s (by omega), by rw [e2]; exact c1, by omega, by rw [e2]; show (j : Int) < gln G1 (gfd G1 3 1 r); omega, by rw [e2]; exact c1, by omega, by rw [e2]; show ((j + 1 : Nat) : Int) < gln G1 (gfd G1 3 1 r); omega, fun G3 e3 => ⟨i32s (by omega), ?_⟩⟩⟩⟩
    · rw [e0]
      have : rK G1 r j ≤ l := h9
      omega
    · have h9' : l < rK G1 r j := h9
      subst e2 e3
      refine ih _ (by omega) (hU.trans ⟨fun x => rfl, fun c k x hx => rfl, fun x => rfl, fun x k hx hy => ?_⟩) hn hf (fun k => ?_) (fun k => ?_) (fun k h1 h2 => ?_)
      · rw [gel_sel]
        rw [if_neg (fun h9 => hy h9.1), gel_sel, if_neg (fun h9 => hx h9.1)]
      · show gel (sel (sel G1 (gfd G1 3 0 r) (j + 1 : Nat) (rK G1 r j)) (gfd G1 3 1 r) (j + 1 : Nat) _) (gfd G1 3 0 r) k = _
        rw [gel_sel, if_neg (fun h9 => hne1 h9.1), gel_sel]
        have := hK k
        by_cases e5 : k = ((j + 1 : Nat) : Int)
        · rw [if_pos ⟨rfl, e5⟩, if_pos (by omega), kj]
          congr 1
          omega
        · rw [if_neg (fun h9 => e5 h9.2)]
          by_cases e6 : ((j + 1 : Nat) : Int) < k ∧ k ≤ rN G r
          · rw [if_pos e6] at this
            rw [if_pos (by omega)]; exact this
          · rw [if_neg e6] at this
            rw [if_neg (by omega)]; exact this
      · show gel (sel (sel G1 (gfd G1 3 0 r) (j + 1 : Nat) (rK G1 r j)) (gfd G1 3 1 r) (j + 1 : Nat) (gel (sel G1 (gfd G1 3 0 r) (j + 1 : Nat) (rK G1 r j)) (gfd G1 3 1 r) (j : Int))) (gfd G1 3 1 r) k = _
        have f : ∀ y, gel (sel G1 (gfd G1 3 0 r) (j + 1 : Nat) (rK G1 r j)) (gfd G1 3 1 r) y = gel G1 (gfd G1 3 1 r) y := fun y => by rw [gel_sel, if_neg (fun h9 => hne1 h9.1.symm)]
        rw [gel_sel, f, f]
        have := hW k
        by_cases e5 : k = ((j + 1 : Nat) : Int)
        · rw [if_pos ⟨rfl, e5⟩, if_pos (by omega)]
          show rW G1 r j = _
          rw [wj]
          congr 1
          omega
        · rw [if_neg (fun h9 => e5 h9.2)]
          by_cases e6 : ((j + 1 : Nat) : Int) < k ∧ k ≤ rN G r
          · rw [if_pos e6] at this
            rw [if_pos (by omega)]; exact this
          · rw [if_neg e6] at this
            rw [if_neg (by omega)]; exact this
      · by_cases e5 : k = (j : Int)
        · rw [e5, ← kj]; exact h9'
        · exact hg k (by omega) h2
theorem ok_put {l v : Int} (h : RSh G r) (hn12 : rN G r < 12) : Ok E M_X3_put [rv r, iv l, jv v] G 0 0 (fun _ G' => ∃ p, PUT G G' r l v p) (fun _ _ => False) := by
  have h12 := h.2.2.2.1
  have e0 : gfd G 3 2 r = rN G r := rfl
  have a1 := h.2.1
  have a2 := h.2.2.1
  refine i_X3_put ⟨h.1, h.1, by omega, fun h9 => by omega, fun _ => ⟨h.1, h.1, by omega, fun _ => ⟨h.1, ?_⟩, fun h9 => by omega⟩⟩
  have := v_put (E := E) (c := 0) (s := 0) (X := fun _ _ => False) (l := l) (v := v) h hn12 (rN G r).toNat G (by omega) (RU.refl G r) rfl rfl (fun k => by rw [if_neg (by omega)]) (fun k => by rw [if_neg (by omega)]) (fun k h1 h2 => by omega)
  rw [show (((rN G r).toNat : Nat) : Int) = gfd G 3 2 r by omega] at this
  exact this
theorem ok_becomeNumber {v : Int} (h : RSh G r) : Ok E M_X3_becomeNumber [rv r, jv v] G 0 0 (fun _ G' => RU G G' r ∧ rN G' r = 1 ∧ gfd G' 3 3 r = 1 ∧ rK G' r 0 = 666 ∧ rW G' r 0 = v) (fun _ _ => False) := by
  refine i_X3_becomeNumber ⟨h.1, fun G1 e1 => ?_⟩
  have hU : RU G G1 r := by
    rw [e1]
    refine ⟨fun x => rfl, fun c k x hx => ?_, fun x => rfl, fun x i _ _ => rfl⟩
    rw [gfd_sfd, if_neg (fun h9 => hx ⟨h9.1, by omega, h9.2.2⟩)]
  have hn : rN G1 r = 0 := by unfold rN; rw [e1, gfd_sfd, if_pos ⟨rfl, rfl, rfl⟩]
  have hs : RSh G1 r := by
    refine ⟨by rw [e1]; exact h.1, by rw [e1]; exact h.2.1, by rw [e1]; exact h.2.2.1, by omega, by rw [e1]; exact h.2.2.2.2⟩
  refine ⟨hs.1, Call.to (ok_put (l := 666) (v := v) hs (by omega)) (Nat.le_refl _) (Nat.le_refl _) fun q G2 hq => ?_⟩
  obtain ⟨p, q1, q2, q3, q4, q5, q6, q7, q8⟩ := hq
  have p0 : p = 0 := by omega
  refine ⟨by rw [q1.1]; exact hs.1, fun G3 e3 => ?_⟩
  have k0 := q5 0 (by omega) (by omega)
  have w0 := q6 0 (by omega) (by omega)
  rw [if_neg (by omega), if_pos p0.symm] at k0 w0
  subst e3
  refine ⟨(hU.trans q1).trans ⟨fun x => rfl, fun c k x hx => ?_, fun x => rfl, fun x i _ _ => rfl⟩, ?_, ?_, k0, w0⟩
  · rw [gfd_sfd, if_neg (fun h9 => hx ⟨h9.1, by omega, h9.2.2⟩)]
  · show rN G2 r = 1
    omega
  · rw [gfd_sfd, if_pos ⟨rfl, rfl, rfl⟩]
end S38
