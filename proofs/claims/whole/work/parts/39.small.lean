/-! the class's small objects: what their makers write -/
section S39
variable {E : EE} {G : Gt} {a x : Int}
theorem ok_entryInit {l n : Int} (h0 : 0 ≤ a) (h : gcl G a = 1) : Ok E M_X0_init [rv a, iv l, iv n] G 0 0 (fun _ G' => G' = sfd (sfd (sfd (sfd (sfd G 0 1 a 0) 0 2 a 0) 0 0 a l) 0 3 a n) 0 4 a n) (fun _ _ => False) := by
  refine i_X0_init ⟨h0, h, fun G1 e1 => ?_⟩
  subst e1
  refine ⟨h, fun G2 e2 => ?_⟩
  subst e2
  refine ⟨h, fun G3 e3 => ?_⟩
  subst e3
  refine ⟨h, fun G4 e4 => ?_⟩
  subst e4
  exact ⟨h, fun G5 e5 => e5⟩
theorem ok_fire {n : Int} (h : gcl G a = 1) : Ok E M_X0_fire [rv a, iv n] G 0 0 (fun _ G' => G' = sfd (sfd (sfd G 0 1 a 1) 0 2 a 0) 0 3 a n) (fun _ _ => False) := by
  refine i_X0_fire ⟨h, fun G1 e1 => ?_⟩
  subst e1
  refine ⟨h, fun G2 e2 => ?_⟩
  subst e2
  exact ⟨h, fun G3 e3 => e3⟩
def enV (G : Gt) (a k : Int) : Int := if k = 0 then gfd G 0 0 a else if k = 1 then (if gfd G 0 1 a = 0 then 0 else 1) else if k = 2 then gfd G 0 3 a else (if gfd G 0 2 a = 0 then 0 else 1)
theorem okp_tell {k : Int} (h : gcl G a = 1) : OkP E M_X0_tell [rv a, iv k] G (enV G a k) := by
  refine i_X0_tell ⟨fun e => ⟨h, ?_, rfl⟩, fun e => ⟨h, ?_, rfl⟩, fun e => ⟨h, ?_, rfl⟩, fun e => ⟨h, ?_, rfl⟩⟩
  · unfold enV; exact (if_pos e).symm
  · unfold enV; rw [if_neg (show ¬ k = 0 by omega)]; exact (if_pos e).symm
  · unfold enV; rw [if_neg (show ¬ k = 0 by omega), if_neg (show ¬ k = 1 by omega)]; exact (if_pos e).symm
  · unfold enV; rw [if_neg (show ¬ k = 0 by omega), if_neg (show ¬ k = 1 by omega)]; exact (if_neg (show ¬ k = 2 by omega)).symm
theorem ok_selInit {z o t : Int} (h0 : 0 ≤ a) (h : gcl G a = 7) : Ok E M_X6_init [rv a, iv z, iv o, iv t] G 0 0 (fun _ G' => G' = sfd (sfd (sfd G 6 0 a z) 6 1 a o) 6 2 a t) (fun _ _ => False) := by
  refine i_X6_init ⟨h0, h, fun G1 e1 => ?_⟩
  subst e1
  refine ⟨h, fun G2 e2 => ?_⟩
  subst e2
  exact ⟨h, fun G3 e3 => e3⟩
theorem ok_wordInit {k o t q : Int} (h0 : 0 ≤ a) (h : gcl G a = 11) : Ok E M_X10_init [rv a, iv k, iv o, iv t, rv q] G 0 0 (fun _ G' => G' = sfd (sfd (sfd (sfd G 10 0 a k) 10 1 a o) 10 2 a t) 10 3 a q) (fun _ _ => False) := by
  refine i_X10_init ⟨h0, h, fun G1 e1 => ?_⟩
  subst e1
  refine ⟨h, fun G2 e2 => ?_⟩
  subst e2
  refine ⟨h, fun G3 e3 => ?_⟩
  subst e3
  exact ⟨h, fun G4 e4 => e4⟩
theorem ok_loggedInit {q b : Int} (h0 : 0 ≤ a) (h : gcl G a = 2) (hb : b = 0 ∨ b = 1) : Ok E M_X1_init [rv a, rv q, iv b] G 0 0 (fun _ G' => G' = sfd (sfd G 1 0 a q) 1 1 a b) (fun _ _ => False) := by
  refine i_X1_init ⟨h0, h, fun G1 e1 => ?_⟩
  subst e1
  exact ⟨h, hb, fun G2 e2 => e2⟩
theorem ok_sampleInit {q t v o b : Int} (h0 : 0 ≤ a) (h : gcl G a = 6) (hb : b = 0 ∨ b = 1) : Ok E M_X5_init [rv a, rv q, iv t, iv v, iv o, iv b] G 0 0 (fun _ G' => G' = sfd (sfd (sfd (sfd (sfd (sfd G 5 5 a (-1)) 5 0 a q) 5 1 a t) 5 2 a v) 5 3 a o) 5 4 a b) (fun _ _ => False) := by
  refine i_X5_init ⟨h0, h, fun G1 e1 => ?_⟩
  subst e1
  refine ⟨h, fun G2 e2 => ?_⟩
  subst e2
  refine ⟨h, fun G3 e3 => ?_⟩
  subst e3
  refine ⟨h, fun G4 e4 => ?_⟩
  subst e4
  refine ⟨h, fun G5 e5 => ?_⟩
  subst e5
  exact ⟨h, hb, fun G6 e6 => e6⟩
/-- the bits of a difference of times -/
def btV (d : Int) : Int := if d = 0 then 1 else if -63 ≤ d ∧ d ≤ 64 then 9 else if -255 ≤ d ∧ d ≤ 256 then 12 else 36
theorem okp_bitsOfTime {d : Int} : OkP E M_X7_bitsOfTime [iv d] G (btV d) := by
  refine i_X7_bitsOfTime ⟨fun h => ⟨okp_isWithin, fun h1 => ⟨okp_isWithin, ?_, rfl⟩, fun h1 => ⟨?_, rfl⟩⟩, fun h => ⟨?_, rfl⟩⟩
  · have h2 := wIn0.mp h1
    unfold btV
    rw [if_neg h, if_neg h2]
    by_cases h3 : -255 ≤ d ∧ d ≤ 256
    · rw [wIn1.mpr h3, if_pos h3]; rfl
    · rw [wIn0.mpr h3, if_neg h3]; rfl
  · have h2 : -63 ≤ d ∧ d ≤ 64 := by
      rcases wIn01 d (-63) 64 with h4 | h4
      · exact (h1 h4).elim
      · exact wIn1.mp h4
    unfold btV
    rw [if_neg h, if_pos h2]
  · unfold btV; exact (if_pos h).symm
/-- a series' blocks in order -/
def BSh (G : Gt) (a : Int) : Prop := gcl G a = 8 ∧ (gcl G (gfd G 7 2 a) = 15 ∧ gln G (gfd G 7 2 a) = 60) ∧ (gcl G (gfd G 7 3 a) = 15 ∧ gln G (gfd G 7 3 a) = 60) ∧ 0 ≤ gfd G 7 4 a ∧ gfd G 7 4 a ≤ 60
/-- the bits of the first block of a hundred from the last j blocks, -1 for none -/
def bbV (G : Gt) (a u : Int) : Nat → Int
  | 0 => -1
  | j + 1 => if gel G (gfd G 7 2 a) (gfd G 7 4 a - (j + 1 : Nat)) = u then gel G (gfd G 7 3 a) (gfd G 7 4 a - (j + 1 : Nat)) else bbV G a u j
theorem v_bitsOfBlock {u : Int} {c s : Nat} {X : Int → Gt → Prop} (h : BSh G a) : ∀ (j : Nat) (i : Int), 0 ≤ i → i + j = gfd G 7 4 a → V E M_X7_bitsOfBlock 2 [some (rv a), some (iv u), some (iv i)] [] G c s (fun q G' => q = bbV G a u j ∧ G' = G) X := by
  obtain ⟨h1, ⟨h2, h3⟩, ⟨h4, h5⟩, h6, h7⟩ := h
  intro j
  induction j with
  | zero =>
    intro i h0 hi
    exact b_X7_bitsOfBlock_2 ⟨h1, fun _ => ⟨rfl, rfl⟩, fun h9 => by omega⟩
  | succ j ih =>
    intro i h0 hi
    have e : gfd G 7 4 a - ((j + 1 : Nat) : Int) = i := by omega
    have eb : bbV G a u (j + 1) = if gel G (gfd G 7 2 a) i = u then gel G (gfd G 7 3 a) i else bbV G a u j := by
      show (if gel G (gfd G 7 2 a) (gfd G 7 4 a - ((j + 1 : Nat) : Int)) = u then gel G (gfd G 7 3 a) (gfd G 7 4 a - ((j + 1 : Nat) : Int)) else bbV G a u j) = _
      rw [e]
    rw [eb]
    refine b_X7_bitsOfBlock_2 ⟨h1, fun h9 => by omega, fun _ => ⟨h1, by omega, fun h9 => by omega, fun _ => ⟨h1, by omega, fun h9 => by omega, fun _ => ⟨h1, h2, h0, by omega, fun h9 => ⟨i32s (by omega), ?_⟩, fun h9 => ⟨h1, h4, h0, by omega, (if_pos h9).symm, rfl⟩⟩⟩⟩⟩
    rw [if_neg h9]
    exact ih (i + 1) (by omega) (by omega)
theorem okp_bitsOfBlock {u : Int} (h : BSh G a) : OkP E M_X7_bitsOfBlock [rv a, iv u] G (bbV G a u (gfd G 7 4 a).toNat) :=
  i_X7_bitsOfBlock (v_bitsOfBlock h (gfd G 7 4 a).toNat 0 (Int.le_refl 0) (by have := h.2.2.2.1; omega))
end S39
