/-! the class's small objects: what their makers write -/
section S39
variable {E : EE} {G : Gt} {a x : Int}
theorem ok_entryInit {l n : Int} (h0 : 0 ≤ a) (h : gcl G a = 1) : Ok E M_X0_init [rv a, iv l, iv n] G 0 0 (fun _ G' => G' = sfd (sfd (sfd (sfd (sfd G 0 1 a 0) 0 2 a 0) 0 0 a l) 0 3 a n) 0 4 a n) (fun _ _ => False) := by
  refine i_X0_init ⟨h0, h, fun G1 e1 => ?_⟩
  subst e1
  refine ⟨h, fun G2 e2 => ?_⟩
  subst e2
  refine ⟨h, fun G3 e3 => ?_⟩
  subst e3
  refine ⟨h, fun G4 e4 => ?_⟩
  subst e4
  exact ⟨h, fun G5 e5 => e5⟩
theorem ok_fire {n : Int} (h : gcl G a = 1) : Ok E M_X0_fire [rv a, iv n] G 0 0 (fun _ G' => G' = sfd (sfd (sfd G 0 1 a 1) 0 2 a 0) 0 3 a n) (fun _ _ => False) := by
  refine i_X0_fire ⟨h, fun G1 e1 => ?_⟩
  subst e1
  refine ⟨h, fun G2 e2 => ?_⟩
  subst e2
  exact ⟨h, fun G3 e3 => e3⟩
def enV (G : Gt) (a k : Int) : Int := if k = 0 then gfd G 0 0 a else if k = 1 then (if gfd G 0 1 a = 0 then 0 else 1) else if k = 2 then gfd G 0 3 a else (if gfd G 0 2 a = 0 then 0 else 1)
theorem okp_tell {k : Int} (h : gcl G a = 1) : OkP E M_X0_tell [rv a, iv k] G (enV G a k) := by
  refine i_X0_tell ⟨fun e => ⟨h, ?_, rfl⟩, fun e => ⟨h, ?_, rfl⟩, fun e => ⟨h, ?_, rfl⟩, fun e => ⟨h, ?_, rfl⟩⟩
  · unfold enV; exact (if_pos e).symm
  · unfold enV; rw [if_neg (show ¬ k = 0 by omega)]; exact (if_pos e).symm
  · unfold enV; rw [if_neg (show ¬ k = 0 by omega), if_neg (show ¬ k = 1 by omega)]; exact (if_pos e).symm
  · unfold enV; rw [if_neg (show ¬ k = 0 by omega), if_neg (show ¬ k = 1 by omega)]; exact (if_neg (show ¬ k = 2 by omega)).symm
theorem ok_selInit {z o t : Int} (h0 : 0 ≤ a) (h : gcl G a = 7) : Ok E M_X6_init [rv a, iv z, iv o, iv t] G 0 0 (fun _ G' => G' = sfd (sfd (sfd G 6 0 a z) 6 1 a o) 6 2 a t) (fun _ _ => False) := by
  refine i_X6_init ⟨h0, h, fun G1 e1 => ?_⟩
  subst e1
  refine ⟨h, fun G2 e2 => ?_⟩
  subst e2
  exact ⟨h, fun G3 e3 => e3⟩
theorem ok_wordInit {k o t q : Int} (h0 : 0 ≤ a) (h : gcl G a = 11) : Ok E M_X10_init [rv a, iv k, iv o, iv t, rv q] G 0 0 (fun _ G' => G' = sfd (sfd (sfd (sfd G 10 0 a k) 10 1 a o) 10 2 a t) 10 3 a q) (fun _ _ => False) := by
  refine i_X10_init ⟨h0, h, fun G1 e1 => ?_⟩
  subst e1
  refine ⟨h, fun G2 e2 => ?_⟩
  subst e2
  refine ⟨h, fun G3 e3 => ?_⟩
  subst e3
  exact ⟨h, fun G4 e4 => e4⟩
theorem ok_loggedInit {q b : Int} (h0 : 0 ≤ a) (h : gcl G a = 2) (hb : b = 0 ∨ b = 1) : Ok E M_X1_init [rv a, rv q, iv b] G 0 0 (fun _ G' => G' = sfd (sfd G 1 0 a q) 1 1 a b) (fun _ _ => False) := by
  refine i_X1_init ⟨h0, h, fun G1 e1 => ?_⟩
  subst e1
  exact ⟨h, hb, fun G2 e2 => e2⟩
theorem ok_sampleInit {q t v o b : Int} (h0 : 0 ≤ a) (h : gcl G a = 6) (hb : b = 0 ∨ b = 1) : Ok E M_X5_init [rv a, rv q, iv t, iv v, iv o, iv b] G 0 0 (fun _ G' => G' = sfd (sfd (sfd (sfd (sfd (sfd G 5 5 a (-1)) 5 0 a q) 5 1 a t) 5 2 a v) 5 3 a o) 5 4 a b) (fun _ _ => False) := by
  refine i_X5_init ⟨h0, h, fun G1 e1 => ?_⟩
  subst e1
  refine ⟨h, fun G2 e2 => ?_⟩
  subst e2
  refine ⟨h, fun G3 e3 => ?_⟩
  subst e3
  refine ⟨h, fun G4 e4 => ?_⟩
  subst e4
  refine ⟨h, fun G5 e5 => ?_⟩
  subst e5
  exact ⟨h, hb, fun G6 e6 => e6⟩
end S39
