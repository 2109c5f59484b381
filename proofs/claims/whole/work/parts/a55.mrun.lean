/-! the model runs an expression: the contract -/
section Sa55
variable {E : EE} {G G' G2 G0 : Gt} {c s : Nat} {Q X : Int → Gt → Prop} {m ml mr time : Int} {b : Nat} {d : DS} {ws : List Wd}
theorem om_run (hm : MH E G m d ml mr) (hi : DI d) (hb : b ≤ 8) (hW : MWl G m b ws) (hok : ∀ w ∈ ws, wOk w) (hf : fedL ws 0) (ht : 0 ≤ time ∧ time ≤ 100000) : Ok E M_X12_run [rv m, iv (b : Int), iv time] G c s (fun _ G' => RnQ E G G' m time d ws) (fun _ _ => False) := by
  refine i_X12_run ⟨hm.k13, fun G2 e2 => ?_⟩
  have k2 : MU E G G2 m scJ := by rw [e2]; exact hm.ru.mSfd (by decide) (Or.inl ⟨by decide, by decide⟩)
  refine ⟨k2.1.1, fun G4 e4 => ?_⟩
  have k4 : MU E G G4 m scJ := by rw [e4]; exact k2.mSfd (by decide) (Or.inl ⟨by decide, by decide⟩)
  have f33 : gfd G4 12 33 m = 0 := by rw [e4, gfd_sfd, if_neg (fun h9 => absurd h9.2.1 (by decide)), e2, gfd_sfd, if_pos ⟨rfl, rfl, rfl⟩]
  have f34 : gfd G4 12 34 m = 0 := by rw [e4, gfd_sfd, if_pos ⟨rfl, rfl, rfl⟩]
  have := v_run12 (c := c) (s := s) (X := fun _ _ => False) hm hi hb hW hok ht ws.length 0 G4 (Nat.zero_add _) ⟨k4, Or.inl ⟨f34, [], ⟨f33, Nat.zero_le _, fun i h9 => absurd h9 (Nat.not_lt_zero i)⟩, fun x hx => (List.not_mem_nil hx).elim, hf, Nat.le_refl _, rfl⟩⟩
  exact this
end Sa55
