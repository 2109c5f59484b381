/-! the law from its start -/
section Sc07
variable {E : EE} {G G' : Gt} {c s : Nat} {b : Int}
theorem pk_zero (hc : c = 600925) (hs : s = 7048334) : PK 0 dZ (40000, 40000) c s := by
  have w1 : WCl dZ (40000, 40000) = 3206 := by decide
  have w2 : WSl dZ (40000, 40000) = 4255744 := by decide
  refine ⟨by omega, ⟨⟨dZ_ok.1, dZ_ok.2, ⟨trivial, fun q hq => (List.not_mem_nil hq).elim⟩, ⟨fun q hq => (List.not_mem_nil hq).elim, fun q hq => (List.not_mem_nil hq).elim⟩, Int.le_refl 0, fun _ => List.Pairwise.nil⟩, ⟨by decide, by decide, Or.inl rfl, by decide, by decide, Or.inl rfl, Or.inl rfl, Int.le_refl 0⟩, by decide, by decide⟩, ?_, ?_⟩
  · rw [w1, hc]; decide
  · rw [w2, hs]; decide
theorem v_start (hb : b = (eS E).1) (hlen : (eS E).2.1 ≤ 3072) (h19 : gcl G b = 19) (hL : LW E G) (hO : OW G) (hc : c = 601024) (hs : s = 7293034) : V E M_L_law 0 [some (rv b), none, none, none, none, none, none, none] [] G c s LQ LX := by
  refine b_L_law_0 ⟨by omega, by omega, fun q3 hq3 he3 G4 e4 => ?_⟩
  have p3 : 0 ≤ q3 := by omega
  have hL4 : LW E G4 := by rw [e4]; exact hL.newo hq3
  have hO4 : OWG G G4 := by rw [e4]; exact (ONW.mNewo hq3).owg hO
  have g4 : gcl G4 q3 = 12 := by rw [e4, gcl_newo, if_pos rfl]
  have b4 : gcl G4 b = 19 := by rw [e4, gcl_newo, if_neg (fun h9 => by rw [h9] at h19; omega)]; exact h19
  refine ⟨p3, Call.to (mc' := 60) (ms' := 700) (ok_tickInit p3 hL4 hO4.1 g4 (Nat.le_refl _) (Nat.le_refl _)) (by omega) (by omega) (fun r6 G7 h7 => ⟨by omega, by omega, fun q12 hq12 he12 G13 e13 => ?_⟩)⟩
  obtain ⟨n7, c7⟩ := h7
  have p12 : 0 ≤ q12 := by omega
  have b7 : gcl G7 b = 19 := by rw [n7.gc (by omega)]; exact b4
  have hL13 : LW E G13 := by rw [e13]; exact n7.1.newo hq12
  have hO13 : OWG G7 G13 := by rw [e13]; exact (ONW.mNewo hq12).owg n7.2.1.1
  have g13 : gcl G13 q12 = 13 := by rw [e13, gcl_newo, if_pos rfl]
  have b13 : gcl G13 b = 19 := by rw [e13, gcl_newo, if_neg (fun h9 => by rw [h9] at b7; omega)]; exact b7
  have f13 : FR G7 G13 noW noA noA := by rw [e13]; exact FR.mNewo hq12
  have c13 : CH E G13 q3 dZ := c7.frA (A := noA) dZ_ok.1 (f13.mono (fun _ _ _ h9 => h9.elim) (fun _ h9 => h9) (fun _ h9 => h9)) (fun _ _ _ _ _ _ _ h9 => h9) hL13 hO13
  have z13 : ∀ k ∈ [0, 1, 6, 12, 14, 15, 19, 23, 33, 34, 35, 45, 46, 48], gfd G13 12 k q12 = 0 := fun k hk => by
    rw [e13, gfd_newo, if_pos ⟨rfl, rfl⟩]
    revert k
    decide
  refine ⟨p12, Call.to (mc' := 36) (ms' := 243933) (om_init g13 p12 hL13 hO13.1 z13 (Nat.le_refl _) (Nat.le_refl _)) (by omega) (by omega) (fun r15 G16 h16 => ⟨by omega, ?_, fun q19 hq19 he19 G22 e22 => ?_⟩)⟩
  · show 1 ≤ _
    omega
  obtain ⟨n16, m16⟩ := h16
  have p19 : 0 ≤ q19 := by omega
  have b16 : gcl G16 b = 19 := by rw [n16.gc (by omega)]; exact b13
  have c16 : CH E G16 q3 dZ := c13.frA (A := noA) dZ_ok.1 (n16.2.2.mono (fun _ _ _ h9 => h9.1) (fun _ h9 => h9) (fun _ h9 => h9)) (fun _ _ _ _ _ _ _ h9 => h9) n16.1 n16.2.1
  have o22 : ONW G16 G22 := by rw [e22]; exact ONW.mNewa hq19 (by decide) p19
  have hL22 : LW E G22 := by rw [e22]; exact n16.1.newa hq19 (by decide)
  have f22 : FR G16 G22 noW noA noA := by rw [e22]; exact FR.mNewa n16.1 hq19
  have hO22 : OWG G16 G22 := o22.owg n16.2.1.1
  have c22 : CH E G22 q3 dZ := c16.frA (A := noA) dZ_ok.1 (f22.mono (fun _ _ _ h9 => h9.elim) (fun _ h9 => h9) (fun _ h9 => h9)) (fun _ _ _ _ _ _ _ h9 => h9) hL22 hO22
  have m22 : MH E G22 q12 dZ 40000 40000 := m16.fr9 (f22.mono (fun _ _ _ h9 => h9.elim) (fun _ _ => trivial) (fun _ h9 => h9.elim)) hL22 hO22.1
  have lim : LIM E G22 b q3 q12 q19 dZ dZ (40000, 40000) := by
    refine ⟨by rw [e22, gcl_newa, if_neg (fun h9 => by rw [h9] at b16; omega)]; exact b16, c22, m22, by rw [e22, gcl_newa, if_pos rfl], by rw [e22, gln_newa, if_pos rfl], (n16.2.1.1.fresh hq19 p19).go o22 p19, p19⟩
  have key := v_law (E := E) hb hlen 512 0 G22 dZ (40000, 40000) (c - 1 - 60 - 1 - 36 - 1) (s - 14 - 700 - 52 - 243933 - 1) rfl lim (pk_zero (by omega) (by omega))
  exact key
end Sc07
