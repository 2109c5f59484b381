/-! a new rule -/
section S93
variable {E : EE} {G G' G2 : Gt} {c s bc bs : Nat} {Q X : Int → Gt → Prop} {a x i j l u t v z o w m q f fl wl two wt9 kp : Int} {d d' d2 : DS} {qs : List Rl}
def riQ (E : EE) (G G' : Gt) (a wl two wt9 kp : Int) : Prop :=
  LW E G' ∧ OW G' ∧ FR G G' (fun c _ y => c = 4 ∧ y = a) noA noA ∧ (gfd G' 4 1 a = two ∧ gfd G' 4 2 a = wt9 ∧ gfd G' 4 3 a = kp ∧ gfd G' 4 5 a = -1) ∧ gfd G' 4 0 a = wl ∧ (gcl G (gfd G' 4 4 a) = 0 ∧ gcl G' (gfd G' 4 4 a) = 14 ∧ gfd G' 13 1 (gfd G' 4 4 a) ≠ -1 ∧ lst G' (gfd G' 4 4 a) = [] ∧ capOf G' (gfd G' 4 4 a) = 0) ∧ ∀ q, 0 ≤ q → gcl G q ≠ 0 → q ≠ wl → noref G q → noref G' q
theorem ok_ruleInit (ha0 : 0 ≤ a) (hL : LW E G) (hO : OW G) (ha : gcl G a = 5) (hw : noref G wl ∧ 0 ≤ wl ∧ gcl G wl ≠ 0) (h1 : 1 ≤ bc) (h3 : 3 ≤ bs) : Ok E M_X4_init [rv a, rv wl, iv two, iv wt9, iv kp] G bc bs (fun _ G' => riQ E G G' a wl two wt9 kp) (fun _ _ => False) := by
  refine i_X4_init ⟨ha0, h1, h3, fun q hq hqb G5 e5 => ⟨by omega, ?_⟩⟩
  have q14 : gcl G5 q = 14 := by rw [e5, gcl_newo, if_pos rfl]
  have f5 : FR G G5 (fun c _ y => c = 4 ∧ y = a) noA noA := by rw [e5]; exact (FR.refl G).newoIn hq
  have l5 : LW E G5 := by rw [e5]; exact hL.newo hq
  have o5 : ONW G G5 := by rw [e5]; exact (ONW.refl G).newoT hq
  refine Call.to (ok_init l5 q14 (by omega) (by rw [e5, gfd_newo, if_pos ⟨rfl, rfl⟩]; rfl) (by rw [e5, gfd_newo, if_pos ⟨rfl, rfl⟩]; rfl)) (Nat.zero_le _) (Nat.zero_le _) fun _ G8 h8 => ?_
  have f8 : FR G G8 (fun c _ y => c = 4 ∧ y = a) noA noA := f5.luNew h8 hq
  have o8 : ONW G G8 := o5.luT h8
  have a8 : gcl G8 a = 5 := by rw [f8.1 a (by omega)]; exact ha
  have q8 : gcl G8 q = 14 := by rw [h8.fr.1 q (by omega)]; exact q14
  have n8 : noref G8 q := (hO.fresh hq (by omega)).go o8 (by omega)
  have w8 : OWG G G8 := (OWG.refl hO).onw o8
  refine ⟨a8, fun G12 e12 => ⟨by rw [e12]; exact a8, fun G14 e14 => ⟨by rw [e14, e12]; exact a8, fun G16 e16 => ⟨by rw [e16, e14, e12]; exact a8, fun G18 e18 => ⟨by rw [e18, e16, e14, e12]; exact a8, fun G20 e20 => ⟨by rw [e20, e18, e16, e14, e12]; exact a8, fun G22 e22 => ?_⟩⟩⟩⟩⟩⟩
  have w14 : OWG G G14 := by rw [e14, e12]; exact (w8.put hq n8 (by omega)).onw ((ONW.refl _).sfdT (by decide))
  have c14 : ∀ y, gcl G14 y = gcl G8 y := fun y => by rw [e14, e12]; rfl
  have nw : noref G14 wl := w14.2 wl hw.2.1 hw.2.2 hw.1
  have o16 : OW G16 := by rw [e16]; exact w14.1.put nw (by rw [c14, f8.1 _ hw.2.2]; exact hw.2.2)
  have o22 : ONW G16 G22 := by rw [e22, e20, e18]; exact (((ONW.refl _).sfdT (by decide)).sfdT (by decide)).sfdT (by decide)
  have f22 : FR G G22 (fun c _ y => c = 4 ∧ y = a) noA noA := by
    rw [e22, e20, e18, e16, e14, e12]
    exact (((((f8.sfdIn ⟨rfl, rfl⟩ (by decide)).sfdIn ⟨rfl, rfl⟩ (by decide)).sfdIn ⟨rfl, rfl⟩ (by decide)).sfdIn ⟨rfl, rfl⟩ (by decide)).sfdIn ⟨rfl, rfl⟩ (by decide)).sfdIn ⟨rfl, rfl⟩ (by decide)
  have l22 : LW E G22 := by rw [e22, e20, e18, e16, e14, e12]; exact (((((h8.1.sfd (by decide)).sfd (by decide)).sfd (by decide)).sfd (by decide)).sfd (by decide)).sfd (by decide)
  have g3 : gfd G22 4 3 a = kp := by rw [e22, gfd_sfd, if_pos ⟨rfl, rfl, rfl⟩]
  have g2 : gfd G22 4 2 a = wt9 := by rw [e22, gfd_sfd, if_neg (by omega), e20, gfd_sfd, if_pos ⟨rfl, rfl, rfl⟩]
  have g1 : gfd G22 4 1 a = two := by rw [e22, gfd_sfd, if_neg (by omega), e20, gfd_sfd, if_neg (by omega), e18, gfd_sfd, if_pos ⟨rfl, rfl, rfl⟩]
  have g0 : gfd G22 4 0 a = wl := by rw [e22, gfd_sfd, if_neg (by omega), e20, gfd_sfd, if_neg (by omega), e18, gfd_sfd, if_neg (by omega), e16, gfd_sfd, if_pos ⟨rfl, rfl, rfl⟩]
  have g5 : gfd G22 4 5 a = -1 := by rw [e22, gfd_sfd, if_neg (by omega), e20, gfd_sfd, if_neg (by omega), e18, gfd_sfd, if_neg (by omega), e16, gfd_sfd, if_neg (by omega), e14, gfd_sfd, if_pos ⟨rfl, rfl, rfl⟩]
  have g4 : gfd G22 4 4 a = q := by rw [e22, gfd_sfd, if_neg (by omega), e20, gfd_sfd, if_neg (by omega), e18, gfd_sfd, if_neg (by omega), e16, gfd_sfd, if_neg (by omega), e14, gfd_sfd, if_neg (by omega), e12, gfd_sfd, if_pos ⟨rfl, rfl, rfl⟩]
  have c22 : gcl G22 q = 14 := by rw [e22, e20, e18, e16, e14, e12]; exact q8
  have k22 : FR G8 G22 (fun c _ y => c = 4 ∧ y = a) noA noA := by
    rw [e22, e20, e18, e16, e14, e12]
    exact ((((((FR.refl G8).sfdIn ⟨rfl, rfl⟩ (by decide)).sfdIn ⟨rfl, rfl⟩ (by decide)).sfdIn ⟨rfl, rfl⟩ (by decide)).sfdIn ⟨rfl, rfl⟩ (by decide)).sfdIn ⟨rfl, rfl⟩ (by decide)).sfdIn ⟨rfl, rfl⟩ (by decide)
  have kl := k22.2.2.1 q q8 h8.2.2.2.2.2.2.2
  refine ⟨l22, o16.go o22, f22, ⟨g1, g2, g3, g5⟩, g0, by rw [g4]; exact ⟨hq, c22, kl.1, (kl.2 (fun h9 => h9)).1.trans h8.2.2.2.2.2.1, (kl.2 (fun h9 => h9)).2.trans h8.2.2.2.2.2.2.1⟩, fun p h0 hp hpw hn => ?_⟩
  have n16 : noref G16 p := by rw [e16]; exact (w14.2 p h0 hp hn).put (fun h9 => hpw h9.symm)
  exact n16.go o22 h0
end S93
