/-! a new series; the store takes a sample -/
section S45
variable {E : EE} {G G' G2 : Gt} {c s bc bs : Nat} {Q X : Int → Gt → Prop} {a st x q l : Int} {zs zs' : List Zt} {W : Nat → Nat → Int → Prop} {L A : Int → Prop}
variable {ser : List Int} {smp : List (Sm4 × Int)} {rs : List Int} {dn wr cr er : Int}
theorem OWG.refl (h : OW G) : OWG G G := ⟨h, fun _ _ _ h => h⟩
theorem OWG.onw (h : OWG G G') (k : ONW G' G2) : OWG G G2 := ⟨h.1.go k, fun q h0 hq hn => (h.2 q h0 hq hn).go k h0⟩
theorem noref.put {k' c' : Nat} {y v : Int} (h : noref G q) (hv : v ≠ q) : noref (sfd G c' k' y v) q := by
  intro p hp z hz
  rw [gfd_sfd]
  split
  · exact hv
  · exact h p hp z hz
theorem OWG.put {k' c' : Nat} {y v : Int} (h : OWG G G') (hv : gcl G v = 0) (hn : noref G' v) (hg : gcl G' v ≠ 0) : OWG G (sfd G' c' k' y v) :=
  ⟨h.1.put hn hg, fun q h0 hq hr => (h.2 q h0 hq hr).put (fun h9 => hq (by rw [← h9]; exact hv))⟩
theorem FR.luT {y C : Int} {K : List Int} (h : FR G G' W L A) (hl : LU E G' G2 y K C) (hb : gcl G y = 0 ∨ L y) : FR G G2 W L A := by
  rcases hb with h9 | h9
  · exact h.luNew hl h9
  · exact h.luIn hl h9
def sInQ (E : EE) (G G' : Gt) (a l : Int) : Prop :=
  LW E G' ∧ OWG G G' ∧ FR G G' (fun c _ y => c = 7 ∧ y = a) noA noA ∧ gfd G' 7 0 a = l ∧ gcl G (gfd G' 7 1 a) = 0 ∧ gcl G' (gfd G' 7 1 a) = 14 ∧ gfd G' 13 1 (gfd G' 7 1 a) ≠ -1 ∧ lst G' (gfd G' 7 1 a) = [] ∧ capOf G' (gfd G' 7 1 a) = 0 ∧ BSh G' a ∧ gfd G' 7 4 a = 0
theorem ok_seriesInit (ha0 : 0 ≤ a) (hL : LW E G) (hO : OW G) (ha : gcl G a = 8) (h3 : 3 ≤ bc) (h123 : 123 ≤ bs) : Ok E M_X7_init [rv a, iv l] G bc bs (fun _ G' => sInQ E G G' a l) (fun _ _ => False) := by
  refine i_X7_init ⟨ha0, by omega, by omega, fun q hq hqb G5 e5 => ⟨by omega, ?_⟩⟩
  have q14 : gcl G5 q = 14 := by rw [e5, gcl_newo, if_pos rfl]
  have f5 : FR G G5 (fun c _ y => c = 7 ∧ y = a) noA noA := by rw [e5]; exact (FR.refl G).newoIn hq
  have l5 : LW E G5 := by rw [e5]; exact hL.newo hq
  have o5 : ONW G G5 := by rw [e5]; exact (ONW.refl G).newoT hq
  refine Call.to (ok_init l5 q14 (by omega) (by rw [e5, gfd_newo, if_pos ⟨rfl, rfl⟩]; rfl) (by rw [e5, gfd_newo, if_pos ⟨rfl, rfl⟩]; rfl)) (Nat.zero_le _) (Nat.zero_le _) fun _ G8 h8 => ?_
  have f8 : FR G G8 (fun c _ y => c = 7 ∧ y = a) noA noA := f5.luNew h8 hq
  have o8 : ONW G G8 := o5.luT h8
  have a8 : gcl G8 a = 8 := by rw [f8.1 a (by omega)]; exact ha
  have q8 : gcl G8 q = 14 := by rw [h8.fr.1 q (by omega)]; exact q14
  refine ⟨a8, fun G12 e12 => ⟨by omega, by show 60 ≤ _; omega, ?_⟩⟩
  have n8 : noref G8 q := (hO.fresh hq (by omega)).go o8 (by omega)
  have w8 : OWG G G8 := (OWG.refl hO).onw o8
  have f12 : FR G G12 (fun c _ y => c = 7 ∧ y = a) noA noA := by rw [e12]; exact f8.sfdIn ⟨rfl, rfl⟩ (by decide)
  have w12 : OWG G G12 := by rw [e12]; exact w8.put hq n8 (by omega)
  have l12 : LW E G12 := by rw [e12]; exact h8.1.sfd (by decide)
  have k8 : lst G12 q = [] ∧ capOf G12 q = 0 ∧ gfd G12 13 1 q ≠ -1 ∧ gcl G12 q = 14 := by
    rw [e12]
    exact ⟨(lst_sfd (by decide)).trans h8.2.2.2.2.2.1, (capOf_sfd (by decide)).trans h8.2.2.2.2.2.2.1, h8.2.2.2.2.2.2.2, q8⟩
  intro p hp hpb G16 e16
  have hp0 : gcl G p = 0 := f12.old hp
  have f16 : FR G G16 (fun c _ y => c = 7 ∧ y = a) noA noA := by rw [e16]; exact f12.newaIn l12 hp
  have o16 : ONW G12 G16 := by rw [e16]; exact ONW.mNewa hp (by decide)
  have l16 : LW E G16 := by rw [e16]; exact l12.newa hp (by decide)
  have p16 : gcl G16 p = 15 ∧ gln G16 p = 60 := by rw [e16, gcl_newa, gln_newa, if_pos rfl, if_pos rfl]; exact ⟨rfl, rfl⟩
  have n16 : noref G16 p := (w12.1.fresh hp (by omega)).go o16 (by omega)
  refine ⟨by rw [f16.1 a (by omega)]; exact ha, fun G18 e18 => ⟨by omega, by show 60 ≤ _ - 60; omega, ?_⟩⟩
  have f18 : FR G G18 (fun c _ y => c = 7 ∧ y = a) noA noA := by rw [e18]; exact f16.sfdIn ⟨rfl, rfl⟩ (by decide)
  have w18 : OWG G G18 := by rw [e18]; exact (w12.onw o16).put hp0 n16 (by omega)
  have l18 : LW E G18 := by rw [e18]; exact l16.sfd (by decide)
  intro r hr hrb G22 e22
  have hr0 : gcl G r = 0 := f18.old hr
  have f22 : FR G G22 (fun c _ y => c = 7 ∧ y = a) noA noA := by rw [e22]; exact f18.newaIn l18 hr
  have o22 : ONW G18 G22 := by rw [e22]; exact ONW.mNewa hr (by decide)
  have l22 : LW E G22 := by rw [e22]; exact l18.newa hr (by decide)
  have r22 : gcl G22 r = 15 ∧ gln G22 r = 60 := by rw [e22, gcl_newa, gln_newa, if_pos rfl, if_pos rfl]; exact ⟨rfl, rfl⟩
  have n22 : noref G22 r := (w18.1.fresh hr (by omega)).go o22 (by omega)
  have a22 : gcl G22 a = 8 := by rw [f22.1 a (by omega)]; exact ha
  have hpr : p ≠ r := fun h9 => by rw [← h9, e18] at hr; have := p16.1; rw [gcl_sfd] at hr; omega
  have hqr : q ≠ r := fun h9 => by rw [← h9, e18, gcl_sfd, e16, gcl_newa] at hr; have := k8.2.2.2; split at hr <;> omega
  have hqp : q ≠ p := fun h9 => by rw [← h9] at hp; have := k8.2.2.2; omega
  refine ⟨a22, fun G24 e24 => ⟨by rw [e24]; exact a22, fun G26 e26 => ⟨by rw [e26, e24]; exact a22, fun G28 e28 => ?_⟩⟩⟩
  have f28 : FR G G28 (fun c _ y => c = 7 ∧ y = a) noA noA := by rw [e28, e26, e24]; exact ((f22.sfdIn ⟨rfl, rfl⟩ (by decide)).sfdIn ⟨rfl, rfl⟩ (by decide)).sfdIn ⟨rfl, rfl⟩ (by decide)
  have w24 : OWG G G24 := by rw [e24]; exact (w18.onw o22).put hr0 n22 (by omega)
  have w28 : OWG G G28 := by rw [e28, e26]; exact w24.onw (((ONW.refl _).sfdT (by decide)).sfdT (by decide))
  have l28 : LW E G28 := by rw [e28, e26, e24]; exact ((l22.sfd (by decide)).sfd (by decide)).sfd (by decide)
  have g0 : gfd G28 7 0 a = l := by rw [e28, gfd_sfd, if_pos ⟨rfl, rfl, rfl⟩]
  have g4 : gfd G28 7 4 a = 0 := by rw [e28, gfd_sfd, if_neg (by omega), e26, gfd_sfd, if_pos ⟨rfl, rfl, rfl⟩]
  have g3 : gfd G28 7 3 a = r := by rw [e28, gfd_sfd, if_neg (by omega), e26, gfd_sfd, if_neg (by omega), e24, gfd_sfd, if_pos ⟨rfl, rfl, rfl⟩]
  have g2 : gfd G28 7 2 a = p := by
    rw [e28, gfd_sfd, if_neg (by omega), e26, gfd_sfd, if_neg (by omega), e24, gfd_sfd, if_neg (by omega), e22, gfd_newa, e18, gfd_sfd, if_pos ⟨rfl, rfl, rfl⟩]
  have g1 : gfd G28 7 1 a = q := by
    rw [e28, gfd_sfd, if_neg (by omega), e26, gfd_sfd, if_neg (by omega), e24, gfd_sfd, if_neg (by omega), e22, gfd_newa, e18, gfd_sfd, if_neg (by omega), e16, gfd_newa, e12, gfd_sfd, if_pos ⟨rfl, rfl, rfl⟩]
  have kq : FR G12 G28 (fun c _ y => c = 7 ∧ y = a) noA noA := by
    rw [e28, e26, e24]
    have k16 : FR G12 G16 (fun c _ y => c = 7 ∧ y = a) noA noA := by rw [e16]; exact (FR.refl G12).newaIn l12 hp
    have k18 : FR G12 G18 (fun c _ y => c = 7 ∧ y = a) noA noA := by rw [e18]; exact k16.sfdIn ⟨rfl, rfl⟩ (by decide)
    have k22 : FR G12 G22 (fun c _ y => c = 7 ∧ y = a) noA noA := by rw [e22]; exact k18.newaIn l18 hr
    exact ((k22.sfdIn ⟨rfl, rfl⟩ (by decide)).sfdIn ⟨rfl, rfl⟩ (by decide)).sfdIn ⟨rfl, rfl⟩ (by decide)
  have kq2 := kq.2.2.1 q k8.2.2.2 k8.2.2.1
  have p28 : gcl G28 p = 15 ∧ gln G28 p = 60 := by
    rw [e28, e26, e24]
    simp only [gcl_sfd, gln_sfd]
    rw [e22, gcl_newa, gln_newa, if_neg hpr, if_neg hpr, e18]
    exact p16
  have r28 : gcl G28 r = 15 ∧ gln G28 r = 60 := by
    rw [e28, e26, e24]; exact r22
  refine ⟨l28, w28, f28, g0, by rw [g1]; exact hq, by rw [g1, kq.1 q (by omega)]; exact k8.2.2.2, by rw [g1]; exact kq2.1, by rw [g1, (kq2.2 id).1]; exact k8.1, by rw [g1, (kq2.2 id).2]; exact k8.2.1, ⟨by rw [f28.1 a (by omega)]; exact ha, by rw [g2]; exact p28, by rw [g3]; exact r28, by rw [g4]; exact Int.le_refl 0, by rw [g4]; decide⟩, g4⟩
end S45
