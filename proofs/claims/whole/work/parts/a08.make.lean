/-! making the class's own objects -/
section Sa08
variable {E : EE} {G G' G2 : Gt} {c s bc bs : Nat} {Q X : Int → Gt → Prop} {a b l v q r n : Int} {cl k ck : Nat}
/-- the heap but for the fields of one new object -/
def NB (E : EE) (G G' : Gt) (a : Int) (cl : Nat) : Prop := LW E G' ∧ OWG G G' ∧ FR G G' (fun c _ y => c = cl ∧ y = a) noA noA
theorem NB.refl (hL : LW E G) (hO : OW G) : NB E G G a cl := ⟨hL, OWG.refl hO, FR.refl G⟩
theorem NB.newo (h : NB E G G' a cl) (hq : gcl G' q = 0) (h0 : 0 ≤ q) : NB E G (newo G' q ck) a cl ∧ noref (newo G' q ck) q ∧ gcl (newo G' q ck) q = ck + 1 := by
  have o := ONW.mNewo (c := ck) hq h0
  exact ⟨⟨h.1.newo hq, h.2.1.onw o, h.2.2.newoIn hq⟩, (h.2.1.1.fresh hq h0).go o h0, by rw [gcl_newo, if_pos rfl]⟩
theorem NB.newa {t : Nat} {m : Int} (h : NB E G G' a cl) (hq : gcl G' q = 0) (h0 : 0 ≤ q) (ht : 15 ≤ t) : NB E G (newa G' q t m) a cl ∧ noref (newa G' q t m) q ∧ gcl (newa G' q t m) q = t ∧ gln (newa G' q t m) q = m := by
  have o := ONW.mNewa (n := m) hq ht h0
  exact ⟨⟨h.1.newa hq (by omega), h.2.1.onw o, h.2.2.newaIn h.1 hq⟩, (h.2.1.1.fresh hq h0).go o h0, by rw [gcl_newa, if_pos rfl], by rw [gln_newa, if_pos rfl]⟩
theorem NB.put (h : NB E G G' a cl) (hc : cl ≠ 13) (hq : gcl G q = 0) (hn : noref G' q) (hg : gcl G' q ≠ 0) : NB E G (sfd G' cl k a q) a cl :=
  ⟨h.1.sfd hc, h.2.1.put hq hn hg, h.2.2.sfdIn ⟨rfl, rfl⟩ hc⟩
theorem NB.num (h : NB E G G' a cl) (hc : cl ≠ 13) (ho : (cl, k) ∉ oF) : NB E G (sfd G' cl k a v) a cl :=
  ⟨h.1.sfd hc, h.2.1.onw (ONW.mSfd ho), h.2.2.sfdIn ⟨rfl, rfl⟩ hc⟩
/-- something was made of what is new -/
theorem NB.sub {W : Nat → Nat → Int → Prop} {L A : Int → Prop} (h : NB E G G' a cl) (h1 : LW E G2) (h2 : OWG G' G2) (h3 : FR G' G2 W L A) (hw : ∀ c k y, gcl G y ≠ 0 → ¬ W c k y) (hl : ∀ y, gcl G y ≠ 0 → ¬ L y) (ha : ∀ y, gcl G y ≠ 0 → ¬ A y) : NB E G G2 a cl :=
  ⟨h1, h.2.1.trans h2 (fun y hy => by rw [h.2.2.1 y hy]; exact hy), h.2.2.andThen h3 (fun c k y hy h9 => (hw c k y hy h9).elim) (fun y hy h9 => (hl y hy h9).elim) (fun y hy h9 => (ha y hy h9).elim)⟩
theorem NB.list (h : NB E G G' a cl) {q : Int} (hq : gcl G q = 0) {L : List Int} {C : Int} (k : LU E G' G2 q L C) : NB E G G2 a cl :=
  h.sub k.1 (k.onw.owg h.2.1.1) k.fr (fun _ _ _ _ h9 => h9) (fun y hy h9 => hy (by rw [h9]; exact hq)) (fun _ _ h9 => h9)
theorem NB.then {cl' : Nat} {q : Int} (h : NB E G G' a cl) (hq : gcl G q = 0) (k : NB E G' G2 q cl') : NB E G G2 a cl :=
  h.sub k.1 k.2.1 k.2.2 (fun _ _ y hy h9 => hy (by rw [h9.2]; exact hq)) (fun _ _ h9 => h9) (fun _ _ h9 => h9)
theorem NB.old (h : NB E G G' a cl) {y : Int} (hy : gcl G' y = 0) : gcl G y = 0 := h.2.2.old hy
/-- a new list -/
def EL (G : Gt) (l : Int) : Prop := gcl G l = 14 ∧ gfd G 13 1 l ≠ -1 ∧ lst G l = [] ∧ capOf G l = 0
theorem EL.fr {W : Nat → Nat → Int → Prop} {L A : Int → Prop} (h : EL G l) (k : FR G G' W L A) (hl : ¬ L l) : EL G' l := by
  have := k.2.2.1 l h.1 h.2.1
  exact ⟨by rw [k.1 l (by rw [h.1]; decide)]; exact h.1, this.1, by rw [(this.2 hl).1]; exact h.2.2.1, by rw [(this.2 hl).2]; exact h.2.2.2⟩
/-- one call: a new list -/
theorem ok_newList {K : Int → Gt → Nat → Nat → Prop} (h : NB E G G' a cl) {q : Int} (hq : gcl G' q = 0) (h0 : 0 ≤ q) (hk : ∀ r G2, NB E G G2 a cl → FR G' G2 noW noA noA → EL G2 q → noref G2 q → K r G2 c s) : Call E M_A_init [rv q] (newo G' q 13) c s X K := by
  obtain ⟨n1, n2, n3⟩ := h.newo (ck := 13) hq h0
  have hz := h.old hq
  refine Call.to (mc' := 0) (ms' := 0) (ok_init n1.1 n3 h0 (by rw [gfd_newo, if_pos ⟨rfl, rfl⟩]; rfl) (by rw [gfd_newo, if_pos ⟨rfl, rfl⟩]; rfl)) (Nat.zero_le _) (Nat.zero_le _) fun r G8 h8 => ?_
  exact hk r G8 (n1.list hz h8) ((FR.mNewo hq).luNew h8 hq) ⟨by rw [h8.fr.1 q (by omega)]; exact n3, h8.2.2.2.2.2.2.2, h8.2.2.2.2.2.1, h8.2.2.2.2.2.2.1⟩ (n2.go h8.onw h0)
theorem NB.fd (h : NB E G G' a cl) {c' k' : Nat} {y : Int} (hy : gcl G y ≠ 0) (hc : c' ≠ 13) (hn : ¬ (c' = cl ∧ y = a)) : gfd G' c' k' y = gfd G c' k' y := h.2.2.2.1 c' k' y hc hy hn
theorem NB.gc (h : NB E G G' a cl) {y : Int} (hy : gcl G y ≠ 0) : gcl G' y = gcl G y := h.2.2.1 y hy
/-- a result -/
theorem ok_resInit (h0 : 0 ≤ a) (hL : LW E G) (hO : OW G) (ha : gcl G a = 4) (hc : 2 ≤ bc) (hs : 24 ≤ bs) : Ok E M_X3_init [rv a] G bc bs (fun _ G' => NB E G G' a 3 ∧ RowH G' a 0 []) (fun _ _ => False) := by
  refine i_X3_init ⟨h0, by omega, by show 12 ≤ bs; omega, fun q hq hqb G5 e5 => ?_⟩
  obtain ⟨n5, r5, c5, l5⟩ := (NB.refl (a := a) (cl := 3) hL hO).newa (t := 15) (m := 12) hq (by omega) (by decide)
  rw [← e5] at n5 r5 c5 l5
  have a5 : gcl G5 a = 4 := by rw [n5.gc (by omega)]; exact ha
  refine ⟨a5, fun G7 e7 => ⟨by omega, by show 12 ≤ bs - 12; omega, fun p hp hpb G11 e11 => ?_⟩⟩
  have n7 : NB E G G7 a 3 := by rw [e7]; exact n5.put (by decide) hq r5 (by omega)
  obtain ⟨n11, r11, c11, l11⟩ := n7.newa (t := 16) (m := 12) hp (by omega) (by decide)
  rw [← e11] at n11 r11 c11 l11
  have hp0 : gcl G p = 0 := n7.old hp
  have q7 : gcl G7 q = 15 ∧ gln G7 q = 12 := by rw [e7]; exact ⟨c5, l5⟩
  have hpq : p ≠ q := fun h9 => by rw [h9] at hp; omega
  have q11 : gcl G11 q = 15 ∧ gln G11 q = 12 := by
    rw [e11, gcl_newa, gln_newa, if_neg hpq.symm, if_neg hpq.symm]; exact q7
  refine ⟨by rw [n11.gc (by omega)]; exact ha, fun G13 e13 => ⟨by rw [e13]; show gcl G11 a = 4; rw [n11.gc (by omega)]; exact ha, fun G15 e15 => ⟨by rw [e15, e13]; show gcl G11 a = 4; rw [n11.gc (by omega)]; exact ha, fun G17 e17 => ?_⟩⟩⟩
  have n13 : NB E G G13 a 3 := by rw [e13]; exact n11.put (by decide) hp0 r11 (by omega)
  have n15 : NB E G G15 a 3 := by rw [e15]; exact n13.num (by decide) (by decide)
  have n17 : NB E G G17 a 3 := by rw [e17]; exact n15.num (by decide) (by decide)
  have f0 : gfd G17 3 0 a = q := by
    rw [e17, gfd_sfd, if_neg (by omega), e15, gfd_sfd, if_neg (by omega), e13, gfd_sfd, if_neg (by omega), e11, gfd_newa, e7, gfd_sfd, if_pos ⟨rfl, rfl, rfl⟩]
  have f1 : gfd G17 3 1 a = p := by
    rw [e17, gfd_sfd, if_neg (by omega), e15, gfd_sfd, if_neg (by omega), e13, gfd_sfd, if_pos ⟨rfl, rfl, rfl⟩]
  have f2 : gfd G17 3 2 a = 0 := by rw [e17, gfd_sfd, if_neg (by omega), e15, gfd_sfd, if_pos ⟨rfl, rfl, rfl⟩]
  have f3 : gfd G17 3 3 a = 0 := by rw [e17, gfd_sfd, if_pos ⟨rfl, rfl, rfl⟩]
  have cc : ∀ y, gcl G17 y = gcl G11 y := fun y => by rw [e17, e15, e13]; rfl
  have ll : ∀ y, gln G17 y = gln G11 y := fun y => by rw [e17, e15, e13]; rfl
  refine ⟨n17, RowH.of ⟨by rw [n17.gc (by omega)]; exact ha, by rw [f0, cc, ll]; exact q11, by rw [f1, cc, ll]; exact ⟨c11, l11⟩, ?_, Or.inl f3⟩ f3 f2 (fun i hi => absurd hi (Nat.not_lt_zero i))⟩
  show 0 ≤ gfd G17 3 2 a ∧ gfd G17 3 2 a ≤ 12
  rw [f2]; decide
theorem ok_winInit (h0 : 0 ≤ a) (hL : LW E G) (hO : OW G) (ha : gcl G a = 10) : Ok E M_X9_init [rv a] G 0 0 (fun _ G' => NB E G G' a 9) (fun _ _ => False) := by
  refine i_X9_init ⟨h0, ha, fun G3 e3 => ⟨by rw [e3]; exact ha, fun G5 e5 => ⟨by rw [e5, e3]; exact ha, fun G7 e7 => ⟨by rw [e7, e5, e3]; exact ha, fun G9 e9 => ⟨by rw [e9, e7, e5, e3]; exact ha, fun G11 e11 => ⟨by rw [e11, e9, e7, e5, e3]; exact ha, fun G13 e13 => ⟨by rw [e13, e11, e9, e7, e5, e3]; exact ha, fun G15 e15 => ⟨by rw [e15, e13, e11, e9, e7, e5, e3]; exact ha, fun G17 e17 => ⟨by rw [e17, e15, e13, e11, e9, e7, e5, e3]; exact ha, fun G19 e19 => ?_⟩⟩⟩⟩⟩⟩⟩⟩⟩
  rw [e19, e17, e15, e13, e11, e9, e7, e5, e3]
  have st : ∀ {G' : Gt} {k : Nat}, NB E G G' a 9 → NB E G (sfd G' 9 k a 0) a 9 := fun h => ⟨h.1.sfd (by decide), h.2.1.onw (ONW.mSfd (fun h9 => by
    have := oF_fty _ h9
    simp [oF, mArr, mFix, mGrow] at h9)), h.2.2.sfdIn ⟨rfl, rfl⟩ (by decide)⟩
  exact st (st (st (st (st (st (st (st (st (NB.refl hL hO)))))))))
/-- a store -/
theorem ok_storeInit (h0 : 0 ≤ a) (hL : LW E G) (hO : OW G) (ha : gcl G a = 9) (hc : 2 ≤ bc) (hs : 6 ≤ bs) : Ok E M_X8_init [rv a] G bc bs (fun _ G' => NB E G G' a 8 ∧ numL G' a = [] ∧ StH G' a [] [] [] [] 0 0 0) (fun _ _ => False) := by
  refine i_X8_init ⟨h0, by omega, by omega, fun q hq hqb G5 e5 => ⟨by omega, ?_⟩⟩
  rw [e5]
  refine ok_newList (NB.refl (a := a) (cl := 8) hL hO) hq (by omega) fun _ G8 n8 _ l8 r8 => ⟨by rw [n8.gc (by omega)]; exact ha, fun G12 e12 => ?_⟩
  have n12 : NB E G G12 a 8 := by rw [e12]; exact n8.put (by decide) hq r8 (by rw [l8.1]; decide)
  refine ⟨by omega, by omega, fun p hp hpb G16 e16 => ⟨by omega, ?_⟩⟩
  rw [e16]
  have hp0 : gcl G p = 0 := n12.old hp
  have f12 : gfd G12 8 0 a = q := by rw [e12, gfd_sfd, if_pos ⟨rfl, rfl, rfl⟩]
  refine ok_newList n12 hp (by omega) fun _ G19 n19 m19 l19 r19 => ⟨by rw [n19.gc (by omega)]; exact ha, fun G23 e23 => ⟨by rw [e23]; show gcl G19 a = 9; rw [n19.gc (by omega)]; exact ha, fun G25 e25 => ⟨by rw [e25, e23]; show gcl G19 a = 9; rw [n19.gc (by omega)]; exact ha, fun G27 e27 => ?_⟩⟩⟩
  have n23 : NB E G G23 a 8 := by rw [e23]; exact n19.put (by decide) hp0 r19 (by rw [l19.1]; decide)
  have n25 : NB E G G25 a 8 := by rw [e25]; exact n23.num (by decide) (by decide)
  have n27 : NB E G G27 a 8 := by rw [e27]; exact n25.num (by decide) (by decide)
  have a8 : gcl G8 a ≠ 0 := by rw [n8.gc (by omega)]; omega
  have k8 : FR G8 G27 (fun c _ y => c = 8 ∧ y = a) noA noA := by
    have k12 : FR G8 G12 (fun c _ y => c = 8 ∧ y = a) noA noA := by rw [e12]; exact (FR.refl G8).sfdIn ⟨rfl, rfl⟩ (by decide)
    have k19 : FR G8 G19 (fun c _ y => c = 8 ∧ y = a) noA noA := k12.trans (m19.mono (fun _ _ _ h9 => h9.elim) (fun _ h9 => h9) (fun _ h9 => h9))
    rw [e27, e25, e23]
    exact ((k19.sfdIn ⟨rfl, rfl⟩ (by decide)).sfdIn ⟨rfl, rfl⟩ (by decide)).sfdIn ⟨rfl, rfl⟩ (by decide)
  have k19 : FR G19 G27 (fun c _ y => c = 8 ∧ y = a) noA noA := by
    rw [e27, e25, e23]
    exact (((FR.refl G19).sfdIn ⟨rfl, rfl⟩ (by decide)).sfdIn ⟨rfl, rfl⟩ (by decide)).sfdIn ⟨rfl, rfl⟩ (by decide)
  have q27 : EL G27 q := l8.fr k8 (fun h9 => h9)
  have p27 : EL G27 p := l19.fr k19 (fun h9 => h9)
  have f0 : gfd G27 8 0 a = q := by
    have a12 : gcl G12 a ≠ 0 := by rw [n12.gc (by omega)]; omega
    rw [e27, gfd_sfd, if_neg (by omega), e25, gfd_sfd, if_neg (by omega), e23, gfd_sfd, if_neg (by omega), m19.2.1 8 0 a (by decide) a12 (fun h9 => h9)]
    exact f12
  have f1 : gfd G27 8 1 a = p := by rw [e27, gfd_sfd, if_neg (by omega), e25, gfd_sfd, if_neg (by omega), e23, gfd_sfd, if_pos ⟨rfl, rfl, rfl⟩]
  have f2 : gfd G27 8 2 a = 0 := by rw [e27, gfd_sfd, if_neg (by omega), e25, gfd_sfd, if_pos ⟨rfl, rfl, rfl⟩]
  have f3 : gfd G27 8 3 a = 0 := by rw [e27, gfd_sfd, if_pos ⟨rfl, rfl, rfl⟩]
  have hn : numL G27 a = [] := by unfold numL; rw [f0]; exact q27.2.2.1
  refine ⟨n27, hn, by rw [n27.gc (by omega)]; exact ha, by rw [f0]; exact ⟨q27.1, q27.2.1⟩, by rw [f1]; exact ⟨p27.1, p27.2.1⟩, by rw [hn]; rfl, by rw [hn]; exact fun b hb => (List.not_mem_nil hb).elim, rfl, List.nodup_nil, fun z hz => (List.not_mem_nil hz).elim, List.Pairwise.nil, fun z hz => (List.not_mem_nil hz).elim, f3, f2, by rw [f1]; exact p27.2.2.2, by rw [f1, p27.2.2.1]; exact True.intro⟩
end Sa08
