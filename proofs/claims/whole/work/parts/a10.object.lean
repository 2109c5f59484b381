/-! making an object of the class -/
section Sa10
variable {E : EE} {G G' G2 : Gt} {c s bc bs : Nat} {Q X : Int → Gt → Prop} {a b l v q r n sp wn ev : Int} {cl k ck : Nat}
def dZ : DS := (fun j => if j = 1 then 1000 else 0, [], [], [], fun _ => [], [(127, 127, 127), (127, 127, 127), (127, 127, 127), (127, 127, 127)], [], [], [], [], [])
def K11 (a : Int) (j : Nat) : Nat → Nat → Int → Prop := fun c k y => c = 11 ∧ j ≤ k ∧ y = a
theorem K11.up {i j : Nat} (h : i ≤ j) : ∀ c k y, K11 a j c k y → K11 a i c k y := fun _ _ _ h9 => ⟨h9.1, Nat.le_trans h h9.2.1, h9.2.2⟩
theorem kNo {j : Nat} (h : FR G G' noW noA noA) : FR G G' (K11 a j) noA noA := h.mono (fun _ _ _ h9 => h9.elim) (fun _ h9 => h9) (fun _ h9 => h9)
theorem kPut {j : Nat} {v : Int} : FR G (sfd G 11 j a v) (K11 a j) noA noA := (FR.mSfd (by decide)).mono (fun _ _ _ h9 => ⟨h9.1, by omega, h9.2.2⟩) (fun _ h9 => h9) (fun _ h9 => h9)
theorem kUp {i j : Nat} (h : FR G G' (K11 a j) noA noA) (hij : i ≤ j) : FR G G' (K11 a i) noA noA := h.mono (K11.up hij) (fun _ h9 => h9) (fun _ h9 => h9)
theorem nNum {j : Nat} {v : Int} (h : NB E G G' a 11) (hj : (11, j) ∉ oF) : NB E G (sfd G' 11 j a v) a 11 := ⟨h.1.sfd (by decide), h.2.1.onw (ONW.mSfd hj), h.2.2.sfdIn ⟨rfl, rfl⟩ (by decide)⟩
/-- the loop: the four selectors -/
theorem v_tickInit {G0 : Gt} (ha : gcl G0 a = 12) (hl : gfd G0 11 5 a = l) (he : gfd G0 11 4 a = ev) (h7 : gcl G0 ev = 7) (hcl : gcl G0 l = 14) (hQ : ∀ G', LW E G' → ONW G0 G' → FR G0 G' noW (fun y => y = l) noA → lst G' l = [ev, ev, ev, ev] → Q 0 G') :
    ∀ (j i : Nat) (G1 : Gt) (c s : Nat), i + j = 4 → LW E G1 → ONW G0 G1 → FR G0 G1 noW (fun y => y = l) noA → gfd G1 13 1 l ≠ -1 → lst G1 l = List.replicate i ev → capOf G1 l = (if i = 0 then 0 else 10) → (if i = 0 then 1 else 0) ≤ c → (if i = 0 then 10 else 0) ≤ s →
    V E M_X11_init 145 [some (rv a), some (iv (i : Int))] [] G1 c s Q X := by
  intro j
  induction j with
  | zero =>
    intro i G1 c s hij h1 h2 h3 h4 h5 h6 _ _
    refine b_X11_init_145 ⟨fun _ => hQ G1 h1 h2 h3 ?_, fun h9 => by omega⟩
    rw [h5, show i = 4 by omega]; rfl
  | succ j ih =>
    intro i G1 c s hij h1 h2 h3 h4 h5 h6 hc hs
    have e5 : gfd G1 11 5 a = l := (h3.2.1 11 5 a (by decide) (by omega) (fun h9 => h9)).trans hl
    have e4 : gfd G1 11 4 a = ev := (h3.2.1 11 4 a (by decide) (by omega) (fun h9 => h9)).trans he
    have a1 : gcl G1 a = 12 := by rw [h3.1 a (by omega)]; exact ha
    have c14 : gcl G1 l = 14 := by rw [h3.1 l (by omega)]; exact hcl
    have sz : gfd G1 13 2 l = i := by rw [h1.size c14 h4, h5, List.length_replicate]
    have gc : gC G1 l = (if i = 0 then 1 else 0) ∧ gS G1 l = (if i = 0 then 10 else 0) ∧ addCap G1 l = 10 := by
      unfold gC gS addCap
      rw [h6, sz]
      by_cases h0 : i = 0
      · rw [if_pos h0, if_pos h0, if_pos h0, h0]; exact ⟨rfl, rfl, rfl⟩
      · rw [if_neg h0, if_neg h0, if_neg h0, if_neg (by omega), if_neg (by omega), if_neg (by omega)]
        exact ⟨rfl, rfl, rfl⟩
    refine b_X11_init_145 ⟨fun h9 => by omega, fun _ => ⟨a1, a1, by rw [e5]; exact c14, ?_⟩⟩
    rw [e5, e4]
    refine Call.to (mc' := gC G1 l) (ms' := gS G1 l) (ok_add h1 c14 h4 (Or.inr (by unfold okE; rw [h3.1 ev (by omega), h7]; decide)) (by omega) (gRoom (Nat.le_refl _) (Nat.le_refl _))) (by rw [gc.1]; exact hc) (by rw [gc.2.1]; exact hs) fun _ G6 ⟨_, k6⟩ => ⟨i32s (by omega), ?_⟩
    rw [h5, gc.2.2] at k6
    exact ih (i + 1) G6 _ _ (by omega) k6.1 (h2.trans k6.onw) (h3.luIn k6 rfl) k6.2.2.2.2.2.2.2 (by rw [k6.2.2.2.2.2.1, List.replicate_succ']) (by rw [if_neg (by omega)]; exact k6.2.2.2.2.2.2.1) (by rw [if_neg (by omega)]; exact Nat.zero_le _) (by rw [if_neg (by omega)]; exact Nat.zero_le _)
theorem ok_tickInit (h0 : 0 ≤ a) (hL : LW E G) (hO : OW G) (ha : gcl G a = 12) (hc : 60 ≤ bc) (hs : 700 ≤ bs) : Ok E M_X11_init [rv a] G bc bs (fun _ G' => NB E G G' a 11 ∧ CH E G' a dZ) (fun _ _ => False) := by
  have N0 : NB E G G a 11 := NB.refl hL hO
  refine i_X11_init ⟨h0, by omega, by omega, fun q4 hq4 bq4 G5 eG5 => ⟨by omega, ?_⟩⟩
  obtain ⟨nG5, rG5, cG5⟩ := N0.newo (ck := 8) hq4 (by omega)
  rw [← eG5] at nG5 rG5 cG5
  refine Call.to (mc' := 2) (ms' := 6) (ok_storeInit (by omega) nG5.1 nG5.2.1.1 cG5 (Nat.le_refl _) (Nat.le_refl _)) (by omega) (by omega) fun _ G8 ⟨kG8, pG8⟩ => ?_
  have kkG8 := kG8
  rw [eG5] at kkG8
  obtain ⟨nG8, fG8, rG8, cG8, zq4⟩ := mkObj N0 hq4 (by omega) kkG8
  refine ⟨by rw [nG8.gc (by omega)]; exact ha, fun G12 eG12 => ?_⟩
  have nG12 : NB E G G12 a 11 := by rw [eG12]; exact nNum nG8 (by decide)
  have wG12 : FR G8 G12 (K11 a 0) noA noA := by rw [eG12]; exact kPut
  have mG12 : FR G G12 (K11 a 0) noA noA := (kNo fG8).trans wG12
  have gG12 : gfd G12 11 0 a = q4 := by rw [eG12, gfd_sfd, if_pos ⟨rfl, rfl, rfl⟩]
  refine ⟨by omega, by omega, fun q15 hq15 bq15 G16 eG16 => ⟨by omega, ?_⟩⟩
  obtain ⟨nG16, rG16, cG16⟩ := nG12.newo (ck := 2) hq15 (by omega)
  rw [← eG16] at nG16 rG16 cG16
  refine Call.to (mc' := 36) (ms' := 330) (ok_pileInit (by omega) nG16.1 nG16.2.1.1 cG16 (Nat.le_refl _) (Nat.le_refl _)) (by omega) (by omega) fun _ G19 ⟨kG19, pG19⟩ => ?_
  have kkG19 := kG19
  rw [eG16] at kkG19
  obtain ⟨nG19, fG19, rG19, cG19, zq15⟩ := mkObj nG12 hq15 (by omega) kkG19
  refine ⟨by rw [nG19.gc (by omega)]; exact ha, fun G23 eG23 => ?_⟩
  have nG23 : NB E G G23 a 11 := by rw [eG23]; exact nNum nG19 (by decide)
  have wG23 : FR G19 G23 (K11 a 1) noA noA := by rw [eG23]; exact kPut
  have mG23 : FR G12 G23 (K11 a 1) noA noA := (kNo fG19).trans wG23
  have gG23 : gfd G23 11 1 a = q15 := by rw [eG23, gfd_sfd, if_pos ⟨rfl, rfl, rfl⟩]
  refine ⟨by omega, by omega, fun q26 hq26 bq26 G27 eG27 => ⟨by omega, ?_⟩⟩
  obtain ⟨nG27, rG27, cG27⟩ := nG23.newo (ck := 3) hq26 (by omega)
  rw [← eG27] at nG27 rG27 cG27
  refine Call.to (mc' := 2) (ms' := 24) (ok_resInit (by omega) nG27.1 nG27.2.1.1 cG27 (Nat.le_refl _) (Nat.le_refl _)) (by omega) (by omega) fun _ G30 ⟨kG30, pG30⟩ => ?_
  have kkG30 := kG30
  rw [eG27] at kkG30
  obtain ⟨nG30, fG30, rG30, cG30, zq26⟩ := mkObj nG23 hq26 (by omega) kkG30
  refine ⟨by rw [nG30.gc (by omega)]; exact ha, fun G34 eG34 => ?_⟩
  have nG34 : NB E G G34 a 11 := by rw [eG34]; exact nNum nG30 (by decide)
  have wG34 : FR G30 G34 (K11 a 2) noA noA := by rw [eG34]; exact kPut
  have mG34 : FR G23 G34 (K11 a 2) noA noA := (kNo fG30).trans wG34
  have gG34 : gfd G34 11 2 a = q26 := by rw [eG34, gfd_sfd, if_pos ⟨rfl, rfl, rfl⟩]
  refine ⟨by omega, by omega, fun q37 hq37 bq37 G38 eG38 => ⟨by omega, ?_⟩⟩
  obtain ⟨nG38, rG38, cG38⟩ := nG34.newo (ck := 9) hq37 (by omega)
  rw [← eG38] at nG38 rG38 cG38
  refine Call.to (mc' := 0) (ms' := 0) (ok_winInit (by omega) nG38.1 nG38.2.1.1 cG38) (Nat.zero_le _) (Nat.zero_le _) fun _ G41 kG41 => ?_
  have kkG41 := kG41
  rw [eG38] at kkG41
  obtain ⟨nG41, fG41, rG41, cG41, zq37⟩ := mkObj nG34 hq37 (by omega) kkG41
  refine ⟨by rw [nG41.gc (by omega)]; exact ha, fun G45 eG45 => ?_⟩
  have nG45 : NB E G G45 a 11 := by rw [eG45]; exact nNum nG41 (by decide)
  have wG45 : FR G41 G45 (K11 a 3) noA noA := by rw [eG45]; exact kPut
  have mG45 : FR G34 G45 (K11 a 3) noA noA := (kNo fG41).trans wG45
  have gG45 : gfd G45 11 3 a = q37 := by rw [eG45, gfd_sfd, if_pos ⟨rfl, rfl, rfl⟩]
  refine ⟨by omega, by omega, fun q48 hq48 bq48 G49 eG49 => ⟨by omega, ?_⟩⟩
  obtain ⟨nG49, rG49, cG49⟩ := nG45.newo (ck := 6) hq48 (by omega)
  rw [← eG49] at nG49 rG49 cG49
  refine Call.to (mc' := 0) (ms' := 0) (ok_selInit (z := 127) (o := 127) (t := 127) (by omega) cG49) (Nat.zero_le _) (Nat.zero_le _) fun _ G52 pG52 => ?_
  have kG52 : NB E G49 G52 q48 6 := by
    rw [pG52]
    have st : ∀ {G' : Gt} {k : Nat} {v : Int}, NB E G49 G' q48 6 → NB E G49 (sfd G' 6 k q48 v) q48 6 := fun h => ⟨h.1.sfd (by decide), h.2.1.onw (ONW.mSfd (fun h9 => by simp [oF, mArr, mFix, mGrow] at h9)), h.2.2.sfdIn ⟨rfl, rfl⟩ (by decide)⟩
    exact st (st (st (NB.refl nG49.1 nG49.2.1.1)))
  have kkG52 := kG52
  rw [eG49] at kkG52
  obtain ⟨nG52, fG52, rG52, cG52, zq48⟩ := mkObj nG45 hq48 (by omega) kkG52
  refine ⟨by rw [nG52.gc (by omega)]; exact ha, fun G56 eG56 => ?_⟩
  have nG56 : NB E G G56 a 11 := by rw [eG56]; exact nNum nG52 (by decide)
  have wG56 : FR G52 G56 (K11 a 4) noA noA := by rw [eG56]; exact kPut
  have mG56 : FR G45 G56 (K11 a 4) noA noA := (kNo fG52).trans wG56
  have gG56 : gfd G56 11 4 a = q48 := by rw [eG56, gfd_sfd, if_pos ⟨rfl, rfl, rfl⟩]
  refine ⟨by omega, by omega, fun q59 hq59 bq59 G60 eG60 => ⟨by omega, ?_⟩⟩
  rw [eG60]
  refine ok_newList nG56 hq59 (by omega) fun _ G63 nG63 fG63 lG63 rG63 => ?_
  have cG63 : gcl G63 q59 = 14 := lG63.1
  have zq59 : gcl G q59 = 0 := nG56.old hq59
  refine ⟨by rw [nG63.gc (by omega)]; exact ha, fun G67 eG67 => ?_⟩
  have nG67 : NB E G G67 a 11 := by rw [eG67]; exact nG63.put (by decide) zq59 rG63 (by omega)
  have wG67 : FR G63 G67 (K11 a 5) noA noA := by rw [eG67]; exact kPut
  have mG67 : FR G56 G67 (K11 a 5) noA noA := (kNo fG63).trans wG67
  have gG67 : gfd G67 11 5 a = q59 := by rw [eG67, gfd_sfd, if_pos ⟨rfl, rfl, rfl⟩]
  refine ⟨by omega, by omega, fun q70 hq70 bq70 G71 eG71 => ⟨by omega, ?_⟩⟩
  rw [eG71]
  refine ok_newList nG67 hq70 (by omega) fun _ G74 nG74 fG74 lG74 rG74 => ?_
  have cG74 : gcl G74 q70 = 14 := lG74.1
  have zq70 : gcl G q70 = 0 := nG67.old hq70
  refine ⟨by rw [nG74.gc (by omega)]; exact ha, fun G78 eG78 => ?_⟩
  have nG78 : NB E G G78 a 11 := by rw [eG78]; exact nG74.put (by decide) zq70 rG74 (by omega)
  have wG78 : FR G74 G78 (K11 a 6) noA noA := by rw [eG78]; exact kPut
  have mG78 : FR G67 G78 (K11 a 6) noA noA := (kNo fG74).trans wG78
  have gG78 : gfd G78 11 6 a = q70 := by rw [eG78, gfd_sfd, if_pos ⟨rfl, rfl, rfl⟩]
  refine ⟨by omega, by omega, fun q81 hq81 bq81 G82 eG82 => ⟨by omega, ?_⟩⟩
  rw [eG82]
  refine ok_newList nG78 hq81 (by omega) fun _ G85 nG85 fG85 lG85 rG85 => ?_
  have cG85 : gcl G85 q81 = 14 := lG85.1
  have zq81 : gcl G q81 = 0 := nG78.old hq81
  refine ⟨by rw [nG85.gc (by omega)]; exact ha, fun G89 eG89 => ?_⟩
  have nG89 : NB E G G89 a 11 := by rw [eG89]; exact nG85.put (by decide) zq81 rG85 (by omega)
  have wG89 : FR G85 G89 (K11 a 7) noA noA := by rw [eG89]; exact kPut
  have mG89 : FR G78 G89 (K11 a 7) noA noA := (kNo fG85).trans wG89
  have gG89 : gfd G89 11 7 a = q81 := by rw [eG89, gfd_sfd, if_pos ⟨rfl, rfl, rfl⟩]
  refine ⟨by omega, by show 10 ≤ _; omega, fun q90 hq90 bq90 G93 eG93 => ?_⟩
  obtain ⟨nG93, rG93, cG93, lG93⟩ := nG89.newa (t := 15) (m := 10) hq90 (by omega) (by decide)
  rw [← eG93] at nG93 rG93 cG93 lG93
  have fG93 : FR G89 G93 noW noA noA := by rw [eG93]; exact FR.mNewa nG89.1 hq90
  have zq90 : gcl G q90 = 0 := nG89.old hq90
  refine ⟨by rw [nG93.gc (by omega)]; exact ha, fun G95 eG95 => ?_⟩
  have nG95 : NB E G G95 a 11 := by rw [eG95]; exact nG93.put (by decide) zq90 rG93 (by omega)
  have wG95 : FR G93 G95 (K11 a 8) noA noA := by rw [eG95]; exact kPut
  have mG95 : FR G89 G95 (K11 a 8) noA noA := (kNo fG93).trans wG95
  have gG95 : gfd G95 11 8 a = q90 := by rw [eG95, gfd_sfd, if_pos ⟨rfl, rfl, rfl⟩]
  refine ⟨by omega, by show 180 ≤ _; omega, fun q96 hq96 bq96 G99 eG99 => ?_⟩
  obtain ⟨nG99, rG99, cG99, lG99⟩ := nG95.newa (t := 15) (m := 180) hq96 (by omega) (by decide)
  rw [← eG99] at nG99 rG99 cG99 lG99
  have fG99 : FR G95 G99 noW noA noA := by rw [eG99]; exact FR.mNewa nG95.1 hq96
  have zq96 : gcl G q96 = 0 := nG95.old hq96
  refine ⟨by rw [nG99.gc (by omega)]; exact ha, fun G101 eG101 => ?_⟩
  have nG101 : NB E G G101 a 11 := by rw [eG101]; exact nG99.put (by decide) zq96 rG99 (by omega)
  have wG101 : FR G99 G101 (K11 a 9) noA noA := by rw [eG101]; exact kPut
  have mG101 : FR G95 G101 (K11 a 9) noA noA := (kNo fG99).trans wG101
  have gG101 : gfd G101 11 9 a = q96 := by rw [eG101, gfd_sfd, if_pos ⟨rfl, rfl, rfl⟩]
  refine ⟨by omega, by omega, fun q104 hq104 bq104 G105 eG105 => ⟨by omega, ?_⟩⟩
  rw [eG105]
  refine ok_newList nG101 hq104 (by omega) fun _ G108 nG108 fG108 lG108 rG108 => ?_
  have cG108 : gcl G108 q104 = 14 := lG108.1
  have zq104 : gcl G q104 = 0 := nG101.old hq104
  refine ⟨by rw [nG108.gc (by omega)]; exact ha, fun G112 eG112 => ?_⟩
  have nG112 : NB E G G112 a 11 := by rw [eG112]; exact nNum nG108 (by decide)
  have wG112 : FR G108 G112 (K11 a 10) noA noA := by rw [eG112]; exact kPut
  have mG112 : FR G101 G112 (K11 a 10) noA noA := (kNo fG108).trans wG112
  have gG112 : gfd G112 11 10 a = q104 := by rw [eG112, gfd_sfd, if_pos ⟨rfl, rfl, rfl⟩]
  refine ⟨by rw [nG112.gc (by omega)]; exact ha, fun G114 eG114 => ?_⟩
  have nG114 : NB E G G114 a 11 := by rw [eG114]; exact nNum nG112 (by decide)
  have mG114 : FR G112 G114 (K11 a 11) noA noA := by rw [eG114]; exact kPut
  have gG114 : gfd G114 11 11 a = 0 := by rw [eG114, gfd_sfd, if_pos ⟨rfl, rfl, rfl⟩]
  refine ⟨by rw [nG114.gc (by omega)]; exact ha, fun G116 eG116 => ?_⟩
  have nG116 : NB E G G116 a 11 := by rw [eG116]; exact nNum nG114 (by decide)
  have mG116 : FR G114 G116 (K11 a 12) noA noA := by rw [eG116]; exact kPut
  have gG116 : gfd G116 11 12 a = 0 := by rw [eG116, gfd_sfd, if_pos ⟨rfl, rfl, rfl⟩]
  refine ⟨by rw [nG116.gc (by omega)]; exact ha, fun G118 eG118 => ?_⟩
  have nG118 : NB E G G118 a 11 := by rw [eG118]; exact nNum nG116 (by decide)
  have mG118 : FR G116 G118 (K11 a 13) noA noA := by rw [eG118]; exact kPut
  have gG118 : gfd G118 11 13 a = 1000 := by rw [eG118, gfd_sfd, if_pos ⟨rfl, rfl, rfl⟩]
  have J13 : FR G118 G118 (K11 a 14) noA noA := FR.refl _
  have J12 : FR G116 G118 (K11 a 13) noA noA := mG118.trans (kUp J13 (by decide))
  have J11 : FR G114 G118 (K11 a 12) noA noA := mG116.trans (kUp J12 (by decide))
  have J10 : FR G112 G118 (K11 a 11) noA noA := mG114.trans (kUp J11 (by decide))
  have J9 : FR G101 G118 (K11 a 10) noA noA := mG112.trans (kUp J10 (by decide))
  have J8 : FR G95 G118 (K11 a 9) noA noA := mG101.trans (kUp J9 (by decide))
  have J7 : FR G89 G118 (K11 a 8) noA noA := mG95.trans (kUp J8 (by decide))
  have J6 : FR G78 G118 (K11 a 7) noA noA := mG89.trans (kUp J7 (by decide))
  have J5 : FR G67 G118 (K11 a 6) noA noA := mG78.trans (kUp J6 (by decide))
  have J4 : FR G56 G118 (K11 a 5) noA noA := mG67.trans (kUp J5 (by decide))
  have J3 : FR G45 G118 (K11 a 4) noA noA := mG56.trans (kUp J4 (by decide))
  have J2 : FR G34 G118 (K11 a 3) noA noA := mG45.trans (kUp J3 (by decide))
  have J1 : FR G23 G118 (K11 a 2) noA noA := mG34.trans (kUp J2 (by decide))
  have J0 : FR G12 G118 (K11 a 1) noA noA := mG23.trans (kUp J1 (by decide))
  have T0 : FR G8 G118 (K11 a 0) noA noA := wG12.trans (kUp J0 (by decide))
  have T1 : FR G19 G118 (K11 a 1) noA noA := wG23.trans (kUp J1 (by decide))
  have T2 : FR G30 G118 (K11 a 2) noA noA := wG34.trans (kUp J2 (by decide))
  have T3 : FR G41 G118 (K11 a 3) noA noA := wG45.trans (kUp J3 (by decide))
  have T4 : FR G52 G118 (K11 a 4) noA noA := wG56.trans (kUp J4 (by decide))
  have T5 : FR G63 G118 (K11 a 5) noA noA := wG67.trans (kUp J5 (by decide))
  have T6 : FR G74 G118 (K11 a 6) noA noA := wG78.trans (kUp J6 (by decide))
  have T7 : FR G85 G118 (K11 a 7) noA noA := wG89.trans (kUp J7 (by decide))
  have T8 : FR G93 G118 (K11 a 8) noA noA := wG95.trans (kUp J8 (by decide))
  have T9 : FR G99 G118 (K11 a 9) noA noA := wG101.trans (kUp J9 (by decide))
  have T10 : FR G108 G118 (K11 a 10) noA noA := wG112.trans (kUp J10 (by decide))
  have F0 : gfd G118 11 0 a = q4 := (J0.2.1 11 0 a (by decide) (by rw [nG12.gc (by omega)]; omega) (fun h9 => by have := h9.2.1; omega)).trans gG12
  have F1 : gfd G118 11 1 a = q15 := (J1.2.1 11 1 a (by decide) (by rw [nG23.gc (by omega)]; omega) (fun h9 => by have := h9.2.1; omega)).trans gG23
  have F2 : gfd G118 11 2 a = q26 := (J2.2.1 11 2 a (by decide) (by rw [nG34.gc (by omega)]; omega) (fun h9 => by have := h9.2.1; omega)).trans gG34
  have F3 : gfd G118 11 3 a = q37 := (J3.2.1 11 3 a (by decide) (by rw [nG45.gc (by omega)]; omega) (fun h9 => by have := h9.2.1; omega)).trans gG45
  have F4 : gfd G118 11 4 a = q48 := (J4.2.1 11 4 a (by decide) (by rw [nG56.gc (by omega)]; omega) (fun h9 => by have := h9.2.1; omega)).trans gG56
  have F5 : gfd G118 11 5 a = q59 := (J5.2.1 11 5 a (by decide) (by rw [nG67.gc (by omega)]; omega) (fun h9 => by have := h9.2.1; omega)).trans gG67
  have F6 : gfd G118 11 6 a = q70 := (J6.2.1 11 6 a (by decide) (by rw [nG78.gc (by omega)]; omega) (fun h9 => by have := h9.2.1; omega)).trans gG78
  have F7 : gfd G118 11 7 a = q81 := (J7.2.1 11 7 a (by decide) (by rw [nG89.gc (by omega)]; omega) (fun h9 => by have := h9.2.1; omega)).trans gG89
  have F8 : gfd G118 11 8 a = q90 := (J8.2.1 11 8 a (by decide) (by rw [nG95.gc (by omega)]; omega) (fun h9 => by have := h9.2.1; omega)).trans gG95
  have F9 : gfd G118 11 9 a = q96 := (J9.2.1 11 9 a (by decide) (by rw [nG101.gc (by omega)]; omega) (fun h9 => by have := h9.2.1; omega)).trans gG101
  have F10 : gfd G118 11 10 a = q104 := (J10.2.1 11 10 a (by decide) (by rw [nG112.gc (by omega)]; omega) (fun h9 => by have := h9.2.1; omega)).trans gG112
  have F11 : gfd G118 11 11 a = 0 := (J11.2.1 11 11 a (by decide) (by rw [nG114.gc (by omega)]; omega) (fun h9 => by have := h9.2.1; omega)).trans gG114
  have F12 : gfd G118 11 12 a = 0 := (J12.2.1 11 12 a (by decide) (by rw [nG116.gc (by omega)]; omega) (fun h9 => by have := h9.2.1; omega)).trans gG116
  have F13 : gfd G118 11 13 a = 1000 := gG118
  have a118 : gcl G118 a = 12 := by rw [nG118.gc (by omega)]; exact ha
  have no3 : ∀ {j' : Nat} {y : Int} {c : Nat}, c ≠ 11 → ∀ k, ¬ K11 a j' c k y := fun hc k h9 => hc h9.1
  have pS : StH G118 q4 [] [] [] [] 0 0 0 ∧ numL G118 q4 = numL G8 q4 := pG8.2.fr ⟨List.nodup_nil, fun q hq => (List.not_mem_nil hq).elim, List.Pairwise.nil, fun z => Nat.zero_le _⟩ T0 (fun c j y h9 h8 => by have := h8.1; omega) (fun h9 => h9) (fun h9 => h9) (fun _ _ h9 => h9)
  obtain ⟨rows, sp, wn, hP, hPz⟩ := pG19
  have pP : PlS G118 q15 wn rows sp (sp :: rows) [] := hP.fr T1 (no3 (by decide)) (fun r _ => no3 (by decide)) (fun h9 => h9) (fun r _ => ⟨fun h9 => h9, fun h9 => h9⟩)
  have pR : RowH G118 q26 0 [] := pG30.fr T2 (no3 (by decide)) (fun h9 => h9) (fun h9 => h9)
  have pW : gcl G118 q37 = 10 := by rw [T3.1 q37 (by omega)]; exact cG41
  have pE : SlH G118 q48 (127, 127, 127) := by
    have c7 : gcl G52 q48 = 7 := cG52
    have st : ∀ j, gfd G118 6 j q48 = gfd G52 6 j q48 := fun j => T4.2.1 6 j q48 (by decide) (by omega) (no3 (by decide) j)
    refine ⟨by rw [T4.1 q48 (by omega)]; exact c7, by rw [st, pG52, gfd_sfd, if_neg (by omega), gfd_sfd, if_neg (by omega), gfd_sfd, if_pos ⟨rfl, rfl, rfl⟩], by rw [st, pG52, gfd_sfd, if_neg (by omega), gfd_sfd, if_pos ⟨rfl, rfl, rfl⟩], by rw [st, pG52, gfd_sfd, if_pos ⟨rfl, rfl, rfl⟩]⟩
  have p5 : EL G118 q59 := lG63.fr T5 (fun h9 => h9)
  have p6 : EL G118 q70 := lG74.fr T6 (fun h9 => h9)
  have p7 : EL G118 q81 := lG85.fr T7 (fun h9 => h9)
  have p8 : gcl G118 q90 = 15 ∧ gln G118 q90 = 10 := ⟨by rw [T8.1 q90 (by omega)]; exact cG93, by rw [(T8.2.2.2 q90 (by omega) (by omega)).1]; exact lG93⟩
  have p9 : gcl G118 q96 = 15 ∧ gln G118 q96 = 180 := ⟨by rw [T9.1 q96 (by omega)]; exact cG99, by rw [(T9.2.2.2 q96 (by omega) (by omega)).1]; exact lG99⟩
  have p10 : EL G118 q104 := lG108.fr T10 (fun h9 => h9)
  have pn : noref G118 q104 := by
    have x1 : ONW G108 G118 := by
      rw [eG118, eG116, eG114, eG112]
      exact (((ONW.refl _).sfdT (by decide)).sfdT (by decide)).sfdT (by decide) |>.sfdT (by decide)
    exact rG108.go x1 (by omega)
  have hO9 := nG118.2.1.1
  have cst : gcl G118 q4 = 9 := pS.1.1
  have nn : ∀ {y : Int}, gcl G118 y = 14 → y ≠ -1 := fun hy => hO9.nn (by omega) (by omega)
  have na : ∀ {y : Int}, gcl G118 y = 15 → y ≠ -1 := fun hy => hO9.nn (by omega) (by omega)
  refine v_tickInit (l := q59) (ev := q48) a118 F5 F4 pE.1 p5.1 (fun G' hL' hN' k hl => ?_) 4 0 G118 _ _ rfl nG118.1 (ONW.refl _) (FR.refl _) p5.2.1 p5.2.2.1 p5.2.2.2 (by show 1 ≤ _; omega) (by show 10 ≤ _; omega)
  have e11 : ∀ j, gfd G' 11 j a = gfd G118 11 j a := fun j => k.2.1 11 j a (by decide) (by omega) (fun h9 => h9)
  have nB : NB E G G' a 11 := nG118.sub hL' (hN'.owg hO9) k (fun _ _ _ _ h9 => h9) (fun y hy h9 => hy (by rw [h9]; exact zq59)) (fun _ _ h9 => h9)
  refine ⟨nB, ?_⟩
  have hx : gcl G118 a = 11 + 1 := a118
  have n5 : gfd G118 11 5 a ≠ -1 := by rw [F5]; exact nn p5.1
  have l6 : q70 ≠ q59 := by rw [← F6, ← F5]; exact hO9.ne 11 6 11 5 hx hx (by rw [F6]; exact nn p6.1) (by omega)
  have l7 : q81 ≠ q59 := by rw [← F7, ← F5]; exact hO9.ne 11 7 11 5 hx hx (by rw [F7]; exact nn p7.1) (by omega)
  have l10 : q104 ≠ q59 := fun h9 => pn (11, 5) (by decide) a hx (by show gfd G118 11 5 a = _; rw [F5, h9])
  have ls0 : gfd G118 8 0 q4 ≠ q59 := by rw [← F5]; exact hO9.ne 8 0 11 5 cst hx (nn pS.1.2.1.1) (by omega)
  have ls1 : gfd G118 8 1 q4 ≠ q59 := by rw [← F5]; exact hO9.ne 8 1 11 5 cst hx (nn pS.1.2.2.1.1) (by omega)
  have lp : gfd G118 2 0 q15 ≠ q59 := by rw [← F5]; exact hO9.ne 2 0 11 5 pP.1 hx (nn pP.2.1.1) (by omega)
  have hS' := pS.1.fr ⟨List.nodup_nil, fun q hq => (List.not_mem_nil hq).elim, List.Pairwise.nil, fun z => Nat.zero_le _⟩ k (fun c j y _ h8 => h8) ls0 ls1 (fun b hb => by rw [pS.2, pG8.1] at hb; exact (List.not_mem_nil hb).elim)
  have hnum : numL G' q4 = [] := by rw [hS'.2, pS.2]; exact pG8.1
  have r6 := p6.fr k l6
  have r7 := p7.fr k l7
  have r10 := p10.fr k l10
  have E0 : gfd G' 11 0 a = q4 := (e11 0).trans F0
  have E1 : gfd G' 11 1 a = q15 := (e11 1).trans F1
  have E2 : gfd G' 11 2 a = q26 := (e11 2).trans F2
  have E3 : gfd G' 11 3 a = q37 := (e11 3).trans F3
  have E4 : gfd G' 11 4 a = q48 := (e11 4).trans F4
  have E5 : gfd G' 11 5 a = q59 := (e11 5).trans F5
  have E6 : gfd G' 11 6 a = q70 := (e11 6).trans F6
  have E7 : gfd G' 11 7 a = q81 := (e11 7).trans F7
  have E8 : gfd G' 11 8 a = q90 := (e11 8).trans F8
  have E9 : gfd G' 11 9 a = q96 := (e11 9).trans F9
  have E10 : gfd G' 11 10 a = q104 := (e11 10).trans F10
  have hE' : SlH G' q48 (127, 127, 127) := pE.fr k (fun _ h9 => h9)
  have hl4 : SlL G' q59 (dSel dZ) := by
    refine ⟨by rw [k.1 q59 (by rw [p5.1]; decide)]; exact p5.1, (k.2.2.1 q59 p5.1 p5.2.1).1, by rw [hl]; rfl, fun i hi => ?_⟩
    have hi4 : i < 4 := hi
    rw [hl]
    have : i = 0 ∨ i = 1 ∨ i = 2 ∨ i = 3 := by omega
    rcases this with rfl | rfl | rfl | rfl <;> exact hE'
  have hKz : q26 ∉ sp :: rows := fun h9 => by
    have h8 := hPz _ h9
    have x1 : gcl G23 q26 ≠ 0 := by
      obtain ⟨n', R', hrow⟩ := hP.2.2.2.2.2.2.2.2.2.1 _ h9
      have x2 : gcl G19 q26 = 4 := hrow.1.1
      rw [wG23.1 q26 (by omega)]; omega
    exact x1 hq26
  refine ⟨by rw [k.1 a (by omega)]; exact a118, hL', hO9.go hN', ?_, ?_, ?_, ?_, ?_, ?_, ?_, ?_, ?_, ?_, ?_, ?_, ?_, ?_⟩
  · rw [E0]; exact ⟨[], hS'.1⟩
  · rw [E0]; exact fun b hb => by rw [hnum] at hb; exact (List.not_mem_nil hb).elim
  · rw [E1, E2]; exact ⟨rows, sp, sp :: rows, wn, pP.fr k (fun _ h9 => h9) (fun _ _ _ h9 => h9) lp (fun _ _ => ⟨fun h9 => h9, fun h9 => h9⟩), hKz⟩
  · rw [E2]; exact ⟨0, pR.fr k (fun _ h9 => h9) (fun h9 => h9) (fun h9 => h9)⟩
  · rw [E3, k.1 q37 (by omega)]; exact pW
  · rw [E4]; exact hE'.1
  · rw [E5]; exact hl4
  · rw [E6]
    exact ⟨r6.1, r6.2.1, by rw [r6.2.2.1]; rfl, by rw [r6.2.2.1]; exact List.nodup_nil, fun i hi => absurd hi (Nat.not_lt_zero i), by rw [r6.2.2.1]; exact fun b hb => (List.not_mem_nil hb).elim⟩
  · refine ⟨by rw [E7]; exact ⟨r7.1, r7.2.1, by rw [r7.2.2.1]; rfl, fun i hi => absurd hi (Nat.not_lt_zero i)⟩, by rw [E8, k.1 q90 (by omega)]; exact p8.1, by rw [E8, (k.2.2.2 q90 (by omega) (by omega)).1]; exact p8.2, fun i hi => absurd hi (Nat.not_lt_zero i)⟩
  · exact ⟨by rw [E9, k.1 q96 (by omega)]; exact p9.1, by rw [E9, (k.2.2.2 q96 (by omega) (by omega)).1]; exact p9.2, fun i hi => absurd hi (Nat.not_lt_zero i)⟩
  · rw [E10]
    exact ⟨⟨r10.1, r10.2.1, by rw [r10.2.2.1]; rfl, fun i hi => absurd hi (Nat.not_lt_zero i)⟩, pn.go hN' (by omega), by omega⟩
  · rw [e11, F11]; rfl
  · rw [e11, F12]; rfl
  · rw [e11, F13]; rfl
theorem dZ_ok : DI dZ ∧ LB dZ := by
  refine ⟨⟨⟨List.nodup_nil, Nat.zero_le _, fun c hc => (List.not_mem_nil hc).elim, fun q hq => (List.not_mem_nil hq).elim, ⟨List.Pairwise.nil, fun z => Nat.zero_le _⟩, fun r hr => (List.not_mem_nil hr).elim⟩, Or.inl rfl, by decide, by decide, by decide, ⟨rfl, fun t ht => ?_⟩, ⟨Nat.zero_le _, fun w hw => (List.not_mem_nil hw).elim⟩, ⟨Nat.zero_le _, fun q hq => (List.not_mem_nil hq).elim⟩, ⟨Nat.zero_le _, fun q hq => (List.not_mem_nil hq).elim⟩, rfl, ⟨0, Nat.zero_le _, List.Pairwise.nil, fun y hy => (List.not_mem_nil hy).elim, Or.inl rfl⟩, by decide, by decide, fun c hc => rfl⟩, fun q hq => (List.not_mem_nil hq).elim⟩
  have : t = (127, 127, 127) := by
    have h9 : t ∈ [((127 : Int), (127 : Int), (127 : Int)), (127, 127, 127), (127, 127, 127), (127, 127, 127)] := ht
    simp at h9
    exact h9
  rw [this]
  exact ⟨by decide, by decide, by decide⟩
end Sa10
