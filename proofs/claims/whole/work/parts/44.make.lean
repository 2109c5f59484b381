/-! the store takes a sample: the making -/
section S44
variable {E : EE} {G G' G2 : Gt} {c s : Nat} {Q X : Int → Gt → Prop} {a st x q : Int} {zs zs' : List Zt} {W : Nat → Nat → Int → Prop} {L A : Int → Prop}
variable {ser : List Int} {smp : List (Sm4 × Int)} {rs : List Int} {dn wr cr er : Int}
theorem ins_sorted {l : List Int} {T : Int → Int} {k : Nat} (h : l.Pairwise (fun x y => T x < T y)) (h1 : ∀ y ∈ l.take k, T y < T x) (h2 : ∀ y ∈ l.drop k, T x < T y) : (insL l k x).Pairwise (fun x y => T x < T y) := by
  unfold insL
  rw [List.pairwise_append]
  have ht : (l.take k).Pairwise (fun x y => T x < T y) := h.sublist (List.take_sublist k l)
  have hd : (l.drop k).Pairwise (fun x y => T x < T y) := h.sublist (List.drop_sublist k l)
  refine ⟨ht, List.pairwise_cons.mpr ⟨h2, hd⟩, fun y hy z hz => ?_⟩
  rcases List.mem_cons.mp hz with rfl | h9
  · exact h1 y hy
  · exact Int.lt_trans (h1 y hy) (h2 z h9)
theorem mem_take_i {l : List Int} {k : Nat} {y : Int} (h : y ∈ l.take k) : ∃ i, i < k ∧ i < l.length ∧ l.getD i 0 = y := by
  obtain ⟨i, hi⟩ := List.getElem?_of_mem h
  have h1 : i < k := by
    by_cases h9 : i < k
    · exact h9
    · rw [List.getElem?_take, if_neg h9] at hi; cases hi
  rw [List.getElem?_take, if_pos h1] at hi
  refine ⟨i, h1, (List.getElem?_eq_some_iff.mp hi).1, by rw [List.getD_eq_getElem?_getD, hi]; rfl⟩
theorem mem_drop_i {l : List Int} {k : Nat} {y : Int} (h : y ∈ l.drop k) : ∃ i, k ≤ i ∧ i < l.length ∧ l.getD i 0 = y := by
  obtain ⟨i, hi⟩ := List.getElem?_of_mem h
  rw [List.getElem?_drop] at hi
  exact ⟨k + i, by omega, (List.getElem?_eq_some_iff.mp hi).1, by rw [List.getD_eq_getElem?_getD, hi]; rfl⟩
theorem capK_add {C n : Int} (h : capK C) (hn : n < 60) : capK (if n = C then ncap C else C) := by
  unfold capK at *
  split
  · rename_i e
    rcases h with rfl | rfl | rfl | rfl | rfl | rfl | rfl
    · exact Or.inr (Or.inl (by decide))
    · exact Or.inr (Or.inr (Or.inl (by decide)))
    · exact Or.inr (Or.inr (Or.inr (Or.inl (by decide))))
    · exact Or.inr (Or.inr (Or.inr (Or.inr (Or.inl (by decide)))))
    · exact Or.inr (Or.inr (Or.inr (Or.inr (Or.inr (Or.inl (by decide))))))
    · exact Or.inr (Or.inr (Or.inr (Or.inr (Or.inr (Or.inr (by decide))))))
    · omega
  · exact h
/-- a series after one more is shown -/
theorem SeH.show (h : SeH G a zs) (hs : SR G a) (hL : LW E G) (hx : gcl G x = 6) (l : LU E G G' (gfd G 7 1 a) (insL (seenL G a) (cAh G a (sT G x)) x) (addCap G (gfd G 7 1 a))) (hz : (zO (sLab G a) zs').Perm (x :: zO (sLab G a) zs)) (hn : ∀ y ∈ seenL G a, sT G y ≠ sT G x) (h60 : (seenL G a).length < 60) :
    SeH G' a zs' ∧ seenL G' a = insL (seenL G a) (cAh G a (sT G x)) x ∧ capOf G' (gfd G' 7 1 a) = addCap G (gfd G 7 1 a) := by
  obtain ⟨h1, h2, h3, h4, h5, h6⟩ := h
  have f := l.fr
  have e1 : gfd G' 7 1 a = gfd G 7 1 a := l.2.2.1 7 1 a (by decide)
  have eT : ∀ y, sT G' y = sT G y := fun y => l.2.2.1 5 1 y (by decide)
  have eL : sLab G' a = sLab G a := l.2.2.1 7 0 a (by decide)
  have es : seenL G' a = insL (seenL G a) (cAh G a (sT G x)) x := by unfold seenL; rw [e1]; exact l.2.2.2.2.2.1
  have ec : capOf G' (gfd G' 7 1 a) = addCap G (gfd G 7 1 a) := by rw [e1]; exact l.2.2.2.2.2.2.1
  have hc := cAh_spec (sT G x) hs
  refine ⟨⟨by rw [f.1 a (by omega)]; exact h1, by rw [e1]; exact ⟨by rw [f.1 _ (by omega)]; exact h2.1, l.2.2.2.2.2.2.2⟩, ?_, ?_, h5.fr f (fun j => id), ?_⟩, es, ec⟩
  · rw [es, eL]
    exact (insL_perm _ _ _).trans ((h3.cons x).trans hz.symm)
  · rw [es]
    refine List.Pairwise.imp (fun {y z} h9 => ?_) (ins_sorted (T := sT G) h4 (fun y hy => ?_) (fun y hy => ?_))
    · rw [eT, eT]; exact h9
    · obtain ⟨i, h7, h8, rfl⟩ := mem_take_i hy
      exact hc.2.1 i h7
    · obtain ⟨i, h7, h8, rfl⟩ := mem_drop_i hy
      have := hc.2.2 i h7 h8
      have := hn _ (getD_mem h8)
      omega
  · rw [ec]
    have e9 : gfd G 13 2 (gfd G 7 1 a) = (seenL G a).length := hL.size h2.1 h2.2
    unfold addCap
    rw [e9]
    exact capK_add h6 (by omega)
/-- a series that is left alone -/
theorem SeH.fr (h : SeH G a zs) (k : FR G G' W L A) (w : ∀ j, ¬ W 7 j a) (w5 : ∀ y ∈ seenL G a, ¬ W 5 1 y) (wc : ∀ y ∈ seenL G a, gcl G y ≠ 0) (hl : ¬ L (gfd G 7 1 a)) (hz : (zO (sLab G a) zs').Perm (zO (sLab G a) zs)) : SeH G' a zs' ∧ seenL G' a = seenL G a ∧ sLab G' a = sLab G a ∧ capOf G' (gfd G' 7 1 a) = capOf G (gfd G 7 1 a) := by
  obtain ⟨h1, h2, h3, h4, h5, h6⟩ := h
  have e1 : gfd G' 7 1 a = gfd G 7 1 a := k.2.1 7 1 a (by omega) (by omega) (w 1)
  have eL : sLab G' a = sLab G a := k.2.1 7 0 a (by omega) (by omega) (w 0)
  have e2 := k.2.2.1 _ h2.1 h2.2
  have es : seenL G' a = seenL G a := by unfold seenL; rw [e1]; exact (e2.2 hl).1
  have ec : capOf G' (gfd G' 7 1 a) = capOf G (gfd G 7 1 a) := by rw [e1]; exact (e2.2 hl).2
  refine ⟨⟨by rw [k.1 a (by omega)]; exact h1, by rw [e1]; exact ⟨by rw [k.1 _ (by omega)]; exact h2.1, e2.1⟩, ?_, ?_, h5.fr k w, by rw [ec]; exact h6⟩, es, eL, ec⟩
  · rw [es, eL]; exact h3.trans hz.symm
  · rw [es]
    refine h4.imp_of_mem fun {y z} hy hz h9 => ?_
    have e5 : ∀ y ∈ seenL G a, sT G' y = sT G y := fun y hy => k.2.1 5 1 y (by omega) (wc y hy) (w5 y hy)
    rw [e5 y hy, e5 z hz]; exact h9
theorem zO_app (l : Int) (zs : List Zt) (z : Zt) : zO l (zs ++ [z]) = zO l zs ++ if own l z.2.1 = true then [z.1] else [] := by
  unfold zO
  rw [List.filter_append, List.map_append]
  congr 1
  by_cases h : own l z.2.1 = true
  · rw [if_pos h]; simp [h]
  · rw [if_neg h]; simp [h]
def wT (st : Int) : Nat → Nat → Int → Prop := fun c k y => c = 8 ∧ k = 3 ∧ y = st
def tkQ (E : EE) (G G' : Gt) (st a q : Int) (zs : List Zt) (ser : List Int) (smp : List (Sm4 × Int)) (rs : List Int) (dn wr t v : Int) : Prop :=
  LW E G' ∧ OWG G G' ∧ FR G G' (wT st) (fun y => y = gfd G 7 1 a ∨ y = gfd G 8 1 st) noA ∧ gcl G q = 0 ∧
  StH G' st (zs ++ [(q, (sLab G a, t, v, 0), if dn = 0 then 1 else 0)]) ser (smp ++ [((sLab G a, t, v, 0), if dn = 0 then 1 else 0)]) (0 :: rs) dn (wr + 1) (addCap G (gfd G 8 1 st)) ∧ capOf G' (gfd G' 7 1 a) = addCap G (gfd G 7 1 a) ∧ numL G' st = numL G st ∧ ∀ b ∈ numL G st, b ≠ a → capOf G' (gfd G' 7 1 b) = capOf G (gfd G 7 1 b)
theorem take_make {t v : Int} {c22 s23 : Nat} {P : Gt → Prop} (hL : LW E G) (hO : OW G) (h : StH G st zs ser smp rs dn wr cr) (hi : SI ser (smp.map (·.1)) rs er) (ha : a ∈ numL G st) (hb : Basic (smp.map (·.1) ++ [(sLab G a, t, v, 0)]))
    (hd : dn = 0 ∨ dn = 1) (hw : 0 ≤ wr ∧ wr ≤ 1000000) (hrs : rs.length ≤ 1000000) (hc : 2 + gC G (gfd G 7 1 a) + gC G (gfd G 8 1 st) ≤ c22) (hs : 8 + gS G (gfd G 7 1 a) + gS G (gfd G 8 1 st) ≤ s23) (hP : ∀ q G', tkQ E G G' st a q zs ser smp rs dn wr t v → P G') :
    (1 ≤ c22 ∧ 6 ≤ s23 ∧ ∀ q26 : Int, gcl G q26 = 0 → (eb E : Int) ≤ q26 → ∀ G27 : Gt, G27 = (newo G q26 5) → gcl G27 st = 9 ∧ gcl G27 st = 9 ∧ 0 ≤ q26 ∧ Call E M_X5_init [rv q26, rv a, iv t, iv v, iv (gfd G27 8 3 st), iv (if (gfd G27 8 2 st) = 0 then (1 : Int) else 0)] G27 (c22 - 1) (s23 - 6) X (fun _ G33 c34 s35 => gcl G33 st = 9 ∧ i32 ((gfd G33 8 3 st) + 1) ∧ gcl G33 st = 9 ∧ ∀ G39 : Gt, G39 = (sfd G33 8 3 st ((gfd G33 8 3 st) + 1)) → gcl G39 a = 8 ∧ Call E M_X7_show [rv a, rv q26] G39 c34 s35 X (fun _ G42 c43 s44 => gcl G42 st = 9 ∧ 1 ≤ c43 ∧ 2 ≤ s44 ∧ ∀ q48 : Int, gcl G42 q48 = 0 → (eb E : Int) ≤ q48 → ∀ G49 : Gt, G49 = (newo G42 q48 1) → 0 ≤ q48 ∧ Call E M_X1_init [rv q48, rv q26, iv 0] G49 (c43 - 1) (s44 - 2) X (fun _ G52 c53 s54 => gcl G52 (gfd G42 8 1 st) = 14 ∧ Call E M_A_add [rv (gfd G42 8 1 st), rv q48] G52 c53 s54 X (fun _ G57 _ _ => P G57))))) := by
  have hst := h.1
  have hse := h.2.2.2.2.1 a ha
  have ha8 := hse.1
  have hsl := hse.2.1.1
  have hsr := h.sr hi ha
  have hrc := h.2.2.1
  refine ⟨by omega, by omega, fun q hq hqb G27 e27 => ?_⟩
  have hq0 : 0 ≤ q := by omega
  have ne : ∀ y, gcl G y ≠ 0 → y ≠ q := fun y hy h9 => hy (by rw [h9]; exact hq)
  have f27 : FR G G27 (wT st) (fun y => y = gfd G 7 1 a ∨ y = gfd G 8 1 st) noA := by rw [e27]; exact FR.newoIn (FR.refl G) hq
  have o27 : ONW G G27 := by rw [e27]; exact (ONW.refl G).newoT hq
  have l27 : LW E G27 := by rw [e27]; exact hL.newo hq
  have w27 : gfd G27 8 3 st = wr := by rw [e27, gfd_newo, if_neg (fun h9 => ne st (by omega) h9.1)]; exact h.2.2.2.2.2.2.2.2.2.2.1
  have d27 : gfd G27 8 2 st = dn := by rw [e27, gfd_newo, if_neg (fun h9 => ne st (by omega) h9.1)]; exact h.2.2.2.2.2.2.2.2.2.2.2.1
  have q27 : gcl G27 q = 6 := by rw [e27, gcl_newo, if_pos rfl]
  rw [w27, d27]
  generalize hcp : (if dn = 0 then (1 : Int) else 0) = cp
  have hcp1 : cp = 0 ∨ cp = 1 := by rw [← hcp]; split <;> simp
  refine ⟨by rw [f27.1 st (by omega)]; exact hst, by rw [f27.1 st (by omega)]; exact hst, hq0, Call.to (ok_sampleInit hq0 q27 hcp1) (Nat.zero_le _) (Nat.zero_le _) fun _ G33 e33 => ?_⟩
  have f33 : FR G G33 (wT st) (fun y => y = gfd G 7 1 a ∨ y = gfd G 8 1 st) noA := by
    rw [e33]
    exact (((((f27.sfdNew hq (by decide)).sfdNew hq (by decide)).sfdNew hq (by decide)).sfdNew hq (by decide)).sfdNew hq (by decide)).sfdNew hq (by decide)
  have o33 : ONW G G33 := by
    rw [e33]
    exact (((((o27.sfdT (by decide)).sfdT (by decide)).sfdT (by decide)).sfdT (by decide)).sfdT (by decide)).sfdT (by decide)
  have l33 : LW E G33 := by
    rw [e33]
    exact (((((l27.sfd (by decide)).sfd (by decide)).sfd (by decide)).sfd (by decide)).sfd (by decide)).sfd (by decide)
  have w33 : gfd G33 8 3 st = wr := by rw [e33]; exact w27
  have q33 : gcl G33 q = 6 := by rw [e33]; exact q27
  have fq33 : gfd G33 5 0 q = a ∧ gfd G33 5 1 q = t ∧ gfd G33 5 2 q = v ∧ gfd G33 5 3 q = wr ∧ gfd G33 5 4 q = cp := by
    rw [e33]
    simp only [gfd_sfd]
    simp
  have s33 : gcl G33 st = 9 := by rw [f33.1 st (by omega)]; exact hst
  rw [w33]
  refine ⟨s33, i32s (by omega), s33, fun G39 e39 => ?_⟩
  have f39 : FR G G39 (wT st) (fun y => y = gfd G 7 1 a ∨ y = gfd G 8 1 st) noA := by rw [e39]; exact f33.sfdIn ⟨rfl, rfl, rfl⟩ (by decide)
  have o39 : ONW G G39 := by rw [e39]; exact o33.sfdT (by decide)
  have l39 : LW E G39 := by rw [e39]; exact l33.sfd (by decide)
  have q39 : gcl G39 q = 6 := by rw [e39]; exact q33
  -- lists of G at G39
  have x39 : ∀ y, gcl G y = 14 → gfd G 13 1 y ≠ -1 → lst G39 y = lst G y ∧ capOf G39 y = capOf G y ∧ gfd G39 13 2 y = gfd G 13 2 y := fun y hy hr => by
    have e13 : ∀ k, gfd G39 13 k y = gfd G 13 k y := fun k => by
      rw [e39, e33, e27]
      simp only [gfd_sfd, gfd_newo]
      rw [if_neg (by omega), if_neg (by omega), if_neg (by omega), if_neg (by omega), if_neg (by omega), if_neg (by omega), if_neg (by omega), if_neg (by omega)]
    refine ⟨lst_congr (e13 2) (e13 1) (fun i => by rw [e39, e33, e27]; rfl), ?_, e13 2⟩
    show gln G39 (gfd G39 13 1 y) = _
    rw [e13 1, e39, e33, e27]; rfl
  have a39 : gfd G39 7 1 a = gfd G 7 1 a := f39.2.1 7 1 a (by decide) (by omega) (fun h9 => by unfold wT at h9; omega)
  have sr39 : SR G39 a ∧ seenL G39 a = seenL G a := by
    have e7 : seenL G39 a = seenL G a := by unfold seenL; rw [a39]; exact (x39 _ hse.2.1.1 hse.2.1.2).1
    have eT : ∀ y ∈ seenL G a, sT G39 y = sT G y := fun y hy => f39.2.1 5 1 y (by decide) (by have := (hsr.2.2.2.1 y hy).1; omega) (fun h9 => by unfold wT at h9; omega)
    have eV : ∀ y ∈ seenL G a, sV G39 y = sV G y := fun y hy => f39.2.1 5 2 y (by decide) (by have := (hsr.2.2.2.1 y hy).1; omega) (fun h9 => by unfold wT at h9; omega)
    refine ⟨⟨by rw [f39.1 a (by omega)]; exact ha8, by rw [a39, f39.1 (gfd G 7 1 a) (by omega)]; exact hsl, by rw [a39]; exact (f39.2.2.1 _ hse.2.1.1 hse.2.1.2).1, fun y hy => ?_, ?_, by rw [e7]; exact hsr.2.2.2.2.2⟩, e7⟩
    · rw [e7] at hy
      have h9 := hsr.2.2.2.1 y hy
      rw [f39.1 y (by omega), eT y hy, eV y hy]; exact h9
    · rw [e7]
      exact hsr.2.2.2.2.1.imp_of_mem (fun {y z} hy hz h9 => by rw [eT y hy, eT z hz]; exact h9)
  have t39 : sT G39 q = t := by
    show gfd G39 5 1 q = t
    rw [e39, gfd_sfd, if_neg (by omega)]; exact fq33.2.1
  have g39 : gC G39 (gfd G39 7 1 a) = gC G (gfd G 7 1 a) ∧ gS G39 (gfd G39 7 1 a) = gS G (gfd G 7 1 a) ∧ addCap G39 (gfd G39 7 1 a) = addCap G (gfd G 7 1 a) := by
    have := x39 _ hse.2.1.1 hse.2.1.2
    unfold gC gS addCap
    rw [a39, this.2.1, this.2.2]
    exact ⟨rfl, rfl, rfl⟩
  refine ⟨sr39.1.1, Call.to (mc' := gC G (gfd G 7 1 a)) (ms' := gS G (gfd G 7 1 a)) (ok_show l39 sr39.1 q39 (gRoom (by rw [g39.1]; exact Nat.le_refl _) (by rw [g39.2.1]; exact Nat.le_refl _))) (by omega) (by omega) fun _ G42 h42 => ?_⟩
  have f42 : FR G G42 (wT st) (fun y => y = gfd G 7 1 a ∨ y = gfd G 8 1 st) noA := f39.luIn h42 (Or.inl a39)
  have o42 : ONW G G42 := o39.luT h42
  have l42 : LW E G42 := h42.1
  have s42 : gcl G42 st = 9 := by rw [f42.1 st (by omega)]; exact hst
  refine ⟨s42, by omega, by omega, fun q2 hq2 hqb2 G49 e49 => ?_⟩
  have hq20 : gcl G q2 = 0 := f42.old hq2
  have f49 : FR G G49 (wT st) (fun y => y = gfd G 7 1 a ∨ y = gfd G 8 1 st) noA := by rw [e49]; exact f42.newoIn hq2
  have o49 : ONW G G49 := by rw [e49]; exact o42.newoT hq2
  have l49 : LW E G49 := by rw [e49]; exact l42.newo hq2
  refine ⟨by omega, Call.to (ok_loggedInit (by omega) (by rw [e49, gcl_newo, if_pos rfl]) (Or.inl rfl)) (Nat.zero_le _) (Nat.zero_le _) fun _ G52 e52 => ?_⟩
  have f52 : FR G G52 (wT st) (fun y => y = gfd G 7 1 a ∨ y = gfd G 8 1 st) noA := by rw [e52]; exact (f49.sfdNew hq20 (by decide)).sfdNew hq20 (by decide)
  have o52 : ONW G G52 := by rw [e52]; exact (o49.sfdT (by decide)).sfdT (by decide)
  have l52 : LW E G52 := by rw [e52]; exact (l49.sfd (by decide)).sfd (by decide)
  have r42 : gfd G42 8 1 st = gfd G 8 1 st := f42.2.1 8 1 st (by decide) (by omega) (fun h9 => by unfold wT at h9; omega)
  have r52 : gcl G52 (gfd G 8 1 st) = 14 ∧ gfd G52 13 1 (gfd G 8 1 st) ≠ -1 := ⟨by rw [f52.1 _ (by omega)]; exact hrc.1, (f52.2.2.1 _ hrc.1 hrc.2).1⟩
  -- the records' list is another than the seen one
  have hne : gfd G 8 1 st ≠ gfd G 7 1 a := hO.ne 8 1 7 1 hst ha8 (hO.nn (by rw [hrc.1]; decide) (by rw [hrc.1]; decide)) (by omega)
  have x52 : lst G52 (gfd G 8 1 st) = lst G (gfd G 8 1 st) ∧ capOf G52 (gfd G 8 1 st) = capOf G (gfd G 8 1 st) ∧ gfd G52 13 2 (gfd G 8 1 st) = gfd G 13 2 (gfd G 8 1 st) := by
    have h1 := x39 _ hrc.1 hrc.2
    have c39 : gcl G39 (gfd G 8 1 st) = 14 := by rw [f39.1 _ (by omega)]; exact hrc.1
    have r39 := (f39.2.2.1 _ hrc.1 hrc.2).1
    have h2 := h42.2.2.2.2.1 _ c39 (by rw [a39]; exact hne) r39
    have hneq : gfd G 8 1 st ≠ q2 := fun h9 => by have := hrc.1; rw [h9] at this; omega
    have h3 : lst G52 (gfd G 8 1 st) = lst G42 (gfd G 8 1 st) := by rw [e52, lst_sfd (by decide), lst_sfd (by decide), e49, lst_newo hneq]
    have e3 : lst G52 (gfd G 8 1 st) = lst G (gfd G 8 1 st) := h3.trans (h2.1.trans h1.1)
    refine ⟨e3, ?_, ?_⟩
    · rw [e52, capOf_sfd (by decide), capOf_sfd (by decide), e49]
      rw [← h1.2.1, ← h2.2.1]
      show gln (newo G42 q2 1) (gfd (newo G42 q2 1) 13 1 _) = _
      rw [gfd_newo, if_neg (fun h9 => hneq h9.1)]; rfl
    · rw [l52.size r52.1 r52.2, hL.size hrc.1 hrc.2, e3]
  have g52 : gC G52 (gfd G 8 1 st) = gC G (gfd G 8 1 st) ∧ gS G52 (gfd G 8 1 st) = gS G (gfd G 8 1 st) ∧ addCap G52 (gfd G 8 1 st) = addCap G (gfd G 8 1 st) := by
    unfold gC gS addCap
    rw [x52.2.1, x52.2.2]
    exact ⟨rfl, rfl, rfl⟩
  have c52 : gcl G52 q2 = 2 := by rw [e52, e49]; simp only [gcl_sfd, gcl_newo]; rw [if_pos trivial]
  rw [r42]
  have hsz : gfd G 13 2 (gfd G 8 1 st) < 20000000 := by
    rw [hL.size hrc.1 hrc.2]
    have := h.2.2.2.2.2.2.2.2.2.2.2.2.2.len
    rw [List.length_reverse] at this
    omega
  refine ⟨r52.1, Call.to (mc' := gC G (gfd G 8 1 st)) (ms' := gS G (gfd G 8 1 st)) (ok_add l52 r52.1 r52.2 (Or.inr (by unfold okE; omega)) (by rw [x52.2.2]; exact hsz) (gRoom (by rw [g52.1]; exact Nat.le_refl _) (by rw [g52.2.1]; exact Nat.le_refl _))) (by omega) (by omega) fun _ G57 h57 => ?_⟩
  obtain ⟨-, h57⟩ := h57
  rw [x52.1, g52.2.2] at h57
  have f57 : FR G G57 (wT st) (fun y => y = gfd G 7 1 a ∨ y = gfd G 8 1 st) noA := f52.luIn h57 (Or.inr rfl)
  have o57 : ONW G G57 := o52.luT h57
  have k42 : FR G42 G57 noW (fun y => y = gfd G 7 1 a ∨ y = gfd G 8 1 st) noA := by
    have k1 : FR G42 G52 noW (fun y => y = gfd G 7 1 a ∨ y = gfd G 8 1 st) noA := by
      rw [e52, e49]
      exact (((FR.refl G42).newoIn hq2).sfdNew hq2 (by decide)).sfdNew hq2 (by decide)
    exact k1.luIn h57 (Or.inr rfl)
  have k42' : FR G42 G57 noW (fun y => y = gfd G 8 1 st) noA := by
    have k1 : FR G42 G52 noW (fun y => y = gfd G 8 1 st) noA := by
      rw [e52, e49]
      exact (((FR.refl G42).newoIn hq2).sfdNew hq2 (by decide)).sfdNew hq2 (by decide)
    exact k1.luIn h57 rfl
  have k39 : FR G39 G57 noW (fun y => y = gfd G 7 1 a ∨ y = gfd G 8 1 st) noA := ((FR.refl G39).luIn h42 (Or.inl a39)).trans k42
  have hnb : ∀ b ∈ numL G st, gcl G b = 8 := fun b hb9 => (h.2.2.2.2.1 b hb9).1
  have nwt : ∀ {c k : Nat} {y : Int}, c ≠ 8 → ¬ wT st c k y := fun hcc h9 => hcc h9.1
  have hn1 : gfd G 8 0 st ≠ gfd G 7 1 a := hO.ne 8 0 7 1 hst ha8 (hO.nn (by rw [h.2.1.1]; decide) (by rw [h.2.1.1]; decide)) (by omega)
  have hn2 : gfd G 8 0 st ≠ gfd G 8 1 st := hO.ne 8 0 8 1 hst hst (hO.nn (by rw [h.2.1.1]; decide) (by rw [h.2.1.1]; decide)) (by omega)
  have n57 : gfd G57 8 0 st = gfd G 8 0 st := f57.2.1 8 0 st (by decide) (by omega) (fun h9 => by unfold wT at h9; omega)
  have r57 : gfd G57 8 1 st = gfd G 8 1 st := f57.2.1 8 1 st (by decide) (by omega) (fun h9 => by unfold wT at h9; omega)
  have eN : numL G57 st = numL G st := by
    unfold numL
    rw [n57]
    exact ((f57.2.2.1 _ h.2.1.1 h.2.1.2).2 (fun h9 => by rcases h9 with h9 | h9; exact hn1 h9; exact hn2 h9)).1
  have eL : ∀ b ∈ numL G st, sLab G57 b = sLab G b := fun b hb9 => f57.2.1 7 0 b (by decide) (by rw [hnb b hb9]; decide) (nwt (by decide))
  have hz6 : ∀ z ∈ zs, gcl G z.1 = 6 := fun z hz => (h.2.2.2.2.2.2.2.1 z hz).1
  have eZ : ∀ z ∈ zs, ∀ k, gfd G57 5 k z.1 = gfd G 5 k z.1 := fun z hz k => f57.2.1 5 k z.1 (by decide) (by rw [hz6 z hz]; decide) (nwt (by decide))
  have eq57 : ∀ k, gfd G57 5 k q = gfd G33 5 k q := fun k => by
    rw [k39.2.1 5 k q (by decide) (by rw [q39]; decide) (fun h9 => h9.elim), e39, gfd_sfd, if_neg (by omega)]
  have q57 : gcl G57 q = 6 := by rw [k39.1 q (by rw [q39]; decide)]; exact q39
  have hqz : q ∉ zs.map (·.1) := by
    intro h9
    obtain ⟨z, hz, e⟩ := List.mem_map.mp h9
    have := hz6 z hz
    rw [show z.1 = q from e] at this; omega
  have hs60 : (seenL G a).length < 60 := by
    have h1 := hb.2 (Int.tdiv (sLab G a) 100)
    have h0 : likeP (Int.tdiv (sLab G a) 100) (sLab G a, t, v, 0) = true := decide_eq_true (show (0 : Int) = 0 ∧ Int.tdiv (sLab G a) 100 = Int.tdiv (sLab G a) 100 from ⟨rfl, rfl⟩)
    rw [likeN_app, if_pos h0] at h1
    have h2 := own_like (sLab G a) (smp.map (·.1))
    rw [hse.2.2.1.length_eq, zO_len, zs_map h.2.2.2.2.2.1]
    omega
  have hnt : ∀ y ∈ seenL G a, sT G y ≠ t := fun y hy h9 => by
    obtain ⟨z, z1, rfl, z2, z3⟩ := zO_mem.mp (hse.2.2.1.mem_iff.mp hy)
    have z8 := h.2.2.2.2.2.2.2.1 z z1
    have := (List.pairwise_append.mp hb.1).2.2 z.2.1 (h.mem z1) _ (List.mem_singleton.mpr rfl) z2 rfl z3
    exact this (by rw [← z8.2.1]; exact h9)
  have hzo : ∀ b, zO (sLab G b) (zs ++ [(q, (sLab G a, t, v, 0), cp)]) = zO (sLab G b) zs ++ if sLab G a = sLab G b then [q] else [] := fun b => by
    rw [zO_app]
    congr 1
    by_cases h9 : sLab G a = sLab G b
    · have h0 : own (sLab G b) ((sLab G a, t, v, 0) : Sm4) = true := own_iff.mpr (show (0 : Int) = 0 ∧ sLab G a = sLab G b from ⟨rfl, h9⟩)
      rw [if_pos h9, if_pos h0]
    · have h0 : ¬ own (sLab G b) ((sLab G a, t, v, 0) : Sm4) = true := fun h8 => h9 (own_iff.mp h8).2
      rw [if_neg h9, if_neg h0]
  have hq57 : gcl G57 q2 = 2 := by rw [h57.fr.1 q2 (by rw [c52]; decide)]; exact c52
  have lq0 : gfd G57 1 0 q2 = q := by rw [h57.2.2.1 1 0 q2 (by decide), e52, gfd_sfd, if_neg (by omega), gfd_sfd, if_pos ⟨rfl, rfl, rfl⟩]
  have lq1 : gfd G57 1 1 q2 = 0 := by rw [h57.2.2.1 1 1 q2 (by decide), e52, gfd_sfd, if_pos ⟨rfl, rfl, rfl⟩]
  -- the series itself
  have hSa : SeH G57 a (zs ++ [(q, (sLab G a, t, v, 0), cp)]) ∧ capOf G57 (gfd G57 7 1 a) = addCap G (gfd G 7 1 a) := by
    have hcl : ∀ y ∈ seenL G a, gcl G y ≠ 0 := fun y hy => by rw [(hsr.2.2.2.1 y hy).1]; decide
    have e7 := sr39.2
    have eT : ∀ y ∈ seenL G a, sT G39 y = sT G y := fun y hy => f39.2.1 5 1 y (by decide) (hcl y hy) (nwt (by decide))
    have eLa : sLab G39 a = sLab G a := f39.2.1 7 0 a (by decide) (by omega) (nwt (by decide))
    have s39 : SeH G39 a zs := by
      refine ⟨sr39.1.1, ⟨sr39.1.2.1, sr39.1.2.2.1⟩, by rw [e7, eLa]; exact hse.2.2.1, sr39.1.2.2.2.2.1, hse.2.2.2.2.1.fr f39 (fun j => nwt (by decide)), ?_⟩
      rw [a39, (x39 _ hse.2.1.1 hse.2.1.2).2.1]; exact hse.2.2.2.2.2
    have s42 := s39.show (zs' := zs ++ [(q, (sLab G a, t, v, 0), cp)]) sr39.1 l39 q39 h42 (by rw [eLa, hzo a, if_pos rfl]; exact List.perm_append_singleton _ _) (fun y hy => by rw [e7] at hy; rw [eT y hy, t39]; exact hnt y hy) (by rw [e7]; exact hs60)
    have a42 : gfd G42 7 1 a = gfd G 7 1 a := f42.2.1 7 1 a (by decide) (by omega) (nwt (by decide))
    have c42 : ∀ y ∈ seenL G42 a, gcl G42 y ≠ 0 := fun y hy => by
      rw [s42.2.1, insL_mem] at hy
      rcases hy with rfl | hy
      · rw [h42.fr.1 y (by rw [q39]; decide), q39]; decide
      · rw [e7] at hy
        rw [f42.1 y (hcl y hy)]; exact hcl y hy
    have s57 := s42.1.fr k42' (fun j => fun h9 => h9.elim) (fun y _ => fun h9 => h9.elim) c42 (by rw [a42]; exact fun h9 => hne h9.symm) (List.Perm.refl _)
    refine ⟨s57.1, ?_⟩
    rw [s57.2.2.2, s42.2.2, g39.2.2]
  have hSb : ∀ b ∈ numL G st, b ≠ a → SeH G57 b (zs ++ [(q, (sLab G a, t, v, 0), cp)]) ∧ capOf G57 (gfd G57 7 1 b) = capOf G (gfd G 7 1 b) := by
    intro b hb9 hba
    have hsb := h.2.2.2.2.1 b hb9
    have hlab : sLab G a ≠ sLab G b := fun h9 => hba (h.lab hi hb9 ha h9.symm)
    have hb1 := hO.nn (y := gfd G 7 1 b) (by rw [hsb.2.1.1]; decide) (by rw [hsb.2.1.1]; decide)
    have := hsb.fr (zs' := zs ++ [(q, (sLab G a, t, v, 0), cp)]) f57 (fun j => nwt (by decide)) (fun y _ => nwt (by decide)) (fun y hy => by rw [((h.sr hi hb9).2.2.2.1 y hy).1]; decide) (fun h9 => by
      rcases h9 with h9 | h9
      · exact absurd h9 (hO.ne 7 1 7 1 hsb.1 ha8 (by omega) (fun h8 => hba h8.2.2))
      · exact absurd h9 (hO.ne 7 1 8 1 hsb.1 hst (by omega) (by omega))) (by rw [hzo b, if_neg hlab, List.append_nil])
    exact ⟨this.1, this.2.2.2⟩
  refine hP q G57 ⟨h57.1, o57.owg hO, f57, hq, ?_, hSa.2, eN, fun b hb9 hba => (hSb b hb9 hba).2⟩
  rw [hcp]
  refine ⟨by rw [f57.1 st (by omega)]; exact hst, by rw [n57]; exact ⟨by rw [f57.1 _ (by rw [h.2.1.1]; decide)]; exact h.2.1.1, (f57.2.2.1 _ h.2.1.1 h.2.1.2).1⟩, by rw [r57]; exact ⟨by rw [f57.1 _ (by rw [hrc.1]; decide)]; exact hrc.1, h57.2.2.2.2.2.2.2⟩, ?_, ?_, ?_, ?_, ?_, ?_, ?_, ?_, ?_, ?_, ?_⟩
  · rw [eN, ← h.2.2.2.1]
    exact List.map_congr_left eL
  · intro b hb9
    rw [eN] at hb9
    by_cases hba : b = a
    · rw [hba]; exact hSa.1
    · exact (hSb b hb9 hba).1
  · rw [List.map_append, h.2.2.2.2.2.1]; rfl
  · rw [List.map_append, List.nodup_append]
    refine ⟨h.2.2.2.2.2.2.1, List.nodup_cons.mpr ⟨by simp, List.nodup_nil⟩, fun y hy z hz h9 => ?_⟩
    have : z = q := by simpa using hz
    rw [h9, this] at hy; exact hqz hy
  · intro z hz
    rcases List.mem_append.mp hz with hz | hz
    · have hz8 := h.2.2.2.2.2.2.2.1 z hz
      refine ⟨by rw [f57.1 _ (by rw [hz8.1]; decide)]; exact hz8.1, (eZ z hz 1).trans hz8.2.1, (eZ z hz 2).trans hz8.2.2.1, (eZ z hz 4).trans hz8.2.2.2.1, ?_, ?_⟩
      · rw [eN, eZ z hz 0]; exact hz8.2.2.2.2.1
      · rw [eZ z hz 0, eL _ hz8.2.2.2.2.1]; exact hz8.2.2.2.2.2
    · rw [List.mem_singleton.mp hz]
      refine ⟨q57, (eq57 1).trans fq33.2.1, (eq57 2).trans fq33.2.2.1, (eq57 4).trans fq33.2.2.2.2, ?_, ?_⟩
      · show gfd G57 5 0 q ∈ _
        rw [eq57 0, fq33.1, eN]; exact ha
      · show sLab G57 (gfd G57 5 0 q) = sLab G a
        rw [eq57 0, fq33.1]; exact eL a ha
  · rw [List.pairwise_append]
    refine ⟨h.2.2.2.2.2.2.2.2.1.imp_of_mem (fun {y z} hy hz h9 => by rw [eZ y hy, eZ z hz]; exact h9), List.pairwise_singleton _ _, fun y hy z hz => ?_⟩
    rw [List.mem_singleton.mp hz, eZ y hy]
    show _ < gfd G57 5 3 q
    rw [eq57 3, fq33.2.2.2.1]
    exact h.2.2.2.2.2.2.2.2.2.1 y hy
  · intro z hz
    rcases List.mem_append.mp hz with hz | hz
    · rw [eZ z hz]
      have := h.2.2.2.2.2.2.2.2.2.1 z hz
      omega
    · rw [List.mem_singleton.mp hz]
      show gfd G57 5 3 q < _
      rw [eq57 3, fq33.2.2.2.1]; omega
  · rw [k39.2.1 8 3 st (by decide) (by rw [f39.1 st (by omega)]; omega) (fun h9 => h9.elim), e39, gfd_sfd, if_pos ⟨rfl, rfl, rfl⟩]
  · rw [f57.2.1 8 2 st (by decide) (by omega) (fun h9 => by unfold wT at h9; omega)]; exact h.2.2.2.2.2.2.2.2.2.2.2.1
  · rw [r57]; exact h57.2.2.2.2.2.2.1
  · rw [r57, h57.2.2.2.2.2.1, List.reverse_append]
    refine ⟨hq57, fun _ => ⟨lq1, zs, _, rfl, lq0⟩, fun h9 => (h9 rfl).elim, ?_⟩
    have : zU 0 (zs ++ [(q, ((sLab G a, t, v, 0) : Sm4), cp)]) = zs := by unfold zU; rw [if_pos rfl, List.dropLast_concat]
    rw [this]
    exact h.2.2.2.2.2.2.2.2.2.2.2.2.2.fr (fun g _ h2 => ⟨by rw [f57.1 g (by omega)]; exact h2, f57.2.1 1 0 g (by decide) (by omega) (nwt (by decide)), f57.2.1 1 1 g (by decide) (by omega) (nwt (by decide))⟩) (fun z hz _ => eZ z hz 5)
end S44
