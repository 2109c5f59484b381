/-! the store hides samples: its record -/
section S52
variable {E : EE} {G G' G2 : Gt} {c s bc bs : Nat} {Q X : Int → Gt → Prop} {a st x q l t v f sel fr to e : Int} {zs zs' : List Zt} {W : Nat → Nat → Int → Prop} {L A : Int → Prop}
variable {ser : List Int} {smp : List (Sm4 × Int)} {rs : List Int} {dn wr cr er : Int}
/-- what an erasing chooses -/
def inP (p : Int → Bool) (fr to : Int) (q : Sm4) : Bool := (decide (fr ≤ qT q) && decide (qT q ≤ to)) && p (qC q)
def selP (G : Gt) (sel : Int) (c : Int) : Bool := decide (slS G sel c ≠ 0)
theorem zuniq {zs : List Zt} (h : (zs.map (·.1)).Nodup) {z y : Zt} (hz : z ∈ zs) (hy : y ∈ zs) (he : z.1 = y.1) : z = y := by
  obtain ⟨i, hi, rfl⟩ := List.getElem_of_mem hz
  obtain ⟨j, hj, rfl⟩ := List.getElem_of_mem hy
  have hp := List.pairwise_iff_getElem.mp h
  rcases Nat.lt_trichotomy i j with h1 | h1 | h1
  · exact (hp i j (by rw [List.length_map]; exact hi) (by rw [List.length_map]; exact hj) h1 (by rw [List.getElem_map, List.getElem_map]; exact he)).elim
  · subst h1; rfl
  · exact (hp j i (by rw [List.length_map]; exact hj) (by rw [List.length_map]; exact hi) h1 (by rw [List.getElem_map, List.getElem_map]; exact he.symm)).elim
def hz (e : Int) (P : Sm4 → Bool) (z : Zt) : Zt := (z.1, hides e P z.2.1, z.2.2)
theorem own_hides {l : Int} {P : Sm4 → Bool} (he : e ≠ 0) (q : Sm4) : own l (hides e P q) = (own l q && !P q) := by
  rw [Bool.eq_iff_iff, own_iff, Bool.and_eq_true, own_iff, hides_C, hides_H he]
  simp only [Bool.not_eq_true']
  constructor
  · rintro ⟨⟨h1, h2⟩, h3⟩; exact ⟨⟨h1, h3⟩, h2⟩
  · rintro ⟨⟨h1, h2⟩, h3⟩; exact ⟨⟨h1, h3⟩, h2⟩
theorem zO_hz {P : Sm4 → Bool} (he : e ≠ 0) (l : Int) (zs : List Zt) : zO l (zs.map (hz e P)) = ((zs.filter (fun z => own l z.2.1)).filter (fun z => !P z.2.1)).map (·.1) := by
  unfold zO
  rw [List.filter_map, List.map_map, List.filter_filter]
  congr 1
  refine List.filter_congr fun z _ => ?_
  show own l (hides e P z.2.1) = _
  rw [own_hides he, Bool.and_comm]
theorem qH_hides {P : Sm4 → Bool} {q : Sm4} (hq : qH q ≠ e) : qH (hides e P q) = e ↔ qH q = 0 ∧ P q = true := by
  unfold hides
  by_cases h : qH q = 0 ∧ P q = true
  · rw [if_pos h]; exact ⟨fun _ => h, fun _ => rfl⟩
  · rw [if_neg h]; exact ⟨fun h9 => (hq h9).elim, fun h9 => (h h9).elim⟩
theorem zU_hz {P : Sm4 → Bool} {zs : List Zt} (he : e ≠ 0) (hs : ∀ z ∈ zs, qH z.2.1 ≠ e) : zU e (zs.map (hz e P)) = zs := by
  unfold zU
  rw [if_neg he, List.map_map]
  conv => rhs; rw [← List.map_id zs]
  refine List.map_congr_left fun z hz1 => ?_
  show (z.1, unh e (hides e P z.2.1), z.2.2) = z
  rw [unh_hides (hs z hz1)]
def hdQ (E : EE) (G G' : Gt) (st sel fr to e : Int) (ser : List Int) (smp : List (Sm4 × Int)) (rs : List Int) (dn wr : Int) : Prop :=
  LW E G' ∧ OWG G G' ∧ FR G G' (fun c k y => c = 5 ∧ k = 5 ∧ gcl G y = 6) (fun y => y = gfd G 8 1 st ∨ ∃ a ∈ numL G st, y = gfd G 7 1 a) noA ∧ numL G' st = numL G st ∧
  ∃ zs', StH G' st zs' ser (smp.map fun q => (hides e (inP (selP G sel) fr to) q.1, q.2)) (e :: rs) dn wr (addCap G (gfd G 8 1 st))
theorem ok_hide (hL0 : LW E G) (hO0 : OW G) (h : StH G st zs ser smp rs dn wr cr) (hi : SI ser (smp.map (·.1)) rs er) (hsel : gcl G sel = 7) (hft : fr ≤ to) (hto : 0 ≤ fr ∧ to ≤ 100000) (he : e = er + 1) (her : 0 ≤ er)
    (hrs : rs.length ≤ 1000000) (hc : 1 + gC G (gfd G 8 1 st) ≤ bc) (hs : 2 + gS G (gfd G 8 1 st) ≤ bs) :
    Ok E M_X8_hide [rv st, rv sel, iv fr, iv to] G bc bs (fun r G' => r = ((smp.map (·.1)).countP fun q => decide (qH q = 0) && inP (selP G sel) fr to q : Nat) ∧ hdQ E G G' st sel fr to e ser smp rs dn wr) (fun _ _ => False) := by
  have hnr := h.nr hi
  have hsz0 : gfd G 13 2 (gfd G 8 0 st) = (numL G st).length := hnr.size hL0
  refine i_X8_hide ?_
  refine v_hide hL0 hO0 h hi hsel hft hto ?_ (numL G st).length 0 G (-1) [] (by omega) (by show 0 ≤ _; omega) ⟨hL0, ONW.refl G, FR.refl G, fun a ha => (List.not_mem_nil (show a ∈ ([] : List Int) from ha)).elim, rfl, List.nodup_nil, fun y => ⟨fun h9 => (List.not_mem_nil h9).elim, fun ⟨a, ha, _⟩ => (List.not_mem_nil (show a ∈ ([] : List Int) from ha)).elim⟩⟩
  intro G1 f ks ⟨hL, hO, hF, hl, hch, hnd, hmem⟩
  have hb8 : ∀ b ∈ numL G st, gcl G b = 8 ∧ gcl G (gfd G 7 1 b) = 14 ∧ gfd G 7 1 b ≠ -1 ∧ gfd G 13 1 (gfd G 7 1 b) ≠ -1 := fun b hb => by
    have := h.2.2.2.2.1 b hb
    exact ⟨this.1, this.2.1.1, hO0.nn (by rw [this.2.1.1]; decide) (by rw [this.2.1.1]; decide), this.2.1.2⟩
  have hst := h.1
  have hrc := h.2.2.1
  have hnl := h.2.1
  have nN : ¬ ∃ a ∈ numL G st, gfd G 8 0 st = gfd G 7 1 a := fun ⟨b, hb, h9⟩ => absurd h9 (hO0.ne 8 0 7 1 hst (hb8 b hb).1 (hO0.nn (by rw [hnl.1]; decide) (by rw [hnl.1]; decide)) (by omega))
  have nR : ¬ ∃ a ∈ numL G st, gfd G 8 1 st = gfd G 7 1 a := fun ⟨b, hb, h9⟩ => absurd h9 (hO0.ne 8 1 7 1 hst (hb8 b hb).1 (hO0.nn (by rw [hrc.1]; decide) (by rw [hrc.1]; decide)) (by omega))
  have st9 : gcl G1 st = 9 := by rw [hF.1 st (by omega)]; exact hst
  have e80 : gfd G1 8 0 st = gfd G 8 0 st := hF.2.1 8 0 st (by decide) (by omega) (fun h9 => by omega)
  have e81 : gfd G1 8 1 st = gfd G 8 1 st := hF.2.1 8 1 st (by decide) (by omega) (fun h9 => by omega)
  have n14 : gcl G1 (gfd G 8 0 st) = 14 := by rw [hF.1 _ (by omega)]; exact hnl.1
  have nr1 := hF.2.2.1 _ hnl.1 hnl.2
  have rr1 := hF.2.2.1 _ hrc.1 hrc.2
  have r14 : gcl G1 (gfd G 8 1 st) = 14 := by rw [hF.1 _ (by omega)]; exact hrc.1
  have hsz : gfd G1 13 2 (gfd G 8 0 st) = (numL G st).length := by rw [hL.size n14 nr1.1, (nr1.2 nN).1]; rfl
  refine b_X8_hide_9 ⟨st9, by rw [e80]; exact n14, by rw [e80]; exact okp_size n14, fun _ => ?_, fun h9 => by rw [e80] at h9; omega⟩
  rw [e81]
  refine ⟨st9, by omega, by omega, fun q2 hq2 hqb2 G2 e2 => ⟨by omega, ?_⟩⟩
  have hq20 : gcl G q2 = 0 := hF.old hq2
  refine Call.to (ok_loggedInit (by omega) (by rw [e2, gcl_newo, if_pos rfl]) (Or.inr rfl)) (Nat.zero_le _) (Nat.zero_le _) fun _ G3 e3 => ?_
  have k3 : FR G1 G3 noW (fun y => y = gfd G 8 1 st) noA := by
    rw [e3, e2]
    exact (((FR.refl G1).newoIn hq2).sfdNew hq2 (by decide)).sfdNew hq2 (by decide)
  have o3 : ONW G G3 := by rw [e3, e2]; exact ((hO.newoT hq2).sfdT (by decide)).sfdT (by decide)
  have l3 : LW E G3 := by rw [e3, e2]; exact ((hL.newo hq2).sfd (by decide)).sfd (by decide)
  have c3 : gcl G3 q2 = 2 := by rw [e3, e2]; simp only [gcl_sfd, gcl_newo]; rw [if_pos trivial]
  have r3 : gcl G3 (gfd G 8 1 st) = 14 := by rw [k3.1 _ (by omega)]; exact r14
  have hneq : gfd G 8 1 st ≠ q2 := fun h9 => by rw [← h9] at hq20; omega
  have x3 : lst G3 (gfd G 8 1 st) = lst G (gfd G 8 1 st) ∧ capOf G3 (gfd G 8 1 st) = capOf G (gfd G 8 1 st) := by
    have h3 : lst G3 (gfd G 8 1 st) = lst G1 (gfd G 8 1 st) := by rw [e3, lst_sfd (by decide), lst_sfd (by decide), e2, lst_newo hneq]
    refine ⟨h3.trans (rr1.2 nR).1, ?_⟩
    rw [e3, capOf_sfd (by decide), capOf_sfd (by decide), e2, ← (rr1.2 nR).2]
    show gln (newo G1 q2 1) (gfd (newo G1 q2 1) 13 1 _) = _
    rw [gfd_newo, if_neg (fun h9 => hneq h9.1)]; rfl
  have rr3 := (k3.2.2.1 _ r14 rr1.1).1
  have s3 : gfd G3 13 2 (gfd G 8 1 st) = gfd G 13 2 (gfd G 8 1 st) := by rw [l3.size r3 rr3, hL0.size hrc.1 hrc.2, x3.1]
  have g3 : gC G3 (gfd G 8 1 st) = gC G (gfd G 8 1 st) ∧ gS G3 (gfd G 8 1 st) = gS G (gfd G 8 1 st) ∧ addCap G3 (gfd G 8 1 st) = addCap G (gfd G 8 1 st) := by
    unfold gC gS addCap
    rw [x3.2, s3]; exact ⟨rfl, rfl, rfl⟩
  have hsr : gfd G 13 2 (gfd G 8 1 st) < 20000000 := by
    rw [hL0.size hrc.1 hrc.2]
    have := h.2.2.2.2.2.2.2.2.2.2.2.2.2.len
    rw [List.length_reverse] at this
    omega
  refine ⟨r3, Call.to (mc' := gC G (gfd G 8 1 st)) (ms' := gS G (gfd G 8 1 st)) (ok_add l3 r3 rr3 (Or.inr (by unfold okE; omega)) (by rw [s3]; exact hsr) (gRoom (by rw [g3.1]; exact Nat.le_refl _) (by rw [g3.2.1]; exact Nat.le_refl _))) (by omega) (by omega) fun _ G4 h4 => ?_⟩
  obtain ⟨-, h4⟩ := h4
  rw [x3.1, g3.2.2] at h4
  have k4 : FR G1 G4 noW (fun y => y = gfd G 8 1 st) noA := k3.luIn h4 rfl
  have hv6 : ∀ b ∈ numL G st, ∀ y ∈ seenL G b, gcl G y = 6 := fun b hb y hy => ((h.sr hi hb).2.2.2.1 y hy).1
  have F4 : FR G G4 (fun c k y => c = 5 ∧ k = 5 ∧ ∃ b ∈ numL G st, y ∈ seenL G b) (fun y => y = gfd G 8 1 st ∨ ∃ a ∈ numL G st, y = gfd G 7 1 a) noA :=
    (hF.mono (fun _ _ _ h9 => h9) (fun _ h9 => Or.inr h9) (fun _ h9 => h9)).andThen k4 (fun _ _ _ _ h9 => h9.elim) (fun _ _ h9 => Or.inl h9) (fun _ _ h9 => h9)
  have o4 : ONW G G4 := o3.luT h4
  have he0 : e ≠ 0 := by omega
  have hqe : ∀ z ∈ zs, qH z.2.1 ≠ e := fun z hz1 => by have := (hi.2.2.2.1 _ (h.mem hz1)).2.2.2; omega
  have hz6 : ∀ z ∈ zs, gcl G z.1 = 6 := fun z hz1 => (h.2.2.2.2.2.2.2.1 z hz1).1
  have eZ : ∀ z ∈ zs, ∀ k, k ≠ 5 → gfd G4 5 k z.1 = gfd G 5 k z.1 := fun z hz1 k hk => F4.2.1 5 k z.1 (by decide) (by rw [hz6 z hz1]; decide) (fun h9 => hk h9.2.1)
  have eZ5 : ∀ z ∈ zs, qH z.2.1 ≠ 0 → gfd G4 5 5 z.1 = gfd G 5 5 z.1 := fun z hz1 hq => F4.2.1 5 5 z.1 (by decide) (by rw [hz6 z hz1]; decide) (fun ⟨_, _, b, hb, hy⟩ => by
    obtain ⟨w, w1, w2, w3, -⟩ := zO_mem.mp ((h.2.2.2.2.1 b hb).2.2.1.mem_iff.mp hy)
    rw [zuniq h.2.2.2.2.2.2.1 w1 hz1 w2] at w3
    exact hq w3)
  have n4 : gfd G4 8 0 st = gfd G 8 0 st := F4.2.1 8 0 st (by decide) (by omega) (fun h9 => by omega)
  have r4 : gfd G4 8 1 st = gfd G 8 1 st := F4.2.1 8 1 st (by decide) (by omega) (fun h9 => by omega)
  have nRN : gfd G 8 0 st ≠ gfd G 8 1 st := hO0.ne 8 0 8 1 hst hst (hO0.nn (by rw [hnl.1]; decide) (by rw [hnl.1]; decide)) (by omega)
  have eN : numL G4 st = numL G st := by
    unfold numL
    rw [n4]
    exact ((F4.2.2.1 _ hnl.1 hnl.2).2 (fun h9 => by rcases h9 with h9 | h9; exact nRN h9; exact nN h9)).1
  have eL : ∀ b ∈ numL G st, sLab G4 b = sLab G b := fun b hb => F4.2.1 7 0 b (by decide) (by rw [(hb8 b hb).1]; decide) (fun h9 => by omega)
  have eSb : ∀ b ∈ numL G st, seenL G4 b = hdK G sel fr to b ∧ capOf G4 (gfd G4 7 1 b) = capOf G (gfd G 7 1 b) ∧ gfd G4 7 1 b = gfd G 7 1 b ∧ gfd G4 13 1 (gfd G 7 1 b) ≠ -1 := fun b hb => by
    have e7 : gfd G4 7 1 b = gfd G 7 1 b := F4.2.1 7 1 b (by decide) (by rw [(hb8 b hb).1]; decide) (fun h9 => by omega)
    have c1 : gcl G1 (gfd G 7 1 b) = 14 := by rw [hF.1 _ (by rw [(hb8 b hb).2.1]; decide)]; exact (hb8 b hb).2.1
    have k := k4.2.2.1 _ c1 (hF.2.2.1 _ (hb8 b hb).2.1 (hb8 b hb).2.2.2).1
    have kk := k.2 (fun h9 => nR ⟨b, hb, h9.symm⟩)
    refine ⟨?_, ?_, e7, k.1⟩
    · unfold seenL
      rw [e7, kk.1, (hl b hb).1]
    · rw [e7, kk.2, (hl b hb).2]
  have hP : ∀ z ∈ zs, ∀ b ∈ numL G st, qC z.2.1 = sLab G b → inP (selP G sel) fr to z.2.1 = ((decide (fr ≤ sT G z.1) && decide (sT G z.1 ≤ to)) && decide (slS G sel (sLab G b) ≠ 0)) := fun z hz1 b hb hc1 => by
    unfold inP selP
    rw [hc1, (h.2.2.2.2.2.2.2.1 z hz1).2.1]
  have hlq : gfd G4 1 0 q2 = f ∧ gfd G4 1 1 q2 = 1 ∧ gcl G4 q2 = 2 := by
    refine ⟨?_, ?_, ?_⟩
    · rw [h4.2.2.1 1 0 q2 (by decide), e3, gfd_sfd, if_neg (by omega), gfd_sfd, if_pos ⟨rfl, rfl, rfl⟩]
    · rw [h4.2.2.1 1 1 q2 (by decide), e3, gfd_sfd, if_pos ⟨rfl, rfl, rfl⟩]
    · rw [h4.fr.1 q2 (by omega)]; exact c3
  have hmk : ∀ y, y ∈ ks ↔ y ∈ zHid e (zs.map (hz e (inP (selP G sel) fr to))) := fun y => by
    rw [hmem y, zHid_mem]
    constructor
    · rintro ⟨b, hb, h1, h2, h3, h5⟩
      obtain ⟨z, z1, rfl, z3, z4⟩ := zO_mem.mp ((h.2.2.2.2.1 b hb).2.2.1.mem_iff.mp h2)
      refine ⟨_, List.mem_map.mpr ⟨z, z1, rfl⟩, rfl, (qH_hides (hqe z z1)).mpr ⟨z3, ?_⟩⟩
      rw [hP z z1 b hb z4, decide_eq_true h3, decide_eq_true h5, decide_eq_true h1]; rfl
    · rintro ⟨z', hz', rfl, h1⟩
      obtain ⟨z, z1, rfl⟩ := List.mem_map.mp hz'
      obtain ⟨h2, h3⟩ := (qH_hides (hqe z z1)).mp h1
      have h5 : qC z.2.1 ∈ ser := (hi.2.2.2.1 _ (h.mem z1)).1
      rw [← h.2.2.2.1] at h5
      obtain ⟨b, hb, hb1⟩ := List.mem_map.mp h5
      rw [hP z z1 b hb hb1.symm] at h3
      simp only [Bool.and_eq_true, decide_eq_true_eq] at h3
      exact ⟨b, hb, h3.2, (h.2.2.2.2.1 b hb).2.2.1.mem_iff.mpr (zO_mem.mpr ⟨z, z1, rfl, h2, hb1.symm⟩), h3.1.1, h3.1.2⟩
  have hz1map : (zs.map (hz e (inP (selP G sel) fr to))).map (·.1) = zs.map (·.1) := by rw [List.map_map]; rfl
  have hperm : ks.Perm (zHid e (zs.map (hz e (inP (selP G sel) fr to)))) := by
    refine (List.perm_ext_iff_of_nodup hnd ?_).mpr hmk
    have h9 : ((zs.map (hz e (inP (selP G sel) fr to))).map (·.1)).Nodup := by rw [hz1map]; exact h.2.2.2.2.2.2.1
    unfold zHid
    exact h9.sublist (List.filter_sublist.map _)
  refine ⟨?_, h4.1, o4.owg hO0, F4.mono (fun c k y h9 => ⟨h9.1, h9.2.1, ?_⟩) (fun _ h9 => h9) (fun _ h9 => h9), eN, zs.map (hz e (inP (selP G sel) fr to)), ?_⟩
  · rw [hperm.length_eq]
    congr 1
    unfold zHid
    rw [List.length_map, ← List.countP_eq_length_filter, List.countP_map, ← zs_map h.2.2.2.2.2.1, List.countP_map]
    refine List.countP_congr fun z hz1 => ?_
    show decide (qH (hides e (inP (selP G sel) fr to) z.2.1) = e) = true ↔ (decide (qH z.2.1 = 0) && inP (selP G sel) fr to z.2.1) = true
    rw [decide_eq_true_iff, qH_hides (hqe z hz1), Bool.and_eq_true, decide_eq_true_iff]
  · obtain ⟨b, hb, hy⟩ := h9.2.2
    exact hv6 b hb y hy
  refine ⟨by rw [F4.1 st (by omega)]; exact hst, by rw [n4]; exact ⟨by rw [F4.1 _ (by omega)]; exact hnl.1, (F4.2.2.1 _ hnl.1 hnl.2).1⟩, by rw [r4]; exact ⟨by rw [F4.1 _ (by omega)]; exact hrc.1, h4.2.2.2.2.2.2.2⟩, ?_, ?_, ?_, by rw [hz1map]; exact h.2.2.2.2.2.2.1, ?_, ?_, ?_, ?_, ?_, ?_, ?_⟩
  · rw [eN, ← h.2.2.2.1]
    exact List.map_congr_left eL
  · intro b hb
    rw [eN] at hb
    have hsb := h.2.2.2.2.1 b hb
    have hsr1 := h.sr hi hb
    obtain ⟨k1, k2, k5, k6⟩ := eSb b hb
    have eT : ∀ y ∈ seenL G b, sT G4 y = sT G y := fun y hy => F4.2.1 5 1 y (by decide) (by rw [hv6 b hb y hy]; decide) (fun h9 => by omega)
    refine ⟨by rw [F4.1 b (by rw [hsb.1]; decide)]; exact hsb.1, by rw [k5]; exact ⟨by rw [F4.1 _ (by rw [hsb.2.1.1]; decide)]; exact hsb.2.1.1, k6⟩, ?_, ?_, hsb.2.2.2.2.1.fr F4 (fun j h9 => by omega), by rw [k2]; exact hsb.2.2.2.2.2⟩
    · rw [k1, eL b hb, zO_hz he0]
      unfold hdK
      by_cases hs1 : slS G sel (sLab G b) = 0
      · rw [if_pos hs1]
        refine hsb.2.2.1.trans ?_
        unfold zO
        have h9 : (zs.filter (fun z => own (sLab G b) z.2.1)).filter (fun z => !inP (selP G sel) fr to z.2.1) = zs.filter (fun z => own (sLab G b) z.2.1) := List.filter_eq_self.mpr fun z hz1 => by
          have hz2 := List.mem_filter.mp hz1
          rw [hP z hz2.1 b hb (own_iff.mp hz2.2).2, hs1]
          simp
        rw [h9]
      · rw [if_neg hs1]
        refine (hsb.2.2.1.filter _).trans ?_
        unfold zO
        rw [List.filter_map]
        have : (zs.filter (fun z => own (sLab G b) z.2.1)).filter ((fun y => !(decide (fr ≤ sT G y) && decide (sT G y ≤ to))) ∘ fun x => x.1) = (zs.filter (fun z => own (sLab G b) z.2.1)).filter (fun z => !inP (selP G sel) fr to z.2.1) := by
          refine List.filter_congr fun z hz1 => ?_
          have hz2 := List.mem_filter.mp hz1
          rw [hP z hz2.1 b hb (own_iff.mp hz2.2).2, decide_eq_true hs1, Bool.and_true]; rfl
        rw [this]
    · rw [k1]
      have hsub : (hdK G sel fr to b).Sublist (seenL G b) := by
        unfold hdK
        split
        · exact List.Sublist.refl _
        · exact List.filter_sublist
      exact (hsb.2.2.2.1.sublist hsub).imp_of_mem (fun {x y} hx hy h9 => by rw [eT x (hsub.subset hx), eT y (hsub.subset hy)]; exact h9)
  · rw [← h.2.2.2.2.2.1, List.map_map, List.map_map]; rfl
  · intro z' hz'
    obtain ⟨z, z1, rfl⟩ := List.mem_map.mp hz'
    have h8 := h.2.2.2.2.2.2.2.1 z z1
    refine ⟨by show gcl G4 z.1 = 6; rw [F4.1 _ (by rw [h8.1]; decide)]; exact h8.1, ?_, ?_, (eZ z z1 4 (by decide)).trans h8.2.2.2.1, ?_, ?_⟩
    · show gfd G4 5 1 z.1 = qT (hides e _ z.2.1)
      rw [hides_T, eZ z z1 1 (by decide)]; exact h8.2.1
    · show gfd G4 5 2 z.1 = qV (hides e _ z.2.1)
      rw [hides_V, eZ z z1 2 (by decide)]; exact h8.2.2.1
    · show gfd G4 5 0 z.1 ∈ _
      rw [eN, eZ z z1 0 (by decide)]; exact h8.2.2.2.2.1
    · show sLab G4 (gfd G4 5 0 z.1) = qC (hides e _ z.2.1)
      rw [hides_C, eZ z z1 0 (by decide), eL _ h8.2.2.2.2.1]; exact h8.2.2.2.2.2
  · rw [List.pairwise_map]
    refine h.2.2.2.2.2.2.2.2.1.imp_of_mem fun {y z} hy hz1 h9 => ?_
    show gfd G4 5 3 y.1 < gfd G4 5 3 z.1
    rw [eZ y hy 3 (by decide), eZ z hz1 3 (by decide)]; exact h9
  · intro z' hz'
    obtain ⟨z, z1, rfl⟩ := List.mem_map.mp hz'
    show gfd G4 5 3 z.1 < wr
    rw [eZ z z1 3 (by decide)]; exact h.2.2.2.2.2.2.2.2.2.1 z z1
  · rw [F4.2.1 8 3 st (by decide) (by omega) (fun h9 => by omega)]; exact h.2.2.2.2.2.2.2.2.2.2.1
  · rw [F4.2.1 8 2 st (by decide) (by omega) (fun h9 => by omega)]; exact h.2.2.2.2.2.2.2.2.2.2.2.1
  · rw [r4]; exact h4.2.2.2.2.2.2.1
  · rw [r4, h4.2.2.2.2.2.1, List.reverse_append]
    refine ⟨hlq.2.2, fun h9 => (he0 h9).elim, fun _ => ⟨hlq.2.1, ks, hperm, ?_⟩, ?_⟩
    · rw [hlq.1]
      refine hch.fr fun k hk => ?_
      have : gcl G1 k ≠ 0 := by
        obtain ⟨b, hb, -, h2, -, -⟩ := (hmem k).mp hk
        rw [hF.1 k (by rw [hv6 b hb k h2]; decide), hv6 b hb k h2]; decide
      exact k4.2.1 5 5 k (by decide) this id
    · rw [zU_hz he0 hqe]
      exact h.2.2.2.2.2.2.2.2.2.2.2.2.2.fr (fun g _ h2 => ⟨by rw [F4.1 g (by omega)]; exact h2, F4.2.1 1 0 g (by decide) (by omega) (fun h9 => by omega), F4.2.1 1 1 g (by decide) (by omega) (fun h9 => by omega)⟩) (fun z hz1 hq => eZ5 z hz1 hq)
end S52
