/-! the store takes an erasing back -/
section S55
variable {E : EE} {G G' G2 : Gt} {bc bs : Nat} {Q X : Int → Gt → Prop} {a st x q l t v f e r g : Int} {zs zs' : List Zt} {W : Nat → Nat → Int → Prop} {L A : Int → Prop}
variable {ser : List Int} {smp : List (Sm4 × Int)} {rs : List Int} {dn wr cr er : Int}
/-- what showing these again costs -/
def rkC (G0 G : Gt) (st : Int) (ks : List Int) : Nat := ((numL G0 st).map fun b => grC (ks.countP (fun y => decide (gfd G0 5 0 y = b))) (capOf G (gfd G 7 1 b)) (seenL G b).length).sum
def rkS (G0 G : Gt) (st : Int) (ks : List Int) : Nat := ((numL G0 st).map fun b => grS (ks.countP (fun y => decide (gfd G0 5 0 y = b))) (capOf G (gfd G 7 1 b)) (seenL G b).length).sum
theorem rk_nil (G0 G : Gt) (st : Int) : rkC G0 G st [] = 0 ∧ rkS G0 G st [] = 0 := by
  unfold rkC rkS
  constructor
  · generalize numL G0 st = N
    induction N with
    | nil => rfl
    | cons b N ih => rw [List.map_cons, List.sum_cons, ih]; rfl
  · generalize numL G0 st = N
    induction N with
    | nil => rfl
    | cons b N ih => rw [List.map_cons, List.sum_cons, ih]; rfl
theorem zU_unD {D : List Int} {zs : List Zt} (hr : r ≠ 0) (hD : ∀ z ∈ zs, qH z.2.1 = r → z.1 ∈ D) : unD D r zs = zU r zs := by
  unfold unD zU
  rw [if_neg hr]
  refine List.map_congr_left fun z hz => ?_
  by_cases h : z.1 ∈ D
  · rw [if_pos h]
  · rw [if_neg h]
    have : qH z.2.1 ≠ r := fun h9 => h (hD z hz h9)
    unfold unh
    rw [if_neg this]; rfl
theorem v_takeBack (hO : OW G) (h : StC G st zs ser smp dn wr) (hr : r ≠ 0) (hi : SC ser ((zU r zs).map (·.2.1))) {ks : List Int} (hks : ks.Perm (zHid r zs)) :
    ∀ (rest D : List Int) (G1 : Gt) (p : Int) (c s : Nat), D ++ rest = ks → chn G1 p rest → LW E G1 → ONW G G1 → FR G G1 (fun c k y => c = 5 ∧ k = 5 ∧ y ∈ ks) (fun y => ∃ a ∈ numL G st, y = gfd G 7 1 a) noA → StC G1 st (unD D r zs) ser ((unD D r zs).map (·.2)) dn wr → numL G1 st = numL G st →
      rkC G G1 st rest ≤ c → rkS G G1 st rest ≤ s → PC G1 st + rkC G G st ks ≤ PC G st + rkC G G1 st rest → PS G1 st + rkS G G st ks ≤ PS G st + rkS G G1 st rest →
      V E M_X8_takeBack 25 [none, none, some (rv p), none] [] G1 c s (fun _ G' => bkQ E G G' st ks (zU r zs) ser dn wr ∧ PC G' st + rkC G G st ks ≤ PC G st ∧ PS G' st + rkS G G st ks ≤ PS G st) X := by
  intro rest
  induction rest with
  | nil =>
    intro D G1 p c s hD hch hL hO1 hF hC hN _ _ hp1 hp2
    have hp : p = -1 := hch
    have e : unD D r zs = zU r zs := zU_unD hr (fun z hz hq => by
      rw [List.append_nil] at hD
      rw [hD, hks.mem_iff, zHid_mem]
      exact ⟨z, hz, rfl, hq⟩)
    rw [e] at hC
    rw [(rk_nil G G1 st).1] at hp1
    rw [(rk_nil G G1 st).2] at hp2
    exact b_X8_takeBack_25 ⟨fun _ => ⟨⟨hL, hO1, hF, hC, hN⟩, hp1, hp2⟩, fun h9 => by omega⟩
  | cons x rest ih =>
    intro D G1 p c s hD hch hL hO1 hF hC hN hc1 hs1 hp1 hp2
    obtain ⟨hpx, hch⟩ := hch
    subst hpx
    have hOw1 := hO.go hO1
    have hxk : p ∈ ks := by rw [← hD]; exact List.mem_append_right _ List.mem_cons_self
    obtain ⟨z, z1, z2, z3⟩ := zHid_mem.mp (hks.mem_iff.mp hxk)
    subst z2
    have hnk : ks.Nodup := (hks.nodup_iff).mpr (by unfold zHid; exact h.2.2.2.2.2.1.sublist (List.filter_sublist.map _))
    have hxD : z.1 ∉ D := fun h9 => by
      rw [← hD, List.nodup_append] at hnk
      exact hnk.2.2 z.1 h9 z.1 List.mem_cons_self rfl
    have hxr : z.1 ∉ rest := fun h9 => by
      rw [← hD, List.nodup_append] at hnk
      exact (List.nodup_cons.mp hnk.2.1).1 h9
    have hz8 := h.2.2.2.2.2.2.1 z z1
    have hz61 : gcl G1 z.1 = 6 := by rw [hF.1 _ (by rw [hz8.1]; decide)]; exact hz8.1
    have e50 : ∀ y, gcl G y = 6 → gfd G1 5 0 y = gfd G 5 0 y := fun y hy => hF.2.1 5 0 y (by decide) (by rw [hy]; decide) (fun h9 => by omega)
    have ha := hz8.2.2.2.2.1
    have hla : sLab G (gfd G 5 0 z.1) = qC z.2.1 := hz8.2.2.2.2.2
    have hzn := hOw1.nn (y := z.1) (by rw [hz61]; decide) (by rw [hz61]; decide)
    generalize hav : gfd G 5 0 z.1 = a at ha hla
    have eL1 : ∀ b ∈ numL G st, sLab G1 b = sLab G b := fun b hb => hF.2.1 7 0 b (by decide) (by rw [(h.2.2.2.1 b hb).1]; decide) (fun h9 => by omega)
    -- what is in order, of the samples
    have hmem0 : ∀ F : List Zt, ∀ f : Zt → Sm4, True := fun _ _ => trivial
    have hSCD : ∀ D' : List Int, (∀ y ∈ D', y ∈ ks) → SC ser ((unD D' r zs).map (·.2.1)) := fun D' hD' => by
      refine ⟨hi.1, fun q hq => ?_, ?_⟩
      · obtain ⟨w', hw', rfl⟩ := List.mem_map.mp hq
        obtain ⟨w, hw, rfl⟩ := List.mem_map.mp hw'
        have : (unh r w.2.1) ∈ (zU r zs).map (·.2.1) := by
          unfold zU
          rw [if_neg hr, List.map_map]
          exact List.mem_map.mpr ⟨w, hw, rfl⟩
        have h9 := hi.2.1 _ this
        show qC (if w.1 ∈ D' then unh r w.2.1 else w.2.1) ∈ ser ∧ (0 ≤ qT (if w.1 ∈ D' then unh r w.2.1 else w.2.1) ∧ qT (if w.1 ∈ D' then unh r w.2.1 else w.2.1) ≤ 100000) ∧ vOk (qV (if w.1 ∈ D' then unh r w.2.1 else w.2.1))
        split
        · exact h9
        · exact h9
      · have hb := hi.2.2
        rw [← zU_unD (D := ks) hr (fun z hz hq => by rw [hks.mem_iff, zHid_mem]; exact ⟨z, hz, rfl, hq⟩)] at hb
        exact unD_basic hD' hb
    have hD1 : ∀ y ∈ D, y ∈ ks := fun y hy => by rw [← hD]; exact List.mem_append_left _ hy
    have hD2 : ∀ y ∈ D ++ [z.1], y ∈ ks := fun y hy => by
      rcases List.mem_append.mp hy with h9 | h9
      · exact hD1 y h9
      · rw [List.mem_singleton.mp h9]; exact hxk
    have hm12 : ((unD D r zs).map (·.2)).map (·.1) = (unD D r zs).map (·.2.1) := by rw [List.map_map]; rfl
    have hi1 : SC ser (((unD D r zs).map (·.2)).map (·.1)) := by rw [hm12]; exact hSCD D hD1
    have haN1 : a ∈ numL G1 st := by rw [hN]; exact ha
    have hsr1 := hC.sr hi1 haN1
    have hsa1 := hC.2.2.2.1 a haN1
    refine b_X8_takeBack_25 ⟨fun h9 => (hzn h9).elim, fun _ => ⟨hz61, hz61, fun G4 e4 => ?_⟩⟩
    have k4 : FR G1 G4 (fun c k y => c = 5 ∧ k = 5 ∧ y = z.1) noA noA := by rw [e4]; exact FR.mSfd (by decide)
    have l4 : LW E G4 := by rw [e4]; exact hL.sfd (by decide)
    have o4 : ONW G1 G4 := by rw [e4]; exact ONW.mSfd (by decide)
    have z64 : gcl G4 z.1 = 6 := by rw [e4]; exact hz61
    have e54 : gfd G4 5 0 z.1 = a := by rw [e4, gfd_sfd, if_neg (by omega), e50 _ hz8.1, hav]
    have sr4 := hsr1.fr k4 (fun h9 => by omega) (fun y _ => ⟨fun h9 => by omega, fun h9 => by omega⟩) id
    have sa4 := hsa1.fr (zs' := unD D r zs) k4 (fun j h9 => by omega) (fun y _ h9 => by omega) (fun y hy => by rw [(hsr1.2.2.2.1 y hy).1]; decide) id (List.Perm.refl _)
    have a71 : gfd G4 7 1 a = gfd G1 7 1 a := by rw [e4]; rfl
    have hT4 : sT G4 z.1 = qT z.2.1 := by
      show gfd G4 5 1 z.1 = _
      rw [e4, gfd_sfd, if_neg (by omega), hF.2.1 5 1 _ (by decide) (by rw [hz8.1]; decide) (fun h9 => by omega)]
      exact hz8.2.1
    have hlab1 : sLab G1 a = qC z.2.1 := (eL1 a ha).trans hla
    have hpm := unD_perm (D := D) (r := r) (l := sLab G1 a) h.2.2.2.2.2.1 z1 z3 hr hxD
    have hSC2 := hSCD (D ++ [z.1]) hD2
    have hlen1 : (seenL G1 a).length = (zO (sLab G1 a) (unD D r zs)).length := hsa1.2.2.1.length_eq
    have hl60 : (seenL G4 a).length < 60 := by
      rw [sr4.2, hlen1]
      have h1 := (hpm.1 hlab1.symm).length_eq
      rw [List.length_cons] at h1
      have h2 : (zO (sLab G1 a) (unD (D ++ [z.1]) r zs)).length ≤ 60 := by
        rw [zO_len]
        exact Nat.le_trans (own_like _ _) (hSC2.2.2.2 _)
      omega
    have hnt : ∀ y ∈ seenL G4 a, sT G4 y ≠ sT G4 z.1 := fun y hy h9 => by
      rw [sr4.2] at hy
      have hy2 := hsa1.2.2.1.mem_iff.mp hy
      obtain ⟨w, w1, w2, w3, w4⟩ := unD_mem.mp hy2
      have hwz : w.1 ≠ z.1 := fun h8 => by
        have := zuniq h.2.2.2.2.2.1 w1 z1 h8
        subst this
        rcases w4 with h7 | h7
        · exact hr (z3.symm.trans h7)
        · exact hxD h7.1
      have hy6 : gcl G y = 6 := by rw [← w2]; exact (h.2.2.2.2.2.2.1 w w1).1
      have hTy : sT G4 y = qT w.2.1 := by
        show gfd G4 5 1 y = _
        rw [e4, gfd_sfd, if_neg (by omega), hF.2.1 5 1 _ (by decide) (by rw [hy6]; decide) (fun h9 => by omega), ← w2]
        exact (h.2.2.2.2.2.2.1 w w1).2.1
      have hB := hSC2.2.2
      have u1 : ((w.1, (if w.1 ∈ D ++ [z.1] then unh r w.2.1 else w.2.1), w.2.2) : Zt) ∈ unD (D ++ [z.1]) r zs := List.mem_map.mpr ⟨w, w1, rfl⟩
      have u2 : ((z.1, (if z.1 ∈ D ++ [z.1] then unh r z.2.1 else z.2.1), z.2.2) : Zt) ∈ unD (D ++ [z.1]) r zs := List.mem_map.mpr ⟨z, z1, rfl⟩
      have hzin : z.1 ∈ D ++ [z.1] := List.mem_append_right _ (List.mem_singleton.mpr rfl)
      have := zb_uniq hB u1 u2 (by
        show qH (if w.1 ∈ D ++ [z.1] then unh r w.2.1 else w.2.1) = 0
        split
        · rw [qH_unh]; rcases w4 with h7 | h7; exact Or.inr h7; exact Or.inl h7.2
        · rename_i h6
          rcases w4 with h7 | h7
          · exact h7
          · exact (h6 (List.mem_append_left _ h7.1)).elim) (by
        show qH (if z.1 ∈ D ++ [z.1] then unh r z.2.1 else z.2.1) = 0
        rw [if_pos hzin, qH_unh]; exact Or.inl z3) (by
        show qC (if w.1 ∈ D ++ [z.1] then unh r w.2.1 else w.2.1) = qC (if z.1 ∈ D ++ [z.1] then unh r z.2.1 else z.2.1)
        have e1 : qC (if w.1 ∈ D ++ [z.1] then unh r w.2.1 else w.2.1) = qC w.2.1 := by split <;> rfl
        have e2 : qC (if z.1 ∈ D ++ [z.1] then unh r z.2.1 else z.2.1) = qC z.2.1 := by split <;> rfl
        rw [e1, e2, w3, hlab1]) (by
        show qT (if w.1 ∈ D ++ [z.1] then unh r w.2.1 else w.2.1) = qT (if z.1 ∈ D ++ [z.1] then unh r z.2.1 else z.2.1)
        have e1 : qT (if w.1 ∈ D ++ [z.1] then unh r w.2.1 else w.2.1) = qT w.2.1 := by split <;> rfl
        have e2 : qT (if z.1 ∈ D ++ [z.1] then unh r z.2.1 else z.2.1) = qT z.2.1 := by split <;> rfl
        rw [e1, e2, ← hTy, h9, hT4])
      have e9 := congrArg Prod.fst this
      exact hwz e9
    rw [e54]
    have hgk : gC G4 (gfd G4 7 1 a) = (if ((seenL G1 a).length : Int) = capOf G1 (gfd G1 7 1 a) then 1 else 0) ∧ gS G4 (gfd G4 7 1 a) = (if ((seenL G1 a).length : Int) = capOf G1 (gfd G1 7 1 a) then (ncap (capOf G1 (gfd G1 7 1 a))).toNat else 0) ∧ addCap G4 (gfd G4 7 1 a) = (if ((seenL G1 a).length : Int) = capOf G1 (gfd G1 7 1 a) then ncap (capOf G1 (gfd G1 7 1 a)) else capOf G1 (gfd G1 7 1 a)) := by
      have e1 : gfd G4 13 2 (gfd G4 7 1 a) = (seenL G1 a).length := by
        rw [l4.size sr4.1.2.1 sr4.1.2.2.1]
        show ((seenL G4 a).length : Int) = _
        rw [sr4.2]
      have e2 : capOf G4 (gfd G4 7 1 a) = capOf G1 (gfd G1 7 1 a) := sa4.2.2.2
      unfold gC gS addCap
      rw [e1, e2]
      exact ⟨rfl, rfl, rfl⟩
    -- counts
    have hcnt : ∀ b, (z.1 :: rest).countP (fun y => decide (gfd G 5 0 y = b)) = rest.countP (fun y => decide (gfd G 5 0 y = b)) + if b = a then 1 else 0 := fun b => by
      rw [List.countP_cons, hav]
      by_cases h9 : b = a
      · rw [if_pos h9, if_pos (decide_eq_true h9.symm)]
      · rw [if_neg h9, if_neg (by simpa using fun h8 => h9 h8.symm)]
    have hnd := h.nodup hi.1
    have key : ∀ G5 : Gt, (∀ b ∈ numL G st, b ≠ a → seenL G5 b = seenL G1 b ∧ capOf G5 (gfd G5 7 1 b) = capOf G1 (gfd G1 7 1 b)) → (seenL G5 a).length = (seenL G1 a).length + 1 → capOf G5 (gfd G5 7 1 a) = addCap G4 (gfd G4 7 1 a) →
        rkC G G1 st (z.1 :: rest) = gC G4 (gfd G4 7 1 a) + rkC G G5 st rest ∧ rkS G G1 st (z.1 :: rest) = gS G4 (gfd G4 7 1 a) + rkS G G5 st rest := by
      intro G5 hb hla5 hca5
      constructor
      · have := sum_one (f := fun b => grC (rest.countP (fun y => decide (gfd G 5 0 y = b))) (capOf G5 (gfd G5 7 1 b)) (seenL G5 b).length) (g := fun b => grC ((z.1 :: rest).countP (fun y => decide (gfd G 5 0 y = b))) (capOf G1 (gfd G1 7 1 b)) (seenL G1 b).length) ha hnd (fun b hb9 hba => by
          show grC _ _ _ = grC _ _ _
          rw [hcnt b, if_neg hba, (hb b hb9 hba).1, (hb b hb9 hba).2]; rfl)
        have e2 : grC ((z.1 :: rest).countP (fun y => decide (gfd G 5 0 y = a))) (capOf G1 (gfd G1 7 1 a)) (seenL G1 a).length = gC G4 (gfd G4 7 1 a) + grC (rest.countP (fun y => decide (gfd G 5 0 y = a))) (capOf G5 (gfd G5 7 1 a)) (seenL G5 a).length := by
          rw [hcnt a, if_pos rfl, hca5, hgk.2.2, hgk.1, hla5]; rfl
        unfold rkC
        rw [e2] at this
        omega
      · have := sum_one (f := fun b => grS (rest.countP (fun y => decide (gfd G 5 0 y = b))) (capOf G5 (gfd G5 7 1 b)) (seenL G5 b).length) (g := fun b => grS ((z.1 :: rest).countP (fun y => decide (gfd G 5 0 y = b))) (capOf G1 (gfd G1 7 1 b)) (seenL G1 b).length) ha hnd (fun b hb9 hba => by
          show grS _ _ _ = grS _ _ _
          rw [hcnt b, if_neg hba, (hb b hb9 hba).1, (hb b hb9 hba).2]; rfl)
        have e2 : grS ((z.1 :: rest).countP (fun y => decide (gfd G 5 0 y = a))) (capOf G1 (gfd G1 7 1 a)) (seenL G1 a).length = gS G4 (gfd G4 7 1 a) + grS (rest.countP (fun y => decide (gfd G 5 0 y = a))) (capOf G5 (gfd G5 7 1 a)) (seenL G5 a).length := by
          rw [hcnt a, if_pos rfl, hca5, hgk.2.2, hgk.2.1, hla5]; rfl
        unfold rkS
        rw [e2] at this
        omega
    have hgle : gC G4 (gfd G4 7 1 a) ≤ rkC G G1 st (z.1 :: rest) ∧ gS G4 (gfd G4 7 1 a) ≤ rkS G G1 st (z.1 :: rest) := by
      unfold rkC rkS
      have hin : ∀ f : Int → Nat, f a ≤ ((numL G st).map f).sum := fun f => by
        have := sum_one (f := fun b => if b = a then 0 else f b) (g := f) ha hnd (fun b _ hba => by rw [if_neg hba])
        rw [if_pos rfl] at this
        omega
      refine ⟨Nat.le_trans ?_ (hin _), Nat.le_trans ?_ (hin _)⟩
      · rw [hcnt a, if_pos rfl, hgk.1]
        exact Nat.le_add_right _ _
      · rw [hcnt a, if_pos rfl, hgk.2.1]
        exact Nat.le_add_right _ _
    refine ⟨z64, sr4.1.1, Call.to (mc' := gC G4 (gfd G4 7 1 a)) (ms' := gS G4 (gfd G4 7 1 a)) (ok_show l4 sr4.1 z64 (gRoom (Nat.le_refl _) (Nat.le_refl _))) (by omega) (by omega) fun _ G5 h5 => ?_⟩
    have s5 := sa4.1.show (zs' := unD (D ++ [z.1]) r zs) sr4.1 l4 z64 h5 (by rw [sa4.2.2.1]; exact hpm.1 hlab1.symm) hnt hl60
    have k5 : FR G1 G5 (fun c k y => c = 5 ∧ k = 5 ∧ y = z.1) (fun y => y = gfd G1 7 1 a) noA := (k4.mono (fun _ _ _ h9 => h9) (fun _ h9 => h9.elim) (fun _ h9 => h9)).luIn h5 a71
    have o5 : ONW G1 G5 := o4.luT h5
    have hser := hC.series (zs' := unD (D ++ [z.1]) r zs) (smp' := (unD (D ++ [z.1]) r zs).map (·.2)) hi1 hOw1 haN1 k5 (fun c j y h9 => ⟨h9.1, h9.2.1⟩) s5.1 (fun b hb hba => by
      have hb' : b ∈ numL G st := by rw [← hN]; exact hb
      refine (unD_perm (D := D) (r := r) (l := sLab G1 b) h.2.2.2.2.2.1 z1 z3 hr hxD).2 (fun h9 => hba (hC.lab hi.1 hb haN1 ?_))
      rw [hlab1, ← h9]) rfl (by rw [unD_1, unD_1]; exact List.Sublist.refl _) (fun y hy => by
      obtain ⟨w, hw, rfl⟩ := List.mem_map.mp hy
      refine ⟨_, List.mem_map.mpr ⟨w, hw, rfl⟩, rfl, ?_, ?_, ?_, rfl⟩
      · show qC (if w.1 ∈ D then unh r w.2.1 else w.2.1) = qC (if w.1 ∈ D ++ [z.1] then unh r w.2.1 else w.2.1)
        split <;> split <;> rfl
      · show qT (if w.1 ∈ D then unh r w.2.1 else w.2.1) = qT (if w.1 ∈ D ++ [z.1] then unh r w.2.1 else w.2.1)
        split <;> split <;> rfl
      · show qV (if w.1 ∈ D then unh r w.2.1 else w.2.1) = qV (if w.1 ∈ D ++ [z.1] then unh r w.2.1 else w.2.1)
        split <;> split <;> rfl)
    rw [hN] at hser
    have hlen5 : (seenL G5 a).length = (seenL G1 a).length + 1 := by
      rw [s5.2.1, insL_len (cAh_spec _ sr4.1).1, sr4.2]
    have hky := key G5 (fun b hb hba => hser.2.2 b hb hba) hlen5 s5.2.2
    have hn1 : ((seenL G1 a).length : Int) < 60 := by rw [sr4.2] at hl60; omega
    have hgl := gl_step hsa1.2.2.2.2.2 hn1
    have hsum : ∀ f : Int → Nat, ((numL G5 st).map fun b => f (capOf G5 (gfd G5 7 1 b))).sum + f (capOf G1 (gfd G1 7 1 a)) = ((numL G1 st).map fun b => f (capOf G1 (gfd G1 7 1 b))).sum + f (addCap G4 (gfd G4 7 1 a)) := fun f => by
      rw [hser.2.1, hN, ← s5.2.2]
      exact sum_one (f := fun b => f (capOf G5 (gfd G5 7 1 b))) (g := fun b => f (capOf G1 (gfd G1 7 1 b))) ha hnd (fun b hb9 hba => by rw [(hser.2.2 b hb9 hba).2])
    have hpc : PC G5 st + _ = PC G1 st + _ := hsum glC
    have hps : PS G5 st + _ = PS G1 st + _ := hsum glS
    rw [hgk.2.2] at hpc hps
    refine ih (D ++ [z.1]) G5 (gfd G1 5 5 z.1) _ _ (by rw [List.append_assoc]; exact hD) ?_ h5.1 (hO1.trans o5) ?_ hser.1 hser.2.1 (by omega) (by omega) ?_ ?_
    · refine hch.fr fun y hy => ?_
      have hyz : y ≠ z.1 := fun h9 => hxr (by rw [← h9]; exact hy)
      have hyk : y ∈ ks := by rw [← hD]; exact List.mem_append_right _ (List.mem_cons_of_mem _ hy)
      obtain ⟨w, w1, w2, -⟩ := zHid_mem.mp (hks.mem_iff.mp hyk)
      have hw6 := (h.2.2.2.2.2.2.1 w w1).1
      rw [w2] at hw6
      exact k5.2.1 5 5 y (by decide) (by rw [hF.1 _ (by rw [hw6]; decide), hw6]; decide) (fun h9 => hyz h9.2.2)
    · exact hF.andThen k5 (fun c k y _ h9 => ⟨h9.1, h9.2.1, by rw [h9.2.2]; exact hxk⟩) (fun y _ h9 => ⟨a, ha, by rw [h9]; exact hF.2.1 7 1 a (by decide) (by rw [(h.2.2.2.1 a ha).1]; decide) (fun h8 => by omega)⟩) (fun _ _ h9 => h9)
    · have := hgk.1
      omega
    · have := hgk.2.1
      omega
end S55
