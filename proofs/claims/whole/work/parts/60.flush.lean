/-! the store is flushed -/
section S60
variable {E : EE} {G G' G2 : Gt} {c s : Nat} {Q X : Int → Gt → Prop} {a st x q l t v f e r g u : Int} {zs zs' : List Zt} {W : Nat → Nat → Int → Prop} {L A : Int → Prop}
variable {ser : List Int} {smp : List (Sm4 × Int)} {rs : List Int} {dn wr cr er : Int}
/-- the blocks of all series: by a series' labels -/
def BkH (G : Gt) (st : Int) (bk : Int → List (Int × Int)) : Prop := ∀ a ∈ numL G st, blkL G a = bk (sLab G a)
def flQ (E : EE) (G G' : Gt) (st t : Int) (ser : List Int) (smp : List (Sm4 × Int)) (dn wr cr : Int) : Prop :=
  LW E G' ∧ OWG G G' ∧ FR G G' (fun c k y => c = 7 ∧ k = 4 ∧ y ∈ numL G st) (fun y => y = gfd G 8 1 st ∨ ∃ a ∈ numL G st, y = gfd G 7 1 a) (fun y => ∃ a ∈ numL G st, y = gfd G 7 2 a ∨ y = gfd G 7 3 a) ∧ numL G' st = numL G st ∧
  (∃ zs', StH G' st zs' ser (smp.filter (kept t)) [] dn wr cr) ∧ BkH G' st (fun c => pack (seeT c ((smp.filter (kept t)).map (·.1))))
theorem ok_packAll (hL0 : LW E G) (hO0 : OW G) (h : StH G st zs ser smp rs dn wr cr) (hi : SI ser (smp.map (·.1)) rs er) :
    Ok E M_X8_packAll [rv st, iv t] G 0 0 (fun rr G' => rr = ((ser.map fun c => (pack (seeT c ((smp.filter (kept t)).map (·.1)))).length).sum : Nat) ∧ flQ E G G' st t ser smp dn wr cr) (fun _ _ => False) := by
  have hN := h.nodup hi
  have hst := h.1
  have hnr := h.nr hi
  refine i_X8_packAll ?_
  refine v_packAll hO0 h hi ?_ (numL G st).length 0 G (by omega) ⟨hL0, ONW.refl G, FR.refl G, fun b hb => (List.not_mem_nil (show b ∈ ([] : List Int) from hb)).elim⟩ (Nat.zero_le _)
  intro G1 ⟨hL, hO, hF, hB⟩
  have hb8 : ∀ b ∈ numL G st, gcl G b = 8 ∧ gcl G (gfd G 7 1 b) = 14 ∧ gfd G 7 1 b ≠ -1 := fun b hb => by
    have := h.2.2.2.2.1 b hb
    exact ⟨this.1, this.2.1.1, hO0.nn (by rw [this.2.1.1]; decide) (by rw [this.2.1.1]; decide)⟩
  have hrc := h.2.2.1
  have hnl := h.2.1
  have nN : ¬ ∃ a ∈ numL G st, gfd G 8 0 st = gfd G 7 1 a := fun ⟨b, hb, h9⟩ => absurd h9 (hO0.ne 8 0 7 1 hst (hb8 b hb).1 (hO0.nn (by rw [hnl.1]; decide) (by rw [hnl.1]; decide)) (by omega))
  have nR : ¬ ∃ a ∈ numL G st, gfd G 8 1 st = gfd G 7 1 a := fun ⟨b, hb, h9⟩ => absurd h9 (hO0.ne 8 1 7 1 hst (hb8 b hb).1 (hO0.nn (by rw [hrc.1]; decide) (by rw [hrc.1]; decide)) (by omega))
  have nRN : gfd G 8 0 st ≠ gfd G 8 1 st := hO0.ne 8 0 8 1 hst hst (hO0.nn (by rw [hnl.1]; decide) (by rw [hnl.1]; decide)) (by omega)
  have st9 : gcl G1 st = 9 := by rw [hF.1 st (by omega)]; exact hst
  have e80 : gfd G1 8 0 st = gfd G 8 0 st := hF.2.1 8 0 st (by decide) (by omega) (fun h9 => by omega)
  have e81 : gfd G1 8 1 st = gfd G 8 1 st := hF.2.1 8 1 st (by decide) (by omega) (fun h9 => by omega)
  have n14 : gcl G1 (gfd G 8 0 st) = 14 := by rw [hF.1 _ (by omega)]; exact hnl.1
  have r14 : gcl G1 (gfd G 8 1 st) = 14 := by rw [hF.1 _ (by omega)]; exact hrc.1
  have nr1 := hF.2.2.1 _ hnl.1 hnl.2
  have rr1 := hF.2.2.1 _ hrc.1 hrc.2
  have hsz : gfd G1 13 2 (gfd G 8 0 st) = (numL G st).length := by rw [hL.size n14 nr1.1, (nr1.2 nN).1]; rfl
  refine b_X8_packAll_4 ⟨st9, by rw [e80]; exact n14, by rw [e80]; exact okp_size n14, fun _ => ?_, fun h9 => by rw [e80] at h9; omega⟩
  rw [e81]
  refine ⟨st9, r14, Call.to (ok_clear hL r14 rr1.1) (Nat.zero_le _) (Nat.zero_le _) fun _ G4 h4 => ?_⟩
  have k4 : FR G1 G4 noW (fun y => y = gfd G 8 1 st) noA := h4.fr
  have F4 : FR G G4 (fun c k y => c = 7 ∧ k = 4 ∧ y ∈ numL G st) (fun y => y = gfd G 8 1 st ∨ ∃ a ∈ numL G st, y = gfd G 7 1 a) (fun y => ∃ a ∈ numL G st, y = gfd G 7 2 a ∨ y = gfd G 7 3 a) :=
    (hF.mono (fun _ _ _ h9 => h9) (fun _ h9 => Or.inr h9) (fun _ h9 => h9)).andThen k4 (fun _ _ _ _ h9 => h9.elim) (fun _ _ h9 => Or.inl h9) (fun _ _ h9 => h9.elim)
  have n4 : gfd G4 8 0 st = gfd G 8 0 st := F4.2.1 8 0 st (by decide) (by omega) (fun h9 => by omega)
  have r4 : gfd G4 8 1 st = gfd G 8 1 st := F4.2.1 8 1 st (by decide) (by omega) (fun h9 => by omega)
  have eN : numL G4 st = numL G st := by
    unfold numL
    rw [n4]
    exact ((F4.2.2.1 _ hnl.1 hnl.2).2 (fun h9 => by rcases h9 with h9 | h9; exact nRN h9; exact nN h9)).1
  have eL : ∀ b ∈ numL G st, sLab G4 b = sLab G b := fun b hb => F4.2.1 7 0 b (by decide) (by rw [(hb8 b hb).1]; decide) (fun h9 => by omega)
  have hz6 : ∀ z ∈ zs, gcl G z.1 = 6 := fun z hz1 => (h.2.2.2.2.2.2.2.1 z hz1).1
  have eZ : ∀ z ∈ zs, ∀ k, gfd G4 5 k z.1 = gfd G 5 k z.1 := fun z hz1 k => F4.2.1 5 k z.1 (by decide) (by rw [hz6 z hz1]; decide) (fun h9 => by omega)
  have hv6 : ∀ b ∈ numL G st, ∀ y ∈ seenL G b, gcl G y = 6 := fun b hb y hy => ((h.sr hi hb).2.2.2.1 y hy).1
  have eY : ∀ b ∈ numL G st, ∀ y ∈ seenL G b, ∀ k, gfd G4 5 k y = gfd G 5 k y := fun b hb y hy k => F4.2.1 5 k y (by decide) (by rw [hv6 b hb y hy]; decide) (fun h9 => by omega)
  have hkp : ∀ l : Int, zO l (zs.filter (fun z => kept t z.2)) = ((zs.filter (fun z => own l z.2.1)).filter (fun z => decide (t ≤ qT z.2.1))).map (·.1) := fun l => by
    unfold zO
    rw [List.filter_filter, List.filter_filter]
    congr 1
    refine List.filter_congr fun z _ => ?_
    rw [Bool.eq_iff_iff]
    unfold kept own
    simp only [Bool.and_eq_true, decide_eq_true_eq]
    constructor
    · rintro ⟨⟨h1, h2⟩, h3, h4⟩; exact ⟨h4, h1, h2⟩
    · rintro ⟨h1, h2, h3⟩; exact ⟨⟨h2, h3⟩, h2, h1⟩
  have eSb : ∀ b ∈ numL G st, gfd G4 7 1 b = gfd G 7 1 b ∧ gfd G4 13 1 (gfd G 7 1 b) ≠ -1 ∧ seenL G4 b = (seenL G b).filter (fun y => decide (t ≤ sT G y)) ∧ capOf G4 (gfd G4 7 1 b) = capOf G (gfd G 7 1 b) ∧ BSh G4 b ∧ blkL G4 b = pack (((seenL G b).filter (fun y => decide (t ≤ sT G y))).map (tv G)) := fun b hb => by
    obtain ⟨p1, p2, p3, p4⟩ := hB b hb
    have e7 : gfd G4 7 1 b = gfd G 7 1 b := F4.2.1 7 1 b (by decide) (by rw [(hb8 b hb).1]; decide) (fun h9 => by omega)
    have e71 : gfd G1 7 1 b = gfd G 7 1 b := hF.2.1 7 1 b (by decide) (by rw [(hb8 b hb).1]; decide) (fun h9 => by omega)
    have c1 : gcl G1 (gfd G 7 1 b) = 14 := by rw [hF.1 _ (by rw [(hb8 b hb).2.1]; decide)]; exact (hb8 b hb).2.1
    have k := k4.2.2.1 _ c1 (hF.2.2.1 _ (hb8 b hb).2.1 (h.2.2.2.2.1 b hb).2.1.2).1
    have kk := k.2 (fun h9 => nR ⟨b, hb, h9.symm⟩)
    have hbc := p3.1
    refine ⟨e7, k.1, ?_, ?_, p3.fr k4 (fun _ => id), ?_⟩
    · rw [← p1]; unfold seenL; rw [e7, e71, kk.1]
    · rw [e7, kk.2, ← e71]; rw [e71] at p2 ⊢; exact p2
    · rw [← p4]
      unfold blkL
      have e : ∀ j, gfd G4 7 j b = gfd G1 7 j b := fun j => k4.2.1 7 j b (by decide) (by omega) id
      have b2 := p3.2.1.1
      have b3 := p3.2.2.1.1
      rw [e, e, e]
      refine List.map_congr_left fun i _ => ?_
      rw [(k4.2.2.2 _ (by omega) (by omega)).2 id, (k4.2.2.2 (gfd G1 7 3 b) (by omega) (by omega)).2 id]
  have hC : StC G4 st (zs.filter (fun z => kept t z.2)) ser (smp.filter (kept t)) dn wr := by
    refine ⟨by rw [F4.1 st (by omega)]; exact hst, by rw [n4]; exact ⟨by rw [F4.1 _ (by omega)]; exact hnl.1, (F4.2.2.1 _ hnl.1 hnl.2).1⟩, ?_, ?_, ?_, h.2.2.2.2.2.2.1.sublist (List.filter_sublist.map _), ?_, ?_, ?_, ?_, ?_⟩
    · rw [eN, ← h.2.2.2.1]; exact List.map_congr_left eL
    · intro b hb
      rw [eN] at hb
      have hsb := h.2.2.2.2.1 b hb
      obtain ⟨e7, e13, es, ec, ebs, ebk⟩ := eSb b hb
      refine ⟨by rw [F4.1 b (by rw [hsb.1]; decide)]; exact hsb.1, by rw [e7]; exact ⟨by rw [F4.1 _ (by rw [hsb.2.1.1]; decide)]; exact hsb.2.1.1, e13⟩, ?_, ?_, ebs, by rw [ec]; exact hsb.2.2.2.2.2⟩
      · rw [es, eL b hb, hkp]
        refine (hsb.2.2.1.filter _).trans ?_
        unfold zO
        rw [List.filter_map]
        refine List.Perm.of_eq (congrArg (List.map _) (List.filter_congr fun z hz1 => ?_))
        have h8 := h.2.2.2.2.2.2.2.1 z (List.mem_filter.mp hz1).1
        show decide (t ≤ sT G z.1) = _
        rw [h8.2.1]
      · rw [es]
        refine (hsb.2.2.2.1.sublist List.filter_sublist).imp_of_mem fun {x y} hx hy h9 => ?_
        show gfd G4 5 1 x < gfd G4 5 1 y
        rw [eY b hb x (List.mem_filter.mp hx).1, eY b hb y (List.mem_filter.mp hy).1]; exact h9
    · rw [← h.2.2.2.2.2.1, List.filter_map]; rfl
    · intro z hz1
      have hz2 := (List.mem_filter.mp hz1).1
      have h8 := h.2.2.2.2.2.2.2.1 z hz2
      have e := eZ z hz2
      refine ⟨by rw [F4.1 _ (by rw [h8.1]; decide)]; exact h8.1, (e 1).trans h8.2.1, (e 2).trans h8.2.2.1, (e 4).trans h8.2.2.2.1, ?_, ?_⟩
      · rw [eN, e 0]; exact h8.2.2.2.2.1
      · rw [e 0, eL _ h8.2.2.2.2.1]; exact h8.2.2.2.2.2
    · refine (h.2.2.2.2.2.2.2.2.1.sublist List.filter_sublist).imp_of_mem fun {u w} hu hw h9 => ?_
      rw [eZ u (List.mem_filter.mp hu).1, eZ w (List.mem_filter.mp hw).1]; exact h9
    · intro z hz1
      have hz2 := (List.mem_filter.mp hz1).1
      rw [eZ z hz2]; exact h.2.2.2.2.2.2.2.2.2.1 z hz2
    · rw [F4.2.1 8 3 st (by decide) (by omega) (fun h9 => by omega)]; exact h.2.2.2.2.2.2.2.2.2.2.1
    · rw [F4.2.1 8 2 st (by decide) (by omega) (fun h9 => by omega)]; exact h.2.2.2.2.2.2.2.2.2.2.2.1
  have hbk : ∀ b ∈ numL G st, blkL G4 b = pack (seeT (sLab G b) ((smp.filter (kept t)).map (·.1))) := fun b hb => by
    have htv := hC.tvs (by rw [eN]; exact hb)
    rw [eL b hb] at htv
    obtain ⟨e7, e13, es, ec, ebs, ebk⟩ := eSb b hb
    rw [ebk, ← htv, es]
    refine congrArg pack (List.map_congr_left fun y hy => ?_)
    have hy' := (List.mem_filter.mp hy).1
    show (gfd G 5 1 y, gfd G 5 2 y) = (gfd G4 5 1 y, gfd G4 5 2 y)
    rw [eY b hb y hy', eY b hb y hy']
  refine ⟨?_, h4.1, (hO.luT h4).owg hO0, F4, eN, ⟨_, hC.all (cr := cr) (rs := []) (by rw [r4]; exact ⟨by rw [F4.1 _ (by omega)]; exact hrc.1, h4.2.2.2.2.2.2.2⟩ ) ?_ ?_⟩, ?_⟩
  · congr 1
    unfold pkN
    rw [← h.2.2.2.1, List.map_map]
    refine congrArg List.sum (List.map_congr_left fun b hb => ?_)
    show _ = (pack (seeT (sLab G b) ((smp.filter (kept t)).map (·.1)))).length
    rw [← hbk b hb, (eSb b hb).2.2.2.2.2]
  · rw [r4, h4.2.2.2.2.2.2.1, (rr1.2 nR).2]; exact h.2.2.2.2.2.2.2.2.2.2.2.2.1
  · rw [r4, h4.2.2.2.2.2.1]; trivial
  · intro b hb
    rw [eN] at hb
    rw [eL b hb]; exact hbk b hb
end S60
