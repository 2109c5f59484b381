/-! record, alert -/
section S94
variable {E : EE} {G G' G2 : Gt} {c s bc bs : Nat} {Q X : Int → Gt → Prop} {a x i j l u t v z o w m q f fl wl two wt9 kp : Int} {d d' d2 : DS} {qs : List Rl} {C : Int}
def addD (d : DS) (two wt9 kp : Int) : DS := ownD d (dN d) (dSel d) [] (dRl d ++ [((two, wt9, kp, -1), dDr d, [])]) (dSil d) (dNt d)
def cRecord (d : DS) (two : Int) : Sp := if 0 ≤ two ∧ two ≤ 5 then (if rlV (dDr d) = 1 ∧ (dRl d).length < 8 then yes ((dRl d).length + 1) (addD d two 0 0) else no 2 d) else no 1 d
def cAlert (d : DS) (wt9 kp : Int) : Sp := if (0 ≤ wt9 ∧ wt9 ≤ 1000) ∧ (0 ≤ kp ∧ kp ≤ 1000) then (if rlV (dDr d) = 1 ∧ (dRl d).length < 8 then yes (dRl d).length (addD d (-1) wt9 kp) else no 2 d) else no 1 d
theorem DI.add (h : DI d) (hl : (dRl d).length < 8) (h2 : two = -1 ∨ (0 ≤ two ∧ two ≤ 5)) (hw : 0 ≤ wt9 ∧ wt9 ≤ 1000) (hk : 0 ≤ kp ∧ kp ≤ 1000) : DI (addD d two wt9 kp) := by
  obtain ⟨a1, a2, a3, a4, a5, a6, a7, a8, a9, a10, a11, a12, a13, a14⟩ := id h
  refine h.own ⟨rfl, rfl, rfl⟩ a3 a4 a12 a6 ⟨Nat.zero_le _, fun _ h9 => (List.not_mem_nil h9).elim⟩ ⟨by rw [List.length_append]; show _ + 1 ≤ 8; omega, fun q hq => ?_⟩ a9 a10
  rcases List.mem_append.mp hq with h9 | h9
  · exact a8.2 _ h9
  · rw [List.mem_singleton.mp h9]
    exact ⟨⟨h2, hw, hk, (by decide : (-1 : Int) ≤ -1), (by decide : (-1 : Int) ≤ 7)⟩, a7, fun _ h9 => (List.not_mem_nil h9).elim, List.Pairwise.nil, Nat.zero_le _⟩
theorem ok_addRule (h : CH E G x d) (hi : DI d) (hl8 : (dRl d).length < 8) (hc : 4 ≤ c) (hs : 30 ≤ s) : Ok E M_X11_addRule [rv x, iv two, iv wt9, iv kp] G c s (fun _ G' => CF E G G' x (addD d two wt9 kp)) (fun _ _ => False) := by
  have hx := h.1
  have hL := h.2.1
  have hO := h.2.2.1
  obtain ⟨⟨a5, a6, a7, a10⟩, ⟨n56, n57, n67⟩, hdr, -⟩ := h.apart
  have hdd : noref G (gfd G 11 10 x) ∧ 0 ≤ gfd G 11 10 x := by
    obtain ⟨hx, hL, hO, hS, hB, hP, hA, h10, hE, hSl, hR, hSi, hN, hD, e3, e0, e1⟩ := h
    exact hD.2
  obtain ⟨hD, hzD⟩ := h.draft
  obtain ⟨hR, hzR, -⟩ := h.rul hi
  refine i_X11_addRule ⟨hx, by omega, by omega, fun q hq hqe G5 e5 => ?_⟩
  have c5 : gcl G5 q = 5 := by rw [e5, gcl_newo, if_pos rfl]
  have f5 : FR G G5 (fun c' k' y => c' = 11 ∧ k' = 10 ∧ y = x) (fun y => y = gfd G 11 6 x) noA := by rw [e5]; exact (FR.refl G).newoIn hq
  have l5 : LW E G5 := by rw [e5]; exact hL.newo hq
  have o5 : ONW G G5 := by rw [e5]; exact (ONW.refl G).newoT hq
  have g5 : ∀ j, gfd G5 11 j x = gfd G 11 j x := fun j => by rw [e5, gfd_newo, if_neg (fun h9 => by have h8 : x = q := h9.1; rw [h8] at hx; omega)]
  have n5 : noref G5 (gfd G 11 10 x) := hdd.1.go o5 hdd.2
  refine ⟨by rw [f5.1 x (by omega)]; exact hx, by omega, ?_⟩
  rw [g5]
  refine Call.to (ok_ruleInit (a := q) (two := two) (wt9 := wt9) (kp := kp) (bc := 1) (bs := 3) (by omega) l5 (hO.go o5) c5 ⟨n5, hdd.2, by rw [f5.1 _ (by omega)]; omega⟩ (Nat.le_refl _) (Nat.le_refl _)) (by omega) (by omega) fun _ G9 h9 => ?_
  obtain ⟨l9, o9, f9, r9, w9, ⟨fn, fc, fb, fl9, fcap⟩, hn9⟩ := h9
  have f9' : FR G G9 (fun c' k' y => c' = 11 ∧ k' = 10 ∧ y = x) (fun y => y = gfd G 11 6 x) noA := f5.andThen f9 (fun c' k' y hy hw => absurd (by rw [hw.2]; exact hq) hy) (fun _ _ h9 => h9.elim) (fun _ _ h9 => h9.elim)
  have f90 : FR G G9 noW noA noA := (show FR G G5 noW noA noA by rw [e5]; exact (FR.refl G).newoIn hq).andThen f9 (fun c' k' y hy hw => absurd (by rw [hw.2]; exact hq) hy) (fun _ _ h9 => h9) (fun _ _ h9 => h9)
  have R9 := hR.fr f90 (fun _ _ h9 => h9) (fun _ _ h9 => h9) (fun _ _ h9 => h9) (fun _ _ h9 => h9) (fun h9 => h9) (fun _ _ => ⟨fun h9 => h9, fun h9 => h9⟩)
  have hz9 : gfd G9 13 2 (gfd G 11 6 x) = (dRl d).length := by rw [l9.size R9.1.1 R9.1.2.1, R9.1.2.2.1]
  have c9 : gcl G9 q = 5 := by rw [f9.1 q (by omega)]; exact c5
  refine ⟨R9.1.1, Call.to (mc' := 1) (ms' := 18) (ok_add l9 R9.1.1 R9.1.2.1 (Or.inr (by rw [c9]; exact ⟨by decide, by decide⟩)) (by omega) (addSmall (by omega) (by omega) (Nat.le_refl _) (Nat.le_refl _))) (by omega) (by omega) fun _ G14 ⟨_, k14⟩ => ⟨by omega, by omega, fun p hp hpe G20 e20 => ⟨by omega, ?_⟩⟩⟩
  have f14 : FR G G14 (fun c' k' y => c' = 11 ∧ k' = 10 ∧ y = x) (fun y => y = gfd G 11 6 x) noA := f9'.luIn k14 rfl
  have o14 : OW G14 := o9.go k14.onw
  have p14 : gcl G20 p = 14 := by rw [e20, gcl_newo, if_pos rfl]
  have f20 : FR G G20 (fun c' k' y => c' = 11 ∧ k' = 10 ∧ y = x) (fun y => y = gfd G 11 6 x) noA := by rw [e20]; exact f14.newoIn hp
  have l20 : LW E G20 := by rw [e20]; exact k14.1.newo hp
  refine Call.to (ok_init l20 p14 (by omega) (by rw [e20, gfd_newo, if_pos ⟨rfl, rfl⟩]; rfl) (by rw [e20, gfd_newo, if_pos ⟨rfl, rfl⟩]; rfl)) (Nat.zero_le _) (Nat.zero_le _) fun _ G23 k23 => ?_
  have hpG : gcl G p = 0 := f14.old hp
  have f23 : FR G G23 (fun c' k' y => c' = 11 ∧ k' = 10 ∧ y = x) (fun y => y = gfd G 11 6 x) noA := f20.luNew k23 hpG
  have o23 : ONW G14 G23 := by
    have : ONW G14 G20 := by rw [e20]; exact (ONW.refl G14).newoT hp
    exact this.luT k23
  refine ⟨by rw [f23.1 x (by omega)]; exact hx, fun G27 e27 => ?_⟩
  have f27 : FR G G27 (fun c' k' y => c' = 11 ∧ k' = 10 ∧ y = x) (fun y => y = gfd G 11 6 x) noA := by rw [e27]; exact f23.sfdIn ⟨rfl, rfl, rfl⟩ (by decide)
  have o27 : ONW G14 G27 := by rw [e27]; exact o23.sfdT (by decide)
  have l27 : LW E G27 := by rw [e27]; exact k23.1.sfd (by decide)
  have OW27 : OW G27 := o14.go o27
  have p23 : gcl G23 p = 14 := by rw [k23.fr.1 p (by omega)]; exact p14
  -- from behind the adding to the end
  have k27 : FR G14 G27 (fun c' k' y => c' = 11 ∧ k' = 10 ∧ y = x) noA noA := by
    rw [e27]
    have : FR G14 G20 (fun c' k' y => c' = 11 ∧ k' = 10 ∧ y = x) noA noA := by rw [e20]; exact (FR.refl G14).newoIn hp
    exact (this.luNew k23 hp).sfdIn ⟨rfl, rfl, rfl⟩ (by decide)
  have e11 : ∀ j, j ≠ 10 → gfd G27 11 j x = gfd G 11 j x := fun j hj => f27.2.1 11 j x (by decide) (by omega) (fun h9 => hj h9.2.1)
  have e10 : gfd G27 11 10 x = p := by rw [e27, gfd_sfd, if_pos ⟨rfl, rfl, rfl⟩]
  have w : ∀ c' k' y, c' ≠ 11 ∨ k' ≠ 10 → ¬ (c' = 11 ∧ k' = 10 ∧ y = x) := fun c' k' y h8 h9 => by omega
  -- the rules
  have c14 : ∀ y, gcl G9 y ≠ 0 → gcl G14 y = gcl G9 y := fun y hy => k14.gclk hy
  have q14 : gcl G14 q = 5 := by rw [c14 q (by omega)]; exact c9
  have eR : lst G27 (gfd G 11 6 x) = lst G (gfd G 11 6 x) ++ [q] := by
    have := k27.2.2.1 (gfd G 11 6 x) (by rw [c14 _ (by rw [R9.1.1]; decide)]; exact R9.1.1) k14.2.2.2.2.2.2.2
    rw [(this.2 (fun h9 => h9)).1, k14.2.2.2.2.2.1, R9.2]
  have k1427 : FR G9 G27 (fun c' k' y => c' = 11 ∧ k' = 10 ∧ y = x) (fun y => y = gfd G 11 6 x) noA := (k14.fr.mono (fun _ _ _ h9 => h9.elim) (fun _ h9 => h9) (fun _ h9 => h9)).andThen k27 (fun _ _ _ _ h9 => h9) (fun _ _ h9 => h9.elim) (fun _ _ h9 => h9.elim)
  have hqno : q ∉ lst G (gfd G 11 6 x) := fun h9 => by
    obtain ⟨j, hj, e9⟩ := List.getElem_of_mem h9
    have h8 := (hR.2.2.2.2.1 j (by have := hR.2.2.1; omega)).1
    rw [List.getD_eq_getElem?_getD, List.getElem?_eq_getElem hj] at h8
    have h7 : gcl G (lst G (gfd G 11 6 x))[j] = 5 := h8
    rw [e9] at h7
    omega
  have hnl : ∀ ru, gcl G ru = 5 → (gfd G 4 0 ru ≠ -1 → gfd G 4 0 ru ≠ gfd G 11 6 x) ∧ (gfd G 4 4 ru ≠ -1 → gfd G 4 4 ru ≠ gfd G 11 6 x) := fun ru h5 => h.ruleL (Or.inr (Or.inr rfl)) ru h5
  have hOld : ∀ b ∈ lst G (gfd G 11 6 x), ∀ qb, RuH G b qb → RuH G27 b qb ∧ gfd G27 4 4 b = gfd G 4 4 b ∧ lst G27 (gfd G 4 4 b) = lst G (gfd G 4 4 b) := fun b hb qb hqb =>
    hqb.fr f27 (fun j => w _ _ _ (Or.inl (by decide))) (fun j y => w _ _ _ (Or.inl (by decide))) (fun j y => w _ _ _ (Or.inl (by decide))) (fun y _ j => w _ _ _ (Or.inl (by decide)))
      ((hnl b hqb.1).1 (hO.nn (by rw [hqb.2.2.1.1]; decide) (by rw [hqb.2.2.1.1]; decide))) ((hnl b hqb.1).2 (hO.nn (by rw [hqb.2.2.2.1.1]; decide) (by rw [hqb.2.2.2.1.1]; decide)))
  have g27 : ∀ j, gfd G27 4 j q = gfd G9 4 j q := fun j => k1427.2.1 4 j q (by decide) (by omega) (fun h9 => absurd h9.1 (by decide))
  have hfl6 : gfd G9 4 4 q ≠ gfd G 11 6 x := fun h9 => by
    have h8 := f5.1 (gfd G 11 6 x) (by omega)
    rw [h9, h8] at fn
    omega
  have kf := k1427.2.2.1 (gfd G9 4 4 q) fc fb
  have lf : lst G27 (gfd G9 4 4 q) = [] := (kf.2 hfl6).1.trans fl9
  have cf : capOf G27 (gfd G9 4 4 q) = 0 := (kf.2 hfl6).2.trans fcap
  have D27 := hD.fr f27 (fun j y => w _ _ _ (Or.inl (by decide))) (fun j y => w _ _ _ (Or.inl (by decide))) (fun h9 => hdr (11, 6) (by decide) x hx h9.symm)
  have hNew : RuH G27 q ((two, wt9, kp, -1), dDr d, []) := by
    refine ⟨by rw [k27.1 q (by omega)]; exact q14, ⟨(g27 1).trans r9.1, (g27 2).trans r9.2.1, (g27 3).trans r9.2.2.1, (g27 5).trans r9.2.2.2⟩, by rw [g27, w9]; exact D27.1, ?_, by rw [g27, cf]; exact Or.inl rfl⟩
    rw [g27]
    exact ⟨by rw [k1427.1 _ (by rw [fc]; decide)]; exact fc, kf.1, by rw [lf]; rfl, by rw [lf]; exact List.nodup_nil, fun j hj => absurd hj (Nat.not_lt_zero j)⟩
  have hOldE : ∀ b ∈ lst G (gfd G 11 6 x), ∃ qb, RuH G b qb := fun b hb => by
    obtain ⟨j, hj, rfl⟩ := List.getElem_of_mem hb
    have h8 := hR.2.2.2.2.1 j (by have := hR.2.2.1; omega)
    rw [List.getD_eq_getElem?_getD, List.getElem?_eq_getElem hj] at h8
    exact ⟨_, h8⟩
  have R27 : RuL G27 (gfd G 11 6 x) (dRl d ++ [((two, wt9, kp, -1), dDr d, [])]) := by
    have hll := hR.2.2.1
    refine ⟨by rw [f27.1 _ (by omega)]; exact hR.1, (k1427.2.2.1 _ R9.1.1 R9.1.2.1).1, by rw [eR, List.length_append, List.length_append, hll]; rfl, ?_, fun j hj => ?_, ?_⟩
    · rw [eR]
      refine List.nodup_append.mpr ⟨hR.2.2.2.1, List.nodup_cons.mpr ⟨List.not_mem_nil, List.nodup_nil⟩, fun a ha b hb => ?_⟩
      rw [List.mem_singleton.mp hb]
      exact fun h9 => hqno (h9 ▸ ha)
    · rw [List.length_append] at hj
      have hj' : j < (dRl d).length + 1 := hj
      rw [eR, appD (by omega), appD hj', hll]
      by_cases hji : j < (dRl d).length
      · rw [if_pos hji, if_pos hji]
        exact (hOld _ (getD_mem (by omega)) _ (hR.2.2.2.2.1 j hji)).1
      · rw [if_neg hji, if_neg hji]
        exact hNew
    · rw [eR]
      have hno : ∀ y, y ∉ lst G27 (gfd G27 4 4 q) := fun y hy => by
        rw [g27, lf] at hy
        exact List.not_mem_nil hy
      intro a ha b hb y hya hyb
      rcases List.mem_append.mp ha with h7 | h7
      · rcases List.mem_append.mp hb with h6 | h6
        · obtain ⟨qa, hqa⟩ := hOldE a h7
          obtain ⟨qb, hqb⟩ := hOldE b h6
          have fa := hOld a h7 qa hqa
          have fb := hOld b h6 qb hqb
          rw [fa.2.1, fa.2.2] at hya
          rw [fb.2.1, fb.2.2] at hyb
          exact hR.2.2.2.2.2 a h7 b h6 y hya hyb
        · rw [List.mem_singleton.mp h6] at hyb
          exact absurd hyb (hno y)
      · rw [List.mem_singleton.mp h7] at hya
        exact absurd hya (hno y)
  have hp27 : WlH G27 (gfd G27 11 10 x) [] ∧ noref G27 (gfd G27 11 10 x) ∧ 0 ≤ gfd G27 11 10 x := by
    rw [e10]
    have e : lst G27 p = [] := by rw [e27]; exact (lst_sfd (by decide)).trans k23.2.2.2.2.2.1
    exact ⟨⟨by rw [e27]; exact p23, by rw [e27, gfd_sfd, if_neg (by omega)]; exact k23.2.2.2.2.2.2.2, by rw [e]; rfl, fun j hj => absurd hj (Nat.not_lt_zero j)⟩, (o14.fresh hp (by omega)).go o27 (by omega), by omega⟩
  have hw27 : NOW G G27 := fun q9 h0 hq9 hn => ((hn9 q9 h0 (by rw [f5.1 q9 (by omega)]; omega) (fun h8 => by rw [h8] at hq9; have := hD.1; omega) (hn.go o5 h0)).go k14.onw h0).go o27 h0
  exact h.mine hi l27 OW27 hw27 f27 (fun c' k' y h9 => Or.inr (Or.inr (Or.inr ⟨h9.1, by omega⟩))) (fun y h9 => Or.inr (Or.inl h9)) (fun y h9 => h9.elim) ⟨rfl, rfl, rfl⟩
    (h.k5 f27 (fun j y => w _ _ _ (Or.inl (by decide))) (w _ _ _ (Or.inr (by decide))) n56) (by rw [e11 6 (by decide)]; exact R27)
    (h.k7 f27 (fun j y => w _ _ _ (Or.inl (by decide))) ⟨w _ _ _ (Or.inr (by decide)), w _ _ _ (Or.inr (by decide))⟩ (fun h9 => n67 h9.symm) (fun h9 => h9)) (h.k9 f27 (w _ _ _ (Or.inr (by decide))) (fun h9 => h9))
    hp27 (by rw [e11 11 (by decide), e11 12 (by decide), e11 13 (by decide)]; exact h.nums)
theorem ok_record (h : CH E G x d) (hi : DI d) (hc : 4 ≤ c) (hs : 30 ≤ s) : Ok E M_X11_record [rv x, iv two] G c s (RQ E G x (cRecord d two)) (RX G (cRecord d two)) := by
  obtain ⟨hR, hz, -⟩ := h.rul hi
  refine i_X11_record ⟨okp_isWithin, fun h1 => ?_, fun h1 => ⟨by omega, by omega, by rw [cRecord, if_neg (wIn0.mp h1)]; exact RX.n⟩⟩
  have h1' := wInY h1
  have no2 : ¬ (rlV (dDr d) = 1 ∧ (dRl d).length < 8) → 1 ≤ c ∧ 6 ≤ s ∧ RX G (cRecord d two) 2 G := fun h9 => ⟨by omega, by omega, by rw [cRecord, if_pos h1', if_neg h9]; exact RX.n⟩
  refine ⟨h.1, Call.pure (okp_resultsLeft h hi) ⟨fun h2 => no2 fun h9 => h2 h9.1, fun h2 => ⟨h.1, hR.1, okp_size hR.1, fun h3 => ?_, fun h3 => no2 fun h9 => by omega⟩⟩⟩
  have hl8 : (dRl d).length < 8 := by omega
  refine ⟨h.1, Call.to (ok_addRule h hi hl8 hc hs) (Nat.le_refl _) (Nat.le_refl _) fun _ G1 hCF => ?_⟩
  have hi' := hi.add (two := two) (wt9 := 0) (kp := 0) hl8 (Or.inr h1') ⟨by decide, by decide⟩ ⟨by decide, by decide⟩
  obtain ⟨hR', hz', -⟩ := hCF.1.rul hi'
  refine ⟨hCF.1.1, hR'.1, okp_size hR'.1, ?_⟩
  have e : ((dRl (addD d two 0 0)).length : Int) = (dRl d).length + 1 := by
    show ((dRl d ++ [((two, 0, 0, -1), dDr d, [])]).length : Int) = _
    rw [List.length_append]; rfl
  rw [hz', e, cRecord, if_pos h1', if_pos ⟨h2, hl8⟩]
  exact RQ.y hCF
theorem ok_alert (h : CH E G x d) (hi : DI d) (hc : 4 ≤ c) (hs : 30 ≤ s) : Ok E M_X11_alert [rv x, iv wt9, iv kp] G c s (RQ E G x (cAlert d wt9 kp)) (RX G (cAlert d wt9 kp)) := by
  obtain ⟨hR, hz, -⟩ := h.rul hi
  have no1 : ¬ ((0 ≤ wt9 ∧ wt9 ≤ 1000) ∧ (0 ≤ kp ∧ kp ≤ 1000)) → 1 ≤ c ∧ 6 ≤ s ∧ RX G (cAlert d wt9 kp) 1 G := fun h9 => ⟨by omega, by omega, by rw [cAlert, if_neg h9]; exact RX.n⟩
  refine i_X11_alert ⟨okp_isWithin, fun h1 => no1 fun h9 => wIn0.mp h1 h9.1, fun h1 => ⟨okp_isWithin, fun h0 => ?_, fun h0 => no1 fun h9 => wIn0.mp h0 h9.2⟩⟩
  have h1' := wInY h1
  have h0' := wInY h0
  have no2 : ¬ (rlV (dDr d) = 1 ∧ (dRl d).length < 8) → 1 ≤ c ∧ 6 ≤ s ∧ RX G (cAlert d wt9 kp) 2 G := fun h9 => ⟨by omega, by omega, by rw [cAlert, if_pos ⟨h1', h0'⟩, if_neg h9]; exact RX.n⟩
  refine ⟨h.1, Call.pure (okp_resultsLeft h hi) ⟨fun h2 => no2 fun h9 => h2 h9.1, fun h2 => ⟨h.1, hR.1, okp_size hR.1, fun h3 => ?_, fun h3 => no2 fun h9 => by omega⟩⟩⟩
  have hl8 : (dRl d).length < 8 := by omega
  refine ⟨h.1, Call.to (ok_addRule h hi hl8 hc hs) (Nat.le_refl _) (Nat.le_refl _) fun _ G1 hCF => ?_⟩
  have hi' := hi.add (two := -1) hl8 (Or.inl rfl) h1' h0'
  obtain ⟨hR', hz', -⟩ := hCF.1.rul hi'
  have e : ((dRl (addD d (-1) wt9 kp)).length : Int) = (dRl d).length + 1 := by
    show ((dRl d ++ [((-1, wt9, kp, -1), dDr d, [])]).length : Int) = _
    rw [List.length_append]; rfl
  refine ⟨hCF.1.1, hR'.1, okp_size hR'.1, i32s (by omega), ?_⟩
  rw [hz', e, cAlert, if_pos ⟨h1', h0'⟩, if_pos ⟨h2, hl8⟩, show ((dRl d).length : Int) + 1 - 1 = (dRl d).length by omega]
  exact RQ.y hCF
end S94
