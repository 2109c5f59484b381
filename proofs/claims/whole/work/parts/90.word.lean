/-! word -/
section S90
variable {E : EE} {G G' G2 : Gt} {c s : Nat} {Q X : Int → Gt → Prop} {a x i j k l u t v z o w m q : Int} {d d' d2 : DS}
def wordOf (d : DS) (k o t : Int) : Wd := (k, o, t, (if 1 ≤ k ∧ k ≤ 7 then selD d o else s0))
def cWord (d : DS) (k o t : Int) : Sp := if (0 ≤ k ∧ k ≤ 15) ∧ ffV k o ∧ sfV k t then (if (dDr d).length < 10 ∧ wNeeds k ≤ rlV (dDr d) then yes ((dDr d).length + 1) (drD d (dDr d ++ [wordOf d k o t])) else no 2 d) else no 1 d
theorem wordOf_ok (h0 : 0 ≤ k ∧ k ≤ 15) (h1 : ffV k o) (h2 : sfV k t) : wOk (wordOf d k o t) := by
  unfold ffV at h1
  unfold sfV at h2
  refine ⟨h0, fun h => ?_, fun h3 h4 => ?_, fun h3 h4 => ?_, fun h => ?_⟩
  · have h' : k = 0 := h
    rw [if_pos h'] at h1
    exact h1
  · have h5 := h2 ⟨h3, h4⟩
    show 0 ≤ t ∧ t ≤ 1000 ∧ (k ≠ 1 → 1 ≤ t)
    by_cases h6 : k = 1
    · rw [if_pos h6] at h5
      exact ⟨h5.1, h5.2, fun h7 => absurd h6 h7⟩
    · rw [if_neg h6] at h5
      exact ⟨by omega, h5.2, fun _ => h5.1⟩
  · have h3' : 8 ≤ k := h3
    have h4' : k ≤ 14 := h4
    rw [if_neg (show ¬ k = 0 by omega), if_neg (show ¬ (1 ≤ k ∧ k ≤ 7) by omega), if_neg (show ¬ k = 15 by omega)] at h1
    exact h1
  · have h' : k = 15 := h
    rw [if_neg (show ¬ k = 0 by omega), if_neg (show ¬ (1 ≤ k ∧ k ≤ 7) by omega), if_pos h'] at h1
    exact h1
theorem DI.draft {dr : List Wd} (h : DI d) (hd : dr.length ≤ 10 ∧ ∀ w ∈ dr, wOk w) : DI (drD d dr) := by
  obtain ⟨a1, a2, a3, a4, a5, a6, a7, a8, a9, a10, a11, a12, a13, a14⟩ := id h
  exact h.own ⟨rfl, rfl, rfl⟩ a3 a4 a12 a6 hd a8 a9 a10
theorem DI.word (h : DI d) (h0 : 0 ≤ k ∧ k ≤ 15) (h1 : ffV k o) (h2 : sfV k t) (hl : (dDr d).length < 10) : DI (drD d (dDr d ++ [wordOf d k o t])) := by
  refine h.draft ⟨by rw [List.length_append]; show _ + 1 ≤ 10; omega, fun w hw => ?_⟩
  rcases List.mem_append.mp hw with h9 | h9
  · exact h.2.2.2.2.2.2.1.2 _ h9
  · rw [List.mem_singleton.mp h9]; exact wordOf_ok h0 h1 h2
theorem DI.clear (h : DI d) : DI (drD d []) := h.draft ⟨Nat.zero_le _, fun _ h9 => (List.not_mem_nil h9).elim⟩
theorem CH.every (h : CH E G x d) : gcl G (gfd G 11 4 x) = 7 := by
  obtain ⟨hx, hL, hO, hS, hB, hP, hA, h10, hE, hSl, hR, hSi, hN, hD, e3, e0, e1⟩ := h
  exact hE
theorem ok_word (h : CH E G x d) (hi : DI d) (hc : 2 ≤ c) (hs : 22 ≤ s) : Ok E M_X11_word [rv x, iv k, iv o, iv t] G c s (RQ E G x (cWord d k o t)) (RX G (cWord d k o t)) := by
  have hSl := h.sels
  have hx := h.1
  have hL := h.2.1
  have hO := h.2.2.1
  obtain ⟨hD, hzD⟩ := h.draft
  have h4 := hi.2.2.2.2.2.1.1
  have h10 := hi.2.2.2.2.2.2.1.1
  have hz : gfd G 13 2 (gfd G 11 5 x) = 4 := by rw [hL.size hSl.1 hSl.2.1, hSl.2.2.1, h4]; rfl
  have hl4 := hSl.2.2.1
  have no1 : ¬ ((0 ≤ k ∧ k ≤ 15) ∧ ffV k o ∧ sfV k t) → 1 ≤ c ∧ 6 ≤ s ∧ RX G (cWord d k o t) 1 G := fun h9 => ⟨by omega, by omega, by rw [cWord, if_neg h9]; exact RX.n⟩
  refine i_X11_word ⟨okp_isWithin, fun h0 => no1 fun h9 => wIn0.mp h0 h9.1, fun h0 => Call.pure okp_isFirstFit ⟨fun h1 => no1 fun h9 => ?_, fun h1 => Call.pure okp_isSecondFit ⟨fun h2 => ?_, fun h2 => no1 fun h9 => ?_⟩⟩⟩
  · rw [if_pos h9.2.1] at h1
    exact absurd h1 (by decide)
  · have h0' := wInY h0
    have h1' : ffV k o := by
      by_cases h9 : ffV k o
      · exact h9
      · rw [if_neg h9] at h1
        exact absurd rfl h1
    have h2' : sfV k t := by
      by_cases h9 : sfV k t
      · exact h9
      · rw [if_neg h9] at h2
        exact absurd rfl h2
    have no2 : ¬ ((dDr d).length < 10 ∧ wNeeds k ≤ rlV (dDr d)) → 1 ≤ c ∧ 6 ≤ s ∧ RX G (cWord d k o t) 2 G := fun h9 => ⟨by omega, by omega, by rw [cWord, if_pos ⟨h0', h1', h2'⟩, if_neg h9]; exact RX.n⟩
    refine ⟨hx, hD.1, okp_size hD.1, fun h3 => no2 fun h9 => by omega, fun h3 => ⟨hx, Call.pure (okp_resultsLeft h hi) ⟨okp_needs, fun h5 => ?_, fun h5 => no2 fun h9 => by omega⟩⟩⟩
    have rdo : wIn k 1 7 ≠ 0 → (1 ≤ k ∧ k ≤ 7) ∧ 0 ≤ o ∧ o ≤ 3 := fun h9 => by
      have h8 := wInY h9
      unfold ffV at h1'
      rw [if_neg (show ¬ k = 0 by omega), if_pos h8] at h1'
      exact ⟨h8, h1'⟩
    have gt : wIn k 1 7 ≠ 0 → OkP E M_A_get [rv (gfd G 11 5 x), iv o] G (alAt G (gfd G 11 5 x) o) ∧ SlH G (alAt G (gfd G 11 5 x) o) (selD d o) := fun h9 => by
      have h8 := (rdo h9).2
      have g := lget (i := o) hL hSl.1 hSl.2.1 h8.1 (by omega)
      rw [g.2]
      have g1 := g.1
      rw [g.2] at g1
      exact ⟨g1, h.sel hi ⟨h8.1, by omega⟩⟩
    have hE := h.every
    have hsel : ∃ sl, (if (wIn k 1 7) = 0 then ((gfd G 11 4 x) : Int) else (if (wIn o 0 ((gfd G 13 2 (gfd G 11 5 x)) - 1)) = 0 then ((gfd G 11 4 x) : Int) else (alAt G (gfd G 11 5 x) o))) = sl ∧ gcl G sl = 7 ∧ (1 ≤ k → k ≤ 7 → SlH G sl (selD d o)) := by
      refine ⟨_, rfl, ?_, fun a1 a2 => ?_⟩
      · by_cases h9 : wIn k 1 7 = 0
        · rw [if_pos h9]; exact hE
        · rw [if_neg h9]
          split
          · exact hE
          · exact (gt h9).2.1
      · have h9 : wIn k 1 7 ≠ 0 := by rw [wIn1.mpr ⟨a1, a2⟩]; decide
        have h8 := (rdo h9).2
        rw [if_neg h9, if_neg (by rw [wIn1.mpr ⟨h8.1, by omega⟩]; decide)]
        exact (gt h9).2
    obtain ⟨sl, esl, c7, hsl⟩ := hsel
    rw [esl]
    refine ⟨hx, okp_reads, fun _ => hx, fun _ => hSl.1, fun _ => okp_size hSl.1, fun _ => i32s (by omega), fun _ => okp_isWithin, fun _ _ => hx, fun _ _ => hSl.1, fun h9 _ => (gt h9).1, fun h9 _ => Or.inr (gt h9).2.1, hx, by omega, by omega, fun q hq hqe G47 e47 => ⟨by omega, ?_⟩⟩
    have hq0 : 0 ≤ q := by omega
    have h11 : gcl G47 q = 11 := by rw [e47, gcl_newo, if_pos rfl]
    refine Call.to (ok_wordInit hq0 h11) (Nat.zero_le _) (Nat.zero_le _) fun _ G50 e50 => ?_
    have kn : FR G G50 noW noA noA := by
      rw [e50, e47]
      exact ((((FR.mNewo hq).sfdN hq (by decide)).sfdN hq (by decide)).sfdN hq (by decide)).sfdN hq (by decide)
    have o3 : ONW G G50 := by
      rw [e50, e47]
      exact ((((ONW.mNewo hq hq0).trans (ONW.mSfd (by decide))).trans (ONW.mSfd (by decide))).trans (ONW.mSfd (by decide))).trans (ONW.mSfd (by decide))
    have L3 : LW E G50 := by
      rw [e50, e47]
      exact LW.sfd (by decide) (LW.sfd (by decide) (LW.sfd (by decide) (LW.sfd (by decide) (hL.newo hq))))
    have hsl' : 1 ≤ k → k ≤ 7 → SlH G50 sl (selD d o) := fun a1 a2 => (hsl a1 a2).fr kn (fun _ h9 => h9)
    have hqW : WdH G50 q (wordOf d k o t) := by
      have f0 : gfd G50 10 0 q = k := by rw [e50, gfd_sfd, if_neg (by omega), gfd_sfd, if_neg (by omega), gfd_sfd, if_neg (by omega), gfd_sfd, if_pos ⟨rfl, rfl, rfl⟩]
      have f1 : gfd G50 10 1 q = o := by rw [e50, gfd_sfd, if_neg (by omega), gfd_sfd, if_neg (by omega), gfd_sfd, if_pos ⟨rfl, rfl, rfl⟩]
      have f2 : gfd G50 10 2 q = t := by rw [e50, gfd_sfd, if_neg (by omega), gfd_sfd, if_pos ⟨rfl, rfl, rfl⟩]
      have f3 : gfd G50 10 3 q = sl := by rw [e50, gfd_sfd, if_pos ⟨rfl, rfl, rfl⟩]
      refine ⟨by rw [e50]; exact h11, f0, f1, f2, by rw [f3, kn.1 _ (by omega)]; exact c7, fun a1 a2 => ?_⟩
      have a1' : 1 ≤ k := a1
      have a2' : k ≤ 7 := a2
      have g := hsl' a1' a2'
      unfold wordOf
      rw [f3, if_pos ⟨a1', a2'⟩]
      exact ⟨g.2.1, g.2.2.1, g.2.2.2⟩
    have D3 := hD.fr kn (fun _ _ h9 => h9) (fun _ _ h9 => h9) (fun h9 => h9)
    have hz3 : gfd G50 13 2 (gfd G 11 10 x) = (dDr d).length := by rw [L3.size D3.1.1 D3.1.2.1, D3.1.2.2.1]
    refine ⟨D3.1.1, Call.to (mc' := 1) (ms' := 18) (ok_add L3 D3.1.1 D3.1.2.1 (Or.inr (by rw [hqW.1]; exact ⟨by decide, by decide⟩)) (by omega) (addSmall (by omega) (by omega) (Nat.le_refl _) (Nat.le_refl _))) (by omega) (by omega) fun _ G55 ⟨_, k9⟩ => ?_⟩
    have kF : FR G G55 noW (fun y => y = gfd G 11 10 x) noA := (kn.mono (fun _ _ _ h9 => h9) (fun _ h9 => h9.elim) (fun _ h9 => h9)).andThen k9.fr (fun _ _ _ _ h9 => h9) (fun _ _ h9 => h9) (fun _ _ h9 => h9)
    have e9 : lst G55 (gfd G 11 10 x) = lst G50 (gfd G 11 10 x) ++ [q] := k9.2.2.2.2.2.1
    have D9 : WlH G55 (gfd G 11 10 x) (dDr d ++ [wordOf d k o t]) := by
      have hll := D3.1.2.2.1
      refine ⟨by rw [kF.1 _ (by rw [hD.1]; decide)]; exact hD.1, k9.2.2.2.2.2.2.2, by rw [e9, List.length_append, List.length_append, hll]; rfl, fun j hj => ?_⟩
      rw [List.length_append] at hj
      have hj' : j < (dDr d).length + 1 := hj
      rw [e9, appD (by omega), appD hj', hll]
      by_cases hji : j < (dDr d).length
      · rw [if_pos hji, if_pos hji]
        exact (D3.1.2.2.2 j hji).fr k9.fr (fun _ _ h9 => h9) (fun _ _ h9 => h9)
      · rw [if_neg hji, if_neg hji]
        exact hqW.fr k9.fr (fun _ _ h9 => h9) (fun _ _ h9 => h9)
    have hCF := ok_draft h hi kF k9.1 ((o3.trans k9.onw).owg hO) D9
    have e11 : gfd G55 11 10 x = gfd G 11 10 x := kF.2.1 11 10 x (by decide) (by omega) (fun h9 => h9)
    refine ⟨hCF.1.1, by rw [e11]; exact D9.1, by rw [e11]; exact okp_size D9.1, ?_⟩
    rw [e11, k9.1.size D9.1 D9.2.1, D9.2.2.1, List.length_append, cWord, if_pos ⟨h0', h1', h2'⟩, if_pos ⟨by omega, h5⟩]
    exact RQ.y hCF
  · rw [if_pos h9.2.2] at h2
    exact absurd h2 (by decide)
end S90
