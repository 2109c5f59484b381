/-! silence -/
section S89
variable {E : EE} {G G' G2 : Gt} {c s : Nat} {Q X : Int → Gt → Prop} {a x i j l u t v z o w m q : Int} {d d' d2 : DS}
def silD (d : DS) (q : Int × Int × Int) (u : Int) : DS := ownD d (dN d) (dSel d) (dDr d) (dRl d) (dSil d ++ [(q, u)]) (dNt d)
def cSilence (d : DS) (i u : Int) : Sp := if 0 ≤ i ∧ i < 4 then (if 0 ≤ u ∧ u ≤ 100000 then (if (dSil d).length < 10 then yes ((dSil d).length + 1) (silD d (selD d i) u) else no 2 d) else no 1 d) else no 3 d
theorem CH.sils (h : CH E G x d) : SiH G x (dSil d) := by
  obtain ⟨hx, hL, hO, hS, hB, hP, hA, h10, hE, hSl, hR, hSi, hN, hD, e3, e0, e1⟩ := h
  exact hSi
theorem selD_ok (hi : DI d) (hr : 0 ≤ i ∧ i < 4) : setOk (selD d i) := by
  have h4 := hi.2.2.2.2.2.1
  refine h4.2 _ ?_
  unfold selD
  have hlt : i.toNat < (dSel d).length := by omega
  rw [List.getD_eq_getElem?_getD, List.getElem?_eq_getElem hlt]
  exact List.getElem_mem hlt
theorem DI.sil {q : Int × Int × Int} (h : DI d) (hq : setOk q) (hl : (dSil d).length < 10) : DI (silD d q u) := by
  obtain ⟨a1, a2, a3, a4, a5, a6, a7, a8, a9, a10, a11, a12, a13, a14⟩ := id h
  refine h.own ⟨rfl, rfl, rfl⟩ a3 a4 a12 a6 a7 a8 ⟨by rw [List.length_append]; show _ + 1 ≤ 10; omega, fun t ht => ?_⟩ a10
  rcases List.mem_append.mp ht with h9 | h9
  · exact a9.2 _ h9
  · rw [List.mem_singleton.mp h9]; exact hq
theorem ok_silence (h : CH E G x d) (hi : DI d) (hc : 1 ≤ c) (hs : 18 ≤ s) : Ok E M_X11_silence [rv x, iv i, iv u] G c s (RQ E G x (cSilence d i u)) (RX G (cSilence d i u)) := by
  have hSi := h.sils
  have hx := h.1
  have hL := h.2.1
  have hO := h.2.2.1
  refine i_X11_silence ⟨hx, ?_⟩
  by_cases hr : 0 ≤ i ∧ i < 4
  · refine Call.to (mc' := 0) (ms' := 0) (ok_selectorOf (Q := fun r G1 => r = (lst G (gfd G 11 5 x)).getD i.toNat 0 ∧ G1 = G) h hi (fun _ => ⟨rfl, rfl⟩) (fun h8 => absurd hr h8)) (Nat.zero_le _) (Nat.zero_le _) fun r G1 ⟨e1, e2⟩ => ?_
    rw [e1, e2]
    have hq := h.sel hi hr
    have hz : gfd G 13 2 (gfd G 11 7 x) = (dSil d).length := by rw [hL.size hSi.1.1 hSi.1.2.1, hSi.1.2.2.1, List.length_map]
    have h10 := hSi.2.2.1
    have h15 := hSi.2.1
    refine ⟨okp_isWithin, fun h1 => ?_, fun h1 => ⟨by omega, by omega, by rw [cSilence, if_pos hr, if_neg (wIn0.mp h1)]; exact RX.n⟩⟩
    have h1' := wInY h1
    refine ⟨hx, hSi.1.1, okp_size hSi.1.1, hx, by omega, fun h2 => ?_, fun h2 => ⟨by omega, by omega, by rw [cSilence, if_pos hr, if_pos h1', if_neg (by omega)]; exact RX.n⟩⟩
    have hlt : (dSil d).length < 10 := by omega
    refine ⟨hx, h15, by omega, h2, fun G18 e18 => ?_⟩
    rw [hz] at e18
    have kS : FR G G18 noW noA (fun y => y = gfd G 11 8 x) := by rw [e18]; exact FR.mSel hL (by omega)
    have L18 : LW E G18 := by rw [e18]; exact hL.sel
    have o18 : ONW G G18 := by rw [e18]; exact ONW.mSel
    have e11a : ∀ j, gfd G18 11 j x = gfd G 11 j x := fun j => kS.2.1 11 j x (by decide) (by omega) (fun h9 => h9)
    have S18 := hSi.1.fr kS (fun _ _ h9 => h9) (fun h9 => h9)
    refine ⟨by rw [kS.1 x (by omega)]; exact hx, by rw [e11a]; exact S18.1.1, ?_⟩
    rw [e11a]
    have hz18 : gfd G18 13 2 (gfd G 11 7 x) = (dSil d).length := by rw [L18.size S18.1.1 S18.1.2.1, S18.1.2.2.1, List.length_map]
    have hq18 := hq.fr kS (fun _ h9 => h9)
    refine Call.to (mc' := 1) (ms' := 18) (ok_add L18 S18.1.1 S18.1.2.1 (Or.inr (by rw [hq18.1]; exact ⟨by decide, by decide⟩)) (by omega) (addSmall (by omega) (by omega) (Nat.le_refl _) (Nat.le_refl _))) (by omega) (by omega) fun _ G22 ⟨_, k9⟩ => ?_
    have k : FR G G22 noW (fun y => y = gfd G 11 7 x) (fun y => y = gfd G 11 8 x) := (kS.mono (fun _ _ _ h9 => h9) (fun _ h9 => h9.elim) (fun _ h9 => h9)).andThen k9.fr (fun _ _ _ _ h9 => h9) (fun _ _ h9 => h9) (fun _ _ h9 => h9.elim)
    have hO9 : OWG G G22 := (o18.trans k9.onw).owg hO
    have e11 : ∀ j, gfd G22 11 j x = gfd G 11 j x := fun j => k.2.1 11 j x (by decide) (by omega) (fun h9 => h9)
    obtain ⟨⟨a5, a6, a7, a10⟩, ⟨n56, n57, n67⟩, hdr, n89, n8, n9⟩ := h.apart
    have S9 : SlL G22 (gfd G 11 7 x) ((dSil d ++ [(selD d i, u)]).map (·.1)) := by
      refine SlL.lu S18.1.1 k9 (by rw [List.length_append, S18.1.2.2.1, List.length_map, List.length_map, List.length_append]; rfl) (fun j hj => ?_)
      rw [List.length_map, List.length_append] at hj
      have hj' : j < (dSil d).length + 1 := hj
      have hll := S18.1.2.2.1
      rw [List.length_map] at hll
      rw [List.map_append, appD (by omega), show [(selD d i, u)].map (·.1) = [selD d i] from rfl, appD (by rw [List.length_map]; omega), hll, List.length_map]
      by_cases hji : j < (dSil d).length
      · rw [if_pos hji, if_pos hji]
        exact S18.1.2.2.2 j (by rw [List.length_map]; exact hji)
      · rw [if_neg hji, if_neg hji]; exact hq18
    have c8 : gcl G18 (gfd G 11 8 x) = 15 := by rw [kS.1 _ (by omega)]; exact h15
    have g8 := k9.2.2.2.1 (gfd G 11 8 x) (by omega) (by omega)
    have g18 : gln G18 (gfd G 11 8 x) = 10 := by rw [e18]; exact h10
    have hSi' : SiH G22 x (dSil d ++ [(selD d i, u)]) := by
      refine ⟨by rw [e11]; exact S9, by rw [e11, k.1 _ (by omega)]; exact h15, by rw [e11, g8.1]; exact g18, fun j hj => ?_⟩
      rw [List.length_append] at hj
      have hj' : j < (dSil d).length + 1 := hj
      rw [e11, g8.2, e18, gel_sel, appD hj']
      by_cases hji : j < (dSil d).length
      · rw [if_pos hji, if_neg (by omega)]
        exact hSi.2.2.2 j hji
      · rw [if_neg hji, if_pos (by omega)]
    have hCF : CF E G G22 x (silD d (selD d i) u) := h.mine hi k9.1 hO9.1 hO9.now k (fun _ _ _ h9 => h9.elim) (fun y h9 => Or.inr (Or.inr (Or.inl h9))) (fun y h9 => ⟨by rw [h9]; exact n8, Or.inl h9⟩) ⟨rfl, rfl, rfl⟩
      (h.k5 k (fun _ _ h9 => h9) (fun h9 => h9) n57) (h.k6 k (fun _ _ _ _ h9 => h9) (fun h9 => h9) n67 (fun ru h5 hn => (h.ruleL (Or.inr (Or.inl rfl)) ru h5).1 hn) (fun ru h5 hn => (h.ruleL (Or.inr (Or.inl rfl)) ru h5).2 hn))
      hSi' (h.k9 k (fun h9 => h9) (fun h9 => n89 h9.symm))
      (h.k10 k (fun _ _ _ _ h9 => h9) (fun h9 => h9) (fun h9 => hdr (11, 7) (by decide) x hx h9.symm) hO9) (by rw [e11, e11, e11]; exact h.nums)
    have hx22 : gcl G22 x = 12 := hCF.1.1
    have hz22 : gfd G22 13 2 (gfd G 11 7 x) = (dSil d).length + 1 := by
      rw [k9.1.size S9.1 S9.2.1, S9.2.2.1, List.length_map, List.length_append]; rfl
    refine ⟨hx22, by rw [e11]; exact S9.1, by rw [e11]; exact okp_size S9.1, ?_⟩
    rw [e11, hz22, cSilence, if_pos hr, if_pos h1', if_pos hlt]
    exact RQ.y hCF
  · refine Call.of (mc' := 1) (ms' := 6) (Q' := fun _ _ => False) (X' := fun e G1 => e = 3 ∧ G1 = G) (ok_selectorOf h hi (fun h8 => absurd h8 hr) (fun _ => ⟨Nat.le_refl _, Nat.le_refl _, rfl, rfl⟩)) (by omega) (by omega) (fun e G1 ⟨e1, e2⟩ => ?_) (fun _ _ h8 => h8.elim)
    rw [e1, e2, cSilence, if_neg hr]
    exact RX.n
end S89
