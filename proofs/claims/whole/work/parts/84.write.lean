/-! write -/
section S84
variable {E : EE} {G G' G2 : Gt} {c s : Nat} {Q X : Int → Gt → Prop} {a x i j k l u t v z o w : Int} {d d' d2 : DS}
def smS (d : DS) : List Sm4 := (dSmp d).map (·.1)
def recC (d : DS) : Nat := if ((dRec d).length : Int) = dN d 6 then 1 else 0
def recS (d : DS) : Nat := if ((dRec d).length : Int) = dN d 6 then (ncap (dN d 6)).toNat else 0
def recN (d : DS) : Int := if ((dRec d).length : Int) = dN d 6 then ncap (dN d 6) else dN d 6
/-- the state behind a sample taken -/
def tkD (d : DS) (l t v : Int) : DS :=
  if tkA (dSer d) (smS d) l t v = 0 then stD d (fun j => if j = 5 then dN d 5 + 1 else if j = 6 then recN d else dN d j) (serW (dSer d) l) (dSmp d ++ [((l, t, v, 0), if dN d 4 = 0 then 1 else 0)]) (0 :: dRec d) (dBk d) else d
def cWrite (d : DS) (z o w t v : Int) : Sp :=
  if (0 ≤ z ∧ z ≤ 6) ∧ (0 ≤ o ∧ o ≤ 6) ∧ (0 ≤ w ∧ w ≤ 6) ∧ (0 ≤ t ∧ t ≤ dN d 0) ∧ (v = -2147483648 ∨ (-1000000 ≤ v ∧ v ≤ 1000000)) then yes (tkA (dSer d) (smS d) (100 * z + 10 * o + w) t v) (tkD d (100 * z + 10 * o + w) t v) else no 1 d
theorem CH.recs (h : CH E G x d) : gC G (gfd G 8 1 (gfd G 11 0 x)) = recC d ∧ gS G (gfd G 8 1 (gfd G 11 0 x)) = recS d ∧ addCap G (gfd G 8 1 (gfd G 11 0 x)) = recN d := by
  obtain ⟨zs, hS⟩ := h.2.2.2.1
  have hr := hS.2.2.1
  have e := RecR.len hS.2.2.2.2.2.2.2.2.2.2.2.2.2
  rw [List.length_reverse] at e
  have e2 : gfd G 13 2 (gfd G 8 1 (gfd G 11 0 x)) = (dRec d).length := by rw [h.2.1.size hr.1 hr.2, e]
  have e3 := hS.2.2.2.2.2.2.2.2.2.2.2.2.1
  unfold gC gS addCap recC recS recN
  rw [e2, e3]
  exact ⟨rfl, rfl, rfl⟩
theorem CH.tkc (h : CH E G x d) (l : Int) : tkC G (gfd G 11 0 x) l ≤ 8 + recC d ∧ tkS G (gfd G 11 0 x) l ≤ 162 + recS d := by
  obtain ⟨e1, e2, -⟩ := h.recs
  obtain ⟨zs, hS⟩ := h.2.2.2.1
  unfold tkC tkS
  rw [e1, e2]
  rcases hS.find l with ⟨h9, -⟩ | ⟨h9, -⟩
  · rw [if_pos h9, if_pos h9]
    exact ⟨Nat.le_refl _, Nat.le_refl _⟩
  · have hc := (hS.2.2.2.2.1 _ h9).2.2.2.2.2
    have h8 := (hS.2.2.2.2.1 _ h9).1
    have hn : fsV G (numL G (gfd G 11 0 x)) l ≠ -1 := fun h7 => by
      rw [h7] at h8
      rcases h.2.2.1.2.2 with h6 | h6 <;> omega
    rw [if_neg hn, if_neg hn]
    generalize fsV G (numL G (gfd G 11 0 x)) l = b at hc ⊢
    have g1 : gC G (gfd G 7 1 b) ≤ 1 := by unfold gC; split <;> omega
    have g2 : gS G (gfd G 7 1 b) ≤ 109 := by
      unfold gS
      unfold capK at hc
      split
      · unfold ncap
        rcases hc with h7 | h7 | h7 | h7 | h7 | h7 | h7 <;> rw [h7] <;> decide
      · omega
    omega
theorem tk_store (h : CH E G x d) (hi : DI d) (hk : tkG E G G' (gfd G 11 0 x) l t v (dSer d) (dSmp d) (dRec d) (dN d 4) (dN d 5)) (ha : tkA (dSer d) (smS d) l t v = 0) : CF E G G' x (tkD d l t v) := by
  obtain ⟨hL', hO', hF, ⟨zs', hs'⟩, -, -, ⟨L1, hn1, hb1⟩⟩ := hk
  have hst : gcl G (gfd G 11 0 x) = 9 := by
    obtain ⟨zs, hS⟩ := h.2.2.2.1
    exact hS.1
  have h8 : ∀ b ∈ numL G (gfd G 11 0 x), gcl G b = 8 := by
    obtain ⟨zs, hS⟩ := h.2.2.2.1
    exact fun b hb => (hS.2.2.2.2.1 b hb).1
  have hmap : (numL G (gfd G 11 0 x)).map (sLab G) = dSer d := by
    obtain ⟨zs, hS⟩ := h.2.2.2.1
    exact hS.2.2.2.1
  have hsh : ∀ b ∈ numL G (gfd G 11 0 x), BSh G b := by
    obtain ⟨zs, hS⟩ := h.2.2.2.1
    exact fun b hb => (hS.2.2.2.2.1 b hb).2.2.2.2.1
  unfold tkD
  rw [if_pos ha]
  rw [h.recs.2.2] at hs'
  refine h.store hL' hO' (hF.mono (fun c j y hw => by unfold wT at hw; unfold Wst; omega) (fun y hy => ?_) (fun y hy => hy.elim)) ⟨rfl, rfl, rfl⟩ ⟨zs', hs'⟩ ?_
  · rcases hy with h9 | h9 | ⟨b, hb, h9⟩
    · exact ⟨_, Or.inl ⟨hst, Or.inl h9⟩⟩
    · exact ⟨_, Or.inl ⟨hst, Or.inr h9⟩⟩
    · exact ⟨b, Or.inr ⟨h8 b hb, h9⟩⟩
  · have e7 : ∀ b ∈ numL G (gfd G 11 0 x), ∀ j, gfd G' 7 j b = gfd G 7 j b := fun b hb j => hF.2.1 7 j b (by decide) (by have := h8 b hb; omega) (fun hw => by unfold wT at hw; omega)
    have hmap' : (numL G' (gfd G 11 0 x)).map (sLab G') = serW (dSer d) l := hs'.2.2.2.1
    have e0 : (numL G (gfd G 11 0 x)).map (sLab G') = dSer d := by
      rw [← hmap]
      exact List.map_congr_left fun b hb => e7 b hb 0
    rw [hn1, List.map_append, e0] at hmap'
    intro b hb
    rw [hn1] at hb
    rcases List.mem_append.mp hb with h9 | h9
    · have hB := hsh b h9
      have e := h.2.2.2.2.1 b h9
      have eL : sLab G' b = sLab G b := e7 b h9 0
      rw [eL, ← e]
      unfold blkL
      rw [e7 b h9, e7 b h9, e7 b h9]
      refine List.map_congr_left fun i _ => ?_
      rw [(hF.2.2.2 (gfd G 7 2 b) (by have := hB.2.1.1; omega) (by have := hB.2.1.1; omega)).2 (fun h7 => h7), (hF.2.2.2 (gfd G 7 3 b) (by have := hB.2.2.1.1; omega) (by have := hB.2.2.1.1; omega)).2 (fun h7 => h7)]
    · have hz := (hb1 b h9).2
      have e : blkL G' b = [] := by
        unfold blkL
        rw [hz]
        rfl
      have hnot : sLab G' b ∉ dSer d := by
        unfold serW at hmap'
        by_cases hm : l ∈ dSer d
        · rw [if_pos hm] at hmap'
          have : L1.map (sLab G') = [] := List.append_cancel_left (hmap'.trans (List.append_nil _).symm)
          rw [List.map_eq_nil_iff.mp this] at h9
          exact (List.not_mem_nil h9).elim
        · rw [if_neg hm] at hmap'
          have : L1.map (sLab G') = [l] := List.append_cancel_left hmap'
          have h6 : sLab G' b ∈ L1.map (sLab G') := List.mem_map.mpr ⟨b, h9, rfl⟩
          rw [this] at h6
          rw [List.mem_singleton.mp h6]
          exact hm
      rw [e]
      exact (hi.2.2.2.2.2.2.2.2.2.2.2.2.2 _ hnot).symm
/-- a sample given to the store -/
theorem ok_takeD (h : CH E G x d) (hi : DI d) (hl : cOk l) (ht : 0 ≤ t ∧ t ≤ 100000) (hc : 8 + recC d ≤ c) (hs : 162 + recS d ≤ s) : Ok E M_X8_take [rv (gfd G 11 0 x), iv l, iv t, iv v] G c s (fun r G' => r = tkA (dSer d) (smS d) l t v ∧ CF E G G' x (tkD d l t v)) (fun _ _ => False) := by
  obtain ⟨zs, hS⟩ := h.2.2.2.1
  have hb := hi.2.2.2.2.2.2.2.2.2.2.2.2.1
  have hk := h.tkc l
  refine (ok_take h.2.1 h.2.2.1 hS hi.1 hl ht hi.2.1 ⟨hb.1, hb.2.1⟩ hb.2.2 (fun _ => ⟨by omega, by omega⟩)).mono (fun r G1 ⟨e1, e2, e3⟩ => ⟨e1, ?_⟩) (fun _ _ h9 => h9)
  by_cases ha : tkA (dSer d) (smS d) l t v = 0
  · exact tk_store h hi (e3 (e1.trans ha)) ha
  · unfold tkD
    rw [if_neg ha, e2 (fun h9 => ha (e1.symm.trans h9))]
    exact CF.refl h
theorem ok_write (h : CH E G x d) (hi : DI d) (hc : 8 + recC d ≤ c) (hs : 162 + recS d ≤ s) : Ok E M_X11_write [rv x, iv z, iv o, iv w, iv t, iv v] G c s (RQ E G x (cWrite d z o w t v)) (RX G (cWrite d z o w t v)) := by
  have hno : ¬ ((0 ≤ z ∧ z ≤ 6) ∧ (0 ≤ o ∧ o ≤ 6) ∧ (0 ≤ w ∧ w ≤ 6) ∧ (0 ≤ t ∧ t ≤ dN d 0) ∧ (v = -2147483648 ∨ (-1000000 ≤ v ∧ v ≤ 1000000))) → 1 ≤ c ∧ 6 ≤ s ∧ RX G (cWrite d z o w t v) 1 G := fun h9 => ⟨by omega, by omega, by rw [cWrite, if_neg h9]; exact RX.n⟩
  have e0 := h.nums.2.1
  refine i_X11_write ⟨okp_isWithin, fun h1 => hno fun h9 => wIn0.mp h1 h9.1, fun h1 => ⟨okp_isWithin, fun h2 => hno fun h9 => wIn0.mp h2 h9.2.1, fun h2 => ⟨okp_isWithin, fun h3 => ⟨h.1, okp_isWithin, fun h4 => ?_, fun h4 => hno fun h9 => wIn0.mp h4 (by rw [e0]; exact h9.2.2.2.1)⟩, fun h3 => hno fun h9 => wIn0.mp h3 h9.2.2.1⟩⟩⟩
  intro J hJ
  have h1' := wInY h1
  have h2' := wInY h2
  have h3' := wInY h3
  have h4' := wInY h4
  rw [e0] at h4'
  have hnow := hi.2.2.1
  have go : v = -2147483648 ∨ (-1000000 ≤ v ∧ v ≤ 1000000) → J := fun hv => by
    have hcw : cOk (100 * z + 10 * o + w) := by
      have e1 : Int.tdiv (100 * z + 10 * o + w) 10 = 10 * z + o := by rw [Int.tdiv_eq_ediv_of_nonneg (by omega)]; omega
      unfold cOk
      rw [e1, Int.tmod_eq_emod_of_nonneg (by omega), Int.tmod_eq_emod_of_nonneg (by omega)]
      omega
    obtain ⟨zs, hS⟩ := h.2.2.2.1
    refine hJ ⟨h.1, i32s (by omega), i32s (by omega), i32s (by omega), i32s (by omega), hS.1, Call.to (ok_takeD h hi hcw ⟨h4'.1, by omega⟩ hc hs) (Nat.le_refl _) (Nat.le_refl _) fun r G1 ⟨e1, e2⟩ => ?_⟩
    rw [e1, cWrite, if_pos ⟨h1', h2', h3', h4', hv⟩]
    exact RQ.y e2
  refine ⟨fun h5 => go (Or.inl h5), fun h5 => ⟨okp_isWithin, fun h6 => go (Or.inr (wInY h6)), fun h6 => hno fun h9 => ?_⟩⟩
  rcases h9.2.2.2.2 with h7 | h7
  · exact h5 h7
  · exact wIn0.mp h6 h7
theorem DI.take (hi : DI d) (hl : cOk l) (ht : 0 ≤ t ∧ t ≤ 100000) (hv : vOk v) (hb : dN d 5 < 1000000 ∧ (dRec d).length < 1000000) : DI (tkD d l t v) := by
  unfold tkD
  by_cases ha : tkA (dSer d) (smS d) l t v = 0
  · rw [if_pos ha]
    have hi5 := hi.2.2.2.2.2.2.2.2.2.2.2.2
    refine hi.store ?_ ⟨rfl, rfl, rfl⟩ hi.2.1 hi.2.2.2.2.1 ⟨?_, ?_, ?_⟩ (fun c hc => hi5.2 c (fun h9 => hc ?_))
    · rw [List.map_append]
      exact hi.1.take hi.2.2.2.2.1 hl ht hv ha
    · show 0 ≤ dN d 5 + 1
      have := hi5.1.1
      omega
    · show dN d 5 + 1 ≤ 1000000
      omega
    · rw [List.length_cons]; omega
    · unfold serW
      split
      · exact h9
      · exact List.mem_append_left _ h9
  · rw [if_neg ha]
    exact hi
end S84
