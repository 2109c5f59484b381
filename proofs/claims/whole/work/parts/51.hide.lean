/-! the store hides samples: all of it -/
section S51
variable {E : EE} {G G' G2 : Gt} {c s bc bs : Nat} {Q X : Int → Gt → Prop} {a st x q l t v f sel fr to : Int} {zs zs' : List Zt} {W : Nat → Nat → Int → Prop} {L A : Int → Prop}
variable {ser : List Int} {smp : List (Sm4 × Int)} {rs : List Int} {dn wr cr er : Int}
def hdK (G : Gt) (sel fr to a : Int) : List Int := if slS G sel (sLab G a) = 0 then seenL G a else (seenL G a).filter (fun y => !(decide (fr ≤ sT G y) && decide (sT G y ≤ to)))
def HD (G : Gt) (N : List Int) (sel fr to y : Int) : Prop := ∃ a ∈ N, slS G sel (sLab G a) ≠ 0 ∧ y ∈ seenL G a ∧ fr ≤ sT G y ∧ sT G y ≤ to
theorem take_app {L : List Int} {i : Nat} (h : i < L.length) : L.take (i + 1) = L.take i ++ [L.getD i 0] := by
  rw [List.take_succ, List.getD_eq_getElem?_getD, List.getElem?_eq_getElem h]; rfl
/-- the state of the outer loop -/
def HdS (E : EE) (G G1 : Gt) (M N : List Int) (sel fr to f : Int) (ks : List Int) : Prop :=
  LW E G1 ∧ ONW G G1 ∧ FR G G1 (fun c k y => c = 5 ∧ k = 5 ∧ ∃ b ∈ M, y ∈ seenL G b) (fun y => ∃ a ∈ N, y = gfd G 7 1 a) noA ∧ (∀ a ∈ N, lst G1 (gfd G 7 1 a) = hdK G sel fr to a ∧ capOf G1 (gfd G 7 1 a) = capOf G (gfd G 7 1 a)) ∧ chn G1 f ks ∧ ks.Nodup ∧ (∀ y, y ∈ ks ↔ HD G N sel fr to y)
theorem StH.disj (h : StH G st zs ser smp rs dn wr cr) (hi : SI ser (smp.map (·.1)) rs er) {a b y : Int} (ha : a ∈ numL G st) (hb : b ∈ numL G st) (h1 : y ∈ seenL G a) (h2 : y ∈ seenL G b) : a = b := by
  obtain ⟨z, z1, z2, -, z4⟩ := zO_mem.mp ((h.2.2.2.2.1 a ha).2.2.1.mem_iff.mp h1)
  obtain ⟨w, w1, w2, -, w4⟩ := zO_mem.mp ((h.2.2.2.2.1 b hb).2.2.1.mem_iff.mp h2)
  refine h.lab hi ha hb ?_
  have hz := (h.2.2.2.2.2.2.2.1 z z1).2.2.2.2.2
  have hw := (h.2.2.2.2.2.2.2.1 w w1).2.2.2.2.2
  rw [← z4, ← w4, ← hz, ← hw, z2, w2]
theorem v_hide (hL0 : LW E G) (hO0 : OW G) (h : StH G st zs ser smp rs dn wr cr) (hi : SI ser (smp.map (·.1)) rs er) (hsel : gcl G sel = 7) (hft : fr ≤ to) (hto : 0 ≤ fr ∧ to ≤ 100000)
    (hfin : ∀ (G1 : Gt) (f : Int) (ks : List Int), HdS E G G1 (numL G st) (numL G st) sel fr to f ks → V E M_X8_hide 9 [some (rv st), some (rv sel), some (iv fr), some (iv to), some (rv f), some (iv ks.length), some (iv (numL G st).length), none, none, none, none] [] G1 c s Q X) :
    ∀ (j i : Nat) (G1 : Gt) (f : Int) (ks : List Int), i + j = (numL G st).length → ks.length ≤ 60 * i → HdS E G G1 (numL G st) ((numL G st).take i) sel fr to f ks →
      V E M_X8_hide 9 [some (rv st), some (rv sel), some (iv fr), some (iv to), some (rv f), some (iv ks.length), some (iv (i : Int)), none, none, none, none] [] G1 c s Q X := by
  have hnr := h.nr hi
  have h12 := hnr.2.2.2.1
  have hN := h.nodup hi
  intro j
  induction j with
  | zero =>
    intro i G1 f ks hij hkl hs
    have hi' : i = (numL G st).length := by omega
    subst hi'
    rw [List.take_length] at hs
    exact hfin G1 f ks hs
  | succ j ih =>
    intro i G1 f ks hij hkl ⟨hL, hO, hF, hl, hch, hnd, hmem⟩
    have hilt : i < (numL G st).length := by omega
    have htk := take_app hilt
    have ham := getD_mem hilt
    generalize hav : (numL G st).getD i 0 = a at htk ham
    have hsa := h.2.2.2.2.1 a ham
    have hsr := h.sr hi ham
    have haN : a ∉ (numL G st).take i := by
      have h1 : ((numL G st).take (i + 1)).Nodup := hN.sublist (List.take_sublist _ _)
      rw [htk, List.nodup_append] at h1
      intro h9
      exact h1.2.2 a h9 a (List.mem_singleton.mpr rfl) rfl
    have hb8 : ∀ b ∈ numL G st, gcl G b = 8 ∧ gcl G (gfd G 7 1 b) = 14 ∧ gfd G 7 1 b ≠ -1 ∧ gfd G 13 1 (gfd G 7 1 b) ≠ -1 := fun b hb => by
      have := h.2.2.2.2.1 b hb
      exact ⟨this.1, this.2.1.1, hO0.nn (by rw [this.2.1.1]; decide) (by rw [this.2.1.1]; decide), this.2.1.2⟩
    have hne : ∀ b ∈ (numL G st).take i, gfd G 7 1 a ≠ gfd G 7 1 b := fun b hb => by
      have hb' := List.mem_of_mem_take hb
      exact hO0.ne 7 1 7 1 hsa.1 (hb8 b hb').1 (hb8 a ham).2.2.1 (fun h9 => haN (by rw [h9.2.2]; exact hb))
    have st9 : gcl G1 st = 9 := by rw [hF.1 st (by rw [h.1]; decide)]; exact h.1
    have e80 : gfd G1 8 0 st = gfd G 8 0 st := hF.2.1 8 0 st (by decide) (by rw [h.1]; decide) (fun h9 => by omega)
    have n14 : gcl G1 (gfd G 8 0 st) = 14 := by rw [hF.1 _ (by rw [h.2.1.1]; decide)]; exact h.2.1.1
    have hnl : lst G1 (gfd G 8 0 st) = numL G st := ((hF.2.2.1 _ h.2.1.1 h.2.1.2).2 (fun ⟨b, hb, h9⟩ => by
      have hb' := List.mem_of_mem_take hb
      exact absurd h9 (hO0.ne 8 0 7 1 h.1 (hb8 b hb').1 (hO0.nn (by rw [h.2.1.1]; decide) (by rw [h.2.1.1]; decide)) (by omega)))).1
    have nr1 := (hF.2.2.1 _ h.2.1.1 h.2.1.2).1
    have hsz : gfd G1 13 2 (gfd G 8 0 st) = (numL G st).length := by rw [hL.size n14 nr1, hnl]
    have hat : alAt G1 (gfd G 8 0 st) (i : Int) = a := by rw [alAt_get hL n14 nr1 (by rw [hnl]; exact hilt), hnl, hav]
    have hget := okp_get (E := E) hL n14 nr1 (i := (i : Int)) (by omega) (by omega)
    rw [hat] at hget
    have ha8 := hsa.1
    have a8 : gcl G1 a = 8 := by rw [hF.1 a (by omega)]; exact hsa.1
    have s7 : gcl G1 sel = 7 := by rw [hF.1 sel (by omega)]; exact hsel
    have hsr1 : SR G1 a ∧ seenL G1 a = seenL G a := hsr.fr hF (fun h9 => by omega) (fun _ _ => ⟨fun h9 => by omega, fun h9 => by omega⟩) (fun ⟨b, hb, h9⟩ => hne b hb h9)
    have eS : ∀ k, k < 3 → gfd G1 6 k sel = gfd G 6 k sel := fun k _ => hF.2.1 6 k sel (by decide) (by omega) (fun h9 => by omega)
    have eLb : gfd G1 7 0 a = sLab G a := hF.2.1 7 0 a (by decide) (by omega) (fun h9 => by omega)
    have eSl : slS G1 sel (gfd G1 7 0 a) = slS G sel (sLab G a) := by
      unfold slS
      rw [eS 0 (by omega), eS 1 (by omega), eS 2 (by omega), eLb]
    have e71 : gfd G1 7 1 a = gfd G 7 1 a := hF.2.1 7 1 a (by decide) (by omega) (fun h9 => by omega)
    have eT : ∀ y ∈ seenL G a, sT G1 y = sT G y := fun y hy => hF.2.1 5 1 y (by decide) (by rw [(hsr.2.2.2.1 y hy).1]; decide) (fun h9 => by omega)
    have hosel := okp_selects (E := E) (l := gfd G1 7 0 a) s7
    rw [eSl] at hosel
    refine b_X8_hide_9 ⟨st9, by rw [e80]; exact n14, by rw [e80]; exact okp_size n14, fun h9 => by rw [e80] at h9; omega, fun _ => ?_⟩
    rw [e80, hat, eSl]
    refine ⟨st9, n14, hget, Or.inr a8, a8, s7, hosel, fun hs1 => ⟨a8, ?_⟩, fun hs1 => ⟨i32s (by omega), ?_⟩⟩
    · refine Call.pure (okp_countAhead hL hsr1.1) ⟨i32s (by omega), a8, Call.pure (okp_countAhead hL hsr1.1) ⟨i32s ?_, ?_⟩⟩
      · have := (cAh_spec (to + 1) hsr1.1).1
        have := hsr1.1.2.2.2.2.2
        omega
      obtain ⟨c1, c2, c3⟩ := cut_filter (fr := fr) (to := to) hsr1.1 hft
      have c4 := (cAh_spec (to + 1) hsr1.1).1
      have h60 := hsr1.1.2.2.2.2.2
      rw [hsr1.2] at c2 c3
      have cf : (seenL G a).filter (fun y => decide (fr ≤ sT G1 y) && decide (sT G1 y ≤ to)) = (seenL G a).filter (fun y => decide (fr ≤ sT G y) && decide (sT G y ≤ to)) := List.filter_congr fun y hy => by rw [eT y hy]
      have cg : (seenL G a).filter (fun y => !(decide (fr ≤ sT G1 y) && decide (sT G1 y ≤ to))) = (seenL G a).filter (fun y => !(decide (fr ≤ sT G y) && decide (sT G y ≤ to))) := List.filter_congr fun y hy => by rw [eT y hy]
      rw [cg] at c2
      rw [cf] at c3
      refine v_hideIn (K := fun _ _ _ => True) (n0 := ks.length) hsr1.1.nodup hL hsr1.1 c1 c4 (by omega) (ks0 := ks) (fun y hy h9 => ?_) ⟨by omega, by omega⟩ (fun G2 f2 n2 k1 k2 k3 k4 k5 k6 k7 => ?_) (cAh G1 a (to + 1) - cAh G1 a fr) (cAh G1 a (to + 1)) G1 f ks.length (by omega) (Nat.le_refl _) hL (ONW.refl G1) (FR.refl G1) ?_ rfl ?_ ?_
      · rw [hsr1.2] at h9
        obtain ⟨b, hb, -, h8, -, -⟩ := (hmem y).mp hy
        have := h.disj hi ham (List.mem_of_mem_take hb) h9 h8
        exact haN (by rw [this]; exact hb)
      · rw [hsr1.2] at k3 k4 k6 k7
        rw [c2, e71] at k4
        rw [c3] at k6 k7
        rw [e71] at k5 k3
        have en : n2 = (((seenL G a).filter (fun y => decide (fr ≤ sT G y) && decide (sT G y ≤ to)) ++ ks).length : Nat) := by rw [k7, List.length_append]; omega
        rw [en, show ((i : Int) + 1) = ((i + 1 : Nat) : Int) by omega]
        have hfl : ((seenL G a).filter (fun y => decide (fr ≤ sT G y) && decide (sT G y ≤ to))).length ≤ 60 := Nat.le_trans (List.length_filter_le _ _) hsr.2.2.2.2.2
        refine ih (i + 1) G2 f2 _ (by omega) (by rw [List.length_append]; omega) ⟨k1, hO.trans k2, ?_, ?_, k6, ?_, ?_⟩
        · refine FR.andThen (hF.mono (fun c k y h9 => h9) (fun y h9 => ?_) (fun _ h9 => h9)) k3 (fun c k y _ h9 => ⟨h9.1, h9.2.1, a, ham, h9.2.2⟩) (fun y _ h9 => ⟨a, by rw [htk]; exact List.mem_append_right _ (List.mem_singleton.mpr rfl), h9⟩) (fun _ _ h9 => h9)
          obtain ⟨b, hb, h8⟩ := h9
          exact ⟨b, by rw [htk]; exact List.mem_append_left _ hb, h8⟩
        · intro b hb
          rw [htk] at hb
          rcases List.mem_append.mp hb with hb | hb
          · have hb' := List.mem_of_mem_take hb
            have h14 : gcl G1 (gfd G 7 1 b) = 14 := by rw [hF.1 _ (by rw [(hb8 b hb').2.1]; decide)]; exact (hb8 b hb').2.1
            have hrr := (hF.2.2.1 _ (hb8 b hb').2.1 (hb8 b hb').2.2.2).1
            have := (k3.2.2.1 _ h14 hrr).2 (fun h9 => hne b hb h9.symm)
            rw [this.1, this.2]; exact hl b hb
          · rw [List.mem_singleton.mp hb]
            refine ⟨?_, ?_⟩
            · rw [k4]; unfold hdK; rw [if_neg hs1]
            · rw [k5]
              exact ((hF.2.2.1 _ hsa.2.1.1 hsa.2.1.2).2 (fun ⟨b, hb, h9⟩ => hne b hb h9)).2
        · rw [List.nodup_append]
          refine ⟨hsr.nodup.sublist List.filter_sublist, hnd, fun y hy z hz h9 => ?_⟩
          have hy' := (List.mem_filter.mp hy).1
          rw [h9] at hy'
          obtain ⟨b, hb, -, h8, -, -⟩ := (hmem z).mp hz
          have := h.disj hi ham (List.mem_of_mem_take hb) hy' h8
          exact haN (by rw [this]; exact hb)
        · intro y
          rw [List.mem_append, htk, hmem y]
          constructor
          · rintro (h9 | ⟨b, hb, h8⟩)
            · have := List.mem_filter.mp h9
              simp only [Bool.and_eq_true, decide_eq_true_eq] at this
              exact ⟨a, List.mem_append_right _ (List.mem_singleton.mpr rfl), hs1, this.1, this.2.1, this.2.2⟩
            · exact ⟨b, List.mem_append_left _ hb, h8⟩
          · rintro ⟨b, hb, h1, h2, h3, h4⟩
            rcases List.mem_append.mp hb with hb | hb
            · exact Or.inr ⟨b, hb, h1, h2, h3, h4⟩
            · rw [List.mem_singleton.mp hb] at h2
              exact Or.inl (List.mem_filter.mpr ⟨h2, by simp only [Bool.and_eq_true, decide_eq_true_eq]; exact ⟨h3, h4⟩⟩)
      · rw [e71, List.take_append_drop]
        have := hsr1.2
        unfold seenL at this ⊢
        rw [e71]
      · rw [List.drop_eq_nil_of_le (by rw [List.length_take]; omega)]
        exact hch
      · rw [List.drop_eq_nil_of_le (by rw [List.length_take]; omega)]
        show (ks.length : Int) = ks.length + 0
        omega
    · rw [show ((i : Int) + 1) = ((i + 1 : Nat) : Int) by omega]
      refine ih (i + 1) G1 f ks (by omega) (by omega) ⟨hL, hO, hF.mono (fun _ _ _ h9 => h9) (fun y ⟨b, hb, h9⟩ => ⟨b, by rw [htk]; exact List.mem_append_left _ hb, h9⟩) (fun _ h9 => h9), fun b hb => ?_, hch, hnd, fun y => ?_⟩
      · rw [htk] at hb
        rcases List.mem_append.mp hb with hb | hb
        · exact hl b hb
        · rw [List.mem_singleton.mp hb]
          have := (hF.2.2.1 _ hsa.2.1.1 hsa.2.1.2).2 (fun ⟨b, hb, h9⟩ => hne b hb h9)
          refine ⟨?_, this.2⟩
          rw [this.1]; unfold hdK; rw [if_pos hs1]; rfl
      · rw [hmem y, htk]
        constructor
        · rintro ⟨b, hb, h8⟩
          exact ⟨b, List.mem_append_left _ hb, h8⟩
        · rintro ⟨b, hb, h1, h2⟩
          rcases List.mem_append.mp hb with hb | hb
          · exact ⟨b, hb, h1, h2⟩
          · rw [List.mem_singleton.mp hb] at h1
            exact (h1 hs1).elim
end S51
