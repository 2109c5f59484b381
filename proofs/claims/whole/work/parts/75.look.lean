/-! an alert makes its new entries -/
section S75
variable {E : EE} {G G' G2 G0 : Gt} {Q X : Int → Gt → Prop} {a r q l u v n m x fl ru now st : Int} {R : List (Int × Int)} {es : List En}
/-- one more entry -/
theorem AdS.add {p : Nat} {c s : Nat} {K : Gt → Nat → Nat → Prop} (hO0 : OW G0) (h : AdS E G0 G ru fl r n R es) (hp : p ≤ es.length) (h60 : es.length < 1000) (hfl0 : gcl G0 fl = 14 ∧ gfd G0 13 1 fl ≠ -1) (hc : 1 + gC G fl ≤ c) (hs : 5 + gS G fl ≤ s) (hK : ∀ G', AdS E G0 G' ru fl r n R (es.take p ++ newE now l :: es.drop p) → capOf G' fl = addCap G fl → K G' (c - 1 - gC G fl) (s - 5 - gS G fl)) :
    (gcl G ru = 5 ∧ 1 ≤ c ∧ 5 ≤ s ∧ ∀ q12 : Int, gcl G q12 = 0 → (eb E : Int) ≤ q12 → ∀ G13 : Gt, G13 = (newo G q12 0) → 0 ≤ q12 ∧ Call E M_X0_init [rv q12, iv l, iv now] G13 (c - 1) (s - 5) X (fun _ G16 c17 s18 => gcl G16 (gfd G 4 4 ru) = 14 ∧ Call E M_A_addAt [rv (gfd G 4 4 ru), iv (p : Int), rv q12] G16 c17 s18 X (fun _ G21 c22 s23 => K G21 c22 s23))) := by
  obtain ⟨hL, hOn, hF, h5, h44, hFn, hR, hnew⟩ := h
  have hFn0 := hFn
  obtain ⟨f1, f2, f3, f4, f5⟩ := hFn
  refine ⟨h5, by omega, by omega, fun q hq hqb G13 e13 => ⟨by omega, ?_⟩⟩
  have hq0 : gcl G0 q = 0 := hF.old hq
  have q13 : gcl G13 q = 1 := by rw [e13, gcl_newo, if_pos rfl]
  refine Call.to (ok_entryInit (by omega) q13) (Nat.zero_le _) (Nat.zero_le _) fun _ G16 e16 => ?_
  rw [h44]
  have k16 : FR G G16 noW noA noA := by
    rw [e16, e13]
    exact (((((FR.refl G).newoIn hq).sfdNew hq (by decide)).sfdNew hq (by decide)).sfdNew hq (by decide)).sfdNew hq (by decide) |>.sfdNew hq (by decide)
  have F16 : FR G0 G16 (fun c _ y => c = 0 ∧ y ∈ lst G0 fl) (fun y => y = fl) noA := hF.andThen k16 (fun _ _ _ _ h9 => h9.elim) (fun _ _ h9 => h9.elim) (fun _ _ h9 => h9.elim)
  have o16 : ONW G G16 := by
    rw [e16, e13]
    exact (((((ONW.refl G).newoT hq (by omega)).sfdT (by decide)).sfdT (by decide)).sfdT (by decide)).sfdT (by decide) |>.sfdT (by decide)
  have l16 : LW E G16 := by
    rw [e16, e13]
    exact (((((hL.newo hq).sfd (by decide)).sfd (by decide)).sfd (by decide)).sfd (by decide)).sfd (by decide)
  have c14 : gcl G16 fl = 14 := by rw [k16.1 fl (by omega)]; exact f1
  have ll := k16.2.2.1 fl f1 f2
  have eL : lst G16 fl = lst G fl := (ll.2 id).1
  have eC : capOf G16 fl = capOf G fl := (ll.2 id).2
  have sz : gfd G 13 2 fl = es.length := by rw [hL.size f1 f2, f3]
  have sz16 : gfd G16 13 2 fl = es.length := by rw [l16.size c14 ll.1, eL, f3]
  have g16 : gC G16 fl = gC G fl ∧ gS G16 fl = gS G fl ∧ addCap G16 fl = addCap G fl := by
    unfold gC gS addCap
    rw [eC, sz16, sz]; exact ⟨rfl, rfl, rfl⟩
  have q16 : gcl G16 q = 1 := by rw [e16]; exact q13
  have hqf : gfd G16 0 0 q = l ∧ gfd G16 0 1 q = 0 ∧ gfd G16 0 2 q = 0 ∧ gfd G16 0 3 q = now ∧ gfd G16 0 4 q = now := by
    rw [e16]
    simp only [gfd_sfd]
    simp
  refine ⟨c14, Call.to (mc' := gC G fl) (ms' := gS G fl) (ok_addAt l16 c14 ll.1 (Or.inr (by unfold okE; omega)) (by omega) (by omega) (by omega) (gRoom (by rw [g16.1]; exact Nat.le_refl _) (by rw [g16.2.1]; exact Nat.le_refl _))) (by omega) (by omega) fun _ G21 h21 => hK G21 ?_ (h21.2.2.2.2.2.2.1.trans g16.2.2)⟩
  rw [eL, Int.toNat_natCast] at h21
  have k21 : FR G16 G21 noW (fun y => y = fl) noA := h21.fr
  have k0 : FR G G21 noW (fun y => y = fl) noA := (k16.mono (fun _ _ _ h9 => h9) (fun _ h9 => h9.elim) (fun _ h9 => h9)).trans k21
  have hls : lst G21 fl = insL (lst G fl) p q := h21.2.2.2.2.2.1
  have hqn : q ∉ lst G fl := fun h9 => by
    obtain ⟨i, hi, e⟩ := List.getElem_of_mem h9
    have := (f5 i (by omega)).1
    rw [List.getD_eq_getElem?_getD, List.getElem?_eq_getElem hi] at this
    have e' : (lst G fl)[i] = q := e
    rw [show ((some ((lst G fl)[i])).getD 0) = q from e'] at this
    omega
  have eold : ∀ y, gcl G y = 1 → ∀ j, gfd G21 0 j y = gfd G 0 j y := fun y hy j => k0.2.1 0 j y (by decide) (by omega) id
  refine ⟨h21.1, (hOn.trans o16).luT h21, F16.luIn h21 rfl, by rw [k0.1 ru (by omega)]; exact h5, by rw [k0.2.1 4 4 ru (by decide) (by omega) id]; exact h44, ⟨by rw [k0.1 fl (by omega)]; exact f1, h21.2.2.2.2.2.2.2, ?_, ?_, fun i hi => ?_⟩, ?_, fun y hy => ?_⟩
  · rw [hls, insL_len (by omega), f3, List.length_append, List.length_cons, List.length_take, List.length_drop]; omega
  · rw [hls]
    exact (insL_perm _ _ _).nodup_iff.mpr (List.nodup_cons.mpr ⟨hqn, f4⟩)
  · rw [hls, insL_get (by omega)]
    rw [List.length_append, List.length_cons, List.length_take, List.length_drop] at hi
    by_cases c1 : i < p
    · rw [if_pos c1, List.getD_eq_getElem?_getD (l := es.take p ++ newE now l :: es.drop p), List.getElem?_append_left (by rw [List.length_take]; omega), List.getElem?_take, if_pos c1, ← List.getD_eq_getElem?_getD]
      have hy := f5 i (by omega)
      have e := eold _ hy.1
      exact ⟨by rw [k0.1 _ (by rw [hy.1]; decide)]; exact hy.1, (e 0).trans hy.2.1, (e 1).trans hy.2.2.1, (e 3).trans hy.2.2.2.1, (e 4).trans hy.2.2.2.2.1, (e 2).trans hy.2.2.2.2.2⟩
    · rw [if_neg c1]
      by_cases c2 : i = p
      · rw [if_pos c2, List.getD_eq_getElem?_getD (l := es.take p ++ newE now l :: es.drop p), List.getElem?_append_right (by rw [List.length_take]; omega), List.length_take, show i - min p es.length = 0 by omega]
        have e : ∀ j, gfd G21 0 j q = gfd G16 0 j q := fun j => k21.2.1 0 j q (by decide) (by omega) id
        exact ⟨by rw [k21.1 q (by omega)]; exact q16, (e 0).trans hqf.1, (e 1).trans hqf.2.1, (e 3).trans hqf.2.2.2.1, (e 4).trans hqf.2.2.2.2, (e 2).trans hqf.2.2.1⟩
      · obtain ⟨j, rfl⟩ : ∃ j, i = p + 1 + j := ⟨i - (p + 1), by omega⟩
        rw [if_neg c2, show p + 1 + j - 1 = p + j by omega, List.getD_eq_getElem?_getD (l := es.take p ++ newE now l :: es.drop p), List.getElem?_append_right (by rw [List.length_take]; omega), List.length_take, show p + 1 + j - min p es.length = j + 1 by omega, List.getElem?_cons_succ, List.getElem?_drop, ← List.getD_eq_getElem?_getD]
        have hy := f5 (p + j) (by omega)
        have e := eold _ hy.1
        exact ⟨by rw [k0.1 _ (by rw [hy.1]; decide)]; exact hy.1, (e 0).trans hy.2.1, (e 1).trans hy.2.2.1, (e 3).trans hy.2.2.2.1, (e 4).trans hy.2.2.2.2.1, (e 2).trans hy.2.2.2.2.2⟩
  · exact hR.fr k0 (fun j => id) id id
  · rw [hls, insL_mem] at hy
    rcases hy with rfl | hy
    · exact Or.inr hq0
    · exact hnew y hy
theorem v_addNew (hO0 : OW G0) (hfl0 : gcl G0 fl = 14 ∧ gfd G0 13 1 fl ≠ -1) (hR : RV n R) : ∀ (j i : Nat) (G : Gt) (es : List En) (p : Nat) (c s : Nat), i + j = R.length → AdS E G0 G ru fl r n R es → ascE es → p ≤ es.length → es.length + j ≤ 500 → (∀ k, k < p → i < R.length → (es.getD k e0).1 < (R.getD i (0, 0)).1) →
    adC G fl ((lkB now es (R.drop i)).length - es.length) es.length ≤ c → adS G fl ((lkB now es (R.drop i)).length - es.length) es.length ≤ s →
    V E M_X4_addNew 5 [some (rv ru), some (rv r), some (iv now), some (iv (p : Int)), some (iv (i : Int)), none] [] G c s (fun _ G' => AdS E G0 G' ru fl r n R (lkB now es (R.drop i)) ∧ capOf G' fl = capN ((lkB now es (R.drop i)).length - es.length) (capOf G fl) es.length) X := by
  have h12 := hR.1
  intro j
  induction j with
  | zero =>
    intro i G es p c s hij hA _ _ _ _ _ _
    obtain ⟨hL, hOn, hF, h5, h44, hFn, hRo, hnew⟩ := hA
    have hl := hRo.len
    have e : R.drop i = [] := List.drop_eq_nil_of_le (by omega)
    rw [e]
    refine b_X4_addNew_5 ⟨hRo.1.1, fun _ => ⟨⟨hL, hOn, hF, h5, h44, hFn, hRo, hnew⟩, ?_⟩, fun h9 => by unfold rN at hl; omega⟩
    show capOf G fl = capN (es.length - es.length) (capOf G fl) es.length
    rw [Nat.sub_self]; rfl
  | succ j ih =>
    intro i G es p c s hij hA hasc hp hlen hlt hc hs
    have hA0 := hA
    obtain ⟨hL, hOn, hF, h5, h44, hFn, hRo, hnew⟩ := hA
    have hi : i < R.length := by omega
    obtain ⟨e1, e2, e3, e4, e5⟩ := hRo.elt hi
    have hdr : R.drop i = R.getD i (0, 0) :: R.drop (i + 1) := by
      rw [List.drop_eq_getElem_cons hi, List.getD_eq_getElem?_getD, List.getElem?_eq_getElem hi]; rfl
    have hlk : lkB now es (R.drop i) = lkB now (insE now (R.getD i (0, 0)).1 es) (R.drop (i + 1)) := by rw [hdr]; rfl
    rw [hlk] at hc hs ⊢
    have hRi : i + 1 < R.length → (R.getD i (0, 0)).1 < (R.getD (i + 1) (0, 0)).1 := fun h9 => asc_lt2 hR.2.1 (by omega) h9
    have ec : ((i + 1 : Nat) : Int) = (i : Int) + 1 := by omega
    -- the search for the place
    have search : ∀ (d p : Nat), p + d = es.length → (∀ k, k < p → (es.getD k e0).1 < (R.getD i (0, 0)).1) →
        V E M_X4_addNew 23 [some (rv ru), some (rv r), some (iv now), some (iv (p : Int)), some (iv (i : Int)), some (iv (R.getD i (0, 0)).1)] [] G c s (fun _ G' => AdS E G0 G' ru fl r n R (lkB now (insE now (R.getD i (0, 0)).1 es) (R.drop (i + 1))) ∧ capOf G' fl = capN ((lkB now (insE now (R.getD i (0, 0)).1 es) (R.drop (i + 1))).length - es.length) (capOf G fl) es.length) X := by
      have sz : gfd G 13 2 fl = es.length := by rw [hL.size hFn.1 hFn.2.1, hFn.2.2.1]
      -- found, or made
      have found : ∀ p : Nat, p < es.length → (es.getD p e0).1 = (R.getD i (0, 0)).1 → (∀ k, k < p → (es.getD k e0).1 < (R.getD i (0, 0)).1) → i32 ((i : Int) + 1) ∧ V E M_X4_addNew 5 [some (rv ru), some (rv r), some (iv now), some (iv (p : Int)), some (iv ((i : Int) + 1)), none] [] G c s (fun _ G' => AdS E G0 G' ru fl r n R (lkB now (insE now (R.getD i (0, 0)).1 es) (R.drop (i + 1))) ∧ capOf G' fl = capN ((lkB now (insE now (R.getD i (0, 0)).1 es) (R.drop (i + 1))).length - es.length) (capOf G fl) es.length) X := fun p hp9 hk9 hlt9 => by
        have hins : insE now (R.getD i (0, 0)).1 es = es := by
          rw [insE_at (p := p) (by omega) hlt9 (fun _ => by omega), if_pos ⟨hp9, hk9⟩]
        rw [hins] at hc hs ⊢
        have := ih (i + 1) G es p c s (by omega) hA0 hasc (by omega) (by omega) (fun k hk hi9 => Int.lt_trans (hlt9 k hk) (hRi hi9)) hc hs
        rw [ec] at this
        exact ⟨i32s (by omega), this⟩
      have made : ∀ p : Nat, p ≤ es.length → (p < es.length → (R.getD i (0, 0)).1 < (es.getD p e0).1) → (∀ k, k < p → (es.getD k e0).1 < (R.getD i (0, 0)).1) → (gcl G ru = 5 ∧ 1 ≤ c ∧ 5 ≤ s ∧ ∀ q12 : Int, gcl G q12 = 0 → (eb E : Int) ≤ q12 → ∀ G13 : Gt, G13 = (newo G q12 0) → 0 ≤ q12 ∧ Call E M_X0_init [rv q12, iv (R.getD i (0, 0)).1, iv now] G13 (c - 1) (s - 5) X (fun _ G16 c17 s18 => gcl G16 (gfd G 4 4 ru) = 14 ∧ Call E M_A_addAt [rv (gfd G 4 4 ru), iv (p : Int), rv q12] G16 c17 s18 X (fun _ G21 c22 s23 => i32 ((i : Int) + 1) ∧ V E M_X4_addNew 5 [some (rv ru), some (rv r), some (iv now), some (iv (p : Int)), some (iv ((i : Int) + 1)), none] [] G21 c22 s23 (fun _ G' => AdS E G0 G' ru fl r n R (lkB now (insE now (R.getD i (0, 0)).1 es) (R.drop (i + 1))) ∧ capOf G' fl = capN ((lkB now (insE now (R.getD i (0, 0)).1 es) (R.drop (i + 1))).length - es.length) (capOf G fl) es.length) X))) := fun p hp9 hgt9 hlt9 => by
        have hins : insE now (R.getD i (0, 0)).1 es = es.take p ++ newE now (R.getD i (0, 0)).1 :: es.drop p := by
          rw [insE_at (p := p) hp9 hlt9 (fun h9 => by have := hgt9 h9; omega), if_neg (fun h9 => by have := hgt9 h9.1; omega)]
        have hil : (insE now (R.getD i (0, 0)).1 es).length = es.length + 1 := by
          rw [hins, List.length_append, List.length_cons, List.length_take, List.length_drop]; omega
        have hlb := lkB_len (now := now) (R.drop (i + 1)) (insE now (R.getD i (0, 0)).1 es)
        obtain ⟨k9, hk9⟩ : ∃ k9, (lkB now (insE now (R.getD i (0, 0)).1 es) (R.drop (i + 1))).length = es.length + 1 + k9 := ⟨(lkB now (insE now (R.getD i (0, 0)).1 es) (R.drop (i + 1))).length - (es.length + 1), by omega⟩
        have hk1 : (lkB now (insE now (R.getD i (0, 0)).1 es) (R.drop (i + 1))).length - es.length = k9 + 1 := by omega
        have hk2 : (lkB now (insE now (R.getD i (0, 0)).1 es) (R.drop (i + 1))).length - (insE now (R.getD i (0, 0)).1 es).length = k9 := by omega
        have hgc : gC G fl = if ((es.length : Nat) : Int) = capOf G fl then 1 else 0 := by unfold gC; rw [sz]
        have hgs : gS G fl = if ((es.length : Nat) : Int) = capOf G fl then (ncap (capOf G fl)).toNat else 0 := by unfold gS; rw [sz]
        have hac : addCap G fl = if ((es.length : Nat) : Int) = capOf G fl then ncap (capOf G fl) else capOf G fl := by unfold addCap; rw [sz]
        have hc1 : adC G fl (k9 + 1) es.length = 1 + gC G fl + (k9 + grC k9 (addCap G fl) ((es.length : Int) + 1)) := by
          unfold adC
          rw [hgc, hac]
          show k9 + 1 + ((if ((es.length : Nat) : Int) = capOf G fl then 1 else 0) + grC k9 (if ((es.length : Nat) : Int) = capOf G fl then ncap (capOf G fl) else capOf G fl) ((es.length : Int) + 1)) = _
          omega
        have hs1 : adS G fl (k9 + 1) es.length = 5 + gS G fl + (5 * k9 + grS k9 (addCap G fl) ((es.length : Int) + 1)) := by
          unfold adS
          rw [hgs, hac]
          show 5 * (k9 + 1) + ((if ((es.length : Nat) : Int) = capOf G fl then (ncap (capOf G fl)).toNat else 0) + grS k9 (if ((es.length : Nat) : Int) = capOf G fl then ncap (capOf G fl) else capOf G fl) ((es.length : Int) + 1)) = _
          omega
        rw [hk1, hc1] at hc
        rw [hk1, hs1] at hs
        refine AdS.add hO0 hA0 hp9 (by omega) hfl0 (by omega) (by omega) fun G21 hq hcap => ⟨i32s (by omega), ?_⟩
        rw [← hins] at hq
        have hcN : capN (k9 + 1) (capOf G fl) es.length = capN k9 (capOf G21 fl) ((es.length + 1 : Nat) : Int) := by
          rw [hcap, hac]
          rw [show ((es.length + 1 : Nat) : Int) = (es.length : Int) + 1 by omega]; rfl
        have := ih (i + 1) G21 (insE now (R.getD i (0, 0)).1 es) p (c - 1 - gC G fl) (s - 5 - gS G fl) (by omega) hq (insE_asc hasc) (by omega) (by omega) (fun k hk hi9 => by
          refine Int.lt_trans ?_ (hRi hi9)
          rw [hins, List.getD_eq_getElem?_getD, List.getElem?_append_left (by rw [List.length_take]; omega), List.getElem?_take, if_pos hk, ← List.getD_eq_getElem?_getD]
          exact hlt9 k hk) (by
          rw [hk2, hil]
          unfold adC
          rw [hcap, show ((es.length + 1 : Nat) : Int) = (es.length : Int) + 1 by omega]
          omega) (by
          rw [hk2, hil]
          unfold adS
          rw [hcap, show ((es.length + 1 : Nat) : Int) = (es.length : Int) + 1 by omega]
          omega)
        rw [hk2, hil, ← hcN] at this
        rw [hk1]
        rw [ec] at this
        exact this
      intro d
      induction d with
      | zero =>
        intro p hpd hlt9
        refine b_X4_addNew_23 ⟨h5, by rw [h44]; exact hFn.1, by rw [h44]; exact okp_size hFn.1, fun J hJ => ?_⟩
        rw [h44, sz] at hJ ⊢
        refine ⟨fun _ => hJ ⟨h5, hFn.1, by have := okp_size (E := E) hFn.1; rw [sz] at this; exact this, fun J8 hJ8 => ⟨fun _ => hJ8 ?_, fun h9 => by omega⟩⟩, fun h9 => by omega⟩
        have := made p (by omega) (fun h9 => by omega) hlt9
        rw [h44] at this
        exact this
      | succ d ih2 =>
        intro p hpd hlt9
        obtain ⟨g1, g2, -, -⟩ := hFn.get hL (i := p) (by omega)
        refine b_X4_addNew_23 ⟨h5, by rw [h44]; exact hFn.1, by rw [h44]; exact okp_size hFn.1, fun J hJ => ?_⟩
        rw [h44, sz] at hJ ⊢
        refine ⟨fun h9 => by omega, fun _ => ⟨h5, hFn.1, g1, Or.inr g2.1, g2.1, ?_⟩⟩
        rw [g2.2.1]
        refine ⟨fun hle => hJ ⟨h5, hFn.1, by have := okp_size (E := E) hFn.1; rw [sz] at this; exact this, fun J8 hJ8 => ⟨fun h9 => by omega, fun _ => ⟨h5, hFn.1, g1, Or.inr g2.1, g2.1, ?_⟩⟩⟩, fun hgt => ⟨i32s (by omega), ?_⟩⟩
        · rw [g2.2.1]
          refine ⟨fun heq => found p (by omega) heq hlt9, fun hne => hJ8 ?_⟩
          have := made p (by omega) (fun _ => by omega) hlt9
          rw [h44] at this
          exact this
        · have := ih2 (p + 1) (by omega) (fun k hk => by
            by_cases h9 : k = p
            · rw [h9]; exact hgt
            · exact hlt9 k (by omega))
          rw [show ((p + 1 : Nat) : Int) = (p : Int) + 1 by omega] at this
          exact this
    refine b_X4_addNew_5 ⟨hRo.1.1, fun h9 => by omega, fun _ => ⟨hRo.1.1, hRo.1.2.1.1, by omega, e4, ?_⟩⟩
    rw [e1]
    exact search (es.length - p) p (by omega) (fun k hk => hlt k hk hi)
end S75
