/-! the model's alerts, silences, notices -/
section Sa23
variable {E : EE} {G G' G2 : Gt} {c s bc bs : Nat} {Q X : Int → Gt → Prop} {a i v q m x ml mr u l t w z o two wt9 kp f e : Int} {k j : Nat} {T T' : Nat → Prop} {d d' : DS} {es : List En}
theorem rz_at {qs : List Rl} {n : Nat} (hn : n < qs.length) : qs.getD n rz = qs.getD n r0 := by
  rw [List.getD_eq_getElem?_getD, List.getD_eq_getElem?_getD, List.getElem?_eq_getElem hn]; rfl
theorem MH.rl (h : MH E G m d ml mr) : gfd G 12 23 m = (dRl d).length ∧ (dRl d).length ≤ 8 := ⟨h.2.2.2.2.2.2.2.2.1.1, h.2.2.2.2.2.2.2.2.1.2.1⟩
theorem okp_misAlert (h : MH E G m d ml mr) : OkP E M_X12_isAlert [rv m, iv i] G (if isA d i then 1 else 0) := by
  obtain ⟨r1, r2⟩ := h.rl
  have a24 := h.1.1.fx 24 17 8
  refine i_X12_isAlert ⟨h.k13, i32s' (by omega), okp_in, fun _ => h.k13, fun _ => a24.1, fun h9 => ?_, fun h9 => ?_, ?_, ?_, rfl⟩
  · have := wInY h9; omega
  · have := wInY h9; omega
  · rw [r1]
    split
    · exact Or.inl rfl
    · split
      · exact Or.inl rfl
      · exact Or.inr rfl
  · rw [r1]
    by_cases hw : 0 ≤ i ∧ i < (dRl d).length
    · rw [if_neg (fun h9 => (inS_w i).mp h9 hw)]
      have h3 := (h.2.2.2.2.2.2.2.2.1.2.2.1 i.toNat (by omega)).1
      rw [Int.toNat_of_nonneg hw.1, rz_at (by omega)] at h3
      rw [h3]
      by_cases ha : ((dRl d).getD i.toNat r0).1.1 = -1
      · rw [if_pos ha, if_neg (by decide), if_pos ⟨hw.1, hw.2, ha⟩]
      · rw [if_neg ha, if_pos rfl, if_neg (fun h9 => ha h9.2.2)]
    · rw [if_pos ((inS_w i).mpr hw), if_neg (fun h9 => hw ⟨h9.1, h9.2.1⟩)]
theorem om_notice (h : MH E G m d ml mr) (hi : DI d) : Ok E M_X12_notice [rv m, iv i, iv w] G c s (MqR E G m (cNotice d i w) tB ml mr) (fun _ _ => False) := by
  have e46 := h.2.1.2.2.2.2
  have hN := hi.2.2.2.2.2.2.2.2.2.1
  have h3 := hi.2.2.2.2.2.2.2.2.2.2.2.1
  refine i_X12_notice ⟨h.k13, i32s' (by omega), okp_in, fun _ _ => okp_in, h.k13, fun G9 e9 => ?_⟩
  rw [e46] at e9
  by_cases hr : 0 ≤ i ∧ i < (dNt d).length
  · rw [if_neg (fun h9 => wIn0.mp h9 ⟨hr.1, by omega⟩), if_pos (by omega)] at e9
    by_cases hw : 0 ≤ w ∧ w ≤ 2
    · rw [if_neg (fun h9 => wIn0.mp h9 hw)] at e9
      obtain ⟨k1, k2⟩ := h.thr 0
      rw [← e9] at k1 k2
      have a47 := k1.1.1.1.fx 47 15 180
      refine ⟨k1.1.k13, fun _ => k1.1.k13, fun _ => i32s' (by omega), fun _ => i32s' (by omega), fun _ => a47.1, fun _ => by omega, fun _ => by omega, ?_⟩
      rw [k2, if_pos (by decide), cNotice, if_pos hr, if_pos hw]
      have := k1.1.2.2.2.2.2.2.2.2.2.2.2.2 i.toNat (by omega)
      rw [Int.toNat_of_nonneg hr.1] at this
      refine MqR.ok k2 rfl ?_ k1
      unfold ntW
      by_cases w0 : w = 0
      · rw [w0, if_pos rfl, Int.add_zero]; exact this.1
      · rw [if_neg w0]
        by_cases w1 : w = 1
        · rw [w1, if_pos rfl]; exact this.2.1
        · rw [if_neg w1, show w = 2 by omega]; exact this.2.2
    · rw [if_pos (wIn0.mpr hw)] at e9
      obtain ⟨k1, k2⟩ := h.thr 2
      rw [← e9] at k1 k2
      refine ⟨k1.1.k13, fun h9 => by omega, fun h9 => by omega, fun h9 => by omega, fun h9 => by omega, fun h9 => by omega, fun h9 => by omega, ?_⟩
      rw [if_neg (by omega), cNotice, if_pos hr, if_neg hw]
      exact MqR.nok (by decide) k2 k1
  · have e0 : (if wIn i 0 (dN d 3 - 1) = 0 then (1 : Int) else if i < 60 then (if wIn w 0 2 = 0 then 2 else 0) else 1) = 1 := by
      by_cases h1 : wIn i 0 (dN d 3 - 1) = 0
      · rw [if_pos h1]
      · have := wInY h1
        rw [if_neg h1, if_neg (by omega)]
    rw [e0] at e9
    obtain ⟨k1, k2⟩ := h.thr 1
    rw [← e9] at k1 k2
    refine ⟨k1.1.k13, fun h9 => by omega, fun h9 => by omega, fun h9 => by omega, fun h9 => by omega, fun h9 => by omega, fun h9 => by omega, ?_⟩
    rw [if_neg (by omega), cNotice, if_neg hr]
    exact MqR.nok (by decide) k2 k1
/-- the entries of an alert in the model -/
theorem MH.ents (h : MH E G m d ml mr) (hr : 0 ≤ i ∧ i < (dRl d).length) : gel G (gfd G 12 38 m) i = (enT d i).length ∧ (enT d i).length ≤ 24 ∧ ∀ n : Nat, n < (enT d i).length → EnM G m (24 * i + n) ((enT d i).getD n e0) := by
  have h8 := h.rl.2
  have := h.2.2.2.2.2.2.2.2.2.1 i.toNat (by omega)
  rw [rz_at (by omega)] at this
  unfold MEs at this
  rw [Int.toNat_of_nonneg hr.1] at this
  exact this
theorem v_mentries (h : MH E G m d ml mr) (hi : DI d) (hr : isA d i) (h0 : gfd G 12 0 m = 0) : ∀ (n j : Nat) (y : Int), j + n = (enT d i).length → 0 ≤ y ∧ y ≤ j → Q (y + ((enT d i).drop j).countP fun e => decide (f = 0 ∨ e.2.1 ≠ 0)) G → V E M_X12_entries 22 [some (rv m), some (iv i), some (iv f), some (iv y), some (iv (j : Int))] [] G c s Q X := by
  obtain ⟨e1, e2, e3⟩ := h.ents ⟨hr.1, hr.2.1⟩
  have h8 := h.rl.2
  have hr1 := hr.1
  have hr2 := hr.2.1
  have a38 := h.1.1.fx 38 15 8
  have a40 := h.1.1.fx 40 15 192
  intro n
  induction n with
  | zero =>
    intro j y hj hy hq
    rw [List.drop_eq_nil_of_le (by omega), List.countP_nil] at hq
    have e : y + ((0 : Nat) : Int) = y := by omega
    rw [e] at hq
    exact b_X12_entries_22 ⟨h.k13, fun h9 => (h9 h0).elim, fun _ => ⟨h.k13, a38.1, by omega, by omega, fun _ => hq, fun h9 => by omega⟩⟩
  | succ n ih =>
    intro j y hj hy hq
    have hlt : j < (enT d i).length := by omega
    have hk : ((dRl d).getD i.toNat r0) ∈ dRl d := getD_mem' (by omega)
    have hok := (hi.2.2.2.2.2.2.2.1.2 _ hk).2.2.1 ((enT d i).getD j e0) (getD_mem' hlt)
    have h40 := (e3 j hlt).2.1
    refine b_X12_entries_22 ⟨h.k13, fun h9 => (h9 h0).elim, fun _ => ⟨h.k13, a38.1, by omega, by omega, fun h9 => by omega, fun _ => ⟨fun _ => h.k13, fun _ => i32s' (by omega), fun _ => i32s' (by omega), fun _ => a40.1, fun _ => by omega, fun _ => by omega, ?_⟩⟩⟩
    have hs : (if f = 0 then (1 : Int) else if gel G (gfd G 12 40 m) (24 * i + j) = 1 then 1 else 0) = if (fun e : En => decide (f = 0 ∨ e.2.1 ≠ 0)) ((enT d i).getD j e0) = true then 1 else 0 := by
      rw [h40]
      have hst := hok.2.2.1
      show _ = if decide (f = 0 ∨ ((enT d i).getD j e0).2.1 ≠ 0) = true then (1 : Int) else 0
      by_cases hf : f = 0
      · rw [if_pos hf, if_pos (decide_eq_true (Or.inl hf))]
      · rw [if_neg hf]
        rcases hst with h9 | h9
        · rw [if_neg (by omega), if_neg (fun h8 => by rcases of_decide_eq_true h8 with h7 | h7; exact hf h7; exact h7 h9)]
        · rw [if_pos h9, if_pos (decide_eq_true (Or.inr (by omega)))]
    rw [hs]
    refine ⟨i32s' (by split <;> omega), i32s' (by omega), ?_⟩
    refine ih (j + 1) _ (by omega) (by split <;> omega) ?_
    rw [dropG e0 hlt, List.countP_cons] at hq
    have e : y + ((((enT d i).drop (j + 1)).countP (fun e : En => decide (f = 0 ∨ e.2.1 ≠ 0)) + if (fun e : En => decide (f = 0 ∨ e.2.1 ≠ 0)) ((enT d i).getD j e0) = true then 1 else 0 : Nat) : Int) = y + (if (fun e : En => decide (f = 0 ∨ e.2.1 ≠ 0)) ((enT d i).getD j e0) = true then 1 else 0) + (((enT d i).drop (j + 1)).countP (fun e : En => decide (f = 0 ∨ e.2.1 ≠ 0)) : Nat) := by split <;> omega
    rw [e] at hq
    exact hq
theorem om_entries (h : MH E G m d ml mr) (hi : DI d) : Ok E M_X12_entries [rv m, iv i, iv f] G c s (MqR E G m (cEntries d i f) tB ml mr) (fun _ _ => False) := by
  refine i_X12_entries ⟨h.k13, Call.pure (okp_misAlert h) ⟨h.k13, fun G8 e8 => ?_⟩⟩
  by_cases hr : isA d i
  · rw [if_pos hr, if_neg (by decide)] at e8
    obtain ⟨k1, k2⟩ := h.thr 0
    rw [← e8] at k1 k2
    refine v_mentries k1.1 hi hr k2 _ 0 0 (Nat.zero_add _) (by decide) ?_
    rw [List.drop_zero, Int.zero_add, cEntries, if_pos hr]
    exact MqR.ok k2 rfl rfl k1
  · rw [if_neg hr, if_pos rfl] at e8
    obtain ⟨k1, k2⟩ := h.thr 1
    rw [← e8] at k1 k2
    refine b_X12_entries_22 ⟨k1.1.k13, fun _ => ?_, fun h9 => by omega⟩
    rw [cEntries, if_neg hr]
    exact MqR.nok (by decide) k2 k1
theorem om_entry (h : MH E G m d ml mr) (hi : DI d) : Ok E M_X12_entry [rv m, iv i, iv w, iv t] G c s (MqR E G m (cEntry d i w t) tB ml mr) (fun _ _ => False) := by
  have a38 := h.1.1.fx 38 15 8
  have h8 := h.rl.2
  refine i_X12_entry ⟨h.k13, Call.pure (okp_misAlert h) ?_⟩
  by_cases hr : isA d i
  · obtain ⟨e1, e2, e3⟩ := h.ents ⟨hr.1, hr.2.1⟩
    have hr1 := hr.1
    have hr2 := hr.2.1
    rw [if_pos hr]
    refine ⟨fun _ => h.k13, fun _ => a38.1, fun _ => by omega, fun _ => by omega, fun _ => i32s' (by omega), fun _ => okp_in, fun _ _ => okp_in, h.k13, fun G17 e17 => ?_⟩
    rw [if_neg (by decide), e1] at e17
    by_cases hw : 0 ≤ w ∧ w < (enT d i).length
    · rw [if_neg (fun h9 => (inS_w w).mp h9 hw)] at e17
      by_cases ht : 0 ≤ t ∧ t ≤ 3
      · rw [if_neg (fun h9 => wIn0.mp h9 ht)] at e17
        obtain ⟨k1, k2⟩ := h.thr 0
        rw [← e17] at k1 k2
        have s := k1.1.1.1
        have a39 := s.fx 39 15 192
        have a40 := s.fx 40 15 192
        have a41 := s.fx 41 15 192
        have a43 := s.fx 43 17 192
        obtain ⟨g1, g2, g3⟩ := k1.1.ents ⟨hr.1, hr.2.1⟩
        have hE := g3 w.toNat (by omega)
        rw [Int.toNat_of_nonneg hw.1] at hE
        have hk : ((dRl d).getD i.toNat r0) ∈ dRl d := getD_mem' (by omega)
        have hlt : w.toNat < (enT d i).length := by omega
        have hok := (hi.2.2.2.2.2.2.2.1.2 _ hk).2.2.1 ((enT d i).getD w.toNat e0) (getD_mem' hlt)
        refine ⟨k1.1.k13, fun _ => ⟨i32s' (by omega), i32s' (by omega), fun _ _ _ => k1.1.k13, fun _ _ _ => a43.1, fun _ _ _ => by omega, fun _ _ _ => by omega, fun _ _ _ => k1.1.k13, fun _ _ _ => a41.1, fun _ _ _ => by omega, fun _ _ _ => by omega, fun _ _ => k1.1.k13, fun _ _ => a40.1, fun _ _ => by omega, fun _ _ => by omega, fun _ => k1.1.k13, fun _ => a39.1, fun _ => by omega, fun _ => by omega, ?_⟩, fun h9 => by omega⟩
        rw [cEntry, if_pos hr, if_pos hw, if_pos ht, hE.1, hE.2.1, hE.2.2.1, hE.2.2.2.2]
        refine MqR.ok k2 rfl ?_ k1
        unfold enW
        have hst := hok.2.2.1
        split
        · rfl
        · split
          · rcases hst with h9 | h9 <;> rw [h9] <;> rfl
          · rfl
      · rw [if_pos (wIn0.mpr ht)] at e17
        obtain ⟨k1, k2⟩ := h.thr 2
        rw [← e17] at k1 k2
        refine ⟨k1.1.k13, fun h9 => by omega, fun _ => ?_⟩
        rw [cEntry, if_pos hr, if_pos hw, if_neg ht]
        exact MqR.nok (by decide) k2 k1
    · rw [if_pos ((inS_w w).mpr hw)] at e17
      obtain ⟨k1, k2⟩ := h.thr 1
      rw [← e17] at k1 k2
      refine ⟨k1.1.k13, fun h9 => by omega, fun _ => ?_⟩
      rw [cEntry, if_pos hr, if_neg hw]
      exact MqR.nok (by decide) k2 k1
  · rw [if_neg hr]
    refine ⟨fun h9 => absurd rfl h9, fun h9 => absurd rfl h9, fun h9 => absurd rfl h9, fun h9 => absurd rfl h9, fun h9 => absurd rfl h9, fun h9 => absurd rfl h9, fun h9 => absurd rfl h9, h.k13, fun G17 e17 => ?_⟩
    rw [if_pos rfl] at e17
    obtain ⟨k1, k2⟩ := h.thr 1
    rw [← e17] at k1 k2
    refine ⟨k1.1.k13, fun h9 => by omega, fun _ => ?_⟩
    rw [cEntry, if_neg hr]
    exact MqR.nok (by decide) k2 k1
theorem om_inhibit (h : MH E G m d ml mr) (hi : DI d) : Ok E M_X12_inhibit [rv m, iv i, iv v] G c s (MqR E G m (cInhibit d i v) tB ml mr) (fun _ _ => False) := by
  have h8 := h.rl.2
  refine i_X12_inhibit ⟨h.k13, Call.pure (okp_misAlert h) ?_⟩
  intro J6 hJ6
  have bad : cInhibit d i v = no 3 d → J6 1 G c s := fun hb => hJ6 _ _ _ _ ⟨h.k13, fun G12 e12 => by
    obtain ⟨k1, k2⟩ := h.thr 1
    rw [← e12] at k1 k2
    refine ⟨k1.1.k13, fun h9 => by omega, fun _ => ?_⟩
    rw [hb]
    exact MqR.nok (by decide) k2 k1⟩
  have good : isA d i → (v = -1 ∨ (isA d v ∧ v < i)) → J6 0 G c s := fun hr hv => hJ6 _ _ _ _ ⟨h.k13, fun G12 e12 => by
    obtain ⟨k1, k2⟩ := h.thr 0
    rw [← e12] at k1 k2
    have hm := k1.1
    have a28 := hm.1.1.fx 28 15 8
    have hr1 := hr.1
    have hr2 := hr.2.1
    refine ⟨hm.k13, fun _ => ⟨hm.k13, a28.1, by omega, by omega, hm.k13, a28.1, by omega, by omega, fun G23 e23 => ?_⟩, fun h9 => by omega⟩
    have kk : MU E G12 G23 m (fun k => k = 28) := by rw [e23]; exact hm.ru.mSel (by decide) rfl
    have kt := kk.2.2.2.2.2
    have e28 : gfd G23 12 28 m = gfd G12 12 28 m := by rw [e23]; rfl
    obtain ⟨r1, r2, r3, r4⟩ := hm.2.2.2.2.2.2.2.2.1
    have hbef : gel G12 (gfd G12 12 28 m) i = ((dRl d).getD i.toNat r0).1.2.2.2 := by
      have := r4 i.toNat (by omega)
      rw [Int.toNat_of_nonneg hr.1, rz_at (by omega)] at this
      exact this
    have gs : ∀ n : Nat, ((dRl d).set i.toNat (inhQ ((dRl d).getD i.toNat r0) v)).getD n rz = if n = i.toNat then inhQ ((dRl d).getD i.toNat r0) v else (dRl d).getD n rz := fun n => setDT (by omega)
    have hrl : MRl G23 m (dRl (inhD d i v)) := by
      show MRl G23 m ((dRl d).set i.toNat (inhQ ((dRl d).getD i.toNat r0) v))
      refine ⟨by rw [kt.f 23 (by omega), List.length_set]; exact r1, by rw [List.length_set]; exact r2, fun n hn => ?_, fun n hn => ?_⟩
      · rw [List.length_set] at hn
        rw [gs, kt.e 24 (by omega), kt.e 25 (by omega), kt.e 26 (by omega), kt.e 27 (by omega)]
        have h3 := r3 n hn
        by_cases hni : n = i.toNat
        · rw [if_pos hni]
          rw [hni, rz_at (by omega)] at h3
          rw [hni]
          exact ⟨h3.1, h3.2.1, h3.2.2.1, h3.2.2.2.mt kt ⟨by omega, by omega⟩⟩
        · rw [if_neg hni]
          exact ⟨h3.1, h3.2.1, h3.2.2.1, h3.2.2.2.mt kt ⟨by omega, by omega⟩⟩
      · rw [gs, e28, e23, gel_sel]
        by_cases hni : n = i.toNat
        · rw [if_pos hni, if_pos ⟨rfl, by omega⟩]; rfl
        · rw [if_neg hni, if_neg (by omega)]; exact r4 n hn
    have hen : MEn G23 m (dRl (inhD d i v)) := fun n hn => by
      show MEs G23 m n (((dRl d).set i.toNat (inhQ ((dRl d).getD i.toNat r0) v)).getD n rz).2.2
      rw [gs]
      have h9 := (hm.2.2.2.2.2.2.2.2.2.1 n hn).mt kt ⟨by omega, by omega, by omega, by omega, by omega, by omega⟩
      by_cases hni : n = i.toNat
      · rw [if_pos hni]
        rw [hni, rz_at (by omega)] at h9
        rw [hni]; exact h9
      · rw [if_neg hni]; exact h9
    rw [hbef, cInhibit, if_pos hr, if_pos hv]
    exact MqR.ok (by rw [kt.f 0 (by omega)]; exact k2) rfl rfl ⟨⟨⟨kk.1, kk.2.1, kk.2.2.1.1⟩, hm.2.1.mt kt ⟨by omega, by omega, by omega, by omega, by omega⟩, hm.2.2.1.mt kt ⟨by omega, by omega, by omega, by omega⟩, hm.2.2.2.1.mt kt ⟨by omega, by omega, by omega, by omega, by omega, by omega⟩, hm.2.2.2.2.1.mt kt ⟨by omega, by omega⟩, hm.2.2.2.2.2.1.mt kt ⟨by omega, by omega, by omega, by omega⟩, hm.2.2.2.2.2.2.1.mt kt (by omega), hm.2.2.2.2.2.2.2.1.mt kt ⟨by omega, by omega⟩, hrl, hen, hm.2.2.2.2.2.2.2.2.2.2.1.mt kt ⟨by omega, by omega, by omega⟩, hm.2.2.2.2.2.2.2.2.2.2.2.1.mt kt ⟨by omega, by omega⟩, hm.2.2.2.2.2.2.2.2.2.2.2.2.mt kt (by omega)⟩, k1.2.trans (kk.mono (fun _ _ => trivial))⟩⟩
  intro J24 hJ24
  by_cases hr : isA d i
  · rw [if_pos hr]
    refine ⟨fun h9 => absurd h9 (by decide), fun _ J29 hJ29 => ⟨fun h9 => hJ29 _ _ _ (good hr (Or.inl h9)), fun h9 => ⟨h.k13, Call.pure (okp_misAlert h) ?_⟩⟩⟩
    by_cases hv : isA d v
    · rw [if_pos hv]
      refine ⟨fun h7 => absurd h7 (by decide), fun _ => ⟨fun h7 => hJ24 _ _ _ (bad ?_), fun h7 => hJ29 _ _ _ (good hr (Or.inr ⟨hv, h7⟩))⟩⟩
      rw [cInhibit, if_pos hr, if_neg]
      intro h6
      rcases h6 with h6 | h6
      · exact h9 h6
      · have := h6.2; omega
    · rw [if_neg hv]
      refine ⟨fun _ => hJ24 _ _ _ (bad ?_), fun h7 => absurd rfl h7⟩
      rw [cInhibit, if_pos hr, if_neg]
      intro h6
      rcases h6 with h6 | h6
      · exact h9 h6
      · exact hv h6.1
  · rw [if_neg hr]
    refine ⟨fun _ => hJ24 _ _ _ (bad ?_), fun h9 => absurd rfl h9⟩
    rw [cInhibit, if_neg hr]
end Sa23
