/-! the model's calls that only tell -/
section Sa21
variable {E : EE} {G G' G2 : Gt} {c s bc bs : Nat} {Q X : Int → Gt → Prop} {a i v q m x ml mr u l t w f y : Int} {k j : Nat} {T T' : Nat → Prop} {ser : List Int} {smp : List (Sm4 × Int)} {rs : List Int} {bk : Int → List (Int × Int)} {d d' : DS} {p : Sp}
/-- what the model throws: its numbers, where an argument is looked at first (A), where an index is (B) -/
def tA (e : Int) : Int := e
def tB (e : Int) : Int := if e = 3 then 1 else if e = 1 then 2 else if e = 2 then 3 else 0
def MqR (E : EE) (G : Gt) (m : Int) (p : Sp) (tc : Int → Int) (ml mr : Int) : Int → Gt → Prop := fun r G' => gfd G' 12 0 m = tc p.1 ∧ (p.1 = 0 → r = p.2.1) ∧ MF E G G' m p.2.2 ml mr
def scr (k : Nat) : Prop := k = 0 ∨ (29 ≤ k ∧ k ≤ 34) ∨ 49 ≤ k
theorem MH.keep (h : MH E G m d ml mr) (k : MU E G G' m T) (hT : ∀ j, T j → scr j) : MH E G' m d ml mr := by
  obtain ⟨h0, h1, h2, h3, h4, h5, h6, h7, h8, h9, h10, h11, h12⟩ := h
  have kt := k.2.2.2.2.2
  have n : ∀ j, ¬ scr j → ¬ T j := fun j h9 h8 => h9 (hT j h8)
  have b : ∀ j, ¬ (j = 0 ∨ (29 ≤ j ∧ j ≤ 34) ∨ 49 ≤ j) → ¬ T j := n
  exact ⟨⟨k.1, k.2.1, k.2.2.1.1⟩, h1.mt kt ⟨b _ (by omega), b _ (by omega), b _ (by omega), b _ (by omega), b _ (by omega)⟩, h2.mt kt ⟨b _ (by omega), b _ (by omega), b _ (by omega), b _ (by omega)⟩, h3.mt kt ⟨b _ (by omega), b _ (by omega), b _ (by omega), b _ (by omega), b _ (by omega), b _ (by omega)⟩, h4.mt kt ⟨b _ (by omega), b _ (by omega)⟩, h5.mt kt ⟨b _ (by omega), b _ (by omega), b _ (by omega), b _ (by omega)⟩, h6.mt kt (b _ (by omega)), h7.mt kt ⟨b _ (by omega), b _ (by omega)⟩, h8.mt kt ⟨b _ (by omega), b _ (by omega), b _ (by omega), b _ (by omega), b _ (by omega), b _ (by omega), b _ (by omega), b _ (by omega)⟩, h9.mt kt ⟨b _ (by omega), b _ (by omega), b _ (by omega), b _ (by omega), b _ (by omega), b _ (by omega)⟩, h10.mt kt ⟨b _ (by omega), b _ (by omega), b _ (by omega)⟩, h11.mt kt ⟨b _ (by omega), b _ (by omega)⟩, h12.mt kt (b _ (by omega))⟩
theorem MH.ru (h : MH E G m d ml mr) : MU E G G m T := MU.refl h.1.1 h.1.2.1 h.1.2.2
/-- what is thrown is written -/
theorem MH.thr (h : MH E G m d ml mr) (v : Int) : MF E G (sfd G 12 0 m v) m d ml mr ∧ gfd (sfd G 12 0 m v) 12 0 m = v := by
  have k : MU E G (sfd G 12 0 m v) m (fun k => k = 0) := h.ru.mSfd (by decide) rfl
  exact ⟨⟨h.keep k (fun j h9 => Or.inl h9), k.mono (fun _ _ => trivial)⟩, by rw [gfd_sfd, if_pos ⟨rfl, rfl, rfl⟩]⟩
theorem MqR.ok {r v : Int} {tc : Int → Int} (h0 : gfd G' 12 0 m = 0) (ht : tc 0 = 0) (hr : r = v) (hf : MF E G G' m d' ml mr) : MqR E G m (yes v d') tc ml mr r G' := ⟨h0.trans ht.symm, fun _ => hr, hf⟩
theorem MqR.nok {r e : Int} {tc : Int → Int} (he : e ≠ 0) (h0 : gfd G' 12 0 m = tc e) (hf : MF E G G' m d' ml mr) : MqR E G m (no e d') tc ml mr r G' := ⟨h0, fun h9 => (he h9).elim, hf⟩
theorem dropG {α : Type} {L : List α} {i : Nat} (d : α) (h : i < L.length) : L.drop i = L.getD i d :: L.drop (i + 1) := by
  rw [List.drop_eq_getElem_cons h, List.getD_eq_getElem?_getD, List.getElem?_eq_getElem h]; rfl
theorem MH.k13 (h : MH E G m d ml mr) : gcl G m = 13 := h.1.1.1
theorem om_series (h : MH E G m d ml mr) : Ok E M_X12_series [rv m] G c s (MqR E G m (cSeries d) tA ml mr) (fun _ _ => False) := by
  refine i_X12_series ⟨h.k13, fun G2 e2 => ?_⟩
  obtain ⟨k1, k2⟩ := h.thr 0
  rw [e2]
  exact ⟨k1.1.k13, MqR.ok k2 rfl k1.1.2.2.1.1 k1⟩
theorem om_log (h : MH E G m d ml mr) : Ok E M_X12_log [rv m] G c s (MqR E G m (cLog d) tA ml mr) (fun _ _ => False) := by
  refine i_X12_log ⟨h.k13, fun G2 e2 => ?_⟩
  obtain ⟨k1, k2⟩ := h.thr 0
  rw [e2]
  exact ⟨k1.1.k13, MqR.ok k2 rfl k1.1.2.2.2.2.1.1 k1⟩
theorem om_notices (h : MH E G m d ml mr) : Ok E M_X12_notices [rv m] G c s (MqR E G m (cNotices d) tA ml mr) (fun _ _ => False) := by
  refine i_X12_notices ⟨h.k13, fun G2 e2 => ?_⟩
  obtain ⟨k1, k2⟩ := h.thr 0
  rw [e2]
  exact ⟨k1.1.k13, MqR.ok k2 rfl k1.1.2.1.2.2.2.2 k1⟩
theorem MH.sr6 (h : MH E G m d ml mr) : gfd G 12 6 m = (dSer d).length ∧ (dSer d).length ≤ 12 := ⟨h.2.2.1.1, h.2.2.1.2.1⟩
theorem inS_w {n : Int} (i : Int) : wIn i 0 (n - 1) = 0 ↔ ¬ (0 ≤ i ∧ i < n) := by rw [wIn0]; omega
theorem om_labels (h : MH E G m d ml mr) : Ok E M_X12_labels [rv m, iv i] G c s (MqR E G m (cLabels d i) tB ml mr) (fun _ _ => False) := by
  obtain ⟨hlb, hc⟩ := h.lb
  refine i_X12_labels ⟨h.k13, okp_isSeries h.1.1 hlb, h.k13, fun G5 e5 => ?_⟩
  rw [h.sr6.1] at e5
  by_cases hr : inS d i
  · rw [if_neg (fun h9 => (inS_w i).mp h9 hr)] at e5
    obtain ⟨k1, k2⟩ := h.thr 0
    rw [← e5] at k1 k2
    obtain ⟨hlb5, hc5⟩ := k1.1.lb
    refine ⟨k1.1.k13, fun _ => k1.1.k13, fun _ => okp_codeOfSeries k1.1.1.1 hlb5 hr.1 (by rw [k1.1.sr6.1]; exact hr.2), ?_⟩
    rw [k2, cLabels, if_pos hr, if_pos (by decide)]
    exact MqR.ok k2 rfl (hc5 i hr.1 hr.2) k1
  · rw [if_pos ((inS_w i).mpr hr)] at e5
    obtain ⟨k1, k2⟩ := h.thr 1
    rw [← e5] at k1 k2
    refine ⟨k1.1.k13, fun h9 => by omega, fun h9 => by omega, ?_⟩
    rw [cLabels, if_neg hr]
    exact MqR.nok (by decide) k2 k1
/-- one sample -/
theorem MSm.at (h : MSm G m ser smp ml) (hk : k < smp.length) : (0 ≤ gel G (gfd G 12 7 m) k ∧ gel G (gfd G 12 7 m) k < ser.length ∧ ser.getD (gel G (gfd G 12 7 m) k).toNat 0 = qC (smp.getD k z4).1) ∧ gel G (gfd G 12 8 m) k = qT (smp.getD k z4).1 ∧ gel G (gfd G 12 9 m) k = qV (smp.getD k z4).1 ∧ gel G (gfd G 12 10 m) k = qH (smp.getD k z4).1 ∧ gel G (gfd G 12 11 m) k = (smp.getD k z4).2 := h.2.2.2 k hk
theorem nodup_idx (hn : ser.Nodup) {i j : Nat} (hi : i < ser.length) (hj : j < ser.length) : ser.getD i 0 = ser.getD j 0 ↔ i = j := List.getD_inj hi hj hn
theorem MSm.own (h : MSm G m ser smp ml) (hn : ser.Nodup) (hk : k < smp.length) (hi : 0 ≤ i ∧ i < ser.length) : gel G (gfd G 12 7 m) k = i ↔ qC (smp.getD k z4).1 = ser.getD i.toNat 0 := by
  obtain ⟨⟨h1, h2, h3⟩, -⟩ := h.at hk
  rw [← h3, nodup_idx hn (by omega) (by omega)]
  omega
theorem MH.isSeen (h : MH E G m d ml mr) (hk : k < (dSmp d).length) : OkP E M_X12_isSeen [rv m, iv (k : Int)] G (mSeen G m k) ∧ (mSeen G m (k : Int) = 0 ↔ qH ((dSmp d).getD k z4).1 ≠ 0) ∧ (mSeen G m (k : Int) = 0 ∨ mSeen G m (k : Int) = 1) := by
  obtain ⟨h1, h2, ⟨l1, l2, l3, l4, l5⟩, h3⟩ := h.2.2.2.1
  refine ⟨okp_isSeen h.1.1 (by omega) (by omega), ?_, mSeen01 G m k⟩
  unfold mSeen
  rw [(h3 k hk).2.2.2.1]
  by_cases h9 : qH ((dSmp d).getD k z4).1 = 0
  · rw [if_pos h9]
    exact ⟨fun h8 => absurd h8 (by decide), fun h8 => (h8 h9).elim⟩
  · rw [if_neg h9]
    exact ⟨fun _ => h9, fun _ => rfl⟩
theorem v_samples {thr : Int} (h : MH E G m d ml mr) (h0 : gfd G 12 0 m = thr) {P : Sm4 × Int → Bool} (hP : ∀ k : Nat, k < (dSmp d).length → ((qH ((dSmp d).getD k z4).1 = 0 ∧ gel G (gfd G 12 7 m) k = i) ↔ P ((dSmp d).getD k z4) = true)) :
    ∀ (n j : Nat) (y : Int), j + n = (dSmp d).length → 0 ≤ y ∧ y ≤ j → Q (if thr ≤ 0 then y + ((dSmp d).drop j).countP P else 0) G → V E M_X12_samples 21 [some (rv m), some (iv i), some (iv y), some (iv (j : Int))] [] G c s Q X := by
  obtain ⟨h1, h2, ⟨l1, l2, l3, l4, l5⟩, h3⟩ := h.2.2.2.1
  have a7 := h.1.1.gw 7 15
  intro n
  induction n with
  | zero =>
    intro j y hj hy hq
    rw [List.drop_eq_nil_of_le (by omega), List.countP_nil] at hq
    refine b_X12_samples_21 ⟨h.k13, fun _ => ⟨h.k13, ?_⟩, fun h9 => by omega⟩
    rw [h0]
    have e : y + ((0 : Nat) : Int) = y := by omega
    rw [e] at hq
    exact hq
  | succ n ih =>
    intro j y hj hy hq
    have hlt : j < (dSmp d).length := by omega
    obtain ⟨k1, k2, k3⟩ := h.isSeen hlt
    have hp := hP j hlt
    refine b_X12_samples_21 ⟨h.k13, fun h9 => by omega, fun _ => ⟨h.k13, k1, fun _ => h.k13, fun _ => a7.1, fun _ => by omega, fun _ => by omega, ?_⟩⟩
    have hs : (if mSeen G m (j : Int) = 0 then (0 : Int) else if gel G (gfd G 12 7 m) j = i then 1 else 0) = if P ((dSmp d).getD j z4) = true then 1 else 0 := by
      by_cases hb : P ((dSmp d).getD j z4) = true
      · have := hp.mpr hb
        rw [if_pos hb, if_neg (fun h9 => k2.mp h9 this.1), if_pos this.2]
      · rw [if_neg hb]
        by_cases hz : mSeen G m (j : Int) = 0
        · rw [if_pos hz]
        · rw [if_neg hz, if_neg (fun h9 => hb (hp.mp ⟨Classical.byContradiction (fun h8 => hz (k2.mpr h8)), h9⟩))]
    rw [hs]
    refine ⟨i32s' (by split <;> omega), i32s' (by omega), ?_⟩
    refine ih (j + 1) _ (by omega) (by split <;> omega) ?_
    rw [dropG z4 hlt, List.countP_cons] at hq
    have e : y + ((((dSmp d).drop (j + 1)).countP P + if P ((dSmp d).getD j z4) = true then 1 else 0 : Nat) : Int) = y + (if P ((dSmp d).getD j z4) = true then 1 else 0) + (((dSmp d).drop (j + 1)).countP P : Nat) := by split <;> omega
    rw [e] at hq
    exact hq
theorem om_samples (h : MH E G m d ml mr) (hn : (dSer d).Nodup) : Ok E M_X12_samples [rv m, iv i] G c s (MqR E G m (cSamples d i) tB ml mr) (fun _ _ => False) := by
  obtain ⟨hlb, hc⟩ := h.lb
  refine i_X12_samples ⟨h.k13, okp_isSeries h.1.1 hlb, h.k13, fun G5 e5 => ?_⟩
  rw [h.sr6.1] at e5
  by_cases hr : inS d i
  · rw [if_neg (fun h9 => (inS_w i).mp h9 hr)] at e5
    obtain ⟨k1, k2⟩ := h.thr 0
    rw [← e5] at k1 k2
    refine v_samples k1.1 k2 (P := fun q => own (serC d i) q.1) (fun k hk => ?_) _ 0 0 (Nat.zero_add _) (by decide) ?_
    · rw [(k1.1.2.2.2.1).own hn hk hr, own_iff]; exact Iff.rfl
    · rw [if_pos (by decide), List.drop_zero, cSamples, if_pos hr]
      refine MqR.ok k2 rfl ?_ k1
      rw [List.countP_map, Int.zero_add]; rfl
  · rw [if_pos ((inS_w i).mpr hr)] at e5
    obtain ⟨k1, k2⟩ := h.thr 1
    rw [← e5] at k1 k2
    refine v_samples k1.1 k2 (P := fun q => false) (fun k hk => ⟨fun h9 => ?_, fun h9 => absurd h9 (by decide)⟩) _ 0 0 (Nat.zero_add _) (by decide) ?_
    · have := (k1.1.2.2.2.1.at hk).1
      exact (hr ⟨by omega, by omega⟩).elim
    · rw [if_neg (by decide), cSamples, if_neg hr]
      exact MqR.nok (by decide) k2 k1
theorem v_mbehind (h : MH E G m d ml mr) : ∀ (n j : Nat) (y : Int), j + n = (dSmp d).length → 0 ≤ y ∧ y ≤ j → Q (y + ((dSmp d).drop j).countP unc) G → V E M_X12_behind 9 [some (rv m), some (iv y), some (iv (j : Int))] [] G c s Q X := by
  obtain ⟨h1, h2, ⟨l1, l2, l3, l4, l5⟩, h3⟩ := h.2.2.2.1
  have a11 := h.1.1.gw 11 17
  intro n
  induction n with
  | zero =>
    intro j y hj hy hq
    rw [List.drop_eq_nil_of_le (by omega), List.countP_nil] at hq
    have e : y + ((0 : Nat) : Int) = y := by omega
    rw [e] at hq
    exact b_X12_behind_9 ⟨h.k13, fun _ => hq, fun h9 => by omega⟩
  | succ n ih =>
    intro j y hj hy hq
    have hlt : j < (dSmp d).length := by omega
    obtain ⟨k1, k2, k3⟩ := h.isSeen hlt
    have hp := h3 j hlt
    refine b_X12_behind_9 ⟨h.k13, fun h9 => by omega, fun _ => ⟨h.k13, k1, fun _ => h.k13, fun _ => a11.1, fun _ => by omega, fun _ => by omega, ?_⟩⟩
    have hs : (if mSeen G m (j : Int) = 0 then (0 : Int) else if gel G (gfd G 12 11 m) j = 0 then 1 else 0) = if unc ((dSmp d).getD j z4) = true then 1 else 0 := by
      unfold unc
      rw [hp.2.2.2.2]
      by_cases hz : qH ((dSmp d).getD j z4).1 = 0
      · rw [if_neg (fun h9 => k2.mp h9 hz)]
        by_cases h9 : ((dSmp d).getD j z4).2 = 0
        · rw [if_pos h9, if_pos (decide_eq_true ⟨hz, h9⟩)]
        · rw [if_neg h9, if_neg (fun h8 => h9 (of_decide_eq_true h8).2)]
      · rw [if_pos (k2.mpr hz), if_neg (fun h8 => hz (of_decide_eq_true h8).1)]
    rw [hs]
    refine ⟨i32s' (by split <;> omega), i32s' (by omega), ?_⟩
    refine ih (j + 1) _ (by omega) (by split <;> omega) ?_
    rw [dropG z4 hlt, List.countP_cons] at hq
    have e : y + ((((dSmp d).drop (j + 1)).countP unc + if unc ((dSmp d).getD j z4) = true then 1 else 0 : Nat) : Int) = y + (if unc ((dSmp d).getD j z4) = true then 1 else 0) + (((dSmp d).drop (j + 1)).countP unc : Nat) := by split <;> omega
    rw [e] at hq
    exact hq
theorem om_behind (h : MH E G m d ml mr) : Ok E M_X12_behind [rv m] G c s (MqR E G m (cBehind d) tA ml mr) (fun _ _ => False) := by
  refine i_X12_behind ⟨h.k13, fun G2 e2 => ?_⟩
  obtain ⟨k1, k2⟩ := h.thr 0
  rw [← e2] at k1 k2
  refine v_mbehind k1.1 _ 0 0 (Nat.zero_add _) (by decide) ?_
  rw [List.drop_zero, Int.zero_add]
  exact MqR.ok k2 rfl rfl k1
theorem om_value (h : MH E G m d ml mr) : Ok E M_X12_value [rv m, iv i] G c s (MqR E G m (cValue d i) tB ml mr) (fun _ _ => False) := by
  obtain ⟨h1, h2, h3⟩ := h.2.2.2.2.2.2.2.2.2.2.1
  refine i_X12_value ⟨h.k13, i32s' (by omega), okp_in, h.k13, fun G6 e6 => ?_⟩
  rw [h1] at e6
  by_cases hr : inA d i
  · rw [if_neg (fun h9 => (inS_w i).mp h9 hr)] at e6
    obtain ⟨k1, k2⟩ := h.thr 0
    rw [← e6] at k1 k2
    have a37 := k1.1.1.1.fx 37 16 12
    obtain ⟨g1, g2, g3⟩ := k1.1.2.2.2.2.2.2.2.2.2.2.1
    refine ⟨k1.1.k13, fun _ => k1.1.k13, fun _ => a37.1, fun _ => hr.1, fun _ => by have := hr.2; omega, ?_⟩
    rw [k2, if_pos (by decide), cValue, if_pos hr]
    have := (g3 i.toNat (by have := hr.1; have := hr.2; omega)).2
    rw [Int.toNat_of_nonneg hr.1] at this
    exact MqR.ok k2 rfl this k1
  · rw [if_pos ((inS_w i).mpr hr)] at e6
    obtain ⟨k1, k2⟩ := h.thr 1
    rw [← e6] at k1 k2
    refine ⟨k1.1.k13, fun h9 => by omega, fun h9 => by omega, fun h9 => by omega, fun h9 => by omega, ?_⟩
    rw [cValue, if_neg hr]
    exact MqR.nok (by decide) k2 k1
theorem om_labelsOf (h : MH E G m d ml mr) : Ok E M_X12_labelsOf [rv m, iv i] G c s (MqR E G m (cLabelsOf d i) tB ml mr) (fun _ _ => False) := by
  obtain ⟨h1, h2, h3⟩ := h.2.2.2.2.2.2.2.2.2.2.1
  refine i_X12_labelsOf ⟨h.k13, i32s' (by omega), okp_in, h.k13, fun G6 e6 => ?_⟩
  rw [h1] at e6
  by_cases hr : inA d i
  · rw [if_neg (fun h9 => (inS_w i).mp h9 hr)] at e6
    obtain ⟨k1, k2⟩ := h.thr 0
    rw [← e6] at k1 k2
    have a36 := k1.1.1.1.fx 36 15 12
    obtain ⟨g1, g2, g3⟩ := k1.1.2.2.2.2.2.2.2.2.2.2.1
    refine ⟨k1.1.k13, fun _ => k1.1.k13, fun _ => a36.1, fun _ => hr.1, fun _ => by have := hr.2; omega, ?_⟩
    rw [k2, if_pos (by decide), cLabelsOf, if_pos hr]
    have := (g3 i.toNat (by have := hr.1; have := hr.2; omega)).1
    rw [Int.toNat_of_nonneg hr.1] at this
    exact MqR.ok k2 rfl this k1
  · rw [if_pos ((inS_w i).mpr hr)] at e6
    obtain ⟨k1, k2⟩ := h.thr 1
    rw [← e6] at k1 k2
    refine ⟨k1.1.k13, fun h9 => by omega, fun h9 => by omega, fun h9 => by omega, fun h9 => by omega, ?_⟩
    rw [cLabelsOf, if_neg hr]
    exact MqR.nok (by decide) k2 k1
theorem om_suits (h : MH E G m d ml mr) : Ok E M_X12_suits [rv m, iv l, iv t, iv w] G c s (fun r G' => MqR E G m (cSuits d l t w) tA ml mr r G') (fun _ _ => False) := by
  refine i_X12_suits ⟨fun _ => okp_in, fun _ _ => okp_in, fun _ _ => okp_in, fun _ _ _ => okp_in, h.k13, fun G12 e12 => ?_⟩
  by_cases hr : (l = 10 ∨ l = 100) ∧ (0 ≤ t ∧ t ≤ 100000) ∧ (1 ≤ w ∧ w ≤ 1000)
  · have e0 : (if l = 10 then (if wIn t 0 100000 = 0 then (1 : Int) else if wIn w 1 1000 = 0 then 1 else 0) else if l = 100 then (if wIn t 0 100000 = 0 then 1 else if wIn w 1 1000 = 0 then 1 else 0) else 1) = 0 := by
      rw [if_neg (c := wIn t 0 100000 = 0) (fun h9 => wIn0.mp h9 hr.2.1), if_neg (c := wIn w 1 1000 = 0) (fun h9 => wIn0.mp h9 hr.2.2)]
      rcases hr.1 with h9 | h9
      · rw [if_pos h9]
      · rw [if_neg (by omega), if_pos h9]
    rw [e0] at e12
    obtain ⟨k1, k2⟩ := h.thr 0
    rw [← e12] at k1 k2
    have m1 : Int.tmod (t + 1) l = Int.emod (t + 1) l := Int.tmod_eq_emod_of_nonneg (by omega)
    have m2 : Int.tmod w l = Int.emod w l := Int.tmod_eq_emod_of_nonneg (by omega)
    have b1 : 0 ≤ Int.emod (t + 1) l ∧ Int.emod (t + 1) l < l := ⟨Int.emod_nonneg _ (by omega), Int.emod_lt_of_pos _ (by omega)⟩
    have b2 : 0 ≤ Int.emod w l ∧ Int.emod w l < l := ⟨Int.emod_nonneg _ (by omega), Int.emod_lt_of_pos _ (by omega)⟩
    have d1 := tdivb (x := t + 1) (y := l) (A := 100001) ⟨by omega, by omega⟩ (by omega)
    have d2 := tdivb (x := w) (y := l) (A := 1000) ⟨by omega, by omega⟩ (by omega)
    rw [m1, m2]
    refine ⟨k1.1.k13, fun _ => i32s' (by omega), fun _ => by omega, fun _ => i32s' (by omega), fun _ => i32s' (by omega), fun _ _ => by omega, fun _ _ => i32s' (by omega), fun _ _ => i32s' (by omega), ?_, ?_⟩
    · rw [if_pos k2]
      by_cases g1 : Int.emod (t + 1) l = 0
      · rw [if_pos g1]
        by_cases g2 : Int.emod w l = 0
        · rw [if_pos g2]; exact Or.inr rfl
        · rw [if_neg g2]; exact Or.inl rfl
      · rw [if_neg g1]; exact Or.inl rfl
    · rw [if_pos k2, cSuits, if_pos hr]
      exact MqR.ok k2 rfl rfl k1
  · have e0 : (if l = 10 then (if wIn t 0 100000 = 0 then (1 : Int) else if wIn w 1 1000 = 0 then 1 else 0) else if l = 100 then (if wIn t 0 100000 = 0 then 1 else if wIn w 1 1000 = 0 then 1 else 0) else 1) = 1 := by
      by_cases h1 : wIn t 0 100000 = 0
      · rw [if_pos h1]; split <;> (try rfl); split <;> rfl
      · rw [if_neg h1]
        by_cases h2 : wIn w 1 1000 = 0
        · rw [if_pos h2]; split <;> (try rfl); split <;> rfl
        · rw [if_neg h2]
          have g1 := wInY h1
          have g2 := wInY h2
          rw [if_neg (fun h9 => hr ⟨Or.inl h9, g1, g2⟩), if_neg (fun h9 => hr ⟨Or.inr h9, g1, g2⟩)]
    rw [e0] at e12
    obtain ⟨k1, k2⟩ := h.thr 1
    rw [← e12] at k1 k2
    have k3 : ¬ gfd G12 12 0 m = 0 := by omega
    refine ⟨k1.1.k13, fun h9 => (k3 h9).elim, fun h9 => (k3 h9).elim, fun h9 => (k3 h9).elim, fun h9 => (k3 h9).elim, fun h9 => (k3 h9).elim, fun h9 => (k3 h9).elim, fun h9 => (k3 h9).elim, ?_, ?_⟩
    · rw [if_neg k3]; exact Or.inl rfl
    · rw [cSuits, if_neg hr]
      exact MqR.nok (by decide) k2 k1
end Sa21
