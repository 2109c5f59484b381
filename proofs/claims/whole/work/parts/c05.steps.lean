/-! the next state of each call -/
section Sc05
variable {d d' : DS} {z z' : Mz} {l t v u w o q a1 a2 a3 a4 a5 : Int} {n k i c s C1 C2 S1 S2 : Nat} {kk : Int} {two time : Int}
theorem tel1_n2 {i : Nat} : dN (tel1 n d i) 2 = dN d 2 := by
  unfold tel1
  split <;> rfl
theorem telN_n2 : ∀ (k i : Nat) (d : DS), dN (telN n i k d) 2 = dN d 2
  | 0, _, _ => rfl
  | k + 1, i, d => (telN_n2 k (i + 1) (tel1 n d i)).trans tel1_n2
theorem tkD_n2 : dN (tkD d l t v) 2 = dN d 2 := by
  unfold tkD
  split <;> rfl
theorem noteD_n2 : ∀ (R : List (Int × Int)) (d : DS), dN (noteD two d R) 2 = dN d 2
  | [], _ => rfl
  | y :: R, d => (noteD_n2 R (note1 two d y)).trans tkD_n2
theorem ruleD_n2 : dN (ruleD n d) 2 = dN d 2 := by
  unfold ruleD
  split
  · exact telN_n2 _ 0 _
  · exact noteD_n2 _ d
theorem goN_n2 : ∀ (k i : Nat) (d : DS), dN (goN i k d) 2 = dN d 2
  | 0, _, _ => rfl
  | k + 1, i, d => (goN_n2 k (i + 1) (ruleD i d)).trans ruleD_n2
theorem tickD_n2 : dN (tickD d) 2 = dN d 2 := by
  unfold tickD
  split
  · exact goN_n2 _ 0 (nowD d)
  · rfl
theorem passN_n2 : ∀ (k : Nat) (d : DS), dN (passN k d) 2 = dN d 2
  | 0, _ => rfl
  | k + 1, d => (passN_n2 k (tickD d)).trans tickD_n2
abbrev I3 (d : DS) : Prop := DI d ∧ LB d ∧ I4 d
theorem md_labels (h : I3 d) : MD9 d (cLabels d a1).2.2 := by unfold cLabels; split <;> exact MD9.refl h
theorem md_samples (h : I3 d) : MD9 d (cSamples d a1).2.2 := by unfold cSamples; split <;> exact MD9.refl h
theorem md_bits (h : I3 d) : MD9 d (cBits d a1 a2).2.2 := by unfold cBits; repeat' split
                                                             all_goals exact MD9.refl h
theorem md_value (h : I3 d) : MD9 d (cValue d a1).2.2 := by unfold cValue; split <;> exact MD9.refl h
theorem md_labelsOf (h : I3 d) : MD9 d (cLabelsOf d a1).2.2 := by unfold cLabelsOf; split <;> exact MD9.refl h
theorem md_suits (h : I3 d) : MD9 d (cSuits d a1 a2 a3).2.2 := by unfold cSuits; split <;> exact MD9.refl h
theorem md_entries (h : I3 d) : MD9 d (cEntries d a1 a2).2.2 := by unfold cEntries; split <;> exact MD9.refl h
theorem md_entry (h : I3 d) : MD9 d (cEntry d a1 a2 a3).2.2 := by
  unfold cEntry
  repeat' split
  all_goals exact MD9.refl h
theorem md_notice (h : I3 d) : MD9 d (cNotice d a1 a2).2.2 := by
  unfold cNotice
  repeat' split
  all_goals exact MD9.refl h
theorem md_thinned (h : I3 d) : MD9 d (cThinned d a1 a2 a3 a4).2.2 := by
  unfold cThinned
  repeat' split
  all_goals exact MD9.refl h
theorem md_series (h : I3 d) : MD9 d (cSeries d).2.2 := MD9.refl h
theorem md_log (h : I3 d) : MD9 d (cLog d).2.2 := MD9.refl h
theorem md_notices (h : I3 d) : MD9 d (cNotices d).2.2 := MD9.refl h
theorem md_behind (h : I3 d) : MD9 d (cBehind d).2.2 := MD9.refl h
theorem md_retain (h : I3 d) : MD9 d (cRetain d a1).2.2 := by
  unfold cRetain
  split
  · rename_i h9
    obtain ⟨b1, b2, b3, b4, b5, b6, b7, b8, b9, b10, b11, b12, b13, b14⟩ := id h.1
    exact ⟨⟨h.1.own ⟨rfl, rfl, rfl⟩ b3 h9 b12 b6 b7 b8 b9 b10, h.2.1, h.2.2⟩, rfl, rfl, rfl, rfl, rfl, rfl, rfl, rfl⟩
  · exact MD9.refl h
theorem md_select (h : I3 d) : MD9 d (cSelect d a1 a2 a3 a4).2.2 := by
  unfold cSelect
  split
  · split
    · rename_i h9
      exact ⟨⟨h.1.select h9, h.2.1, h.2.2⟩, rfl, rfl, rfl, rfl, rfl, rfl, rfl, rfl⟩
    · exact MD9.refl h
  · exact MD9.refl h
theorem md_word (h : I3 d) : MD9 d (cWord d a1 a2 a3).2.2 := by
  unfold cWord
  split
  · rename_i h8
    split
    · rename_i h9
      have hi := h.1.word h8.1 h8.2.1 h8.2.2 h9.1
      have hw : wOk (wordOf d a1 a2 a3) := hi.2.2.2.2.2.2.1.2 _ (List.mem_append_right _ List.mem_cons_self)
      exact ⟨⟨hi, h.2.1, h.2.2.1.word h.1 hw h9.2, h.2.2.2⟩, rfl, rfl, rfl, rfl, rfl, rfl, rfl, rfl⟩
    · exact MD9.refl h
  · exact MD9.refl h
theorem md_clear (h : I3 d) : MD9 d (cClear d).2.2 := ⟨⟨h.1.clear, h.2.1, h.2.2.1.clear, h.2.2.2⟩, rfl, rfl, rfl, rfl, rfl, rfl, rfl, rfl⟩
theorem md_ask (h : I3 d) : MD9 d (cAsk d a1).2.2 := by
  have hdr := h.1.2.2.2.2.2.2.1
  have hrv : RvO (evA a1 (dSer d) (smS d) (dDr d)) := evA_rv h.1.1.1 h.1.1.2.1 h.1.1.2.2.1 hdr.2
  unfold cAsk
  split
  · split
    · split
      · exact ⟨⟨h.1.ans ⟨0, Nat.zero_le _, List.Pairwise.nil, fun _ h9 => (List.not_mem_nil h9).elim, Or.inl rfl⟩, h.2.1, h.2.2⟩, rfl, rfl, rfl, rfl, rfl, rfl, rfl, rfl⟩
      · rename_i p hp
        exact ⟨⟨h.1.ans ⟨p.1, hrv p hp⟩, h.2.1, h.2.2⟩, rfl, rfl, rfl, rfl, rfl, rfl, rfl, rfl⟩
    · exact MD9.refl h
  · exact MD9.refl h
theorem md_add {wt9 kp : Int} (h : I3 d) (hl : (dRl d).length < 8) (hr : rlV (dDr d) = 1) (h2 : two = -1 ∨ (0 ≤ two ∧ two ≤ 5)) (hw : 0 ≤ wt9 ∧ wt9 ≤ 1000) (hk : 0 ≤ kp ∧ kp ≤ 1000) : MD9 d (addD d two wt9 kp) := by
  have hmem : ∀ q ∈ dRl (addD d two wt9 kp), q ∈ dRl d ∨ q = ((two, wt9, kp, -1), dDr d, []) := fun q hq => by
    rcases List.mem_append.mp (show q ∈ dRl d ++ [((two, wt9, kp, -1), dDr d, [])] from hq) with h9 | h9
    · exact Or.inl h9
    · exact Or.inr (List.mem_singleton.mp h9)
  refine ⟨⟨h.1.add hl h2 hw hk, fun q hq e he => ?_, h.2.2.1.add hr, ⟨fun q hq => ?_, fun q hq e he => ?_⟩, h.2.2.2.2⟩, rfl, rfl, rfl, rfl, rfl, ?_, rfl, rfl⟩
  · rcases hmem q hq with h9 | h9
    · exact h.2.1 q h9 e he
    · rw [h9] at he; exact (List.not_mem_nil he).elim
  · rcases hmem q hq with h9 | h9
    · rcases h.2.2.2.1.1 q h9 with h8 | h8
      · exact Or.inl h8
      · refine Or.inr ⟨h8.1, ?_, ?_⟩
        · show _ < (((dRl d ++ [((two, wt9, kp, -1), dDr d, [])]).length : Nat) : Int)
          rw [List.length_append]
          have := h8.2.1
          omega
        · show ((dRl d ++ [((two, wt9, kp, -1), dDr d, [])]).getD q.1.2.2.2.toNat r0).1.1 = -1
          have h7 := h8.2.1
          have h6 := h8.1
          rw [appD (by omega), if_pos (by omega)]
          exact h8.2.2
    · rw [h9]; exact Or.inl rfl
  · rcases hmem q hq with h9 | h9
    · exact h.2.2.2.1.2 q h9 e he
    · rw [h9] at he; exact (List.not_mem_nil he).elim
  · show ((dRl d ++ [((two, wt9, kp, -1), dDr d, [])]).map fun q : Rl => q.2.2.length).sum = _
    rw [List.map_append, List.sum_append]; rfl
theorem md_record (h : I3 d) : MD9 d (cRecord d a1).2.2 := by
  unfold cRecord
  split
  · rename_i h8
    split
    · rename_i h9
      exact md_add h h9.2 h9.1 (Or.inr h8) (by omega) (by omega)
    · exact MD9.refl h
  · exact MD9.refl h
theorem md_alert (h : I3 d) : MD9 d (cAlert d a1 a2).2.2 := by
  unfold cAlert
  split
  · rename_i h8
    split
    · rename_i h9
      exact md_add h h9.2 h9.1 (Or.inl rfl) h8.1 h8.2
    · exact MD9.refl h
  · exact MD9.refl h
theorem md_inhibit (h : I3 d) : MD9 d (cInhibit d a1 a2).2.2 := by
  unfold cInhibit
  split
  · rename_i ha
    split
    · rename_i hv
      have hlt : a1.toNat < (dRl d).length := by have := ha.1; have := ha.2.1; omega
      have hm0 : (dRl d).getD a1.toNat r0 ∈ dRl d := getD_mem' hlt
      have hmem : ∀ q ∈ dRl (inhD d a1 a2), q ∈ dRl d ∨ q = inhQ ((dRl d).getD a1.toNat r0) a2 := fun q hq => List.mem_or_eq_of_mem_set (show q ∈ (dRl d).set a1.toNat (inhQ ((dRl d).getD a1.toNat r0) a2) from hq)
      have hisA : ∀ j, isA d j → isA (inhD d a1 a2) j := fun j hj => by
        refine ⟨hj.1, ?_, ?_⟩
        · show _ < (((dRl d).set a1.toNat (inhQ ((dRl d).getD a1.toNat r0) a2)).length : Int)
          rw [List.length_set]; exact hj.2.1
        · show (((dRl d).set a1.toNat (inhQ ((dRl d).getD a1.toNat r0) a2)).getD j.toNat r0).1.1 = -1
          rw [setDT hlt]
          split
          · exact ha.2.2
          · exact hj.2.2
      refine ⟨⟨h.1.inh ha hv, fun q hq e he => ?_, h.2.2.1.same rfl (fun q hq => ?_), ⟨fun q hq => ?_, fun q hq e he => ?_⟩, h.2.2.2.2⟩, rfl, rfl, rfl, rfl, rfl, ?_, rfl, rfl⟩
      · rcases hmem q hq with h9 | h9
        · exact h.2.1 q h9 e he
        · rw [h9] at he ⊢
          exact h.2.1 _ hm0 e he
      · rcases hmem q hq with h9 | h9
        · exact ⟨q, h9, rfl⟩
        · exact ⟨_, hm0, by rw [h9]; rfl⟩
      · rcases hmem q hq with h9 | h9
        · rcases h.2.2.2.1.1 q h9 with h8 | h8
          · exact Or.inl h8
          · exact Or.inr (hisA _ h8)
        · rw [h9]
          rcases hv with h8 | h8
          · exact Or.inl h8
          · exact Or.inr (hisA _ h8.1)
      · rcases hmem q hq with h9 | h9
        · exact h.2.2.2.1.2 q h9 e he
        · rw [h9] at he
          exact h.2.2.2.1.2 _ hm0 e he
      · have := sum_set9 (f := fun q : Rl => q.2.2.length) (v := inhQ ((dRl d).getD a1.toNat r0) a2) (r := r0) (dRl d) a1.toNat hlt
        have e1 : (inhQ ((dRl d).getD a1.toNat r0) a2).2.2.length = ((dRl d).getD a1.toNat r0).2.2.length := rfl
        show (((dRl d).set a1.toNat (inhQ ((dRl d).getD a1.toNat r0) a2)).map fun q : Rl => q.2.2.length).sum = ((dRl d).map fun q : Rl => q.2.2.length).sum
        omega
    · exact MD9.refl h
  · exact MD9.refl h
theorem md_silence (h : I3 d) : MD9 d (cSilence d a1 a2).2.2 := by
  unfold cSilence
  split
  · rename_i h7
    split
    · split
      · rename_i h9
        exact ⟨⟨h.1.sil (selD_ok h.1 h7) h9, h.2.1, h.2.2⟩, rfl, rfl, rfl, rfl, rfl, rfl, rfl, rfl⟩
      · exact MD9.refl h
    · exact MD9.refl h
  · exact MD9.refl h
theorem md_down (h : I3 d) (hv : v = 0 ∨ v = 1) : MD9 d (cDown d v).2.2 := ⟨⟨h.1.down hv, h.2.1, h.2.2⟩, rfl, rfl, rfl, rfl, rfl, rfl, rfl, rfl⟩
theorem md_mend (h : I3 d) : MD9 d (cMend d a1).2.2 := by
  unfold cMend
  split
  · have e := mnd_fst a1.toNat (dSmp d)
    have el : (mnd a1.toNat (dSmp d)).1.length = (dSmp d).length := by
      have := congrArg List.length e
      rw [List.length_map, List.length_map] at this
      exact this
    have hS : ((dSmp d).length : Int) ≤ dN d 5 := h.2.2.2.2.1
    refine ⟨⟨h.1.mend, h.2.1, h.2.2.1, h.2.2.2.1, ?_, h.2.2.2.2.2⟩, rfl, rfl, rfl, e, rfl, rfl, rfl, rfl⟩
    show ((mnd a1.toNat (dSmp d)).1.length : Int) ≤ dN d 5
    rw [el]; exact hS
  · exact MD9.refl h
theorem pk_flush (h : PK kk d z c s) (hk : kk < 512) : PK (kk + 1) (flushD2 d) z c s := by
  obtain ⟨h1, h2, h3, h4⟩ := id h
  have hi := h2.1.1.flush2
  have hS : ((dSmp d).length : Int) ≤ dN d 5 := h2.1.2.2.2.2.1
  have h20 := h2.1.1.2.2.2.2.1
  have hn := h2.2.1
  refine (PK.drop (C1 := 0) (C2 := 0) (S1 := 0) (S2 := 0) (z' := z) h hk ⟨hi, h2.1.2.1, h2.1.2.2.1, h2.1.2.2.2.1, ?_, fun c => ?_⟩ rfl rfl ?_ ⟨hn.2.2.1, hn.2.2.2.1, ?_⟩ ⟨hn.2.2.2.2.2.1, hn.2.2.2.2.2.2.1⟩ rfl rfl ?_ ?_ ?_).2.2
  · show (((dSmp d).filter _).length : Int) ≤ dN d 5
    have := List.length_filter_le (kept (dN d 0 - dN d 1)) (dSmp d)
    omega
  · refine pack_pw (fun y hy => ?_) (srt_sorted _)
    obtain ⟨q, hq, ho, e⟩ := seeT_mem.mp hy
    rw [e]
    exact (hi.1.2.2.2.1 q hq).2.1.1
  · show ((([] : List Int).length : Nat) : Int) ≤ _
    have := hn.2.1
    rw [List.length_nil]
    omega
  · show ((([] : List Int).length : Nat) : Int) ≤ dN d 6
    have := hn.2.2.2.2.1
    rw [List.length_nil]
    omega
  · show (0 : Int) ≤ _
    omega
  · show 2 * (((0 + 0 : Nat) : Nat) : Int) + 2 * RCn (dN d 6) + _ ≤ _
    omega
  · show 2 * (((0 + 0 : Nat) : Nat) : Int) + 8 * (170000 - dN d 6) + _ ≤ _
    omega
theorem pk_crash (h : PK kk d z c s) (hk : kk < 512) : 72 + 0 ≤ c ∧ 2424 + 0 ≤ s ∧ PK (kk + 1) (cCrash d a1).2.2 z (c - 72 - 0) (s - 2424 - 0) := by
  obtain ⟨h1, h2, h3, h4⟩ := id h
  have hS : ((dSmp d).length : Int) ≤ dN d 5 := h2.1.2.2.2.2.1
  have hn := h2.2.1
  unfold cCrash
  split
  · obtain ⟨s1, s2, s3⟩ := SI.crash a1.toNat (dRec d) (dSmp d) h2.1.1.1
    refine PK.drop (z' := z) h hk ⟨h2.1.1.crash, h2.1.2.1, h2.1.2.2.1, h2.1.2.2.2.1, ?_, h2.1.2.2.2.2.2⟩ rfl rfl ?_ ⟨hn.2.2.1, hn.2.2.2.1, ?_⟩ ⟨hn.2.2.2.2.2.1, hn.2.2.2.2.2.2.1⟩ rfl rfl ?_ ?_ ?_
    · show (((crS a1.toNat (dRec d) (dSmp d)).2.length : Nat) : Int) ≤ dN d 5
      omega
    · show (((crS a1.toNat (dRec d) (dSmp d)).1.length : Nat) : Int) ≤ _
      have := hn.2.1
      omega
    · show (((crS a1.toNat (dRec d) (dSmp d)).1.length : Nat) : Int) ≤ dN d 6
      have := hn.2.2.2.2.1
      omega
    · show dN d 2 ≤ _
      omega
    · show 2 * (((72 + 0 : Nat) : Nat) : Int) + 2 * RCn (dN d 6) + _ ≤ _
      omega
    · show 2 * (((2424 + 0 : Nat) : Nat) : Int) + 8 * (170000 - dN d 6) + _ ≤ _
      omega
  · exact h.mild hk (MD9.refl h2.1) (by omega) (by omega)
theorem pk_write (h : PK kk d z c s) (hk : kk < 512) :
    (if wrP d a1 a2 a3 a4 a5 then takC d (100 * a1 + 10 * a2 + a3) a4 a5 else 1) + wMC d a1 a2 a3 a4 a5 z.1 z.2 ≤ c ∧ (if wrP d a1 a2 a3 a4 a5 then takS d (100 * a1 + 10 * a2 + a3) a4 a5 else 6) + wMS d a1 a2 a3 a4 a5 z.1 z.2 ≤ s ∧
    PK (kk + 1) (cWrite d a1 a2 a3 a4 a5).2.2 (wML d a1 a2 a3 a4 a5 z.1, wMR d a1 a2 a3 a4 a5 z.2) (c - (if wrP d a1 a2 a3 a4 a5 then takC d (100 * a1 + 10 * a2 + a3) a4 a5 else 1) - wMC d a1 a2 a3 a4 a5 z.1 z.2) (s - (if wrP d a1 a2 a3 a4 a5 then takS d (100 * a1 + 10 * a2 + a3) a4 a5 else 6) - wMS d a1 a2 a3 a4 a5 z.1 z.2) := by
  obtain ⟨h1, h2, h3, h4⟩ := id h
  have hn := h2.2.1.nm
  by_cases hw : wrP d a1 a2 a3 a4 a5
  · have e : cWrite d a1 a2 a3 a4 a5 = yes (tkA (dSer d) (smS d) (100 * a1 + 10 * a2 + a3) a4 a5) (tkD d (100 * a1 + 10 * a2 + a3) a4 a5) := by rw [cWrite, if_pos hw]
    have e1 : wMC d a1 a2 a3 a4 a5 z.1 z.2 = tMC d (100 * a1 + 10 * a2 + a3) a4 a5 z.1 z.2 := by unfold wMC; rw [if_pos hw]; rfl
    have e2 : wMS d a1 a2 a3 a4 a5 z.1 z.2 = tMS d (100 * a1 + 10 * a2 + a3) a4 a5 z.1 z.2 := by unfold wMS; rw [if_pos hw]; rfl
    have e3 : (wML d a1 a2 a3 a4 a5 z.1, wMR d a1 a2 a3 a4 a5 z.2) = tZ d (100 * a1 + 10 * a2 + a3) a4 a5 z := by unfold wML wMR; rw [if_pos hw, if_pos hw]; rfl
    rw [e, e1, e2, e3, if_pos hw, if_pos hw]
    obtain ⟨b1, b2, b3⟩ := tk_acct (l := 100 * a1 + 10 * a2 + a3) (t := a4) (v := a5) h2.1.1 (by omega) hn
    have hb := hn.b5 h2.1.1 (by omega)
    have hcw : cOk (100 * a1 + 10 * a2 + a3) := by
      obtain ⟨w1, w2, w3, -⟩ := hw
      have e1 : Int.tdiv (100 * a1 + 10 * a2 + a3) 10 = 10 * a1 + a2 := by rw [Int.tdiv_eq_ediv_of_nonneg (by omega)]; omega
      unfold cOk
      rw [e1, Int.tmod_eq_emod_of_nonneg (by omega), Int.tmod_eq_emod_of_nonneg (by omega)]
      omega
    have hnow := h2.1.1.2.2.1
    have hi' : DI (tkD d (100 * a1 + 10 * a2 + a3) a4 a5) := h2.1.1.take hcw ⟨hw.2.2.2.1.1, by have := hw.2.2.2.1.2; omega⟩ hw.2.2.2.2 ⟨by omega, by omega⟩
    have m3 := tkD_more (d := d) (l := 100 * a1 + 10 * a2 + a3) (t := a4) (v := a5)
    have m2 : dN (tkD d (100 * a1 + 10 * a2 + a3) a4 a5) 2 = dN d 2 := by unfold tkD; split <;> rfl
    refine PK.step h hk ⟨⟨hi', h2.1.2.1.take, h2.1.2.2.take⟩, b1.np hi', ?_, ?_⟩ (by show _ + WCl (tkD d _ a4 a5) _ ≤ _; omega) (by show _ + WSl (tkD d _ a4 a5) _ ≤ _; omega)
    · show dN (tkD d _ a4 a5) 3 ≤ _
      rw [m3.2.1]
      have := h2.2.2.1; omega
    · show dN (tkD d _ a4 a5) 2 ≤ _
      rw [m2]
      have := h2.2.2.2; omega
  · have e : cWrite d a1 a2 a3 a4 a5 = no 1 d := by rw [cWrite, if_neg hw]
    have e1 : wMC d a1 a2 a3 a4 a5 z.1 z.2 = 0 := by unfold wMC; rw [if_neg hw]
    have e2 : wMS d a1 a2 a3 a4 a5 z.1 z.2 = 0 := by unfold wMS; rw [if_neg hw]
    have e3 : (wML d a1 a2 a3 a4 a5 z.1, wMR d a1 a2 a3 a4 a5 z.2) = z := by unfold wML wMR; rw [if_neg hw, if_neg hw]
    rw [e, e1, e2, e3, if_neg hw, if_neg hw]
    exact h.mild hk (MD9.refl h2.1) (by omega) (by omega)
theorem pk_pass (h : PK kk d z c s) (hk : kk < 512) :
    (1 + (if passOk d a1 then passC a1.toNat d else 0)) + cPassZC d a1 z ≤ c ∧ (6 + (if passOk d a1 then passS a1.toNat d else 0)) + cPassZS d a1 z ≤ s ∧
    PK (kk + 1) (cPass d a1).2.2 ((cPassZ d a1 z).1, (cPassZ d a1 z).2) (c - (1 + (if passOk d a1 then passC a1.toNat d else 0)) - cPassZC d a1 z) (s - (6 + (if passOk d a1 then passS a1.toNat d else 0)) - cPassZS d a1 z) := by
  obtain ⟨h1, h2, h3, h4⟩ := id h
  have hn := h2.2.1.nm
  by_cases hw : passOk d a1
  · have e : cPass d a1 = yes (dN (passN a1.toNat d) 0) (passN a1.toNat d) := by rw [cPass, if_pos hw.1, if_pos hw.2]
    have e1 : cPassZC d a1 z = passZC a1.toNat d z := by unfold cPassZC; rw [if_pos hw]
    have e2 : cPassZS d a1 z = passZS a1.toNat d z := by unfold cPassZS; rw [if_pos hw]
    have e3 : ((cPassZ d a1 z).1, (cPassZ d a1 z).2) = passZ a1.toNat d z := by unfold cPassZ; rw [if_pos hw]
    rw [e, e1, e2, e3, if_pos hw, if_pos hw]
    have hd3 := h2.2.2.1
    have hd0 := h2.1.1.2.2.1
    obtain ⟨w1, w2⟩ := hw
    obtain ⟨b1, b2, b3, b4, b5, b6, b7⟩ := pass_acct (kk := kk) (by omega) a1.toNat d z h2.1.1 h2.1.2.1 h2.1.2.2 (by omega) (by omega) hn
    refine PK.step h hk ⟨⟨b5, b6, b7⟩, b1.np b5, ?_, ?_⟩ (by show _ + WCl (passN a1.toNat d) _ ≤ _; omega) (by show _ + WSl (passN a1.toNat d) _ ≤ _; omega)
    · show dN (passN a1.toNat d) 3 ≤ _
      omega
    · show dN (passN a1.toNat d) 2 ≤ _
      rw [passN_n2]
      have := h2.2.2.2; omega
  · have e : (cPass d a1).2.2 = d := by
      unfold cPass
      split
      · split
        · rename_i x1 x2
          exact (hw ⟨x1, x2⟩).elim
        · rfl
      · rfl
    have e1 : cPassZC d a1 z = 0 := by unfold cPassZC; rw [if_neg hw]
    have e2 : cPassZS d a1 z = 0 := by unfold cPassZS; rw [if_neg hw]
    have e3 : ((cPassZ d a1 z).1, (cPassZ d a1 z).2) = z := by unfold cPassZ; rw [if_neg hw]
    rw [e, e1, e2, e3, if_neg hw, if_neg hw]
    exact h.mild hk (MD9.refl h2.1) (by omega) (by omega)
theorem pk_erase (h : PK kk d z c s) (hk : kk < 512) :
    (if erP d a1 a2 a3 then 1 + recC d else 1) + (if erP d a1 a2 a3 then mgC (dRec d).length z.2 1 else 0) ≤ c ∧ (if erP d a1 a2 a3 then 6 + recS d else 6) + (if erP d a1 a2 a3 then mgS (dRec d).length z.2 1 else 0) ≤ s ∧
    PK (kk + 1) (cErase d a1 a2 a3).2.2 (z.1, eMR d a1 a2 a3 z.2) (c - (if erP d a1 a2 a3 then 1 + recC d else 1) - (if erP d a1 a2 a3 then mgC (dRec d).length z.2 1 else 0)) (s - (if erP d a1 a2 a3 then 6 + recS d else 6) - (if erP d a1 a2 a3 then mgS (dRec d).length z.2 1 else 0)) := by
  obtain ⟨h1, h2, h3, h4⟩ := id h
  have hn := h2.2.1
  have hb := hn.nm.b5 h2.1.1 (by omega)
  have hS : ((dSmp d).length : Int) ≤ dN d 5 := h2.1.2.2.2.2.1
  by_cases hw : erP d a1 a2 a3
  · have e : (cErase d a1 a2 a3).2.2 = hideD d (selD d a1) a2 a3 := by rw [cErase, if_pos hw.1, if_pos hw.2]; rfl
    have e3 : eMR d a1 a2 a3 z.2 = mlN (dRec d).length z.2 := by unfold eMR; rw [if_pos hw]
    rw [e, e3]
    simp only [if_pos hw]
    obtain ⟨b1, -, b3, -, b5⟩ := zz_acct (n := (dRec d).length) hn.2.2.2.2.2.2.1 (by omega)
    obtain ⟨r1, r2, r3, r4, r5⟩ := rc_acct (n := (dRec d).length) hn.2.2.1 hn.2.2.2.1 hn.2.2.2.2.1 (by omega) (recN d) rfl
    have r4' : (recC d : Int) + RCn (recN d) ≤ RCn (dN d 6) := r4
    have r5' : (recS d : Int) + 4 * (170000 - recN d) ≤ 4 * (170000 - dN d 6) := r5
    have hl : (((dN d 2 + 1) :: dRec d).length : Int) = (dRec d).length + 1 := by rw [List.length_cons]; rfl
    refine PK.drop (z' := (z.1, mlN (dRec d).length z.2)) h hk ⟨h2.1.1.hide (by omega), h2.1.2.1, h2.1.2.2.1, h2.1.2.2.2.1, ?_, h2.1.2.2.2.2.2⟩ rfl rfl ?_ ⟨r1, r2, ?_⟩ ⟨hn.2.2.2.2.2.1, b1⟩ rfl rfl ?_ ?_ ?_
    · show (((dSmp d).map _).length : Int) ≤ dN d 5
      rw [List.length_map]; exact hS
    · show (((dN d 2 + 1) :: dRec d).length : Int) ≤ _
      have := hn.2.1
      omega
    · show (((dN d 2 + 1) :: dRec d).length : Int) ≤ recN d
      omega
    · show dN d 2 + 1 ≤ _
      omega
    · show _ + 2 * RCn (recN d) + 2 * ((160000 - z.1) / 8000 + (160000 - mlN (dRec d).length z.2) / 8000) ≤ _
      omega
    · show _ + 8 * (170000 - recN d) + 2 * (10 * (160000 - z.1) + 2 * (160000 - mlN (dRec d).length z.2)) ≤ _
      omega
  · have e : (cErase d a1 a2 a3).2.2 = d := by
      unfold cErase
      split
      · split
        · rename_i x1 x2
          exact (hw ⟨x1, x2⟩).elim
        · rfl
      · rfl
    have e3 : (z.1, eMR d a1 a2 a3 z.2) = z := by unfold eMR; rw [if_neg hw]
    rw [e, e3]
    simp only [if_neg hw]
    exact h.mild hk (MD9.refl h2.1) (by omega) (by omega)
end Sc05
