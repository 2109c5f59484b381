/-! an alert of the model looks and tells -/
section Sa63
variable {E : EE} {G G' G2 G0 : Gt} {c s : Nat} {Q X : Int → Gt → Prop} {m l ml mr now kp wt9 : Int} {k r n j : Nat} {d D : DS} {es A B : List En} {x : En} {rl : List Rl} {R : List (Int × Int)} {o : Option Rw}
theorem setE_rz (hn : n < rl.length) : (setE rl n es).getD j rz = if j = n then ((rl.getD n r0).1, (rl.getD n r0).2.1, es) else rl.getD j rz := setDT hn
theorem setE_len : (setE rl n es).length = rl.length := by rw [setE, List.length_set]
theorem setE_12 (hn : n < rl.length) : ((setE rl n es).getD j rz).1 = (rl.getD j rz).1 ∧ ((setE rl n es).getD j rz).2.1 = (rl.getD j rz).2.1 := by
  rw [setE_rz hn]
  by_cases hj : j = n
  · rw [if_pos hj, hj, rz_at hn]
    exact ⟨rfl, rfl⟩
  · rw [if_neg hj]
    exact ⟨rfl, rfl⟩
theorem MRl.sE (h : MRl G m rl) (hn : n < rl.length) : MRl G m (setE rl n es) := by
  obtain ⟨h1, h2, h3, h4⟩ := h
  refine ⟨by rw [setE_len]; exact h1, by rw [setE_len]; exact h2, fun i hi => ?_, fun i hi => ?_⟩
  · rw [setE_len] at hi
    rw [(setE_12 hn).1, (setE_12 hn).2]
    exact h3 i hi
  · rw [(setE_12 hn).1]
    exact h4 i hi
theorem MEn.sE (hn : n < rl.length) (h1 : ∀ i : Nat, i < 8 → i ≠ n → MEs G m i (rl.getD i rz).2.2) (h2 : MEs G m n es) : MEn G m (setE rl n es) := fun i hi => by
  rw [setE_rz hn]
  by_cases h9 : i = n
  · rw [if_pos h9, h9]; exact h2
  · rw [if_neg h9]; exact h1 i hi h9
theorem isA_ent {i : Int} (hn : n < (dRl d).length) : isA (entD d n es) i ↔ isA d i := by
  have e1 : (dRl (entD d n es)).length = (dRl d).length := (ent_facts hn).1
  have e2 : ((dRl (entD d n es)).getD i.toNat r0).1 = ((dRl d).getD i.toNat r0).1 := by
    show ((setE (dRl d) n es).getD i.toNat r0).1 = _
    rw [setE, setDT hn]
    by_cases h9 : i.toNat = n
    · rw [if_pos h9, h9]
    · rw [if_neg h9]
  unfold isA
  rw [e1, e2]
theorem RI.ent (h : RI d) (hn : n < (dRl d).length) (he : ∀ e ∈ es, eI e) : RI (entD d n es) := by
  have hm : ruD d n ∈ dRl d := getD_mem' hn
  refine ⟨fun q hq => ?_, fun q hq => ?_⟩
  · rw [isA_ent hn]
    rcases List.mem_or_eq_of_mem_set hq with h9 | h9
    · exact h.1 q h9
    · rw [h9]; exact h.1 (ruD d n) hm
  · rcases List.mem_or_eq_of_mem_set hq with h9 | h9
    · exact h.2 q h9
    · rw [h9]; exact he
theorem RI.at (h : RI d) (hn : n < (dRl d).length) : ∀ e ∈ esD d n, eI e := h.2 _ (getD_mem' hn)
theorem RI.tl1 (h : RI d) (hn : n < (dRl d).length) (hk : k < (esD d n).length) : RI (tel1 n d k) := by
  unfold tel1
  split
  · rename_i ht
    have he := h.at hn _ (getD_mem' (v := e0) hk)
    have := h.ent (es := (esD d n).set k (toldE ((esD d n).getD k e0))) hn (fun e h9 => by
      rcases List.mem_or_eq_of_mem_set h9 with h8 | h8
      · exact h.at hn e h8
      · rw [h8]; exact ⟨fun h7 => (ht.1 h7).elim, he.2⟩)
    exact this
  · exact h
theorem MH.esd (h : MH E G m d ml mr) (hn : n < (dRl d).length) : MEs G m n (esD d n) := by
  have h8 := h.rl.2
  have := h.2.2.2.2.2.2.2.2.2.1 n (by omega)
  rw [rz_at hn] at this
  exact this
/-- one entry is told -/
theorem MH.told (h : MH E G m d ml mr) (hi : DI d) (hn : n < (dRl d).length) (hk : k < (esD d n).length) (kU : MU E G G' m (fun k => k = 43 ∨ k = 46 ∨ k = 47)) (h46 : gfd G' 12 46 m = dN d 3 + 1)
    (h43 : ∀ i : Int, gel G' (gfd G' 12 43 m) i = if i = 24 * (n : Int) + k then 1 else gel G (gfd G 12 43 m) i)
    (h47 : ∀ i : Int, gel G' (gfd G' 12 47 m) i = if dN d 3 < 60 ∧ i = 3 * dN d 3 then (n : Int) else if dN d 3 < 60 ∧ i = 3 * dN d 3 + 1 then ((esD d n).getD k e0).1 else if dN d 3 < 60 ∧ i = 3 * dN d 3 + 2 then dN d 0 else gel G (gfd G 12 47 m) i) :
    MH E G' m (ntD (entD d n ((esD d n).set k (toldE ((esD d n).getD k e0)))) n ((esD d n).getD k e0).1) ml mr := by
  have h8 := h.rl.2
  have kt := kU.2.2.2.2.2
  have hnu := h.2.1
  have hes := h.esd hn
  have hnt := h.2.2.2.2.2.2.2.2.2.2.2.2
  have hl := hi.2.2.2.2.2.2.2.2.2.1
  have h30 := hi.2.2.2.2.2.2.2.2.2.2.2.1
  have p1 : MNu G' m (ntD (entD d n ((esD d n).set k (toldE ((esD d n).getD k e0)))) n ((esD d n).getD k e0).1) :=
    ⟨(kt.f 1 (by omega)).trans hnu.1, (kt.f 2 (by omega)).trans hnu.2.1, (kt.f 48 (by omega)).trans hnu.2.2.1, (kt.f 15 (by omega)).trans hnu.2.2.2.1, h46⟩
  have m24 : ∀ i : Nat, i < 8 → MEs G m i ((dRl d).getD i rz).2.2 := h.2.2.2.2.2.2.2.2.2.1
  have q39 : ∀ (kk : Nat), 39 ≤ kk → kk < 43 → ∀ i, gel G' (gfd G' 12 kk m) i = gel G (gfd G 12 kk m) i := fun kk h1 h2 i => kt.e kk (by omega) (mEnt kk (by omega) (by omega)) i
  have p2 : MEn G' m (setE (dRl d) n ((esD d n).set k (toldE ((esD d n).getD k e0)))) := by
    refine MEn.sE hn (fun i hi8 hne => ?_) ?_
    · have a := m24 i hi8
      have a24 := a.2.1
      refine ⟨(kt.e 38 (by omega) (by decide) _).trans a.1, a24, fun e he => ?_⟩
      obtain ⟨b1, b2, b3, b4, b5⟩ := a.2.2 e he
      exact ⟨(q39 39 (by omega) (by omega) _).trans b1, (q39 40 (by omega) (by omega) _).trans b2, (q39 41 (by omega) (by omega) _).trans b3, (q39 42 (by omega) (by omega) _).trans b4, by rw [h43, if_neg (by have := hes.2.1; omega)]; exact b5⟩
    · have a24 := hes.2.1
      refine ⟨by rw [List.length_set]; exact (kt.e 38 (by omega) (by decide) _).trans hes.1, by rw [List.length_set]; exact a24, fun e he => ?_⟩
      rw [List.length_set] at he
      obtain ⟨b1, b2, b3, b4, b5⟩ := hes.2.2 e he
      rw [setDT hk]
      by_cases hek : e = k
      · subst hek
        rw [if_pos rfl]
        exact ⟨(q39 39 (by omega) (by omega) _).trans b1, (q39 40 (by omega) (by omega) _).trans b2, (q39 41 (by omega) (by omega) _).trans b3, (q39 42 (by omega) (by omega) _).trans b4, by rw [h43, if_pos rfl]; rfl⟩
      · rw [if_neg hek]
        exact ⟨(q39 39 (by omega) (by omega) _).trans b1, (q39 40 (by omega) (by omega) _).trans b2, (q39 41 (by omega) (by omega) _).trans b3, (q39 42 (by omega) (by omega) _).trans b4, by rw [h43, if_neg (by omega)]; exact b5⟩
  have p3 : MNt G' m (if (dNt d).length < 60 then dNt d ++ [((n : Int), ((esD d n).getD k e0).1, dN d 0)] else dNt d) := by
    by_cases h60 : (dNt d).length < 60
    · rw [if_pos h60]
      have hd : dN d 3 = (dNt d).length := by omega
      intro i hi9
      rw [List.length_append] at hi9
      have hi9' : i < (dNt d).length + 1 := hi9
      rw [appD hi9', h47, h47, h47, hd]
      by_cases h9 : i < (dNt d).length
      · rw [if_pos h9]
        have := hnt i h9
        rw [if_neg (by omega), if_neg (by omega), if_neg (by omega), if_neg (by omega), if_neg (by omega), if_neg (by omega), if_neg (by omega), if_neg (by omega), if_neg (by omega)]
        exact this
      · rw [if_neg h9]
        have : i = (dNt d).length := by omega
        subst this
        rw [if_pos ⟨by omega, by omega⟩, if_neg (by omega), if_pos ⟨by omega, by omega⟩, if_neg (by omega), if_neg (by omega), if_pos ⟨by omega, by omega⟩]
        exact ⟨rfl, rfl, rfl⟩
    · rw [if_neg h60]
      intro i hi9
      have hd : ¬ dN d 3 < 60 := by omega
      rw [h47, h47, h47, if_neg (fun h9 => hd h9.1), if_neg (fun h9 => hd h9.1), if_neg (fun h9 => hd h9.1), if_neg (fun h9 => hd h9.1), if_neg (fun h9 => hd h9.1), if_neg (fun h9 => hd h9.1), if_neg (fun h9 => hd h9.1), if_neg (fun h9 => hd h9.1), if_neg (fun h9 => hd h9.1)]
      exact hnt i hi9
  have p4 : MRl G' m (setE (dRl d) n ((esD d n).set k (toldE ((esD d n).getD k e0)))) := (h.2.2.2.2.2.2.2.2.1.mt kt ⟨by omega, by omega, by omega, by omega, by omega, by omega, by omega, by omega⟩).sE hn
  exact ⟨⟨kU.1, kU.2.1, kU.2.2.1.1⟩, p1, h.2.2.1.mt kt ⟨by omega, by omega, by omega, by omega⟩, h.2.2.2.1.mt kt ⟨by omega, by omega, by omega, by omega, by omega, by omega⟩, h.2.2.2.2.1.mt kt ⟨by omega, by omega⟩, h.2.2.2.2.2.1.mt kt ⟨by omega, by omega, by omega, by omega⟩, h.2.2.2.2.2.2.1.mt kt (by omega), h.2.2.2.2.2.2.2.1.mt kt ⟨by omega, by omega⟩, p4, p2, h.2.2.2.2.2.2.2.2.2.2.1.mt kt ⟨by omega, by omega, by omega⟩, h.2.2.2.2.2.2.2.2.2.2.2.1.mt kt ⟨by omega, by omega⟩, p3⟩
theorem v_lk558 (hQ : ∀ G', MH E G' m D ml mr → MU E G0 G' m (fun k => 38 ≤ k ∧ k ≤ 47) → Q 0 G') : ∀ (j k : Nat) (G : Gt) (d1 : DS), k + j = (esD d1 r).length → MH E G m d1 ml mr → MU E G0 G m (fun k => 38 ≤ k ∧ k ≤ 47) → DI d1 → LB d1 → RI d1 → r < (dRl d1).length → dN d1 3 + j < 100000000 → telN r k j d1 = D →
    V E M_X12_looks 558 [some (rv m), some (iv (r : Int)), none, none, some (iv (k : Int)), none, none, none, none] [] G c s Q X := by
  intro j
  induction j with
  | zero =>
    intro k G d1 hk hm hU hi hb hI hr h3 hD
    have hes := hm.esd hr
    have e : d1 = D := hD
    have h8 := hm.rl.2
    have x38 := hm.1.1.fx 38 15 8
    refine b_X12_looks_558 ?_
    rw [hes.1]
    exact ⟨hm.k13, x38.1, by omega, by omega, fun _ => hQ G (by rw [← e]; exact hm) hU, fun h9 => by omega⟩
  | succ j ih =>
    intro k G d1 hk hm hU hi hb hI hr h3 hD
    have hes := hm.esd hr
    have h8 := hm.rl.2
    have h24 := hes.2.1
    have hlt : k < (esD d1 r).length := by omega
    obtain ⟨v39, v40, v41, v42, v43⟩ := hes.2.2 k hlt
    have hmr : ruD d1 r ∈ dRl d1 := getD_mem' hr
    have hok : enOk ((esD d1 r).getD k e0) := (hi.2.2.2.2.2.2.2.1.2 _ hmr).2.2.1 _ (getD_mem' (v := e0) hlt)
    have he := hI.at hr _ (getD_mem' (v := e0) hlt)
    obtain ⟨t1, t2, t3⟩ := tel1_ok hr hi hb hlt (by omega)
    have t4 := hI.tl1 hr hlt
    obtain ⟨u1, u2, u3, u4, -⟩ := t3
    have hg := hm.k13
    have x38 := hm.1.1.fx 38 15 8
    have x39 := hm.1.1.fx 39 15 192
    have x40 := hm.1.1.fx 40 15 192
    have x43 := hm.1.1.fx 43 17 192
    have skip : ¬ telP d1 r k → V E M_X12_looks 558 [some (rv m), some (iv (r : Int)), none, none, some (iv ((k : Int) + 1)), none, none, none, none] [] G c s Q X := fun h9 => by
      have e : tel1 r d1 k = d1 := by unfold tel1; rw [if_neg h9]
      have hD' : telN r (k + 1) j (tel1 r d1 k) = D := hD
      rw [e] at hD'
      exact ih (k + 1) G d1 (by omega) hm hU hi hb hI hr (by omega) hD'
    refine b_X12_looks_558 ?_
    rw [hes.1, v40, v43, v39]
    have h21 := hok.2.2.1
    refine ⟨hg, x38.1, by omega, by omega, fun h9 => by omega, fun _ => ⟨i32s' (by omega), i32s' (by omega), hg, x40.1, by omega, by omega, fun h9 => ⟨i32s' (by omega), skip fun h7 => h7.1 (by omega)⟩, fun p1 => ⟨hg, x43.1, by omega, by omega, fun h9 => ⟨i32s' (by omega), skip fun h7 => h9 h7.2.1⟩, fun p2 => ⟨hg, x39.1, by omega, by omega, hg, Call.to (om_isKept hm hi hr hI he.2) (Nat.zero_le _) (Nat.zero_le _) fun y G26 ⟨hy, eG⟩ => ?_⟩⟩⟩⟩
    subst eG
    refine ⟨fun h9 => ⟨i32s' (by omega), skip fun h7 => ?_⟩, fun p3 => ?_⟩
    · have := hy.mp h9
      unfold kpB at this
      rw [h7.2.2.1, h7.2.2.2] at this
      cases this
    have hkp : kpB d1 r ((esD d1 r).getD k e0).1 = false := by
      cases hh : kpB d1 r ((esD d1 r).getD k e0).1 with
      | false => rfl
      | true => exact (hy.mpr hh p3).elim
    unfold kpB at hkp
    have hP : telP d1 r k := ⟨by omega, p2, (Bool.or_eq_false_iff.mp hkp).1, (Bool.or_eq_false_iff.mp hkp).2⟩
    have e1 : tel1 r d1 k = ntD (entD d1 r ((esD d1 r).set k (toldE ((esD d1 r).getD k e0)))) r ((esD d1 r).getD k e0).1 := by unfold tel1; rw [if_pos hP]
    have hD' : telN r (k + 1) j (tel1 r d1 k) = D := hD
    have next : ∀ G', MU E G26 G' m (fun k => k = 43 ∨ k = 46 ∨ k = 47) → gfd G' 12 46 m = dN d1 3 + 1 → (∀ i : Int, gel G' (gfd G' 12 43 m) i = if i = 24 * (r : Int) + k then 1 else gel G26 (gfd G26 12 43 m) i) →
      (∀ i : Int, gel G' (gfd G' 12 47 m) i = if dN d1 3 < 60 ∧ i = 3 * dN d1 3 then (r : Int) else if dN d1 3 < 60 ∧ i = 3 * dN d1 3 + 1 then ((esD d1 r).getD k e0).1 else if dN d1 3 < 60 ∧ i = 3 * dN d1 3 + 2 then dN d1 0 else gel G26 (gfd G26 12 47 m) i) →
      V E M_X12_looks 558 [some (rv m), some (iv (r : Int)), none, none, some (iv ((k : Int) + 1)), none, none, none, none] [] G' c s Q X := fun G' k1 k2 k3 k4 => by
      have hm' := hm.told hi hr hlt k1 k2 k3 k4
      rw [← e1] at hm'
      exact ih (k + 1) G' _ (by rw [u2]; omega) hm' (hU.trans (k1.mono fun _ h9 => by omega)) t1 t2 t4 (by rw [u1]; exact hr) (by omega) hD'
    have g46 := hm.2.1.2.2.2.2
    have g1 := hm.2.1.1
    have h30 := hi.2.2.2.2.2.2.2.2.2.2.2.1
    have n1 : gfd G26 12 43 m ≠ gfd G26 12 47 m := hm.1.1.ne 43 47
    have n2 : gfd G26 12 39 m ≠ gfd G26 12 47 m := hm.1.1.ne 39 47
    have n3 : gfd G26 12 39 m ≠ gfd G26 12 43 m := hm.1.1.ne 39 43
    refine ⟨hg, x43.1, by omega, by omega, fun G35 e35 => ?_⟩
    have k35 : MU E G26 G35 m (fun k => k = 43 ∨ k = 46 ∨ k = 47) := by rw [e35]; exact hm.ru.mSel (by decide) (Or.inl rfl)
    have f35 : ∀ k, gfd G35 12 k m = gfd G26 12 k m := fun k => by rw [e35]; rfl
    rw [f35 46, g46]
    refine ⟨k35.1.1, fun h60 => ⟨k35.1.1, i32s' (by omega), k35.1.1, fun G41 e41 => ⟨i32s' (by omega), ?_⟩⟩, fun h60 => ?_⟩
    · have k41 : MU E G26 G41 m (fun k => k = 43 ∨ k = 46 ∨ k = 47) := by rw [e41]; exact k35.mSfd (by decide) (Or.inr (Or.inl rfl))
      have f41 : ∀ k, k ≠ 46 → gfd G41 12 k m = gfd G26 12 k m := fun k hk => by rw [e41, gfd_sfd, if_neg (fun h9 => hk h9.2.1)]; exact f35 k
      have el : ∀ y i, gel G41 y i = if y = gfd G26 12 43 m ∧ i = 24 * (r : Int) + k then 1 else gel G26 y i := fun y i => by
        rw [e41]
        show gel G35 y i = _
        rw [e35, gel_sel]
      refine next G41 k41 (by rw [e41, gfd_sfd, if_pos ⟨rfl, rfl, rfl⟩]) (fun i => ?_) (fun i => ?_)
      · rw [f41 43 (by decide), el]
        by_cases h9 : i = 24 * (r : Int) + k
        · rw [if_pos ⟨rfl, h9⟩, if_pos h9]
        · rw [if_neg (fun h7 => h9 h7.2), if_neg h9]
      · rw [f41 47 (by decide), el, if_neg (fun h9 => n1 h9.1.symm), if_neg (by omega), if_neg (by omega), if_neg (by omega)]
    · have y47 := k35.1.fx 47 15 180
      refine ⟨k35.1.1, k35.1.1, i32s' (by omega), y47.1, by omega, by omega, fun G49 e49 => ?_⟩
      have k49 : MU E G26 G49 m (fun k => k = 43 ∨ k = 46 ∨ k = 47) := by rw [e49]; exact k35.mSel (by decide) (Or.inr (Or.inr rfl))
      have f49 : ∀ k, gfd G49 12 k m = gfd G26 12 k m := fun k => by rw [e49]; exact f35 k
      have z47 := k49.1.fx 47 15 180
      have z39 := k49.1.fx 39 15 192
      rw [f49 46, g46]
      refine ⟨k49.1.1, k49.1.1, i32s' (by omega), i32s' (by omega), k49.1.1, z39.1, by omega, by omega, z47.1, by omega, by omega, fun G61 e61 => ?_⟩
      have k61 : MU E G26 G61 m (fun k => k = 43 ∨ k = 46 ∨ k = 47) := by rw [e61]; exact k49.mSel (by decide) (Or.inr (Or.inr rfl))
      have f61 : ∀ k, gfd G61 12 k m = gfd G26 12 k m := fun k => by rw [e61]; exact f49 k
      have w47 := k61.1.fx 47 15 180
      rw [f61 46, g46, f61 1, g1]
      refine ⟨k61.1.1, k61.1.1, i32s' (by omega), i32s' (by omega), k61.1.1, w47.1, by omega, by omega, fun G70 e70 => ?_⟩
      have k70 : MU E G26 G70 m (fun k => k = 43 ∨ k = 46 ∨ k = 47) := by rw [e70]; exact k61.mSel (by decide) (Or.inr (Or.inr rfl))
      have f70 : ∀ k, gfd G70 12 k m = gfd G26 12 k m := fun k => by rw [e70]; exact f61 k
      rw [f70 46, g46]
      refine ⟨k70.1.1, i32s' (by omega), k70.1.1, fun G74 e74 => ⟨i32s' (by omega), ?_⟩⟩
      have k74 : MU E G26 G74 m (fun k => k = 43 ∨ k = 46 ∨ k = 47) := by rw [e74]; exact k70.mSfd (by decide) (Or.inr (Or.inl rfl))
      have f74 : ∀ k, k ≠ 46 → gfd G74 12 k m = gfd G26 12 k m := fun k hk => by rw [e74, gfd_sfd, if_neg (fun h9 => hk h9.2.1)]; exact f70 k
      have v39' : gel G49 (gfd G49 12 39 m) (24 * (r : Int) + k) = ((esD d1 r).getD k e0).1 := by
        rw [f49, e49, gel_sel, if_neg (fun h9 => n2 (by rw [f35] at h9; exact h9.1)), e35, gel_sel, if_neg (fun h9 => n3 h9.1)]
        exact v39
      rw [v39', f49] at e61
      rw [f35] at e49
      rw [f61] at e70
      have el : ∀ y i, gel G74 y i = if y = gfd G26 12 47 m ∧ i = 3 * dN d1 3 + 2 then dN d1 0 else if y = gfd G26 12 47 m ∧ i = 3 * dN d1 3 + 1 then ((esD d1 r).getD k e0).1 else if y = gfd G26 12 47 m ∧ i = 3 * dN d1 3 then (r : Int) else if y = gfd G26 12 43 m ∧ i = 24 * (r : Int) + k then 1 else gel G26 y i := fun y i => by
        rw [e74]
        show gel G70 y i = _
        rw [e70, gel_sel, e61, gel_sel, e49, gel_sel, e35, gel_sel]
      refine next G74 k74 (by rw [e74, gfd_sfd, if_pos ⟨rfl, rfl, rfl⟩]) (fun i => ?_) (fun i => ?_)
      · rw [f74 43 (by decide), el, if_neg (fun h9 => n1 h9.1), if_neg (fun h9 => n1 h9.1), if_neg (fun h9 => n1 h9.1)]
        by_cases h9 : i = 24 * (r : Int) + k
        · rw [if_pos ⟨rfl, h9⟩, if_pos h9]
        · rw [if_neg (fun h7 => h9 h7.2), if_neg h9]
      · rw [f74 47 (by decide), el]
        by_cases b0 : i = 3 * dN d1 3
        · rw [if_neg (by omega), if_neg (by omega), if_pos ⟨rfl, b0⟩, if_pos ⟨h60, b0⟩]
        · by_cases b1 : i = 3 * dN d1 3 + 1
          · rw [if_neg (by omega), if_pos ⟨rfl, b1⟩, if_neg (by omega), if_pos ⟨h60, b1⟩]
          · by_cases b2 : i = 3 * dN d1 3 + 2
            · rw [if_pos ⟨rfl, b2⟩, if_neg (by omega), if_neg (by omega), if_pos ⟨h60, b2⟩]
            · rw [if_neg (fun h9 => b2 h9.2), if_neg (fun h9 => b1 h9.2), if_neg (fun h9 => b0 h9.2), if_neg (fun h9 => n1 h9.1.symm), if_neg (fun h9 => b0 h9.2), if_neg (fun h9 => b1 h9.2), if_neg (fun h9 => b2 h9.2)]
end Sa63
