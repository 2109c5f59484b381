/-! the model is flushed: all of it; bits -/
section Sa36
variable {E : EE} {G G' G2 G0 : Gt} {c s : Nat} {Q X : Int → Gt → Prop} {m ml mr t v b l n r u s9 x i : Int} {k j : Nat} {T : Nat → Prop} {ser : List Int} {smp : List (Sm4 × Int)} {sm : List Sm4} {d : DS} {K : List (Int × Int × Int)}
def ElM (G : Gt) (m : Int) (ser : List Int) (i : Int) (q : Sm4 × Int) : Prop := (0 ≤ gel G (gfd G 12 7 m) i ∧ gel G (gfd G 12 7 m) i < ser.length ∧ ser.getD (gel G (gfd G 12 7 m) i).toNat 0 = qC q.1) ∧ gel G (gfd G 12 8 m) i = qT q.1 ∧ gel G (gfd G 12 9 m) i = qV q.1 ∧ gel G (gfd G 12 10 m) i = qH q.1 ∧ gel G (gfd G 12 11 m) i = q.2
def CpS (E : EE) (G0 G : Gt) (m : Int) : Prop := MU E G0 G m (fun k => 7 ≤ k ∧ k ≤ 11) ∧ (∀ k, gfd G 12 k m = gfd G0 12 k m) ∧ ∀ y, gln G y = gln G0 y
theorem CpS.put (h : CpS E G0 G m) (hk : k ∈ mArr) (hr : 7 ≤ k ∧ k ≤ 11) : CpS E G0 (sel G (gfd G 12 k m) i v) m := ⟨h.1.mSel hk hr, fun k => h.2.1 k, fun y => h.2.2 y⟩
theorem v_compact (h : MH E G0 m d ml mr) (hi : DI d) (hQ : ∀ G', CpS E G0 G' m → (∀ j : Nat, j < ((dSmp d).filter (kept (dN d 0 - dN d 1))).length → ElM G' m (dSer d) j (((dSmp d).filter (kept (dN d 0 - dN d 1))).getD j z4)) → gcl G' m = 13 ∧ ∀ G4 : Gt, G4 = (sfd G' 12 12 m ((dSmp d).filter (kept (dN d 0 - dN d 1))).length) → gcl G4 m = 13 ∧ ∀ G6 : Gt, G6 = (sfd G4 12 14 m 0) → gcl G6 m = 13 ∧ ∀ G8 : Gt, G8 = (sfd G6 12 15 m 0) → gcl G8 m = 13 ∧ ∀ G10 : Gt, G10 = (sfd G8 12 19 m 0) → V E M_X12_flush 129 [some (rv m), none, some (iv 0), none] [] G10 c s Q X) :
    ∀ (n j : Nat) (G : Gt), j + n = (dSmp d).length → CpS E G0 G m → (∀ i : Nat, i < (((dSmp d).take j).filter (kept (dN d 0 - dN d 1))).length → ElM G m (dSer d) i ((((dSmp d).take j).filter (kept (dN d 0 - dN d 1))).getD i z4)) → (∀ i : Nat, j ≤ i → i < (dSmp d).length → ElM G m (dSer d) i ((dSmp d).getD i z4)) →
      V E M_X12_flush 9 [some (rv m), some (iv (((dSmp d).take j).filter (kept (dN d 0 - dN d 1))).length), some (iv (j : Int)), none] [] G c s Q X := by
  obtain ⟨h1, h2, ⟨l7, l8, l9, l10, l11⟩, h3⟩ := h.2.2.2.1
  have f1 := h.2.1.1
  have f2 := h.2.1.2.1
  have hnow := hi.2.2.1
  have hret := hi.2.2.2.1
  have hbt : ∀ q ∈ dSmp d, 0 ≤ qT q.1 ∧ qT q.1 ≤ 100000 := fun q hq => (hi.1.2.2.2.1 _ (List.mem_map.mpr ⟨q, hq, rfl⟩)).2.1
  intro n
  induction n with
  | zero =>
    intro j G hj hc hA hB
    rw [List.take_of_length_le (by omega)] at hA ⊢
    have g12 : gfd G 12 12 m = (dSmp d).length := (hc.2.1 12).trans h1
    exact b_X12_flush_9 ⟨hc.1.1.1, fun _ => hQ G hc hA, fun h9 => by omega⟩
  | succ n ih =>
    intro j G hj hc hA hB
    refine V.wt fun hwt => ?_
    have hlt : j < (dSmp d).length := by omega
    have g12 : gfd G 12 12 m = (dSmp d).length := (hc.2.1 12).trans h1
    have e := hB j (Nat.le_refl _) hlt
    have hq := hbt _ (getD_mem' (v := z4) hlt)
    have etk : (dSmp d).take (j + 1) = (dSmp d).take j ++ [(dSmp d).getD j z4] := takeS hlt
    have hfl : (((dSmp d).take j).filter (kept (dN d 0 - dN d 1))).length ≤ j := Nat.le_trans (List.length_filter_le _ _) (by rw [List.length_take]; omega)
    have gl : ∀ k, gln G (gfd G 12 k m) = gln G0 (gfd G0 12 k m) := fun k => by rw [hc.2.1, hc.2.2]
    have x7 := hc.1.1.gw 7 15
    have x8 := hc.1.1.gw 8 15
    have x9 := hc.1.1.gw 9 15
    have x10 := hc.1.1.gw 10 15
    have x11 := hc.1.1.gw 11 17
    have L7 : gln G (gfd G 12 7 m) = ml := (gl 7).trans l7
    have L8 : gln G (gfd G 12 8 m) = ml := (gl 8).trans l8
    have L9 : gln G (gfd G 12 9 m) = ml := (gl 9).trans l9
    have L10 : gln G (gfd G 12 10 m) = ml := (gl 10).trans l10
    have L11 : gln G (gfd G 12 11 m) = ml := (gl 11).trans l11
    have hseen : OkP E M_X12_isSeen [rv m, iv (j : Int)] G (mSeen G m j) := okp_isSeen hc.1.1 (by omega) (by omega)
    have hms : mSeen G m (j : Int) = 0 ↔ qH ((dSmp d).getD j z4).1 ≠ 0 := by
      unfold mSeen
      rw [e.2.2.2.1]
      by_cases h9 : qH ((dSmp d).getD j z4).1 = 0
      · rw [if_pos h9]
        exact ⟨fun h8 => absurd h8 (by decide), fun h8 => (h8 h9).elim⟩
      · rw [if_neg h9]
        exact ⟨fun _ => h9, fun _ => rfl⟩
    have skip : kept (dN d 0 - dN d 1) ((dSmp d).getD j z4) = false → i32 ((j : Int) + 1) ∧ V E M_X12_flush 9 [some (rv m), some (iv (((dSmp d).take j).filter (kept (dN d 0 - dN d 1))).length), some (iv ((j : Int) + 1)), none] [] G c s Q X := fun hk => by
      refine ⟨i32s' (by omega), ?_⟩
      have ef : ((dSmp d).take (j + 1)).filter (kept (dN d 0 - dN d 1)) = ((dSmp d).take j).filter (kept (dN d 0 - dN d 1)) := by
        rw [etk, List.filter_append, List.filter_cons_of_neg (by rw [hk]; decide)]
        show _ ++ [] = _
        rw [List.append_nil]
      have := ih (j + 1) G (by omega) hc (by rw [ef]; exact hA) (fun i h9 h8 => hB i (by omega) h8)
      rw [ef] at this
      exact this
    have gf1 : gfd G 12 1 m = dN d 0 := (hc.2.1 1).trans f1
    have gf2 : gfd G 12 2 m = dN d 1 := (hc.2.1 2).trans f2
    refine b_X12_flush_9 ⟨hc.1.1.1, fun h9 => by omega, fun _ => ⟨hc.1.1.1, hseen, fun hz => skip ?_, fun hz => ⟨hc.1.1.1, hc.1.1.1, x8.1, by omega, by omega, ?_⟩⟩⟩
    · unfold kept
      rw [decide_eq_false (hms.mp hz), Bool.false_and]
    have hh : qH ((dSmp d).getD j z4).1 = 0 := Classical.byContradiction fun h9 => hz (hms.mpr h9)
    rw [gf1, gf2, e.2.1]
    refine ⟨i32s' (by omega), hc.1.1.1, fun hlt2 => skip ?_, fun hle => ?_⟩
    · unfold kept
      rw [decide_eq_false (p := dN d 0 - dN d 1 ≤ qT ((dSmp d).getD j z4).1) (by omega), Bool.and_false]
    have hk : kept (dN d 0 - dN d 1) ((dSmp d).getD j z4) = true := by
      unfold kept
      rw [decide_eq_true hh, decide_eq_true (p := dN d 0 - dN d 1 ≤ qT ((dSmp d).getD j z4).1) (by omega)]; rfl
    have ef : ((dSmp d).take (j + 1)).filter (kept (dN d 0 - dN d 1)) = ((dSmp d).take j).filter (kept (dN d 0 - dN d 1)) ++ [(dSmp d).getD j z4] := by
      rw [etk, List.filter_append, List.filter_cons_of_pos hk]; rfl
    have efl : ((((dSmp d).take (j + 1)).filter (kept (dN d 0 - dN d 1))).length : Int) = (((dSmp d).take j).filter (kept (dN d 0 - dN d 1))).length + 1 := by rw [ef, List.length_append]; rfl
    generalize ((dSmp d).take j).filter (kept (dN d 0 - dN d 1)) = F at hA hfl skip ef efl ⊢
    have ne : ∀ a b, a ∈ mArr → b ∈ mArr → a ≠ b → gfd G 12 a m ≠ gfd G 12 b m := fun a b h8 h9 h7 h6 => h7 (hc.1.1.2.2.2 a h8 b h9 h6)
    refine ⟨hc.1.1.1, hc.1.1.1, x7.1, by omega, by omega, x7.1, by omega, by omega, fun Ga ea => ?_⟩
    have ca : CpS E G0 Ga m := by rw [ea]; exact hc.put (by decide) (by decide)
    have fa : ∀ k, gfd Ga 12 k m = gfd G 12 k m := fun k => by rw [ea]; rfl
    have va : ∀ i, gel Ga (gfd G 12 8 m) i = gel G (gfd G 12 8 m) i := fun i => by rw [ea, gel_sel, if_neg (fun h9 => ne 8 7 (by decide) (by decide) (by decide) h9.1)]
    rw [fa 8]
    refine ⟨ca.1.1.1, ca.1.1.1, by rw [ea]; exact x8.1, by omega, by rw [ea]; show _ < gln G _; omega, by rw [ea]; exact x8.1, by omega, by rw [ea]; show _ < gln G _; omega, fun Gb eb' => ?_⟩
    have cb : CpS E G0 Gb m := by rw [eb', ← fa 8]; exact ca.put (by decide) (by decide)
    have fb : ∀ k, gfd Gb 12 k m = gfd G 12 k m := fun k => by rw [eb']; exact fa k
    have vb : ∀ i, gel Gb (gfd G 12 9 m) i = gel G (gfd G 12 9 m) i := fun i => by rw [eb', gel_sel, if_neg (fun h9 => ne 9 8 (by decide) (by decide) (by decide) h9.1), ea, gel_sel, if_neg (fun h9 => ne 9 7 (by decide) (by decide) (by decide) h9.1)]
    have lb : ∀ y, gln Gb y = gln G y := fun y => by rw [eb', ea]; rfl
    have clb : ∀ y, gcl Gb y = gcl G y := fun y => by rw [eb', ea]; rfl
    rw [fb 9]
    refine ⟨cb.1.1.1, cb.1.1.1, by rw [clb]; exact x9.1, by omega, by rw [lb]; omega, by rw [clb]; exact x9.1, by omega, by rw [lb]; omega, fun Gc ec => ?_⟩
    have cc : CpS E G0 Gc m := by rw [ec, ← fb 9]; exact cb.put (by decide) (by decide)
    have fc : ∀ k, gfd Gc 12 k m = gfd G 12 k m := fun k => by rw [ec]; exact fb k
    have vc : ∀ i, gel Gc (gfd G 12 11 m) i = gel G (gfd G 12 11 m) i := fun i => by rw [ec, gel_sel, if_neg (fun h9 => ne 11 9 (by decide) (by decide) (by decide) h9.1), eb', gel_sel, if_neg (fun h9 => ne 11 8 (by decide) (by decide) (by decide) h9.1), ea, gel_sel, if_neg (fun h9 => ne 11 7 (by decide) (by decide) (by decide) h9.1)]
    have lc : ∀ y, gln Gc y = gln G y := fun y => by rw [ec]; exact lb y
    have clc : ∀ y, gcl Gc y = gcl G y := fun y => by rw [ec]; exact clb y
    rw [fc 11, vc, e.2.2.2.2]
    have hw11 : ((dSmp d).getD j z4).2 = 0 ∨ ((dSmp d).getD j z4).2 = 1 := by
      have := hwt.2.2.2.2.2.2.1 (gfd G 12 11 m) (j : Int) x11.1
      rw [e.2.2.2.2] at this
      exact this
    refine ⟨cc.1.1.1, cc.1.1.1, by rw [clc]; exact x11.1, by omega, by rw [lc]; omega, by rw [clc]; exact x11.1, by omega, by rw [lc]; omega, hw11, fun Gd ed => ?_⟩
    have cd : CpS E G0 Gd m := by rw [ed, ← fc 11]; exact cc.put (by decide) (by decide)
    have fd : ∀ k, gfd Gd 12 k m = gfd G 12 k m := fun k => by rw [ed]; exact fc k
    have ld : ∀ y, gln Gd y = gln G y := fun y => by rw [ed]; exact lc y
    have cld : ∀ y, gcl Gd y = gcl G y := fun y => by rw [ed]; exact clc y
    rw [fd 10]
    refine ⟨cd.1.1.1, by rw [cld]; exact x10.1, by omega, by rw [ld]; omega, fun Ge ee => ⟨i32s' (by omega), i32s' (by omega), ?_⟩⟩
    have ce : CpS E G0 Ge m := by rw [ee, ← fd 10]; exact cd.put (by decide) (by decide)
    have fe : ∀ k, gfd Ge 12 k m = gfd G 12 k m := fun k => by rw [ee]; exact fd k
    rw [va, e.2.1] at eb'
    rw [vb, e.2.2.1] at ec
    have el : ∀ y i, gel Ge y i = if y = gfd G 12 10 m ∧ i = F.length then 0 else if y = gfd G 12 11 m ∧ i = F.length then ((dSmp d).getD j z4).2 else if y = gfd G 12 9 m ∧ i = F.length then qV ((dSmp d).getD j z4).1 else if y = gfd G 12 8 m ∧ i = F.length then qT ((dSmp d).getD j z4).1 else if y = gfd G 12 7 m ∧ i = F.length then gel G (gfd G 12 7 m) j else gel G y i := fun y i => by
      rw [ee, gel_sel, ed, gel_sel, ec, gel_sel, eb', gel_sel, ea, gel_sel]
    have oth : ∀ (i : Int) (q : Sm4 × Int), i ≠ F.length → ElM G m (dSer d) i q → ElM Ge m (dSer d) i q := fun i q hne h9 => by
      have eq' : ∀ y, gel Ge y i = gel G y i := fun y => by
        rw [el, if_neg (fun h8 => hne h8.2), if_neg (fun h8 => hne h8.2), if_neg (fun h8 => hne h8.2), if_neg (fun h8 => hne h8.2), if_neg (fun h8 => hne h8.2)]
      unfold ElM
      rw [fe, fe, fe, fe, fe, eq', eq', eq', eq', eq']
      exact h9
    have mine : ElM Ge m (dSer d) F.length ((dSmp d).getD j z4) := by
      unfold ElM
      rw [fe, fe, fe, fe, fe, el (gfd G 12 7 m), el (gfd G 12 8 m), el (gfd G 12 9 m), el (gfd G 12 10 m), el (gfd G 12 11 m)]
      rw [if_neg (fun h9 => ne 7 10 (by decide) (by decide) (by decide) h9.1), if_neg (fun h9 => ne 7 11 (by decide) (by decide) (by decide) h9.1), if_neg (fun h9 => ne 7 9 (by decide) (by decide) (by decide) h9.1), if_neg (fun h9 => ne 7 8 (by decide) (by decide) (by decide) h9.1), if_pos ⟨rfl, rfl⟩,
        if_neg (fun h9 => ne 8 10 (by decide) (by decide) (by decide) h9.1), if_neg (fun h9 => ne 8 11 (by decide) (by decide) (by decide) h9.1), if_neg (fun h9 => ne 8 9 (by decide) (by decide) (by decide) h9.1), if_pos ⟨rfl, rfl⟩,
        if_neg (fun h9 => ne 9 10 (by decide) (by decide) (by decide) h9.1), if_neg (fun h9 => ne 9 11 (by decide) (by decide) (by decide) h9.1), if_pos ⟨rfl, rfl⟩,
        if_pos ⟨rfl, rfl⟩, if_neg (fun h9 => ne 11 10 (by decide) (by decide) (by decide) h9.1), if_pos ⟨rfl, rfl⟩]
      exact ⟨e.1, rfl, rfl, hh.symm, rfl⟩
    rw [← efl]
    refine ih (j + 1) Ge (by omega) ce (fun i hi9 => ?_) (fun i h9 h8 => oth i _ (by omega) (hB i (by omega) h8))
    rw [ef] at hi9 ⊢
    rw [List.length_append] at hi9
    have hi8 : i < F.length + 1 := hi9
    rw [appD hi8]
    by_cases hif : i < F.length
    · rw [if_pos hif]
      exact oth i _ (by omega) (hA i hif)
    · rw [if_neg hif, show (i : Int) = (F.length : Int) by omega]
      exact mine
/-- the flush: the erasings are counted anew -/
def flushD2 (d : DS) : DS := stD d (fun j => if j = 2 then 0 else dN d j) (dSer d) ((dSmp d).filter (kept (dN d 0 - dN d 1))) [] (fun c => pack (seeT c (((dSmp d).filter (kept (dN d 0 - dN d 1))).map (·.1))))
def cFlush2 (d : DS) : Sp := yes (((dSer d).map fun c => (pack (seeT c (((dSmp d).filter (kept (dN d 0 - dN d 1))).map (·.1)))).length).sum : Nat) (flushD2 d)
theorem ok_flush2 (h : CH E G x d) (hi : DI d) : Ok E M_X11_flush [rv x] G c s (RQ E G x (cFlush2 d)) (RX G (cFlush2 d)) :=
  (ok_flush h hi).mono (fun r G' h9 => ⟨h9.1, h9.2.1, h9.2.2⟩) (fun e G' h9 => ⟨h9.1, h9.2⟩)
theorem SI.flush2 {er : Int} {rs : List Int} (h : SI ser (smp.map (·.1)) rs er) : SI ser ((smp.filter (kept t)).map (·.1)) [] 0 := by
  have h1 := h.flush (t := t)
  refine ⟨h1.1, h1.2.1, h1.2.2.1, fun q hq => ?_, h1.2.2.2.2.1, fun r hr => (List.not_mem_nil hr).elim⟩
  have h2 := h1.2.2.2.1 q hq
  obtain ⟨p, hp, rfl⟩ := List.mem_map.mp hq
  have hk := (List.mem_filter.mp hp).2
  unfold kept at hk
  rw [Bool.and_eq_true] at hk
  have := of_decide_eq_true hk.1
  exact ⟨h2.1, h2.2.1, h2.2.2.1, by omega, by omega⟩
theorem DI.flush2 (hi : DI d) : DI (flushD2 d) := by
  have hb := hi.2.2.2.2.2.2.2.2.2.2.2.2.1
  refine hi.store hi.1.flush2 ⟨rfl, rfl, rfl⟩ hi.2.1 (Int.le_refl 0) ⟨hb.1, hb.2.1, Nat.zero_le _⟩ (fun c hc => ?_)
  have e : seeT c (((dSmp d).filter (kept (dN d 0 - dN d 1))).map (·.1)) = [] := by
    rw [List.eq_nil_iff_forall_not_mem]
    intro y hy
    obtain ⟨q, hq, ho, -⟩ := seeT_mem.mp hy
    have h9 := (hi.1.flush2 (t := dN d 0 - dN d 1)).2.2.2.1 q hq
    rw [(own_iff.mp ho).2] at h9
    exact hc h9.1
  show pack (seeT c (((dSmp d).filter (kept (dN d 0 - dN d 1))).map (·.1))) = []
  rw [e]; rfl
theorem om_flush (h : MH E G m d ml mr) (hi : DI d) : Ok E M_X12_flush [rv m] G c s (MqR E G m (cFlush2 d) tA ml mr) (fun _ _ => False) := by
  refine i_X12_flush ⟨h.k13, fun G2 e2 => ?_⟩
  obtain ⟨k1, k2⟩ := h.thr 0
  rw [← e2] at k1 k2
  have hm := k1.1
  have hS2 := hm.2.2.2.1
  have hfl : ((dSmp d).filter (kept (dN d 0 - dN d 1))).length ≤ (dSmp d).length := List.length_filter_le _ _
  have c0 : CpS E G2 G2 m := ⟨hm.ru, fun _ => rfl, fun _ => rfl⟩
  refine v_compact hm hi (fun Ga ca hE => ?_) (dSmp d).length 0 G2 (Nat.zero_add _) c0 (fun i hi9 => absurd hi9 (Nat.not_lt_zero i)) (fun i _ h8 => hS2.2.2.2 i h8)
  refine ⟨ca.1.1.1, fun G4 e4 => ⟨by rw [e4]; exact ca.1.1.1, fun G6 e6 => ⟨by rw [e6, e4]; exact ca.1.1.1, fun G8 e8 => ⟨by rw [e8, e6, e4]; exact ca.1.1.1, fun G10 e10 => ?_⟩⟩⟩⟩
  have kA : MU E G2 G10 m (fun k => (7 ≤ k ∧ k ≤ 12) ∨ k = 14 ∨ k = 15 ∨ k = 19) := by
    rw [e10, e8, e6, e4]
    have a0 : MU E G2 Ga m (fun k => (7 ≤ k ∧ k ≤ 12) ∨ k = 14 ∨ k = 15 ∨ k = 19) := ca.1.mono (fun k h9 => Or.inl ⟨h9.1, by omega⟩)
    have a1 : MU E G2 (sfd Ga 12 12 m ((dSmp d).filter (kept (dN d 0 - dN d 1))).length) m (fun k => (7 ≤ k ∧ k ≤ 12) ∨ k = 14 ∨ k = 15 ∨ k = 19) := a0.mSfd (k := 12) (by decide) (Or.inl ⟨by decide, by decide⟩)
    have a2 := a1.mSfd (k := 14) (v := 0) (by decide) (Or.inr (Or.inl rfl))
    have a3 := a2.mSfd (k := 15) (v := 0) (by decide) (Or.inr (Or.inr (Or.inl rfl)))
    exact a3.mSfd (k := 19) (v := 0) (by decide) (Or.inr (Or.inr (Or.inr rfl)))
  have ftop : ∀ k, k ≠ 12 → k ≠ 14 → k ≠ 15 → k ≠ 19 → gfd G10 12 k m = gfd G2 12 k m := fun k a1 a2 a3 a4 => by
    rw [e10, gfd_sfd, if_neg (fun h9 => a4 h9.2.1), e8, gfd_sfd, if_neg (fun h9 => a3 h9.2.1), e6, gfd_sfd, if_neg (fun h9 => a2 h9.2.1), e4, gfd_sfd, if_neg (fun h9 => a1 h9.2.1)]
    exact ca.2.1 k
  have etop : ∀ y i, gel G10 y i = gel Ga y i := fun y i => by rw [e10, e8, e6, e4]; rfl
  have ltop : ∀ y, gln G10 y = gln G2 y := fun y => by rw [e10, e8, e6, e4]; exact ca.2.2 y
  have f12 : gfd G10 12 12 m = ((dSmp d).filter (kept (dN d 0 - dN d 1))).length := by
    rw [e10, gfd_sfd, if_neg (by omega), e8, gfd_sfd, if_neg (by omega), e6, gfd_sfd, if_neg (by omega), e4, gfd_sfd, if_pos ⟨rfl, rfl, rfl⟩]
  have f14 : gfd G10 12 14 m = 0 := by rw [e10, gfd_sfd, if_neg (by omega), e8, gfd_sfd, if_neg (by omega), e6, gfd_sfd, if_pos ⟨rfl, rfl, rfl⟩]
  have f15 : gfd G10 12 15 m = 0 := by rw [e10, gfd_sfd, if_neg (by omega), e8, gfd_sfd, if_pos ⟨rfl, rfl, rfl⟩]
  have f19 : gfd G10 12 19 m = 0 := by rw [e10, gfd_sfd, if_pos ⟨rfl, rfl, rfl⟩]
  have hS10 : MSm G10 m (dSer d) ((dSmp d).filter (kept (dN d 0 - dN d 1))) ml := by
    obtain ⟨h1, h2, h3, h4⟩ := hS2
    refine ⟨f12, ⟨by omega, h2.2⟩, ?_, fun k hk => ?_⟩
    · rw [ftop 7 (by decide) (by decide) (by decide) (by decide), ftop 8 (by decide) (by decide) (by decide) (by decide), ftop 9 (by decide) (by decide) (by decide) (by decide), ftop 10 (by decide) (by decide) (by decide) (by decide), ftop 11 (by decide) (by decide) (by decide) (by decide), ltop, ltop, ltop, ltop, ltop]
      exact h3
    · have := hE k hk
      unfold ElM at this
      rw [ca.2.1, ca.2.1, ca.2.1, ca.2.1, ca.2.1] at this
      rw [ftop 7 (by decide) (by decide) (by decide) (by decide), ftop 8 (by decide) (by decide) (by decide) (by decide), ftop 9 (by decide) (by decide) (by decide) (by decide), ftop 10 (by decide) (by decide) (by decide) (by decide), ftop 11 (by decide) (by decide) (by decide) (by decide), etop, etop, etop, etop, etop]
      exact this
  have hSI := hi.1.flush2 (t := dN d 0 - dN d 1)
  have hser := hm.2.2.1.mt kA.2.2.2.2.2 ⟨by omega, by omega, by omega, by omega⟩
  have hbas : Basic (((dSmp d).filter (kept (dN d 0 - dN d 1))).map (·.1)) := hSI.2.2.2.2.1
  have hsx : ∀ i : Nat, i < (dSer d).length → SX E G10 m i ((dSer d).getD i 0) ((dSmp d).filter (kept (dN d 0 - dN d 1))) := fun i hi9 => by
    obtain ⟨g1, g2, ⟨g7, g8, g9, g10, g11⟩, g3⟩ := id hS10
    refine ⟨kA.1, ?_, g1, ?_, fun q hq => ⟨(hSI.2.2.2.1 q hq).2.1.1, (hSI.2.2.2.1 q hq).2.1.2, (hSI.2.2.2.1 q hq).2.2.1⟩, hbas⟩
    · unfold MSa; omega
    · have := hS10.ownx hSI.1 (s9 := (i : Int)) ⟨by omega, by omega⟩
      rw [Int.toNat_natCast] at this
      exact this
  have h12 := hSI.2.1
  have x16 := kA.1.fx 16 15 600
  refine v_series (G0 := G10) (ser := dSer d) (smp := (dSmp d).filter (kept (dN d 0 - dN d 1))) hSI.1 h12 hSI.2.2.1 (fun q hq => (hSI.2.2.2.1 q hq).1) hser.1 hsx hbas (fun G' kG hB => ?_) (dSer d).length 0 G10 (Nat.zero_add _) (MU.refl kA.1 kA.2.1 kA.2.2.1.1) ⟨f19, Nat.zero_le _, fun j hj => absurd hj (Nat.not_lt_zero j)⟩
  have tG := kG.2.2.2.2.2
  have kt := kA.2.2.2.2.2
  have ebl : mBl (dSer d) (fun c => pack (seeT c (((dSmp d).filter (kept (dN d 0 - dN d 1))).map (·.1)))) = bkU (dSer d) (((dSmp d).filter (kept (dN d 0 - dN d 1))).map (·.1)) (dSer d).length := rfl
  have esum : (bkU (dSer d) (((dSmp d).filter (kept (dN d 0 - dN d 1))).map (·.1)) (dSer d).length).length = ((dSer d).map fun c => (pack (seeT c (((dSmp d).filter (kept (dN d 0 - dN d 1))).map (·.1)))).length).sum := by
    have key : ∀ n : Nat, n ≤ (dSer d).length → (bkU (dSer d) (((dSmp d).filter (kept (dN d 0 - dN d 1))).map (·.1)) n).length = (((dSer d).take n).map fun c => (pack (seeT c (((dSmp d).filter (kept (dN d 0 - dN d 1))).map (·.1)))).length).sum := by
      intro n
      induction n with
      | zero => intro _; rfl
      | succ n ih =>
        intro hn
        rw [bkU_succ, List.length_append, List.length_map, ih (by omega), takeS (d := 0) (by omega), List.map_append, List.sum_append]; rfl
    rw [key _ (Nat.le_refl _), List.take_length]
  refine MqR.ok (((tG.f 0 (by omega)).trans (kt.f 0 (by omega))).trans k2) rfl (by rw [esum]) ⟨⟨⟨kG.1, kG.2.1, kG.2.2.1.1⟩, ?_, hser.mt tG ⟨by omega, by omega, by omega, by omega⟩, hS10.mt tG ⟨by omega, by omega, by omega, by omega, by omega, by omega⟩, ⟨(tG.f 14 (by omega)).trans f14, ⟨by have := hm.2.2.2.2.1.2.1; show ((0 : Nat) : Int) ≤ mr; omega, hm.2.2.2.2.1.2.1.2⟩, (tG.l 13 (by omega)).trans ((kt.l 13 (by omega)).trans hm.2.2.2.2.1.2.2.1), fun j hj => absurd hj (Nat.not_lt_zero j)⟩, hB, (hm.2.2.2.2.2.2.1.mt kt (by omega)).mt tG (by omega), (hm.2.2.2.2.2.2.2.1.mt kt ⟨by omega, by omega⟩).mt tG ⟨by omega, by omega⟩, (hm.2.2.2.2.2.2.2.2.1.mt kt ⟨by omega, by omega, by omega, by omega, by omega, by omega, by omega, by omega⟩).mt tG ⟨by omega, by omega, by omega, by omega, by omega, by omega, by omega, by omega⟩, (hm.2.2.2.2.2.2.2.2.2.1.mt kt ⟨by omega, by omega, by omega, by omega, by omega, by omega⟩).mt tG ⟨by omega, by omega, by omega, by omega, by omega, by omega⟩, (hm.2.2.2.2.2.2.2.2.2.2.1.mt kt ⟨by omega, by omega, by omega⟩).mt tG ⟨by omega, by omega, by omega⟩, (hm.2.2.2.2.2.2.2.2.2.2.2.1.mt kt ⟨by omega, by omega⟩).mt tG ⟨by omega, by omega⟩, (hm.2.2.2.2.2.2.2.2.2.2.2.2.mt kt (by omega)).mt tG (by omega)⟩, k1.2.trans ((kA.mono (fun _ _ => trivial)).trans (kG.mono (fun _ _ => trivial)))⟩
  exact ⟨(tG.f 1 (by omega)).trans ((kt.f 1 (by omega)).trans hm.2.1.1), (tG.f 2 (by omega)).trans ((kt.f 2 (by omega)).trans hm.2.1.2.1), (tG.f 48 (by omega)).trans ((kt.f 48 (by omega)).trans hm.2.1.2.2.1), (tG.f 15 (by omega)).trans f15, (tG.f 46 (by omega)).trans ((kt.f 46 (by omega)).trans hm.2.1.2.2.2.2)⟩
end Sa36
