/-! the model's small calls -/
section Sa22
variable {E : EE} {G G' G2 : Gt} {c s bc bs : Nat} {Q X : Int → Gt → Prop} {a i v q m x ml mr u l t w z o two wt9 kp : Int} {k j : Nat} {T T' : Nat → Prop} {d d' : DS}
theorem om_retain (h : MH E G m d ml mr) : Ok E M_X12_retain [rv m, iv t] G c s (MqR E G m (cRetain d t) tA ml mr) (fun _ _ => False) := by
  refine i_X12_retain ⟨okp_in, h.k13, fun G4 e4 => ?_⟩
  by_cases hr : 1 ≤ t ∧ t ≤ 100000
  · rw [if_neg (fun h9 => wIn0.mp h9 hr)] at e4
    obtain ⟨k1, k2⟩ := h.thr 0
    rw [← e4] at k1 k2
    refine ⟨k1.1.k13, fun _ => ⟨k1.1.k13, k1.1.k13, fun G9 e9 => ?_⟩, fun h9 => by omega⟩
    have kk : MU E G4 G9 m (fun k => k = 2) := by rw [e9]; exact k1.1.ru.mSfd (by decide) rfl
    have kt := kk.2.2.2.2.2
    have hm := k1.1
    rw [cRetain, if_pos hr]
    refine MqR.ok (by rw [kt.f 0 (by omega)]; exact k2) rfl hm.2.1.2.1 ⟨⟨⟨kk.1, kk.2.1, kk.2.2.1.1⟩, ?_, hm.2.2.1.mt kt ⟨by omega, by omega, by omega, by omega⟩, hm.2.2.2.1.mt kt ⟨by omega, by omega, by omega, by omega, by omega, by omega⟩, hm.2.2.2.2.1.mt kt ⟨by omega, by omega⟩, hm.2.2.2.2.2.1.mt kt ⟨by omega, by omega, by omega, by omega⟩, hm.2.2.2.2.2.2.1.mt kt (by omega), hm.2.2.2.2.2.2.2.1.mt kt ⟨by omega, by omega⟩, hm.2.2.2.2.2.2.2.2.1.mt kt ⟨by omega, by omega, by omega, by omega, by omega, by omega, by omega, by omega⟩, hm.2.2.2.2.2.2.2.2.2.1.mt kt ⟨by omega, by omega, by omega, by omega, by omega, by omega⟩, hm.2.2.2.2.2.2.2.2.2.2.1.mt kt ⟨by omega, by omega, by omega⟩, hm.2.2.2.2.2.2.2.2.2.2.2.1.mt kt ⟨by omega, by omega⟩, hm.2.2.2.2.2.2.2.2.2.2.2.2.mt kt (by omega)⟩, k1.2.trans (kk.mono (fun _ _ => trivial))⟩
    exact ⟨(kt.f 1 (by omega)).trans hm.2.1.1, by rw [e9, gfd_sfd, if_pos ⟨rfl, rfl, rfl⟩]; rfl, (kt.f 48 (by omega)).trans hm.2.1.2.2.1, (kt.f 15 (by omega)).trans hm.2.1.2.2.2.1, (kt.f 46 (by omega)).trans hm.2.1.2.2.2.2⟩
  · rw [if_pos (wIn0.mpr hr)] at e4
    obtain ⟨k1, k2⟩ := h.thr 1
    rw [← e4] at k1 k2
    refine ⟨k1.1.k13, fun h9 => by omega, fun _ => ?_⟩
    rw [cRetain, if_neg hr]
    exact MqR.nok (by decide) k2 k1
theorem om_down (h : MH E G m d ml mr) (hd : dN d 4 = 0 ∨ dN d 4 = 1) (hv : v = 0 ∨ v = 1) : Ok E M_X12_down [rv m, iv v] G c s (MqR E G m (cDown d v) tA ml mr) (fun _ _ => False) := by
  refine i_X12_down ⟨h.k13, fun G2 e2 => ?_⟩
  obtain ⟨k1, k2⟩ := h.thr 0
  rw [← e2] at k1 k2
  have hm := k1.1
  refine ⟨hm.k13, hm.k13, hv, fun G6 e6 => ?_⟩
  have kk : MU E G2 G6 m (fun k => k = 48) := by rw [e6]; exact hm.ru.mSfd (by decide) rfl
  have kt := kk.2.2.2.2.2
  rw [hm.2.1.2.2.1]
  refine ⟨hd, MqR.ok (by rw [kt.f 0 (by omega)]; exact k2) rfl rfl ⟨⟨⟨kk.1, kk.2.1, kk.2.2.1.1⟩, ?_, hm.2.2.1.mt kt ⟨by omega, by omega, by omega, by omega⟩, hm.2.2.2.1.mt kt ⟨by omega, by omega, by omega, by omega, by omega, by omega⟩, hm.2.2.2.2.1.mt kt ⟨by omega, by omega⟩, hm.2.2.2.2.2.1.mt kt ⟨by omega, by omega, by omega, by omega⟩, hm.2.2.2.2.2.2.1.mt kt (by omega), hm.2.2.2.2.2.2.2.1.mt kt ⟨by omega, by omega⟩, hm.2.2.2.2.2.2.2.2.1.mt kt ⟨by omega, by omega, by omega, by omega, by omega, by omega, by omega, by omega⟩, hm.2.2.2.2.2.2.2.2.2.1.mt kt ⟨by omega, by omega, by omega, by omega, by omega, by omega⟩, hm.2.2.2.2.2.2.2.2.2.2.1.mt kt ⟨by omega, by omega, by omega⟩, hm.2.2.2.2.2.2.2.2.2.2.2.1.mt kt ⟨by omega, by omega⟩, hm.2.2.2.2.2.2.2.2.2.2.2.2.mt kt (by omega)⟩, k1.2.trans (kk.mono (fun _ _ => trivial))⟩⟩
  exact ⟨(kt.f 1 (by omega)).trans hm.2.1.1, (kt.f 2 (by omega)).trans hm.2.1.2.1, by rw [e6, gfd_sfd, if_pos ⟨rfl, rfl, rfl⟩]; rfl, (kt.f 15 (by omega)).trans hm.2.1.2.2.2.1, (kt.f 46 (by omega)).trans hm.2.1.2.2.2.2⟩
/-- one element of the counts of words -/
theorem wcnt {b : Nat} {n : Int} {ws : List Wd} (hs : MSh E G m) (h : gel G (gfd G 12 22 m) b = n) (hb : (b : Int) ≠ i) : gel (sel G (gfd G 12 22 m) i v) (gfd (sel G (gfd G 12 22 m) i v) 12 22 m) b = n := by
  show gel (sel G (gfd G 12 22 m) i v) (gfd G 12 22 m) b = n
  rw [gel_sel, if_neg (fun h9 => hb h9.2)]; exact h
theorem om_clear (h : MH E G m d ml mr) : Ok E M_X12_clear [rv m] G c s (MqR E G m (cClear d) tA ml mr) (fun _ _ => False) := by
  refine i_X12_clear ⟨h.k13, fun G2 e2 => ?_⟩
  obtain ⟨k1, k2⟩ := h.thr 0
  rw [← e2] at k1 k2
  have hm := k1.1
  have a22 := hm.1.1.fx 22 15 9
  refine ⟨hm.k13, a22.1, by omega, hm.k13, a22.1, by omega, fun G9 e9 => ?_⟩
  have kk : MU E G2 G9 m (fun k => k = 22) := by rw [e9]; exact hm.ru.mSel (by decide) rfl
  have kt := kk.2.2.2.2.2
  have e22 : gfd G9 12 22 m = gfd G2 12 22 m := by rw [e9]; rfl
  have eo : ∀ b : Nat, b ≠ 0 → gel G9 (gfd G9 12 22 m) b = gel G2 (gfd G2 12 22 m) b := fun b hb => by rw [e22, e9, gel_sel, if_neg (by omega)]
  have ez : gel G9 (gfd G9 12 22 m) 0 = 0 := by rw [e22, e9, gel_sel, if_pos ⟨rfl, rfl⟩]
  have f21 : ∀ i, gel G9 (gfd G9 12 21 m) i = gel G2 (gfd G2 12 21 m) i := kt.e 21 (by omega)
  refine MqR.ok (by rw [kt.f 0 (by omega)]; exact k2) rfl hm.2.2.2.2.2.2.2.1.1 ⟨⟨⟨kk.1, kk.2.1, kk.2.2.1.1⟩, hm.2.1.mt kt ⟨by omega, by omega, by omega, by omega, by omega⟩, hm.2.2.1.mt kt ⟨by omega, by omega, by omega, by omega⟩, hm.2.2.2.1.mt kt ⟨by omega, by omega, by omega, by omega, by omega, by omega⟩, hm.2.2.2.2.1.mt kt ⟨by omega, by omega⟩, hm.2.2.2.2.2.1.mt kt ⟨by omega, by omega, by omega, by omega⟩, hm.2.2.2.2.2.2.1.mt kt (by omega), ?_, ?_, hm.2.2.2.2.2.2.2.2.2.1.mt kt ⟨by omega, by omega, by omega, by omega, by omega, by omega⟩, hm.2.2.2.2.2.2.2.2.2.2.1.mt kt ⟨by omega, by omega, by omega⟩, hm.2.2.2.2.2.2.2.2.2.2.2.1.mt kt ⟨by omega, by omega⟩, hm.2.2.2.2.2.2.2.2.2.2.2.2.mt kt (by omega)⟩, k1.2.trans (kk.mono (fun _ _ => trivial))⟩
  · exact ⟨ez, Nat.zero_le _, fun k hk => absurd hk (Nat.not_lt_zero k)⟩
  · obtain ⟨r1, r2, r3, r4⟩ := hm.2.2.2.2.2.2.2.2.1
    refine ⟨(kt.f 23 (by omega)).trans r1, r2, fun r hr => ?_, fun r hr => (kt.e 28 (by omega) (by decide) _).trans (r4 r hr)⟩
    have r3' := r3 r hr
    rw [kt.e 24 (by omega), kt.e 25 (by omega), kt.e 26 (by omega), kt.e 27 (by omega)]
    refine ⟨r3'.1, r3'.2.1, r3'.2.2.1, (eo (r + 1) (by omega)).trans r3'.2.2.2.1, r3'.2.2.2.2.1, fun k hk => ?_⟩
    have := r3'.2.2.2.2.2 k hk
    unfold WdM at this ⊢
    simp only [f21]
    exact this
theorem thr_tB {b1 b2 : Prop} [Decidable b1] [Decidable b2] : (if b1 then (if b2 then (0 : Int) else 2) else 1) = 0 ↔ b1 ∧ b2 := by
  by_cases h1 : b1
  · by_cases h2 : b2
    · rw [if_pos h1, if_pos h2]; exact ⟨fun _ => ⟨h1, h2⟩, fun _ => rfl⟩
    · rw [if_pos h1, if_neg h2]; exact ⟨fun h9 => absurd h9 (by decide), fun h9 => (h2 h9.2).elim⟩
  · rw [if_neg h1]; exact ⟨fun h9 => absurd h9 (by decide), fun h9 => (h1 h9.1).elim⟩
theorem mSel_slT {sl : List (Int × Int × Int)} (h : MSl G m sl) (hi : 0 ≤ i ∧ i < 4) (n : Int) : mSel G m i n = mIn (sl.getD i.toNat s0).1 (sl.getD i.toNat s0).2.1 (sl.getD i.toNat s0).2.2 (mCode G m n) := by
  have := h i.toNat (by omega)
  rw [Int.toNat_of_nonneg hi.1] at this
  unfold mSel
  rw [this.1, this.2.1, this.2.2]
/-! bits: the model's test of a set is the class's -/
theorem bit_eq : ∀ (z : Nat), z < 128 → ∀ k : Nat, k < 10 → and32 (shr32 z k) 1 = and32 (ushr32 z k) 1 ∧ (and32 (ushr32 z k) 1 = 0 ∨ and32 (ushr32 z k) 1 = 1) := by decide +kernel
theorem and_one (x y : Int32) : (x &&& y) &&& 1 = (x &&& 1) &&& (y &&& 1) := by
  refine Int32.toBitVec_inj.mp ?_
  simp only [Int32.toBitVec_and]
  refine BitVec.eq_of_getLsbD_eq fun i hi => ?_
  simp only [BitVec.getLsbD_and]
  cases x.toBitVec.getLsbD i <;> cases y.toBitVec.getLsbD i <;> cases (1 : Int32).toBitVec.getLsbD i <;> rfl
theorem and32_one (a b : Int) : and32 (and32 a b) 1 = and32 (and32 a 1) (and32 b 1) := by
  unfold and32
  have e : Int32.ofInt 1 = (1 : Int32) := rfl
  rw [Int32.ofInt_toInt, Int32.ofInt_toInt, Int32.ofInt_toInt, e, and_one]
theorem and32_01 {a b : Int} (ha : a = 0 ∨ a = 1) (hb : b = 0 ∨ b = 1) : and32 a b = 1 ↔ a = 1 ∧ b = 1 := by
  rcases ha with rfl | rfl <;> rcases hb with rfl | rfl <;> decide
theorem sel_eq {z o t : Int} (hq : setOk (z, o, t)) (hl : 0 ≤ l ∧ l ≤ 999) : mIn z o t l = slV z o t l := by
  have hz : 0 ≤ z ∧ z ≤ 127 := hq.1
  have ho : 0 ≤ o ∧ o ≤ 127 := hq.2.1
  have ht : 0 ≤ t ∧ t ≤ 127 := hq.2.2
  have d0 : Int.tdiv l 100 = l / 100 := Int.tdiv_eq_ediv_of_nonneg hl.1
  have d1 : Int.tmod (Int.tdiv l 10) 10 = l / 10 % 10 := by rw [Int.tdiv_eq_ediv_of_nonneg hl.1, Int.tmod_eq_emod_of_nonneg (by omega)]
  have d2 : Int.tmod l 10 = l % 10 := Int.tmod_eq_emod_of_nonneg hl.1
  have bit : ∀ z k : Int, (0 ≤ z ∧ z ≤ 127) → (0 ≤ k ∧ k ≤ 9) → and32 (shr32 z k) 1 = and32 (ushr32 z k) 1 ∧ (and32 (ushr32 z k) 1 = 0 ∨ and32 (ushr32 z k) 1 = 1) := fun z k h1 h2 => by
    have := bit_eq z.toNat (by omega) k.toNat (by omega)
    rw [Int.toNat_of_nonneg h1.1, Int.toNat_of_nonneg h2.1] at this
    exact this
  unfold mIn slV
  rw [d0, d1, d2]
  obtain ⟨b1, c1⟩ := bit z (l / 100) hz ⟨by omega, by omega⟩
  obtain ⟨b2, c2⟩ := bit o (l / 10 % 10) ho ⟨by omega, by omega⟩
  obtain ⟨b3, c3⟩ := bit t (l % 10) ht ⟨by omega, by omega⟩
  rw [b1, b2, b3, and32_one, and32_one]
  have e1 := and32_01 c1 c2
  have c12 : and32 (and32 (ushr32 z (l / 100)) 1) (and32 (ushr32 o (l / 10 % 10)) 1) = 0 ∨ and32 (and32 (ushr32 z (l / 100)) 1) (and32 (ushr32 o (l / 10 % 10)) 1) = 1 := by
    rcases c1 with h1 | h1 <;> rcases c2 with h2 | h2 <;> rw [h1, h2] <;> decide
  have e2 := and32_01 c12 c3
  rw [e1] at e2
  by_cases hh : and32 (and32 (and32 (ushr32 z (l / 100)) 1) (and32 (ushr32 o (l / 10 % 10)) 1)) (and32 (ushr32 t (l % 10)) 1) = 1
  · rw [if_pos hh, if_pos ⟨(e2.mp hh).1.1, (e2.mp hh).1.2, (e2.mp hh).2⟩]
  · rw [if_neg hh, if_neg (fun h9 => hh (e2.mpr ⟨⟨h9.1, h9.2.1⟩, h9.2.2⟩))]
/-- whether a set selects a series -/
theorem MH.msel (h : MH E G m d ml mr) (hi : DI d) (h0 : 0 ≤ i ∧ i < 4) {n : Nat} (hn : n < (dSer d).length) : mSel G m i n = slV (selD d i).1 (selD d i).2.1 (selD d i).2.2 ((dSer d).getD n 0) ∧ (mSel G m i (n : Int) = 0 ↔ slT (selD d i) ((dSer d).getD n 0) = false) ∧ (mSel G m i (n : Int) = 0 ∨ mSel G m i (n : Int) = 1) := by
  have hc := hi.1.2.2.1 _ (getD_mem' (v := 0) hn)
  have hs := selD_ok hi h0
  have e : mSel G m i n = slV (selD d i).1 (selD d i).2.1 (selD d i).2.2 ((dSer d).getD n 0) := by
    rw [mSel_slT h.2.2.2.2.2.2.1 h0, h.lb.2 n (by omega) (by omega)]
    show mIn (selD d i).1 (selD d i).2.1 (selD d i).2.2 ((dSer d).getD ((n : Int)).toNat 0) = _
    rw [Int.toNat_natCast]
    exact sel_eq hs ⟨hc.1, by have := hc.2.1; omega⟩
  refine ⟨e, ?_, mIn01 _ _ _ _⟩
  rw [e]
  unfold slT
  constructor
  · intro h9; rw [decide_eq_false (fun h8 => h8 h9)]
  · intro h9; exact Classical.byContradiction fun h8 => by rw [decide_eq_true h8] at h9; cases h9
/-- the count of selected series -/
theorem v_mselect (h : MH E G m d ml mr) (hi : DI d) (h0 : 0 ≤ i ∧ i < 4) : ∀ (n j : Nat) (y : Int), j + n = (dSer d).length → 0 ≤ y ∧ y ≤ j → Q (y + ((dSer d).drop j).countP (slT (selD d i))) G → V E M_X12_select 100 [some (rv m), some (iv i), none, none, none, some (iv y), some (iv (j : Int))] [] G c s Q X := by
  have h12 := h.sr6
  intro n
  induction n with
  | zero =>
    intro j y hj hy hq
    rw [List.drop_eq_nil_of_le (by omega), List.countP_nil] at hq
    have e : y + ((0 : Nat) : Int) = y := by omega
    rw [e] at hq
    exact b_X12_select_100 ⟨h.k13, fun _ => hq, fun h9 => by omega⟩
  | succ n ih =>
    intro j y hj hy hq
    have hlt : j < (dSer d).length := by omega
    obtain ⟨k1, k2, k3⟩ := h.msel hi h0 hlt
    refine b_X12_select_100 ⟨h.k13, fun h9 => by omega, fun _ => ⟨h.k13, okp_isSelected h.1.1 h.lb.1 ⟨h0.1, by omega⟩ (by omega) (by omega), ?_⟩⟩
    have hs : (if mSel G m i (j : Int) = 0 then (0 : Int) else 1) = if slT (selD d i) ((dSer d).getD j 0) = true then 1 else 0 := by
      by_cases hz : mSel G m i (j : Int) = 0
      · rw [if_pos hz, if_neg (by rw [k2.mp hz]; decide)]
      · rw [if_neg hz, if_pos (by
          cases hb : slT (selD d i) ((dSer d).getD j 0) with
          | true => rfl
          | false => exact (hz (k2.mpr hb)).elim)]
    rw [hs]
    refine ⟨i32s' (by split <;> omega), i32s' (by omega), ?_⟩
    refine ih (j + 1) _ (by omega) (by split <;> omega) ?_
    rw [dropG 0 hlt, List.countP_cons] at hq
    have e : y + ((((dSer d).drop (j + 1)).countP (slT (selD d i)) + if slT (selD d i) ((dSer d).getD j 0) = true then 1 else 0 : Nat) : Int) = y + (if slT (selD d i) ((dSer d).getD j 0) = true then 1 else 0) + (((dSer d).drop (j + 1)).countP (slT (selD d i)) : Nat) := by split <;> omega
    rw [e] at hq
    exact hq
theorem om_select (h : MH E G m d ml mr) (hi : DI d) : Ok E M_X12_select [rv m, iv i, iv z, iv o, iv t] G c s (MqR E G m (cSelect d i z o t) tB ml mr) (fun _ _ => False) := by
  refine i_X12_select ⟨okp_in, fun _ => okp_in, fun _ _ => okp_in, fun _ _ _ => okp_in, h.k13, fun G10 e10 => ?_⟩
  by_cases hr : 0 ≤ i ∧ i < 4
  · rw [if_neg (fun h9 => wIn0.mp h9 ⟨hr.1, by omega⟩)] at e10
    by_cases hs : (0 ≤ z ∧ z ≤ 127) ∧ (0 ≤ o ∧ o ≤ 127) ∧ (0 ≤ t ∧ t ≤ 127)
    · rw [if_neg (fun h9 => wIn0.mp h9 hs.1), if_neg (fun h9 => wIn0.mp h9 hs.2.1), if_neg (fun h9 => wIn0.mp h9 hs.2.2)] at e10
      obtain ⟨k1, k2⟩ := h.thr 0
      rw [← e10] at k1 k2
      have hm := k1.1
      have a20 := hm.1.1.fx 20 15 12
      refine ⟨hm.k13, fun _ => ⟨hm.k13, i32s' (by omega), a20.1, by omega, by omega, fun G18 e18 => ?_⟩, fun h9 => by omega⟩
      have kA : MU E G10 G18 m (fun k => k = 20) := by rw [e18]; exact hm.ru.mSel (by decide) rfl
      have c18 := kA.1.fx 20 15 12
      refine ⟨kA.1.1, i32s' (by omega), i32s' (by omega), c18.1, by omega, by omega, fun G25 e25 => ?_⟩
      have kB : MU E G10 G25 m (fun k => k = 20) := by rw [e25]; exact kA.mSel (by decide) rfl
      have c25 := kB.1.fx 20 15 12
      refine ⟨kB.1.1, i32s' (by omega), i32s' (by omega), c25.1, by omega, by omega, fun G32 e32 => ?_⟩
      have kC : MU E G10 G32 m (fun k => k = 20) := by rw [e32]; exact kB.mSel (by decide) rfl
      have kt := kC.2.2.2.2.2
      have e20 : gfd G32 12 20 m = gfd G10 12 20 m := by rw [e32, e25, e18]; rfl
      have el : ∀ j : Int, gel G32 (gfd G32 12 20 m) j = if j = 3 * i + 2 then t else if j = 3 * i + 1 then o else if j = 3 * i then z else gel G10 (gfd G10 12 20 m) j := fun j => by
        rw [e20, e32, gel_sel, e25, gel_sel, e18, gel_sel]
        have x1 : gfd (sel (sel G10 (gfd G10 12 20 m) (3 * i) z) (gfd (sel G10 (gfd G10 12 20 m) (3 * i) z) 12 20 m) (3 * i + 1) o) 12 20 m = gfd G10 12 20 m := rfl
        have x2 : gfd (sel G10 (gfd G10 12 20 m) (3 * i) z) 12 20 m = gfd G10 12 20 m := rfl
        rw [x1, x2]
        simp only [true_and]
      have hsl : MSl G32 m ((dSel d).set i.toNat (z, o, t)) := fun n hn => by
        have hlen : (dSel d).length = 4 := hi.2.2.2.2.2.1.1
        rw [setDT (by omega), el, el, el]
        by_cases hni : n = i.toNat
        · rw [if_pos hni, if_neg (by omega), if_neg (by omega), if_pos (by omega), if_neg (by omega), if_pos (by omega), if_pos (by omega)]
          exact ⟨rfl, rfl, rfl⟩
        · have hne : (n : Int) ≠ i := by omega
          rw [if_neg hni, if_neg (by omega), if_neg (by omega), if_neg (by omega), if_neg (by omega), if_neg (by omega), if_neg (by omega), if_neg (by omega), if_neg (by omega), if_neg (by omega)]
          exact hm.2.2.2.2.2.2.1 n hn
      have hM : MH E G32 m (selectD d i (z, o, t)) ml mr := ⟨⟨kC.1, kC.2.1, kC.2.2.1.1⟩, hm.2.1.mt kt ⟨by omega, by omega, by omega, by omega, by omega⟩, hm.2.2.1.mt kt ⟨by omega, by omega, by omega, by omega⟩, hm.2.2.2.1.mt kt ⟨by omega, by omega, by omega, by omega, by omega, by omega⟩, hm.2.2.2.2.1.mt kt ⟨by omega, by omega⟩, hm.2.2.2.2.2.1.mt kt ⟨by omega, by omega, by omega, by omega⟩, hsl, hm.2.2.2.2.2.2.2.1.mt kt ⟨by omega, by omega⟩, hm.2.2.2.2.2.2.2.2.1.mt kt ⟨by omega, by omega, by omega, by omega, by omega, by omega, by omega, by omega⟩, hm.2.2.2.2.2.2.2.2.2.1.mt kt ⟨by omega, by omega, by omega, by omega, by omega, by omega⟩, hm.2.2.2.2.2.2.2.2.2.2.1.mt kt ⟨by omega, by omega, by omega⟩, hm.2.2.2.2.2.2.2.2.2.2.2.1.mt kt ⟨by omega, by omega⟩, hm.2.2.2.2.2.2.2.2.2.2.2.2.mt kt (by omega)⟩
      refine v_mselect hM (hi.select ⟨hs.1, hs.2.1, hs.2.2⟩) hr _ 0 0 (Nat.zero_add _) (by decide) ?_
      have esel : selD (selectD d i (z, o, t)) i = (z, o, t) := by
        show ((dSel d).set i.toNat (z, o, t)).getD i.toNat s0 = _
        rw [setDT (by rw [hi.2.2.2.2.2.1.1]; omega), if_pos rfl]
      rw [esel, List.drop_zero, Int.zero_add, cSelect, if_pos hr, if_pos hs]
      exact MqR.ok (by rw [kt.f 0 (by omega)]; exact k2) rfl rfl ⟨hM, k1.2.trans (kC.mono (fun _ _ => trivial))⟩
    · have e0 : (if wIn z 0 127 = 0 then (2 : Int) else if wIn o 0 127 = 0 then 2 else if wIn t 0 127 = 0 then 2 else 0) = 2 := by
        by_cases h1 : wIn z 0 127 = 0
        · rw [if_pos h1]
        · by_cases h2 : wIn o 0 127 = 0
          · rw [if_neg h1, if_pos h2]
          · rw [if_neg h1, if_neg h2, if_pos (wIn0.mpr (fun h9 => hs ⟨wInY h1, wInY h2, h9⟩))]
      rw [e0] at e10
      obtain ⟨k1, k2⟩ := h.thr 2
      rw [← e10] at k1 k2
      refine ⟨k1.1.k13, fun h9 => by omega, fun _ => ?_⟩
      rw [cSelect, if_pos hr, if_neg hs]
      exact MqR.nok (by decide) k2 k1
  · rw [if_pos (wIn0.mpr (fun h9 => hr ⟨h9.1, by omega⟩))] at e10
    obtain ⟨k1, k2⟩ := h.thr 1
    rw [← e10] at k1 k2
    refine ⟨k1.1.k13, fun h9 => by omega, fun _ => ?_⟩
    rw [cSelect, if_neg hr]
    exact MqR.nok (by decide) k2 k1
end Sa22
