/-! the model's silences and words -/
section Sa24
variable {E : EE} {G G' G2 : Gt} {c s bc bs : Nat} {Q X : Int → Gt → Prop} {a i v q m x ml mr u t w z o two wt9 kp f e p : Int} {k j b : Nat} {T T' : Nat → Prop} {d d' : DS} {es : List En} {ws : List Wd} {rl : List Rl}
theorem om_silence (h : MH E G m d ml mr) (hi : DI d) : Ok E M_X12_silence [rv m, iv i, iv u] G c s (MqR E G m (cSilence d i u) tB ml mr) (fun _ _ => False) := by
  have e45 := h.2.2.2.2.2.2.2.2.2.2.2.1.1
  have h10 := h.2.2.2.2.2.2.2.2.2.2.2.1.2.1
  refine i_X12_silence ⟨okp_in, fun _ => okp_in, fun _ _ => h.k13, h.k13, fun G8 e8 => ?_⟩
  rw [e45] at e8
  by_cases hr : 0 ≤ i ∧ i < 4
  · rw [if_neg (fun h9 => wIn0.mp h9 ⟨hr.1, by omega⟩)] at e8
    by_cases hu : 0 ≤ u ∧ u ≤ 100000
    · rw [if_neg (fun h9 => wIn0.mp h9 hu)] at e8
      by_cases hl : (dSil d).length < 10
      · rw [if_neg (by omega)] at e8
        obtain ⟨k1, k2⟩ := h.thr 0
        rw [← e8] at k1 k2
        have hm := k1.1
        have c20 := hm.1.1.fx 20 15 12
        have c44 := hm.1.1.fx 44 15 40
        have e45' : gfd G8 12 45 m = (dSil d).length := hm.2.2.2.2.2.2.2.2.2.2.2.1.1
        refine ⟨hm.k13, fun _ => ?_, fun h9 => by omega⟩
        refine b_X12_silence_56 ⟨fun h9 => by omega, fun _ => ⟨hm.k13, hm.k13, i32s' (by omega), i32s' (by omega), hm.k13, i32s' (by omega), i32s' (by omega), c20.1, by omega, by omega, c44.1, by omega, by omega, fun Ga ea => ⟨i32s' (by omega), ?_⟩⟩⟩
        have kA : MU E G8 Ga m (fun k => k = 44) := by rw [ea]; exact hm.ru.mSel (by decide) rfl
        have tA' := kA.2.2.2.2.2
        have a20 := kA.1.fx 20 15 12
        have a44 := kA.1.fx 44 15 40
        have a45 : gfd Ga 12 45 m = (dSil d).length := (tA'.f 45 (by omega)).trans e45'
        refine b_X12_silence_56 ⟨fun h9 => by omega, fun _ => ⟨kA.1.1, kA.1.1, i32s' (by omega), i32s' (by omega), kA.1.1, i32s' (by omega), i32s' (by omega), a20.1, by omega, by omega, a44.1, by omega, by omega, fun Gb eb' => ⟨i32s' (by omega), ?_⟩⟩⟩
        have kB : MU E G8 Gb m (fun k => k = 44) := by rw [eb']; exact kA.mSel (by decide) rfl
        have tB' := kB.2.2.2.2.2
        have b20 := kB.1.fx 20 15 12
        have b44 := kB.1.fx 44 15 40
        have b45 : gfd Gb 12 45 m = (dSil d).length := (tB'.f 45 (by omega)).trans e45'
        refine b_X12_silence_56 ⟨fun h9 => by omega, fun _ => ⟨kB.1.1, kB.1.1, i32s' (by omega), i32s' (by omega), kB.1.1, i32s' (by omega), i32s' (by omega), b20.1, by omega, by omega, b44.1, by omega, by omega, fun Gc ec => ⟨i32s' (by omega), ?_⟩⟩⟩
        have kC : MU E G8 Gc m (fun k => k = 44) := by rw [ec]; exact kB.mSel (by decide) rfl
        have tC' := kC.2.2.2.2.2
        have c44' := kC.1.fx 44 15 40
        have c45 : gfd Gc 12 45 m = (dSil d).length := (tC'.f 45 (by omega)).trans e45'
        refine b_X12_silence_56 ⟨fun _ => ⟨kC.1.1, kC.1.1, i32s' (by omega), i32s' (by omega), c44'.1, by omega, by omega, fun G9 e9 => ?_⟩, fun h9 => by omega⟩
        have k9 : MU E G8 G9 m (fun k => k = 44 ∨ k = 45) := by rw [e9]; exact (kC.mono (fun _ h9 => Or.inl h9)).mSel (by decide) (Or.inl rfl)
        have e945 : gfd G9 12 45 m = (dSil d).length := by rw [e9]; exact c45
        refine ⟨k9.1.1, i32s' (by omega), k9.1.1, fun G13 e13 => ⟨by rw [e13]; exact k9.1.1, ?_⟩⟩
        have k13 : MU E G8 G13 m (fun k => k = 44 ∨ k = 45) := by rw [e13]; exact k9.mSfd (by decide) (Or.inr rfl)
        have kt := k13.2.2.2.2.2
        have f45 : gfd G13 12 45 m = ((dSil d).length : Int) + 1 := by rw [e13, gfd_sfd, if_pos ⟨rfl, rfl, rfl⟩, e945]
        have f44 : gfd G13 12 44 m = gfd G8 12 44 m := by rw [e13, gfd_sfd, if_neg (by omega), e9]; show gfd Gc 12 44 m = _; rw [ec, eb', ea]; rfl
        have s20 := hm.2.2.2.2.2.2.1 i.toNat (by omega)
        rw [Int.toNat_of_nonneg hr.1] at s20
        have xa : gel Ga (gfd Ga 12 20 m) (3 * i + (0 + 1)) = gel G8 (gfd G8 12 20 m) (3 * i + 1) := by rw [tA'.e 20 (by omega)]; rfl
        have xb : gel Gb (gfd Gb 12 20 m) (3 * i + (0 + 1 + 1)) = gel G8 (gfd G8 12 20 m) (3 * i + 2) := by rw [tB'.e 20 (by omega)]; rfl
        have ga44 : gfd Ga 12 44 m = gfd G8 12 44 m := by rw [ea]; rfl
        have gb44 : gfd Gb 12 44 m = gfd G8 12 44 m := by rw [eb', ea]; rfl
        have gc44 : gfd Gc 12 44 m = gfd G8 12 44 m := by rw [ec, eb', ea]; rfl
        have el : ∀ j : Int, gel G13 (gfd G13 12 44 m) j = if j = 4 * (dSil d).length + 3 then u else if j = 4 * (dSil d).length + 2 then (selD d i).2.2 else if j = 4 * (dSil d).length + 1 then (selD d i).2.1 else if j = 4 * (dSil d).length then (selD d i).1 else gel G8 (gfd G8 12 44 m) j := fun j => by
          have x13 : gel G13 (gfd G13 12 44 m) j = gel G9 (gfd G8 12 44 m) j := by rw [f44, e13]; rfl
          rw [x13, e9, gel_sel, gc44, c45, ec, gel_sel, gb44, b45, xb, eb', gel_sel, ga44, a45, xa, ea, gel_sel, e45', s20.2.1, s20.2.2, show 3 * i + 0 = 3 * i by omega, s20.1]
          simp only [true_and, Int.add_zero, Int.zero_add]
          rfl
        have hsi : MSi G13 m (dSil d ++ [(selD d i, u)]) := by
          obtain ⟨m1, m2, m3⟩ := hm.2.2.2.2.2.2.2.2.2.2.2.1
          refine ⟨by rw [f45, List.length_append]; rfl, by rw [List.length_append]; show (dSil d).length + 1 ≤ 10; omega, fun n hn => ?_⟩
          rw [List.length_append] at hn
          have hn' : n < (dSil d).length + 1 := hn
          rw [appD hn', el, el, el, el]
          by_cases hni : n < (dSil d).length
          · rw [if_pos hni, if_neg (by omega), if_neg (by omega), if_neg (by omega), if_neg (by omega), if_neg (by omega), if_neg (by omega), if_neg (by omega), if_neg (by omega), if_neg (by omega), if_neg (by omega), if_neg (by omega), if_neg (by omega), if_neg (by omega), if_neg (by omega), if_neg (by omega), if_neg (by omega)]
            exact m3 n hni
          · rw [if_neg hni]
            refine ⟨?_, ?_, ?_, ?_⟩
            · rw [if_neg (by omega), if_neg (by omega), if_neg (by omega), if_pos (by omega)]
            · rw [if_neg (by omega), if_neg (by omega), if_pos (by omega)]
            · rw [if_neg (by omega), if_pos (by omega)]
            · rw [if_pos (by omega)]
        rw [cSilence, if_pos hr, if_pos hu, if_pos hl]
        exact MqR.ok (by rw [kt.f 0 (by omega)]; exact k2) rfl f45 ⟨⟨⟨k13.1, k13.2.1, k13.2.2.1.1⟩, hm.2.1.mt kt ⟨by omega, by omega, by omega, by omega, by omega⟩, hm.2.2.1.mt kt ⟨by omega, by omega, by omega, by omega⟩, hm.2.2.2.1.mt kt ⟨by omega, by omega, by omega, by omega, by omega, by omega⟩, hm.2.2.2.2.1.mt kt ⟨by omega, by omega⟩, hm.2.2.2.2.2.1.mt kt ⟨by omega, by omega, by omega, by omega⟩, hm.2.2.2.2.2.2.1.mt kt (by omega), hm.2.2.2.2.2.2.2.1.mt kt ⟨by omega, by omega⟩, hm.2.2.2.2.2.2.2.2.1.mt kt ⟨by omega, by omega, by omega, by omega, by omega, by omega, by omega, by omega⟩, hm.2.2.2.2.2.2.2.2.2.1.mt kt ⟨by omega, by omega, by omega, by omega, by omega, by omega⟩, hm.2.2.2.2.2.2.2.2.2.2.1.mt kt ⟨by omega, by omega, by omega⟩, hsi, hm.2.2.2.2.2.2.2.2.2.2.2.2.mt kt (by omega)⟩, k1.2.trans (k13.mono (fun _ _ => trivial))⟩
      · rw [if_pos (by omega)] at e8
        obtain ⟨k1, k2⟩ := h.thr 3
        rw [← e8] at k1 k2
        refine ⟨k1.1.k13, fun h9 => by omega, fun _ => ?_⟩
        rw [cSilence, if_pos hr, if_pos hu, if_neg hl]
        exact MqR.nok (by decide) k2 k1
    · rw [if_pos (wIn0.mpr hu)] at e8
      obtain ⟨k1, k2⟩ := h.thr 2
      rw [← e8] at k1 k2
      refine ⟨k1.1.k13, fun h9 => by omega, fun _ => ?_⟩
      rw [cSilence, if_pos hr, if_neg hu]
      exact MqR.nok (by decide) k2 k1
  · rw [if_pos (wIn0.mpr (fun h9 => hr ⟨h9.1, by omega⟩))] at e8
    obtain ⟨k1, k2⟩ := h.thr 1
    rw [← e8] at k1 k2
    refine ⟨k1.1.k13, fun h9 => by omega, fun _ => ?_⟩
    rw [cSilence, if_neg hr]
    exact MqR.nok (by decide) k2 k1
/-! words -/
theorem MWl.fr2 (h : MWl G m b ws) (e22 : gel G' (gfd G' 12 22 m) b = gel G (gfd G 12 22 m) b) (e21 : ∀ j : Int, 60 * b ≤ j → j < 60 * b + 60 → gel G' (gfd G' 12 21 m) j = gel G (gfd G 12 21 m) j) : MWl G' m b ws := by
  obtain ⟨h1, h2, h3⟩ := h
  refine ⟨e22.trans h1, h2, fun n hn => ?_⟩
  have := h3 n hn
  unfold WdM at this ⊢
  rw [e21 _ (by omega) (by omega), e21 _ (by omega) (by omega), e21 _ (by omega) (by omega), e21 _ (by omega) (by omega), e21 _ (by omega) (by omega), e21 _ (by omega) (by omega)]
  exact this
theorem MRl.fr2 (h : MRl G m rl) (kt : MT G G' m T) (hT : ¬ T 23 ∧ ¬ T 24 ∧ ¬ T 25 ∧ ¬ T 26 ∧ ¬ T 27 ∧ ¬ T 28) (e22 : ∀ b : Nat, 1 ≤ b → b ≤ rl.length → gel G' (gfd G' 12 22 m) b = gel G (gfd G 12 22 m) b) (e21 : ∀ j : Int, 60 ≤ j → j < 60 * rl.length + 60 → gel G' (gfd G' 12 21 m) j = gel G (gfd G 12 21 m) j) : MRl G' m rl := by
  obtain ⟨h1, h2, h3, h4⟩ := h
  refine ⟨(kt.f 23 hT.1).trans h1, h2, fun r hr => ?_, fun r hr => (kt.e 28 hT.2.2.2.2.2 (by decide) _).trans (h4 r hr)⟩
  rw [kt.e 24 hT.2.1, kt.e 25 hT.2.2.1, kt.e 26 hT.2.2.2.1, kt.e 27 hT.2.2.2.2.1]
  exact ⟨(h3 r hr).1, (h3 r hr).2.1, (h3 r hr).2.2.1, (h3 r hr).2.2.2.fr2 (e22 (r + 1) (by omega) (by omega)) (fun j h5 h6 => e21 j (by omega) (by omega))⟩
theorem wLeft_eq {n : Int} (h : 0 ≤ n ∧ n ≤ 15) : wLeft n = 1 - wNeeds n := by
  unfold wLeft wNeeds
  by_cases h1 : n < 8
  · rw [if_pos h1, if_pos ⟨h.1, by omega⟩]; rfl
  · rw [if_neg h1, if_neg (c := 0 ≤ n ∧ n ≤ 7) (by omega)]
    split <;> rfl
theorem mLeft_eq (h : MWl G m b ws) (hok : ∀ w ∈ ws, wOk w) : mLeft G m b = rlV ws := by
  obtain ⟨h1, h2, h3⟩ := h
  unfold mLeft mMany
  rw [h1, Int.toNat_natCast]
  have key : ∀ n : Nat, n ≤ ws.length → ups (lfS G m b) 0 n = rlV (ws.take n) := by
    intro n
    induction n with
    | zero => intro _; rfl
    | succ n ih =>
      intro hn
      rw [ups_succ, ih (by omega), takeS (d := w0) (by omega)]
      unfold lfS mWhat rlV
      rw [(h3 n (by omega)).1, wLeft_eq (hok _ (getD_mem' (by omega))).1, List.map_append, List.sum_append]
      show _ = _ + (1 - wNeeds (ws.getD n w0).1 + 0)
      omega
  rw [key ws.length (Nat.le_refl _), List.take_length]
theorem MH.left0 (h : MH E G m d ml mr) (hi : DI d) : OkP E M_X12_left [rv m, iv 0] G (rlV (dDr d)) := by
  have hw := h.2.2.2.2.2.2.2.1
  have e := mLeft_eq hw hi.2.2.2.2.2.2.1.2
  have hm10 : mMany G m 0 ≤ 10 := by
    have e1 : gel G (gfd G 12 22 m) 0 = (dDr d).length := hw.1
    have e2 := hw.2.1
    unfold mMany
    omega
  have h9 : OkP E M_X12_left [rv m, iv 0] G (mLeft G m 0) := okp_left h.1.1 ⟨Int.le_refl 0, by decide⟩ hm10
  have e9 : mLeft G m ((0 : Nat) : Int) = mLeft G m 0 := rfl
  rw [← e, e9]
  exact h9
end Sa24
