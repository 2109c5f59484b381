/-! the model makes a rule -/
section Sa26
variable {E : EE} {G G' G2 : Gt} {c s bc bs : Nat} {Q X : Int → Gt → Prop} {a i v q m x ml mr u t w z o two wt9 kp f e p al : Int} {k j b r : Nat} {T T' : Nat → Prop} {d d' : DS} {es : List En} {ws : List Wd} {rl : List Rl}
theorem appZ {α : Type} {T : List α} {v y : α} {j : Nat} : (T ++ [v]).getD j y = if j < T.length then T.getD j y else if j = T.length then v else y := by
  by_cases h1 : j < T.length + 1
  · rw [appD h1]
    by_cases h2 : j < T.length
    · rw [if_pos h2, if_pos h2]
    · rw [if_neg h2, if_neg h2, if_pos (by omega)]
  · rw [if_neg (by omega), if_neg (by omega), List.getD_eq_getElem?_getD, List.getElem?_eq_none (by rw [List.length_append]; show T.length + 1 ≤ j; omega)]; rfl
def kpQ (E : EE) (G G' : Gt) (m : Int) (r : Nat) (al : Int) : Prop :=
  MU E G G' m (fun k => k = 21 ∨ k = 22 ∨ k = 23 ∨ k = 24) ∧ gfd G' 12 23 m = (r : Int) + 1 ∧ (∀ b : Int, gel G' (gfd G' 12 24 m) b = if b = r then al else gel G (gfd G 12 24 m) b) ∧
  (∀ b : Int, gel G' (gfd G' 12 22 m) b = if b = 0 then 0 else if b = (r : Int) + 1 then gel G (gfd G 12 22 m) 0 else gel G (gfd G 12 22 m) b) ∧
  ∀ j : Int, gel G' (gfd G' 12 21 m) j = if 60 * ((r : Int) + 1) ≤ j ∧ j < 60 * ((r : Int) + 1) + 60 then gel G (gfd G 12 21 m) (j - 60 * ((r : Int) + 1)) else gel G (gfd G 12 21 m) j
theorem v_mkeep (h : MH E G m d ml mr) (hr : r = (dRl d).length) (h8 : r < 8) (hal : al = 0 ∨ al = 1) (hQ : ∀ G', kpQ E G G' m r al → Q r G') : ∀ (n : Nat) (j : Int) (G1 : Gt), 0 ≤ j → j + n = 60 → MU E G G1 m (fun k => k = 21) → gfd G1 12 21 m = gfd G 12 21 m → (∀ i : Int, gel G1 (gfd G 12 21 m) i = if 60 * ((r : Int) + 1) ≤ i ∧ i < 60 * ((r : Int) + 1) + j then gel G (gfd G 12 21 m) (i - 60 * ((r : Int) + 1)) else gel G (gfd G 12 21 m) i) →
    V E M_X12_keep 12 [some (rv m), some (iv al), some (iv (60 * ((r : Int) + 1))), some (iv j)] [] G1 c s Q X := by
  have r23 : gfd G 12 23 m = r := by rw [hr]; exact h.rl.1
  have n22 : gfd G 12 22 m ≠ gfd G 12 21 m := h.1.1.ne 22 21
  have n24 : gfd G 12 24 m ≠ gfd G 12 22 m := h.1.1.ne 24 22
  have n2421 : gfd G 12 24 m ≠ gfd G 12 21 m := h.1.1.ne 24 21
  intro n
  induction n with
  | zero =>
    intro j G1 h0 hj kk g21 hv
    have x22 := kk.1.fx 22 15 9
    have x24 := kk.1.fx 24 17 8
    have kt := kk.2.2.2.2.2
    have f23 : gfd G1 12 23 m = r := (kt.f 23 (by omega)).trans r23
    have g22 : gfd G1 12 22 m = gfd G 12 22 m := kt.f 22 (by omega)
    have g24 : gfd G1 12 24 m = gfd G 12 24 m := kt.f 24 (by omega)
    have v22 : ∀ i, gel G1 (gfd G 12 22 m) i = gel G (gfd G 12 22 m) i := fun i => by have := kt.e 22 (by omega) (by decide) i; rw [g22] at this; exact this
    have v24 : ∀ i, gel G1 (gfd G 12 24 m) i = gel G (gfd G 12 24 m) i := fun i => by have := kt.e 24 (by omega) (by decide) i; rw [g24] at this; exact this
    refine b_X12_keep_12 ⟨fun _ => ⟨kk.1.1, kk.1.1, by rw [f23]; exact i32s' (by omega), kk.1.1, x22.1, by omega, x22.1, by omega, by omega, fun G11 e11 => ?_⟩, fun h9 => by omega⟩
    have k11 : MU E G G11 m (fun k => k = 21 ∨ k = 22 ∨ k = 23 ∨ k = 24) := by rw [e11]; exact (kk.mono (fun _ h9 => Or.inl h9)).mSel (by decide) (Or.inr (Or.inl rfl))
    rw [f23, g22] at e11
    have y22 := k11.1.fx 22 15 9
    have f11 : ∀ k, gfd G11 12 k m = gfd G1 12 k m := fun k => by rw [e11]; rfl
    refine ⟨k11.1.1, y22.1, by omega, fun G15 e15 => ?_⟩
    have k15 : MU E G G15 m (fun k => k = 21 ∨ k = 22 ∨ k = 23 ∨ k = 24) := by rw [e15]; exact k11.mSel (by decide) (Or.inr (Or.inl rfl))
    rw [f11, g22] at e15
    have z24 := k15.1.fx 24 17 8
    have f15 : ∀ k, gfd G15 12 k m = gfd G1 12 k m := fun k => by rw [e15]; exact f11 k
    have f2315 : gfd G15 12 23 m = r := (f15 23).trans f23
    refine ⟨k15.1.1, k15.1.1, z24.1, by omega, by omega, hal, fun G22 e22 => ?_⟩
    have k22 : MU E G G22 m (fun k => k = 21 ∨ k = 22 ∨ k = 23 ∨ k = 24) := by rw [e22]; exact k15.mSel (by decide) (Or.inr (Or.inr (Or.inr rfl)))
    rw [f2315, f15, g24] at e22
    have f22 : ∀ k, gfd G22 12 k m = gfd G1 12 k m := fun k => by rw [e22]; exact f15 k
    have f2322 : gfd G22 12 23 m = r := (f22 23).trans f23
    refine ⟨k22.1.1, by rw [f2322]; exact i32s' (by omega), k22.1.1, fun G26 e26 => ?_⟩
    have k26 : MU E G G26 m (fun k => k = 21 ∨ k = 22 ∨ k = 23 ∨ k = 24) := by rw [e26]; exact k22.mSfd (by decide) (Or.inr (Or.inr (Or.inl rfl)))
    rw [f2322] at e26
    have f2326 : gfd G26 12 23 m = (r : Int) + 1 := by rw [e26, gfd_sfd, if_pos ⟨rfl, rfl, rfl⟩]
    refine ⟨k26.1.1, by rw [f2326]; exact i32s' (by omega), ?_⟩
    rw [f2326, show (r : Int) + 1 - 1 = r by omega]
    have f26 : ∀ k, k ≠ 23 → gfd G26 12 k m = gfd G1 12 k m := fun k hk => by rw [e26, gfd_sfd, if_neg (fun h9 => hk h9.2.1)]; exact f22 k
    have el : ∀ y i, gel G26 y i = gel G22 y i := fun y i => by rw [e26]; rfl
    have e0 : gel G1 (gfd G 12 22 m) 0 = gel G (gfd G 12 22 m) 0 := v22 0
    refine hQ G26 ⟨k26, f2326, fun b => ?_, fun b => ?_, fun i => ?_⟩
    · rw [f26 24 (by decide), g24, el, e22, gel_sel]
      by_cases hb : b = r
      · rw [if_pos ⟨rfl, hb⟩, if_pos hb]
      · rw [if_neg (fun h9 => hb h9.2), if_neg hb, e15, gel_sel, if_neg (fun h9 => n24 h9.1), e11, gel_sel, if_neg (fun h9 => n24 h9.1)]
        exact v24 b
    · rw [f26 22 (by decide), g22, el, e22, gel_sel, if_neg (fun h9 => n24 h9.1.symm), e15, gel_sel]
      by_cases hb : b = 0
      · rw [if_pos ⟨rfl, hb⟩, if_pos hb]
      · rw [if_neg (fun h9 => hb h9.2), if_neg hb, e11, gel_sel]
        by_cases hb1 : b = (r : Int) + 1
        · rw [if_pos ⟨rfl, hb1⟩, if_pos hb1]; exact e0
        · rw [if_neg (fun h9 => hb1 h9.2), if_neg hb1]; exact v22 b
    · rw [f26 21 (by decide), g21, el, e22, gel_sel, if_neg (fun h9 => n2421 h9.1.symm), e15, gel_sel, if_neg (fun h9 => n22 h9.1.symm), e11, gel_sel, if_neg (fun h9 => n22 h9.1.symm), hv, show j = 60 by omega]
  | succ n ih =>
    intro j G1 h0 hj kk g21 hv
    have x21 := kk.1.fx 21 15 540
    refine b_X12_keep_12 ⟨fun h9 => by omega, fun _ => ⟨kk.1.1, i32s' (by omega), kk.1.1, x21.1, by omega, by omega, x21.1, by omega, by omega, fun G38 e38 => ⟨i32s' (by omega), ?_⟩⟩⟩
    have k38 : MU E G G38 m (fun k => k = 21) := by rw [e38]; exact kk.mSel (by decide) rfl
    rw [g21] at e38
    refine ih (j + 1) G38 (by omega) (by omega) k38 (by rw [e38]; exact g21) (fun i => ?_)
    have ej : gel G1 (gfd G 12 21 m) j = gel G (gfd G 12 21 m) j := by rw [hv, if_neg (by omega)]
    rw [e38, gel_sel]
    by_cases hi : i = 60 * ((r : Int) + 1) + j
    · rw [if_pos ⟨rfl, hi⟩, if_pos ⟨by omega, by omega⟩, ej]
      congr 1; omega
    · rw [if_neg (fun h9 => hi h9.2), hv]
      by_cases h9 : 60 * ((r : Int) + 1) ≤ i ∧ i < 60 * ((r : Int) + 1) + j
      · rw [if_pos h9, if_pos ⟨h9.1, by omega⟩]
      · rw [if_neg h9, if_neg (by omega)]
theorem om_keep (h : MH E G m d ml mr) (hr : r = (dRl d).length) (h8 : r < 8) (hal : al = 0 ∨ al = 1) : Ok E M_X12_keep [rv m, iv al] G c s (fun r' G' => r' = r ∧ kpQ E G G' m r al) (fun _ _ => False) := by
  have r23 : gfd G 12 23 m = r := by rw [hr]; exact h.rl.1
  refine i_X12_keep ⟨h.k13, by rw [r23]; exact i32s' (by omega), by rw [r23]; exact i32s' (by omega), ?_⟩
  rw [r23]
  exact v_mkeep h hr h8 hal (fun G' h9 => ⟨rfl, h9⟩) 60 0 G (Int.le_refl 0) (by decide) h.ru rfl (fun i => by rw [if_neg (by omega)])
/-- the rules with one more -/
theorem kp_MRl {q9 : Rl} (h : MH E G m d ml mr) (hr : r = (dRl d).length) (h8 : r < 8) (hk : kpQ E G G2 m r al) (kt : MT G2 G' m (fun k => k = 25 ∨ k = 26 ∨ k = 27)) (hq : q9.2.1 = dDr d ∧ q9.2.2 = [] ∧ q9.1.2.2.2 = -1) (ha : al = if q9.1.1 = -1 then 1 else 0)
    (h25 : ∀ n : Nat, n ≤ r → n < r ∨ q9.1.1 ≠ -1 → gel G' (gfd G' 12 25 m) n = if n = r then q9.1.1 else gel G (gfd G 12 25 m) n) (h26 : ∀ n : Nat, n ≤ r → n < r ∨ q9.1.1 = -1 → gel G' (gfd G' 12 26 m) n = if n = r then q9.1.2.1 else gel G (gfd G 12 26 m) n) (h27 : ∀ n : Nat, n ≤ r → n < r ∨ q9.1.1 = -1 → gel G' (gfd G' 12 27 m) n = if n = r then q9.1.2.2.1 else gel G (gfd G 12 27 m) n) :
    MRl G' m (dRl d ++ [q9]) ∧ MWl G' m 0 [] ∧ MEn G' m (dRl d ++ [q9]) := by
  obtain ⟨kU, k23, k24, k22, k21⟩ := hk
  obtain ⟨r1, r2, r3, r4⟩ := h.2.2.2.2.2.2.2.2.1
  have e22 : ∀ b : Int, gel G' (gfd G' 12 22 m) b = if b = 0 then 0 else if b = (r : Int) + 1 then gel G (gfd G 12 22 m) 0 else gel G (gfd G 12 22 m) b := fun b => (kt.e 22 (by omega) (by decide) b).trans (k22 b)
  have e21 : ∀ j : Int, gel G' (gfd G' 12 21 m) j = if 60 * ((r : Int) + 1) ≤ j ∧ j < 60 * ((r : Int) + 1) + 60 then gel G (gfd G 12 21 m) (j - 60 * ((r : Int) + 1)) else gel G (gfd G 12 21 m) j := fun j => (kt.e 21 (by omega) (by decide) j).trans (k21 j)
  have e24 : ∀ b : Int, gel G' (gfd G' 12 24 m) b = if b = r then al else gel G (gfd G 12 24 m) b := fun b => (kt.e 24 (by omega) (by decide) b).trans (k24 b)
  refine ⟨⟨by rw [kt.f 23 (by omega), k23, List.length_append, hr]; rfl, by rw [List.length_append]; show (dRl d).length + 1 ≤ 8; omega, fun n hn => ?_, fun n hn => ?_⟩, ⟨by rw [e22, if_pos (show ((0 : Nat) : Int) = 0 from rfl)]; rfl, Nat.zero_le _, fun k hk => absurd hk (Nat.not_lt_zero k)⟩, fun n hn => ?_⟩
  · rw [List.length_append] at hn
    have hn' : n < (dRl d).length + 1 := hn
    rw [appD hn', e24]
    by_cases hnr : n < (dRl d).length
    · have h3 := r3 n hnr
      rw [if_pos hnr, if_neg (c := (n : Int) = (r : Int)) (by omega), h25 n (by omega) (Or.inl (by omega)), h26 n (by omega) (Or.inl (by omega)), h27 n (by omega) (Or.inl (by omega)), if_neg (c := n = r) (by omega), if_neg (c := n = r) (by omega), if_neg (c := n = r) (by omega)]
      refine ⟨h3.1, h3.2.1, h3.2.2.1, h3.2.2.2.fr2 ?_ fun j h5 h6 => ?_⟩
      · rw [e22, if_neg (by omega), if_neg (by omega)]
      · rw [e21, if_neg (by omega)]
    · have hnn : n = r := by omega
      rw [if_neg hnr, if_pos (by omega)]
      refine ⟨ha, fun h9 => by rw [h25 n (by omega) (Or.inr h9), if_pos hnn], fun h9 => ⟨by rw [h26 n (by omega) (Or.inr h9), if_pos hnn], by rw [h27 n (by omega) (Or.inr h9), if_pos hnn]⟩, ?_⟩
      rw [hq.1]
      obtain ⟨w1, w2, w3⟩ := h.2.2.2.2.2.2.2.1
      refine ⟨by rw [e22, if_neg (by omega), if_pos (by omega)]; exact w1, w2, fun k hk => ?_⟩
      have := w3 k hk
      unfold WdM at this ⊢
      have sh : ∀ a : Int, 0 ≤ a ∧ a ≤ 5 → gel G' (gfd G' 12 21 m) (60 * ((n + 1 : Nat) : Int) + 6 * (k : Int) + a) = gel G (gfd G 12 21 m) (60 * ((0 : Nat) : Int) + 6 * (k : Int) + a) := fun a ha => by
        rw [e21, if_pos ⟨by omega, by omega⟩]
        congr 1; omega
      have s0 := sh 0 (by decide)
      rw [Int.add_zero, Int.add_zero] at s0
      rw [s0, sh 1 (by decide), sh 2 (by decide), sh 3 (by decide), sh 4 (by decide), sh 5 (by decide)]
      exact this
  · rw [appZ, kt.e 28 (by omega), kU.2.2.2.2.2.e 28 (by omega), r4 n hn]
    by_cases h1 : n < (dRl d).length
    · rw [if_pos h1]
    · rw [if_neg h1]
      have e : (dRl d).getD n rz = rz := by rw [List.getD_eq_getElem?_getD, List.getElem?_eq_none (by omega)]; rfl
      rw [e]
      split
      · exact hq.2.2.symm
      · rfl
  · rw [appZ]
    have h9 := ((h.2.2.2.2.2.2.2.2.2.1 n hn).mt kU.2.2.2.2.2 ⟨by omega, by omega, by omega, by omega, by omega, by omega⟩).mt kt ⟨by omega, by omega, by omega, by omega, by omega, by omega⟩
    by_cases h1 : n < (dRl d).length
    · rw [if_pos h1]; exact h9
    · rw [if_neg h1]
      have e : (dRl d).getD n rz = rz := by rw [List.getD_eq_getElem?_getD, List.getElem?_eq_none (by omega)]; rfl
      rw [e] at h9
      split
      · rw [hq.2.1]; exact h9
      · exact h9
theorem om_record (h : MH E G m d ml mr) (hi : DI d) : Ok E M_X12_record [rv m, iv two] G c s (MqR E G m (cRecord d two) tA ml mr) (fun _ _ => False) := by
  obtain ⟨r1, r2⟩ := h.rl
  refine i_X12_record ⟨okp_in, fun J2 hJ2 => ?_⟩
  have bad : ∀ e : Int, e ≠ 0 → 0 < e → cRecord d two = no e d → J2 e G c s := fun e he hp hb => hJ2 _ _ _ _ ⟨h.k13, fun G8 e8 => by
    obtain ⟨k1, k2⟩ := h.thr e
    rw [← e8] at k1 k2
    refine ⟨k1.1.k13, fun h9 => by omega, fun _ => ?_⟩
    rw [hb]
    exact MqR.nok he k2 k1⟩
  refine ⟨fun h1 => ⟨h.k13, Call.pure (h.left0 hi) fun J28 hJ28 => ?_⟩, fun h1 => bad 1 (by decide) (by decide) (by rw [cRecord, if_neg (wIn0.mp h1)])⟩
  have h1' := wInY h1
  refine ⟨fun h2 => hJ28 (bad 2 (by decide) (by decide) (by rw [cRecord, if_pos h1', if_neg (fun h9 => h2 h9.1)])), fun h2 => ⟨h.k13, fun h3 => hJ2 _ _ _ _ ⟨h.k13, fun G8 e8 => ?_⟩, fun h3 => hJ28 (bad 2 (by decide) (by decide) (by rw [cRecord, if_pos h1', if_neg (by omega)]))⟩⟩
  obtain ⟨k1, k2⟩ := h.thr 0
  rw [← e8] at k1 k2
  have hm := k1.1
  have h8 : (dRl d).length < 8 := by omega
  refine ⟨hm.k13, fun _ => ⟨hm.k13, hm.k13, Call.to (mc' := 0) (ms' := 0) (om_keep hm rfl h8 (Or.inl rfl)) (Nat.zero_le _) (Nat.zero_le _) fun r' G14 ⟨er, hk⟩ => ?_⟩, fun h9 => by omega⟩
  rw [er]
  have a25 := hk.1.1.fx 25 15 8
  have g25 : gfd G14 12 25 m = gfd G8 12 25 m := hk.1.2.2.2.2.2.f 25 (by omega)
  rw [← g25]
  refine ⟨a25.1, by omega, by omega, fun G20 e20 => ?_⟩
  have kk : MU E G14 G20 m (fun k => k = 25) := by rw [e20]; exact (MU.refl hk.1.1 hk.1.2.1 hk.1.2.2.1.1).mSel (by decide) rfl
  have kA : MU E G8 G20 m (fun k => k = 21 ∨ k = 22 ∨ k = 23 ∨ k = 24 ∨ k = 25) := (hk.1.mono (fun _ h9 => by omega)).trans (kk.mono (fun _ h9 => by omega))
  have kt := kA.2.2.2.2.2
  obtain ⟨p1, p2, p3⟩ := kp_MRl (q9 := ((two, 0, 0, -1), dDr d, [])) hm rfl h8 hk (fun k hk9 => kk.2.2.2.2.2 k (fun h9 => hk9 (Or.inl h9))) ⟨rfl, rfl, rfl⟩ (by show (0 : Int) = if two = -1 then 1 else 0; rw [if_neg (by omega)]) (fun n hn _ => by
    have : gfd G20 12 25 m = gfd G14 12 25 m := by rw [e20]; rfl
    rw [this, e20, gel_sel]
    by_cases hnr : n = (dRl d).length
    · rw [if_pos ⟨rfl, by omega⟩, if_pos hnr]
    · rw [if_neg (by omega), if_neg hnr]; exact hk.1.2.2.2.2.2.e 25 (by omega) (by decide) n) (fun n hn h9 => by
    rw [kk.2.2.2.2.2.e 26 (by omega), hk.1.2.2.2.2.2.e 26 (by omega), if_neg]
    intro h8
    rcases h9 with h9 | h9
    · omega
    · have h9' : two = -1 := h9
      omega) (fun n hn h9 => by
    rw [kk.2.2.2.2.2.e 27 (by omega), hk.1.2.2.2.2.2.e 27 (by omega), if_neg]
    intro h8
    rcases h9 with h9 | h9
    · omega
    · have h9' : two = -1 := h9
      omega)
  refine ⟨kA.1.1, ?_⟩
  rw [cRecord, if_pos h1', if_pos ⟨h2, h8⟩]
  refine MqR.ok ((kt.f 0 (by omega)).trans k2) rfl ?_ ⟨⟨⟨kA.1, kA.2.1, kA.2.2.1.1⟩, hm.2.1.mt kt ⟨by omega, by omega, by omega, by omega, by omega⟩, hm.2.2.1.mt kt ⟨by omega, by omega, by omega, by omega⟩, hm.2.2.2.1.mt kt ⟨by omega, by omega, by omega, by omega, by omega, by omega⟩, hm.2.2.2.2.1.mt kt ⟨by omega, by omega⟩, hm.2.2.2.2.2.1.mt kt ⟨by omega, by omega, by omega, by omega⟩, hm.2.2.2.2.2.2.1.mt kt (by omega), p2, p1, p3, hm.2.2.2.2.2.2.2.2.2.2.1.mt kt ⟨by omega, by omega, by omega⟩, hm.2.2.2.2.2.2.2.2.2.2.2.1.mt kt ⟨by omega, by omega⟩, hm.2.2.2.2.2.2.2.2.2.2.2.2.mt kt (by omega)⟩, k1.2.trans (kA.mono (fun _ _ => trivial))⟩
  rw [p1.1, List.length_append]; rfl
theorem om_alert (h : MH E G m d ml mr) (hi : DI d) : Ok E M_X12_alert [rv m, iv wt9, iv kp] G c s (MqR E G m (cAlert d wt9 kp) tA ml mr) (fun _ _ => False) := by
  obtain ⟨r1, r2⟩ := h.rl
  refine i_X12_alert ⟨okp_in, fun J2 hJ2 J26 hJ26 => ?_⟩
  have bad : ∀ e : Int, e ≠ 0 → 0 < e → cAlert d wt9 kp = no e d → J2 e G c s := fun e he hp hb => hJ2 _ _ _ _ ⟨h.k13, fun G8 e8 => by
    obtain ⟨k1, k2⟩ := h.thr e
    rw [← e8] at k1 k2
    refine ⟨k1.1.k13, fun h9 => by omega, fun _ => ?_⟩
    rw [hb]
    exact MqR.nok he k2 k1⟩
  refine ⟨fun h1 => hJ26 (bad 1 (by decide) (by decide) (by rw [cAlert, if_neg (fun h9 => wIn0.mp h1 h9.1)])), fun h1 => ⟨okp_in, fun h1b => ⟨h.k13, Call.pure (h.left0 hi) fun J35 hJ35 => ?_⟩, fun h1b => hJ26 (bad 1 (by decide) (by decide) (by rw [cAlert, if_neg (fun h9 => wIn0.mp h1b h9.2)]))⟩⟩
  have h1' : (0 ≤ wt9 ∧ wt9 ≤ 1000) ∧ (0 ≤ kp ∧ kp ≤ 1000) := ⟨wInY h1, wInY h1b⟩
  refine ⟨fun h2 => hJ35 (bad 2 (by decide) (by decide) (by rw [cAlert, if_pos h1', if_neg (fun h9 => h2 h9.1)])), fun h2 => ⟨h.k13, fun h3 => hJ2 _ _ _ _ ⟨h.k13, fun G8 e8 => ?_⟩, fun h3 => hJ35 (bad 2 (by decide) (by decide) (by rw [cAlert, if_pos h1', if_neg (by omega)]))⟩⟩
  obtain ⟨k1, k2⟩ := h.thr 0
  rw [← e8] at k1 k2
  have hm := k1.1
  have h8 : (dRl d).length < 8 := by omega
  refine ⟨hm.k13, fun _ => ⟨hm.k13, Call.to (mc' := 0) (ms' := 0) (om_keep hm rfl h8 (Or.inr rfl)) (Nat.zero_le _) (Nat.zero_le _) fun r' G14 ⟨er, hk⟩ => ?_⟩, fun h9 => by omega⟩
  rw [er]
  have a26 := hk.1.1.fx 26 15 8
  refine ⟨hk.1.1.1, a26.1, by omega, by omega, fun G20 e20 => ?_⟩
  have kB : MU E G14 G20 m (fun k => k = 26 ∨ k = 27) := by rw [e20]; exact (MU.refl hk.1.1 hk.1.2.1 hk.1.2.2.1.1).mSel (by decide) (Or.inl rfl)
  have a27 := kB.1.fx 27 15 8
  refine ⟨kB.1.1, a27.1, by omega, by omega, fun G25 e25 => ?_⟩
  have kk : MU E G14 G25 m (fun k => k = 26 ∨ k = 27) := by rw [e25]; exact kB.mSel (by decide) (Or.inr rfl)
  have kA : MU E G8 G25 m (fun k => k = 21 ∨ k = 22 ∨ k = 23 ∨ k = 24 ∨ k = 26 ∨ k = 27) := (hk.1.mono (fun _ h9 => by omega)).trans (kk.mono (fun _ h9 => by omega))
  have kt := kA.2.2.2.2.2
  have f20 : ∀ k, gfd G20 12 k m = gfd G14 12 k m := fun k => by rw [e20]; rfl
  have f25 : ∀ k, gfd G25 12 k m = gfd G14 12 k m := fun k => by rw [e25]; exact f20 k
  have ne : gfd G14 12 26 m ≠ gfd G14 12 27 m := hk.1.1.ne 26 27
  have tk := hk.1.2.2.2.2.2
  obtain ⟨p1, p2, p3⟩ := kp_MRl (q9 := ((-1, wt9, kp, -1), dDr d, [])) hm rfl h8 hk (fun k hk9 => kk.2.2.2.2.2 k (fun h9 => hk9 (by omega))) ⟨rfl, rfl, rfl⟩ (by rw [if_pos rfl]) (fun n hn h9 => by
    have h9' : n < (dRl d).length := by
      rcases h9 with h9 | h9
      · exact h9
      · exact (h9 rfl).elim
    rw [kk.2.2.2.2.2.e 25 (by omega), tk.e 25 (by omega), if_neg (by omega)]) (fun n hn _ => by
    rw [f25, e25, gel_sel, f20, if_neg (fun h9 => ne h9.1), e20, gel_sel]
    by_cases hnr : n = (dRl d).length
    · rw [if_pos ⟨rfl, by omega⟩, if_pos hnr]
    · rw [if_neg (by omega), if_neg hnr]; exact tk.e 26 (by omega) (by decide) n) (fun n hn _ => by
    rw [f25, e25, gel_sel, f20]
    by_cases hnr : n = (dRl d).length
    · rw [if_pos ⟨rfl, by omega⟩, if_pos hnr]
    · rw [if_neg (by omega), if_neg hnr, e20, gel_sel, if_neg (fun h9 => ne h9.1.symm)]; exact tk.e 27 (by omega) (by decide) n)
  rw [cAlert, if_pos h1', if_pos ⟨h2, h8⟩]
  exact MqR.ok ((kt.f 0 (by omega)).trans k2) rfl rfl ⟨⟨⟨kA.1, kA.2.1, kA.2.2.1.1⟩, hm.2.1.mt kt ⟨by omega, by omega, by omega, by omega, by omega⟩, hm.2.2.1.mt kt ⟨by omega, by omega, by omega, by omega⟩, hm.2.2.2.1.mt kt ⟨by omega, by omega, by omega, by omega, by omega, by omega⟩, hm.2.2.2.2.1.mt kt ⟨by omega, by omega⟩, hm.2.2.2.2.2.1.mt kt ⟨by omega, by omega, by omega, by omega⟩, hm.2.2.2.2.2.2.1.mt kt (by omega), p2, p1, p3, hm.2.2.2.2.2.2.2.2.2.2.1.mt kt ⟨by omega, by omega, by omega⟩, hm.2.2.2.2.2.2.2.2.2.2.2.1.mt kt ⟨by omega, by omega⟩, hm.2.2.2.2.2.2.2.2.2.2.2.2.mt kt (by omega)⟩, k1.2.trans (kA.mono (fun _ _ => trivial))⟩
end Sa26
