/-! the model's word, record, alert -/
section Sa25
variable {E : EE} {G G' G2 : Gt} {c s bc bs : Nat} {Q X : Int → Gt → Prop} {a i v q m x ml mr u l t w z o two wt9 kp f e p : Int} {k j b : Nat} {T T' : Nat → Prop} {d d' : DS} {es : List En} {ws : List Wd} {rl : List Rl}
theorem wn_eq {n : Int} (h : 0 ≤ n ∧ n ≤ 15) : (if 8 ≤ n then (if wIn n 10 14 = 0 then (1 : Int) else 2) else 0) = wNeeds n := by
  unfold wNeeds
  by_cases h1 : 8 ≤ n
  · rw [if_pos h1, if_neg (c := 0 ≤ n ∧ n ≤ 7) (by omega)]
    by_cases h2 : 10 ≤ n ∧ n ≤ 14
    · rw [if_neg (fun h9 => wIn0.mp h9 h2), if_pos h2]
    · rw [if_pos (wIn0.mpr h2), if_neg h2]
  · rw [if_neg h1, if_pos ⟨h.1, by omega⟩]
/-- a word is put -/
theorem v_mword {n : Int} (h : MH E G m d ml mr) (hi : DI d) (h0 : gfd G 12 0 m = 0) (hl : (dDr d).length < 10) (hk : 0 ≤ q ∧ q ≤ 15) (hff : ffV q o) (hn : n = (dDr d).length) {G0 : Gt} (hk0 : MU E G0 G m (fun _ => True)) :
    (gcl G m = 13 ∧ gcl G (gfd G 12 22 m) = 15 ∧ 0 < gln G (gfd G 12 22 m) ∧ i32 (6 * (gel G (gfd G 12 22 m) 0)) ∧ gcl G m = 13 ∧ gcl G (gfd G 12 21 m) = 15 ∧ 0 ≤ (6 * (gel G (gfd G 12 22 m) 0)) ∧ (6 * (gel G (gfd G 12 22 m) 0)) < gln G (gfd G 12 21 m) ∧ ∀ G24 : Gt, G24 = (sel G (gfd G 12 21 m) (6 * (gel G (gfd G 12 22 m) 0)) q) → gcl G24 m = 13 ∧ i32 ((6 * (gel G (gfd G 12 22 m) 0)) + 1) ∧ gcl G24 (gfd G24 12 21 m) = 15 ∧ 0 ≤ ((6 * (gel G (gfd G 12 22 m) 0)) + 1) ∧ ((6 * (gel G (gfd G 12 22 m) 0)) + 1) < gln G24 (gfd G24 12 21 m) ∧ ∀ G30 : Gt, G30 = (sel G24 (gfd G24 12 21 m) ((6 * (gel G (gfd G 12 22 m) 0)) + 1) o) → gcl G30 m = 13 ∧ i32 ((6 * (gel G (gfd G 12 22 m) 0)) + 2) ∧ gcl G30 (gfd G30 12 21 m) = 15 ∧ 0 ≤ ((6 * (gel G (gfd G 12 22 m) 0)) + 2) ∧ ((6 * (gel G (gfd G 12 22 m) 0)) + 2) < gln G30 (gfd G30 12 21 m) ∧ ∀ G36 : Gt, G36 = (sel G30 (gfd G30 12 21 m) ((6 * (gel G (gfd G 12 22 m) 0)) + 2) t) → V E M_X12_word 240 [some (rv m), some (iv q), some (iv o), none, none, none, some (iv (6 * (gel G (gfd G 12 22 m) 0))), some (iv 0)] [] G36 c s (MqR E G0 m (yes (n + 1) (drD d (dDr d ++ [wordOf d q o t]))) tA ml mr) X) := by
  have c21 := h.1.1.fx 21 15 540
  have c22 := h.1.1.fx 22 15 9
  have hc := h.2.2.2.2.2.2.2.1.1
  have hc' : gel G (gfd G 12 22 m) 0 = n := by rw [hn]; exact hc
  rw [hc']
  refine ⟨h.k13, c22.1, by omega, i32s' (by omega), h.k13, c21.1, by omega, by omega, fun G24 e24 => ?_⟩
  have kA : MU E G G24 m (fun k => k = 21) := by rw [e24]; exact h.ru.mSel (by decide) rfl
  have a21 := kA.1.fx 21 15 540
  refine ⟨kA.1.1, i32s' (by omega), a21.1, by omega, by omega, fun G30 e30 => ?_⟩
  have kB : MU E G G30 m (fun k => k = 21) := by rw [e30]; exact kA.mSel (by decide) rfl
  have b21 := kB.1.fx 21 15 540
  refine ⟨kB.1.1, i32s' (by omega), b21.1, by omega, by omega, fun G36 e36 => ?_⟩
  have kC : MU E G G36 m (fun k => k = 21) := by rw [e36]; exact kB.mSel (by decide) rfl
  have g24 : gfd G24 12 21 m = gfd G 12 21 m := by rw [e24]; rfl
  have g30 : gfd G30 12 21 m = gfd G 12 21 m := by rw [e30, e24]; rfl
  have g36 : gfd G36 12 21 m = gfd G 12 21 m := by rw [e36, e30, e24]; rfl
  -- the set of the word
  have sets : ∀ j : Int, 0 ≤ j ∧ j < 3 → (1 ≤ q ∧ q ≤ 7 → gel G (gfd G 12 20 m) (3 * o + j) = (if j = 0 then (selD d o).1 else if j = 1 then (selD d o).2.1 else (selD d o).2.2)) := fun j hj hq7 => by
    have ho : 0 ≤ o ∧ o ≤ 3 := by
      unfold ffV at hff
      rw [if_neg (by omega), if_pos hq7] at hff
      exact hff
    have s20 := h.2.2.2.2.2.2.1 o.toNat (by omega)
    rw [Int.toNat_of_nonneg ho.1] at s20
    by_cases j0 : j = 0
    · rw [if_pos j0, j0, Int.add_zero]; exact s20.1
    · rw [if_neg j0]
      by_cases j1 : j = 1
      · rw [if_pos j1, j1]; exact s20.2.1
      · rw [if_neg j1, show j = 2 by omega]; exact s20.2.2
  have step : ∀ (j : Int) (G1 : Gt), 0 ≤ j ∧ j < 3 → MU E G G1 m (fun k => k = 21) → (∀ G2, G2 = sel G1 (gfd G1 12 21 m) (6 * n + 3 + j) (if j = 0 then (wordOf d q o t).2.2.2.1 else if j = 1 then (wordOf d q o t).2.2.2.2.1 else (wordOf d q o t).2.2.2.2.2) → MU E G G2 m (fun k => k = 21) → V E M_X12_word 240 [some (rv m), some (iv q), some (iv o), none, none, none, some (iv (6 * n)), some (iv (j + 1))] [] G2 c s (MqR E G0 m (yes (n + 1) (drD d (dDr d ++ [wordOf d q o t]))) tA ml mr) X) → V E M_X12_word 240 [some (rv m), some (iv q), some (iv o), none, none, none, some (iv (6 * n)), some (iv j)] [] G1 c s (MqR E G0 m (yes (n + 1) (drD d (dDr d ++ [wordOf d q o t]))) tA ml mr) X := fun j G1 hj kk hK => by
    have x20 := kk.1.fx 20 15 12
    have x21 := kk.1.fx 21 15 540
    have ho : wIn q 1 7 ≠ 0 → 0 ≤ o ∧ o ≤ 3 := fun h9 => by
      have := wInY h9
      unfold ffV at hff
      rw [if_neg (by omega), if_pos this] at hff
      exact hff
    refine b_X12_word_240 ⟨fun h9 => by omega, fun _ => ⟨kk.1.1, i32s' (by omega), i32s' (by omega), okp_in, fun _ => kk.1.1, fun h9 => i32s' (by have := ho h9; omega), fun h9 => i32s' (by have := ho h9; omega), fun _ => x20.1, fun h9 => by have := ho h9; omega, fun h9 => by have := ho h9; omega, x21.1, by omega, by omega, fun G2 e2 => ⟨i32s' (by omega), hK G2 ?_ ?_⟩⟩⟩
    · rw [e2]
      congr 1
      unfold wordOf
      by_cases hw : 1 ≤ q ∧ q ≤ 7
      · rw [if_neg (fun h9 => wIn0.mp h9 hw), if_pos hw, kk.2.2.2.2.2.e 20 (by omega)]
        exact sets j hj hw
      · rw [if_pos (wIn0.mpr hw), if_neg hw]
        show (0 : Int) = if j = 0 then 0 else if j = 1 then 0 else 0
        split
        · rfl
        · split <;> rfl
    · rw [e2]; exact kk.mSel (by decide) rfl
  refine step 0 G36 (by decide) kC fun Gd ed kD => ?_
  refine step (0 + 1) Gd (by decide) kD fun Ge ee kE => ?_
  refine step (0 + 1 + 1) Ge (by decide) kE fun Gf ef kF => ?_
  have gd : gfd Gd 12 21 m = gfd G 12 21 m := by rw [ed]; exact g36
  have ge : gfd Ge 12 21 m = gfd G 12 21 m := by rw [ee]; exact gd
  have gf : gfd Gf 12 21 m = gfd G 12 21 m := by rw [ef]; exact ge
  have f22 := kF.1.fx 22 15 9
  have tf := kF.2.2.2.2.2
  have cnt22 : gel Gf (gfd Gf 12 22 m) 0 = n := by rw [tf.e 22 (by omega)]; exact hc'
  refine b_X12_word_240 ⟨fun _ => ⟨kF.1.1, f22.1, by omega, ?_⟩, fun h9 => by omega⟩
  rw [cnt22]
  refine ⟨i32s' (by omega), f22.1, by omega, fun G8 e8 => ?_⟩
  have k8 : MU E G G8 m (fun k => k = 21 ∨ k = 22) := by rw [e8]; exact (kF.mono (fun _ h9 => Or.inl h9)).mSel (by decide) (Or.inr rfl)
  have kt := k8.2.2.2.2.2
  have x22 := k8.1.fx 22 15 9
  refine ⟨k8.1.1, x22.1, by omega, ?_⟩
  have g822 : gfd G8 12 22 m = gfd Gf 12 22 m := by rw [e8]; rfl
  have v22 : ∀ b : Int, gel G8 (gfd G8 12 22 m) b = if b = 0 then n + 1 else gel G (gfd G 12 22 m) b := fun b => by
    rw [g822, e8, gel_sel]
    by_cases hb : b = 0
    · rw [if_pos ⟨rfl, hb⟩, if_pos hb]
    · rw [if_neg (fun h9 => hb h9.2), if_neg hb]; exact tf.e 22 (by omega) (by decide) b
  have g821 : gfd G8 12 21 m = gfd G 12 21 m := by rw [e8]; exact gf
  have n22 : gfd G 12 22 m ≠ gfd G 12 21 m := h.1.1.ne 22 21
  have gf22 : gfd Gf 12 22 m = gfd G 12 22 m := tf.f 22 (by omega)
  have v21 : ∀ j : Int, gel G8 (gfd G8 12 21 m) j = if j = 6 * n + 5 then (wordOf d q o t).2.2.2.2.2 else if j = 6 * n + 4 then (wordOf d q o t).2.2.2.2.1 else if j = 6 * n + 3 then (wordOf d q o t).2.2.2.1 else if j = 6 * n + 2 then t else if j = 6 * n + 1 then o else if j = 6 * n then q else gel G (gfd G 12 21 m) j := fun j => by
    rw [g821, e8, gel_sel, gf22, if_neg (fun h9 => n22 h9.1.symm), ef, gel_sel, ge, ee, gel_sel, gd, ed, gel_sel, g36, e36, gel_sel, g30, e30, gel_sel, g24, e24, gel_sel]
    simp only [true_and]
    have x5 : 6 * n + 3 + (0 + 1 + 1) = 6 * n + 5 := by omega
    have x4 : 6 * n + 3 + (0 + 1) = 6 * n + 4 := by omega
    have x3 : 6 * n + 3 + 0 = 6 * n + 3 := by omega
    rw [x5, x4, x3]
    rfl
  have hm := h
  have hmd : MWl G8 m 0 (dDr d ++ [wordOf d q o t]) := by
    obtain ⟨w1, w2, w3⟩ := h.2.2.2.2.2.2.2.1
    refine ⟨by rw [v22, if_pos (show ((0 : Nat) : Int) = 0 from rfl), List.length_append, hn]; rfl, by rw [List.length_append]; show (dDr d).length + 1 ≤ 10; omega, fun k hk9 => ?_⟩
    rw [List.length_append] at hk9
    have hk' : k < (dDr d).length + 1 := hk9
    rw [appD hk']
    unfold WdM
    rw [v21, v21, v21, v21, v21, v21]
    by_cases hkn : k < (dDr d).length
    · rw [if_pos hkn]
      have := w3 k hkn
      unfold WdM at this
      have ne : ∀ j a : Int, (0 ≤ j ∧ j ≤ 5) → (0 ≤ a ∧ a ≤ 5) → ¬ (60 * ((0 : Nat) : Int) + 6 * (k : Int) + j = 6 * n + a) := fun j a h1 h2 => by omega
      have z0 : 60 * ((0 : Nat) : Int) + 6 * (k : Int) = 60 * ((0 : Nat) : Int) + 6 * (k : Int) + 0 := by omega
      have zn : 6 * n = 6 * n + 0 := by omega
      have e0 : ∀ j : Int, (0 ≤ j ∧ j ≤ 5) → (if 60 * ((0 : Nat) : Int) + 6 * (k : Int) + j = 6 * n + 5 then (wordOf d q o t).2.2.2.2.2 else if 60 * ((0 : Nat) : Int) + 6 * (k : Int) + j = 6 * n + 4 then (wordOf d q o t).2.2.2.2.1 else if 60 * ((0 : Nat) : Int) + 6 * (k : Int) + j = 6 * n + 3 then (wordOf d q o t).2.2.2.1 else if 60 * ((0 : Nat) : Int) + 6 * (k : Int) + j = 6 * n + 2 then t else if 60 * ((0 : Nat) : Int) + 6 * (k : Int) + j = 6 * n + 1 then o else if 60 * ((0 : Nat) : Int) + 6 * (k : Int) + j = 6 * n then q else gel G (gfd G 12 21 m) (60 * ((0 : Nat) : Int) + 6 * (k : Int) + j)) = gel G (gfd G 12 21 m) (60 * ((0 : Nat) : Int) + 6 * (k : Int) + j) := fun j hj => by
        rw [if_neg (ne j 5 hj (by decide)), if_neg (ne j 4 hj (by decide)), if_neg (ne j 3 hj (by decide)), if_neg (ne j 2 hj (by decide)), if_neg (ne j 1 hj (by decide)), if_neg (by have := ne j 0 hj (by decide); omega)]
      have ez := e0 0 (by decide)
      rw [Int.add_zero] at ez
      rw [ez, e0 1 (by decide), e0 2 (by decide), e0 3 (by decide), e0 4 (by decide), e0 5 (by decide)]
      exact this
    · have hk2 : (k : Int) = n := by omega
      rw [if_neg hkn]
      have b0 : 60 * ((0 : Nat) : Int) + 6 * (k : Int) = 6 * n := by omega
      rw [b0]
      refine ⟨?_, ?_, ?_, ?_, ?_, ?_⟩
      · rw [if_neg (by omega), if_neg (by omega), if_neg (by omega), if_neg (by omega), if_neg (by omega), if_pos rfl]; rfl
      · rw [if_neg (by omega), if_neg (by omega), if_neg (by omega), if_neg (by omega), if_pos rfl]; rfl
      · rw [if_neg (by omega), if_neg (by omega), if_neg (by omega), if_pos rfl]; rfl
      · rw [if_neg (by omega), if_neg (by omega), if_pos rfl]
      · rw [if_neg (by omega), if_pos rfl]
      · rw [if_pos rfl]
  have hrl : MRl G8 m (dRl d) := h.2.2.2.2.2.2.2.2.1.fr2 kt ⟨by omega, by omega, by omega, by omega, by omega, by omega⟩ (fun b h1 h2 => by rw [v22, if_neg (by omega)]) (fun j h1 h2 => by rw [v21, if_neg (by omega), if_neg (by omega), if_neg (by omega), if_neg (by omega), if_neg (by omega), if_neg (by omega)])
  refine MqR.ok ((kt.f 0 (by omega)).trans h0) rfl (by rw [v22, if_pos rfl]) ⟨⟨⟨k8.1, k8.2.1, k8.2.2.1.1⟩, hm.2.1.mt kt ⟨by omega, by omega, by omega, by omega, by omega⟩, hm.2.2.1.mt kt ⟨by omega, by omega, by omega, by omega⟩, hm.2.2.2.1.mt kt ⟨by omega, by omega, by omega, by omega, by omega, by omega⟩, hm.2.2.2.2.1.mt kt ⟨by omega, by omega⟩, hm.2.2.2.2.2.1.mt kt ⟨by omega, by omega, by omega, by omega⟩, hm.2.2.2.2.2.2.1.mt kt (by omega), hmd, hrl, hm.2.2.2.2.2.2.2.2.2.1.mt kt ⟨by omega, by omega, by omega, by omega, by omega, by omega⟩, hm.2.2.2.2.2.2.2.2.2.2.1.mt kt ⟨by omega, by omega, by omega⟩, hm.2.2.2.2.2.2.2.2.2.2.2.1.mt kt ⟨by omega, by omega⟩, hm.2.2.2.2.2.2.2.2.2.2.2.2.mt kt (by omega)⟩, hk0.trans (k8.mono (fun _ _ => trivial))⟩
theorem om_word (h : MH E G m d ml mr) (hi : DI d) : Ok E M_X12_word [rv m, iv q, iv o, iv t] G c s (MqR E G m (cWord d q o t) tA ml mr) (fun _ _ => False) := by
  have c22 := h.1.1.fx 22 15 9
  have hc := h.2.2.2.2.2.2.2.1.1
  have hc' : gel G (gfd G 12 22 m) 0 = (dDr d).length := hc
  have hl10 := h.2.2.2.2.2.2.2.1.2.1
  refine i_X12_word ⟨okp_in, fun J2 hJ2 => ?_⟩
  have main : ∀ x3 : Int, (x3 ≠ 0 ↔ (0 ≤ q ∧ q ≤ 15) ∧ ffV q o ∧ sfV q t) → J2 x3 := fun x3 hx => hJ2 x3 ⟨fun _ => okp_in, fun J7 hJ7 => by
    have bad : ∀ e : Int, e ≠ 0 → 0 < e → cWord d q o t = no e d → J7 e G c s := fun e he hp hb => hJ7 _ _ _ _ ⟨h.k13, fun G13 e13 => by
      obtain ⟨k1, k2⟩ := h.thr e
      rw [← e13] at k1 k2
      refine ⟨k1.1.k13, fun h9 => by omega, fun _ => ?_⟩
      rw [hb]
      exact MqR.nok he k2 k1⟩
    refine ⟨fun h3 => ⟨h.k13, c22.1, by omega, fun J41 hJ41 => ?_⟩, fun h3 => bad 1 (by decide) (by decide) ?_⟩
    · have hg := hx.mp h3
      rw [hc']
      refine ⟨fun h10 => hJ41 _ _ _ (bad 2 (by decide) (by decide) ?_), fun h10 => ⟨h.k13, Call.pure (h.left0 hi) ?_⟩⟩
      · rw [cWord, if_pos hg, if_neg (by omega)]
      · rw [wn_eq hg.1]
        refine ⟨fun h9 => hJ7 _ _ _ _ ⟨h.k13, fun G13 e13 => ?_⟩, fun h9 => hJ41 _ _ _ (bad 2 (by decide) (by decide) ?_)⟩
        · obtain ⟨k1, k2⟩ := h.thr 0
          rw [← e13] at k1 k2
          rw [cWord, if_pos hg, if_pos ⟨by omega, h9⟩]
          exact ⟨k1.1.k13, fun _ => v_mword k1.1 hi k2 (by omega) hg.1 hg.2.1 rfl k1.2, fun h8 => by omega⟩
        · rw [cWord, if_pos hg, if_neg (by omega)]
    · rw [cWord, if_neg (fun h9 => (hx.mpr h9) h3)]⟩
  refine ⟨fun h1 => main _ ⟨fun h9 => (h9 h1).elim, fun h9 => (wIn0.mp h1 h9.1).elim⟩, fun h1 => ⟨fun _ _ _ => okp_in, fun _ _ _ => okp_in, fun _ _ => okp_in, fun _ => okp_in, fun _ _ _ _ => okp_in, fun _ _ => okp_in, main _ ?_⟩⟩
  have hk := wInY h1
  have e1 : (if q = 0 then wIn o (-1000000) 1000000 else if 7 < q then (if q = 15 then wIn o 0 1000 else wIn o 0 7) else wIn o 0 3) ≠ 0 ↔ ffV q o := by
    unfold ffV
    by_cases q0 : q = 0
    · rw [if_pos q0, if_pos q0]
      exact ⟨wInY, fun h9 h8 => wIn0.mp h8 h9⟩
    · rw [if_neg q0, if_neg q0]
      by_cases q7 : 7 < q
      · rw [if_pos q7, if_neg (c := 1 ≤ q ∧ q ≤ 7) (by omega)]
        by_cases q15 : q = 15
        · rw [if_pos q15, if_pos q15]
          exact ⟨wInY, fun h9 h8 => wIn0.mp h8 h9⟩
        · rw [if_neg q15, if_neg q15]
          exact ⟨wInY, fun h9 h8 => wIn0.mp h8 h9⟩
      · rw [if_neg q7, if_pos ⟨by omega, by omega⟩]
        exact ⟨wInY, fun h9 h8 => wIn0.mp h8 h9⟩
  have e2 : (if q = 1 then (if wIn t 0 1000 = 0 then (0 : Int) else 1) else if q ≤ 0 then 1 else if 7 < q then 1 else if wIn t 1 1000 = 0 then 0 else 1) ≠ 0 ↔ sfV q t := by
    unfold sfV
    by_cases q1 : q = 1
    · rw [if_pos q1]
      by_cases ht : wIn t 0 1000 = 0
      · rw [if_pos ht]
        refine ⟨fun h9 => absurd rfl h9, fun h9 => ?_⟩
        have := h9 ⟨by omega, by omega⟩
        rw [if_pos q1] at this
        exact (wIn0.mp ht this).elim
      · rw [if_neg ht]
        refine ⟨fun _ _ => ?_, fun _ => by decide⟩
        rw [if_pos q1]; exact wInY ht
    · rw [if_neg q1]
      by_cases q0 : q ≤ 0
      · rw [if_pos q0]; exact ⟨fun _ h9 => by omega, fun _ => by decide⟩
      · rw [if_neg q0]
        by_cases q7 : 7 < q
        · rw [if_pos q7]; exact ⟨fun _ h9 => by omega, fun _ => by decide⟩
        · rw [if_neg q7]
          by_cases ht : wIn t 1 1000 = 0
          · rw [if_pos ht]
            refine ⟨fun h9 => absurd rfl h9, fun h9 => ?_⟩
            have := h9 ⟨by omega, by omega⟩
            rw [if_neg q1] at this
            exact (wIn0.mp ht this).elim
          · rw [if_neg ht]
            refine ⟨fun _ _ => ?_, fun _ => by decide⟩
            rw [if_neg q1]; exact wInY ht
  by_cases g1 : (if q = 0 then wIn o (-1000000) 1000000 else if 7 < q then (if q = 15 then wIn o 0 1000 else wIn o 0 7) else wIn o 0 3) = 0
  · rw [if_pos g1]
    exact ⟨fun h9 => absurd rfl h9, fun h9 => (e1.mpr h9.2.1 g1).elim⟩
  · rw [if_neg g1, e2]
    exact ⟨fun h9 => ⟨hk, e1.mp g1, h9⟩, fun h9 => h9.2.2⟩
end Sa25
