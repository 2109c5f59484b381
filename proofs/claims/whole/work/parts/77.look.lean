/-! an alert looks: all of it -/
section S77
variable {E : EE} {G G' G2 G0 : Gt} {Q X : Int → Gt → Prop} {a r q l u v n m x fl ru now st kp wt9 : Int} {R : List (Int × Int)} {es es0 : List En} {c s : Nat}
theorem take_erase {α : Type} {L T : List α} {k : Nat} (hk : k < L.length) : (L.take (k + 1) ++ T).eraseIdx k = L.take k ++ T := by
  rw [List.eraseIdx_append_of_lt_length (by rw [List.length_take]; omega), List.eraseIdx_eq_take_drop_succ, List.take_take, Nat.min_eq_left (by omega), List.drop_eq_nil_of_le (by rw [List.length_take]; omega), List.append_nil]
theorem take_set {L T : List En} {k : Nat} {e : En} (hk : k < L.length) : (L.take (k + 1) ++ T).set k e = L.take k ++ e :: T := by
  rw [takeS (d := e0) hk, List.append_assoc, List.set_append_right _ _ (by rw [List.length_take]; omega), List.length_take, show k - min k L.length = 0 by omega]; rfl
theorem v_look (hO0 : OW G0) (hfl0 : gcl G0 fl = 14 ∧ gfd G0 13 1 fl ≠ -1) (hnow : 0 ≤ now ∧ now ≤ 100000) (hw0 : gfd G0 4 2 ru = wt9) (hk0 : gfd G0 4 3 ru = kp) (h50 : gcl G0 ru = 5) (hkp : 0 ≤ kp) {b : Int} (hb : b = 0 ∨ b = 1) (hrow : b ≠ 0 → RV n R) (hok : ∀ e ∈ es0, enOk e) (hasc : ascE es0) (hlen : es0.length ≤ 400) {P : Int → Bool} (hP0 : b = 0 → ∀ c, P c = false) (hP1 : b ≠ 0 → ∀ c, P c = R.any (fun y => decide (y.1 = c)))
    {esA : List En} (hA : esA = es0.filterMap (lkA1 now kp P)) {kn : Nat} (hkn : kn = if b = 0 then 0 else (lkB now esA R).length - esA.length) {C0 : Int} (hc : kn + grC kn C0 esA.length ≤ c) (hs : 5 * kn + grS kn C0 esA.length ≤ s) :
    ∀ (k : Nat) (G : Gt), k ≤ es0.length → LkS E G0 G ru fl (es0.take k ++ (es0.drop k).filterMap (lkA1 now kp P)) → (b ≠ 0 → RowH G r n R) → capOf G fl = C0 →
    V E M_X4_look 37 [some (rv ru), some (rv r), some (iv now), some (iv b), some (iv ((k : Int) - 1)), none] [] G c s (fun _ G' => LkS E G0 G' ru fl ((if b = 0 then esA else lkB now esA R).map (fireE now wt9)) ∧ capOf G' fl = capN kn C0 esA.length) X := by
  have hmemA : ∀ e ∈ esA, enOk e ∧ ∃ e1 ∈ es0, e1.1 = e.1 := fun e he => by
    rw [hA] at he
    obtain ⟨e1, he1, h9⟩ := List.mem_filterMap.mp he
    have ho := hok e1 he1
    unfold lkA1 at h9
    split at h9
    · have h8 := Option.some.inj h9
      refine ⟨?_, e1, he1, by rw [← h8]⟩
      rw [← h8]
      unfold enOk at ho ⊢
      exact ⟨ho.1, hnow, ho.2.2⟩
    · split at h9
      · cases h9
      · have h8 := Option.some.inj h9
        rw [← h8]; exact ⟨ho, e1, he1, rfl⟩
  have hascA : ascE esA := by
    rw [hA]
    unfold ascE
    rw [List.pairwise_filterMap]
    refine hasc.imp fun {e1 e2} h9 x hx y hy => ?_
    have key : ∀ (e x : En), lkA1 now kp P e = some x → x.1 = e.1 := fun e x h8 => by
      unfold lkA1 at h8
      split at h8
      · have := Option.some.inj h8; rw [← this]
      · split at h8
        · cases h8
        · have := Option.some.inj h8; rw [← this]
    rw [key _ _ hx, key _ _ hy]; exact h9
  have hlenA : esA.length ≤ es0.length := by rw [hA]; exact List.length_filterMap_le _ _
  intro k
  induction k with
  | zero =>
    intro G _ hS hr hC
    rw [List.take_zero, List.nil_append, List.drop_zero, ← hA] at hS
    refine b_X4_look_37 ⟨fun _ => ⟨fun hb0 => ?_, fun hb1 => ⟨hS.2.2.2.1, ?_⟩⟩, fun h9 => by omega⟩
    · have hv := v_fire (E := E) (c := c) (s := s) (X := X) (K := fun _ => True) hnow hw0 h50 esA.length 0 G esA (by omega) (by omega) (by rw [List.take_zero, List.drop_zero]; exact hS) (fun e he => (hmemA e he).1)
      rw [if_pos hb0] at hkn ⊢
      rw [hkn]
      have e : capN 0 C0 (esA.length : Int) = capOf G fl := hC.symm
      rw [e]
      exact hv
    · rw [if_neg hb1] at hkn
      obtain ⟨h1, h2, h3, h4, h44, h6, h7⟩ := hS
      have hR := hrow hb1
      have hAd : AdS E G0 G ru fl r n R esA := ⟨h1, h2, h3, h4, h44, h6, hr hb1, h7⟩
      have hv := v_addNew (E := E) (X := fun _ _ => False) (now := now) hO0 hfl0 hR R.length 0 G esA 0 (kn + grC kn C0 esA.length) (5 * kn + grS kn C0 esA.length) (by omega) hAd hascA (Nat.zero_le _) (by have := hR.1; omega) (fun k hk => absurd hk (Nat.not_lt_zero k)) (by rw [List.drop_zero, ← hkn]; unfold adC; rw [hC]; exact Nat.le_refl _) (by rw [List.drop_zero, ← hkn]; unfold adS; rw [hC]; exact Nat.le_refl _)
      rw [List.drop_zero, ← hkn, hC] at hv
      refine Call.to (i_X4_addNew hv) hc hs fun _ G5 hq => ?_
      obtain ⟨⟨q1, q2, q3, q4, q5, q6, q7, q8⟩, q9⟩ := hq
      rw [if_neg hb1]
      have hokB : ∀ e ∈ lkB now esA R, enOk e := by
        have : ∀ (R : List (Int × Int)) (es : List En), (∀ e ∈ es, enOk e) → ∀ e ∈ lkB now es R, enOk e := by
          intro R
          induction R with
          | nil => exact fun es h => h
          | cons y R ih =>
            intro es h
            refine ih _ fun e he => ?_
            rcases insE_mem he with h9 | h9
            · exact h e h9
            · rw [h9]
              exact ⟨hnow, hnow, Or.inl rfl, Or.inl rfl⟩
        exact this R esA (fun e he => (hmemA e he).1)
      have hlB : (lkB now esA R).length ≤ 1000 := by
        have : ∀ (R : List (Int × Int)) (es : List En), (lkB now es R).length ≤ es.length + R.length := by
          intro R
          induction R with
          | nil => exact fun es => Nat.le_refl _
          | cons y R ih =>
            intro es
            have h1 := ih (insE now y.1 es)
            have h2 := (insE_len (now := now) (l := y.1) es).2
            rw [List.length_cons]
            exact Nat.le_trans h1 (by omega)
        have h1 := this R esA
        have := hR.1
        omega
      have hv2 := v_fire (E := E) (c := c - (kn + grC kn C0 esA.length)) (s := s - (5 * kn + grS kn C0 esA.length)) (X := X) (K := fun _ => True) hnow hw0 h50 (lkB now esA R).length 0 G5 (lkB now esA R) (by omega) hlB (by rw [List.take_zero, List.drop_zero]; exact ⟨q1, q2, q3, q4, q5, q6, q8⟩) hokB
      rw [q9] at hv2
      exact hv2
  | succ k ih =>
    intro G hk hS hr hC
    have hS0 := hS
    obtain ⟨h1, h2, h3, h4, h44, h6, h7⟩ := hS
    have hkl : k < es0.length := by omega
    have hlenc : k < (es0.take (k + 1) ++ (es0.drop (k + 1)).filterMap (lkA1 now kp P)).length := by rw [List.length_append, List.length_take]; omega
    obtain ⟨g1, g2, g3, g4⟩ := h6.get h1 (i := k) hlenc
    have hcur : (es0.take (k + 1) ++ (es0.drop (k + 1)).filterMap (lkA1 now kp P)).getD k e0 = es0.getD k e0 := by
      rw [List.getD_eq_getElem?_getD, List.getElem?_append_left (by rw [List.length_take]; omega), List.getElem?_take, if_pos (by omega), ← List.getD_eq_getElem?_getD]
    rw [hcur] at g2
    have hem : es0.getD k e0 ∈ es0 := by rw [List.getD_eq_getElem?_getD, List.getElem?_eq_getElem hkl]; exact List.getElem_mem hkl
    have hok1 := hok _ hem
    have hd : es0.drop k = es0.getD k e0 :: es0.drop (k + 1) := by
      rw [List.drop_eq_getElem_cons hkl, List.getD_eq_getElem?_getD, List.getElem?_eq_getElem hkl]; rfl
    have e43 : gfd G 4 3 ru = kp := by rw [h3.2.1 4 3 ru (by decide) (by omega) (fun h9 => by omega)]; exact hk0
    have hat := alAt_get h1 h6.1 h6.2.1 (i := k) (by rw [h6.2.2.1]; omega)
    have ek : ((k + 1 : Nat) : Int) - 1 = (k : Int) := by omega
    have ek2 : (k : Int) + (-1) = (k : Int) - 1 := by omega
    rw [ek]
    -- removed, kept, or written
    have rem : lkA1 now kp P (es0.getD k e0) = none → gcl G ru = 5 ∧ gcl G (gfd G 4 4 ru) = 14 ∧ Call E M_A_remove [rv (gfd G 4 4 ru), iv (k : Int)] G c s X (fun _ G33 c34 s35 => i32 ((k : Int) + (-1)) ∧ V E M_X4_look 37 [some (rv ru), some (rv r), some (iv now), some (iv b), some (iv ((k : Int) + (-1))), none] [] G33 c34 s35 (fun _ G' => LkS E G0 G' ru fl ((if b = 0 then esA else lkB now esA R).map (fireE now wt9)) ∧ capOf G' fl = capN kn C0 esA.length) X) := fun hf => by
      rw [h44]
      refine ⟨h4, h6.1, Call.to (ok_remove h1 h6.1 h6.2.1 (by omega) (by rw [g3]; omega)) (Nat.zero_le _) (Nat.zero_le _) fun _ G6 hq => ⟨i32s (by omega), ?_⟩⟩
      obtain ⟨-, hq⟩ := hq
      rw [Int.toNat_natCast] at hq
      have hr2 := hS0.rem hlenc hq
      rw [take_erase hkl] at hr2
      have : (es0.drop k).filterMap (lkA1 now kp P) = (es0.drop (k + 1)).filterMap (lkA1 now kp P) := by rw [hd, List.filterMap_cons, hf]
      rw [← this] at hr2
      rw [ek2]
      exact ih G6 (by omega) hr2 (fun h9 => (hr h9).fr hq.fr (fun _ => id) id id) (hq.2.2.2.2.2.2.1.trans hC)
    have keep : lkA1 now kp P (es0.getD k e0) = some (es0.getD k e0) → i32 ((k : Int) + (-1)) ∧ V E M_X4_look 37 [some (rv ru), some (rv r), some (iv now), some (iv b), some (iv ((k : Int) + (-1))), none] [] G c s (fun _ G' => LkS E G0 G' ru fl ((if b = 0 then esA else lkB now esA R).map (fireE now wt9)) ∧ capOf G' fl = capN kn C0 esA.length) X := fun hf => by
      have : es0.take k ++ (es0.drop k).filterMap (lkA1 now kp P) = es0.take (k + 1) ++ (es0.drop (k + 1)).filterMap (lkA1 now kp P) := by
        rw [takeS (d := e0) hkl, hd, List.filterMap_cons, hf, List.append_assoc]; rfl
      rw [ek2]
      exact ⟨i32s (by omega), ih G (by omega) (by rw [this]; exact hS0) hr hC⟩
    have hbody : P (es0.getD k e0).1 = false → (gcl G (alAt G fl (k : Int)) = 1 ∧ (((gfd G 0 1 (alAt G fl (k : Int))) = 0 → (gcl G ru = 5 ∧ gcl G (gfd G 4 4 ru) = 14 ∧ Call E M_A_remove [rv (gfd G 4 4 ru), iv (k : Int)] G c s X (fun _ G21 c22 s23 => i32 ((k : Int) + (-1)) ∧ V E M_X4_look 37 [some (rv ru), some (rv r), some (iv now), some (iv b), some (iv ((k : Int) + (-1))), none] [] G21 c22 s23 (fun _ G' => LkS E G0 G' ru fl ((if b = 0 then esA else lkB now esA R).map (fireE now wt9)) ∧ capOf G' fl = capN kn C0 esA.length) X))) ∧ ((gfd G 0 1 (alAt G fl (k : Int))) ≠ 0 → (gcl G (alAt G fl (k : Int)) = 1 ∧ i32 (now - (gfd G 0 4 (alAt G fl (k : Int)))) ∧ gcl G ru = 5 ∧ (((now - (gfd G 0 4 (alAt G fl (k : Int)))) ≤ (gfd G 4 3 ru) → (i32 ((k : Int) + (-1)) ∧ V E M_X4_look 37 [some (rv ru), some (rv r), some (iv now), some (iv b), some (iv ((k : Int) + (-1))), none] [] G c s (fun _ G' => LkS E G0 G' ru fl ((if b = 0 then esA else lkB now esA R).map (fireE now wt9)) ∧ capOf G' fl = capN kn C0 esA.length) X)) ∧ ((gfd G 4 3 ru) < (now - (gfd G 0 4 (alAt G fl (k : Int)))) → (gcl G ru = 5 ∧ gcl G (gfd G 4 4 ru) = 14 ∧ Call E M_A_remove [rv (gfd G 4 4 ru), iv (k : Int)] G c s X (fun _ G33 c34 s35 => i32 ((k : Int) + (-1)) ∧ V E M_X4_look 37 [some (rv ru), some (rv r), some (iv now), some (iv b), some (iv ((k : Int) + (-1))), none] [] G33 c34 s35 (fun _ G' => LkS E G0 G' ru fl ((if b = 0 then esA else lkB now esA R).map (fireE now wt9)) ∧ capOf G' fl = capN kn C0 esA.length) X)))))))) := fun hp => by
      have hpn : ¬ P (es0.getD k e0).1 = true := by rw [hp]; decide
      rw [g2.2.2.1, g2.2.2.2.2.1, e43]
      refine ⟨g2.1, fun h9 => rem (by unfold lkA1; rw [if_neg hpn, if_pos (Or.inl h9)]), fun h9 => ⟨g2.1, i32s (by unfold enOk at hok1; omega), h4, fun h8 => keep (by unfold lkA1; rw [if_neg hpn, if_neg (by omega)]), fun h8 => rem (by unfold lkA1; rw [if_neg hpn, if_pos (Or.inr h8)])⟩⟩
    refine b_X4_look_37 ⟨fun h9 => by omega, fun _ => ⟨h4, by rw [h44]; exact h6.1, by rw [h44]; exact g1, by rw [h44]; exact Or.inr g2.1, fun J hJ => ?_⟩⟩
    rw [h44]
    have hJ' : P (es0.getD k e0).1 = false → J G c s := fun hp => hJ G c s (by
      have := hbody hp
      rw [h44] at this ⊢
      exact this)
    refine ⟨fun hb0 => hJ' (hP0 hb0 _), fun hb1 => ?_⟩
    have hRow := hr hb1
    obtain ⟨x, hx, hfd⟩ := hRow.find (E := E) (es0.getD k e0).1
    rw [g2.2.1]
    refine ⟨g2.1, hRow.1.1, Call.pure hx ⟨fun h9 => hJ' ?_, fun h9 => ⟨g2.1, fun G46 e46 => ⟨i32s (by omega), ?_⟩⟩⟩⟩
    · rcases hfd with ⟨-, h8⟩ | ⟨i, hi, h8, -⟩
      · rw [hP1 hb1, List.any_eq_false]
        exact fun y hy h7 => h8 y hy (of_decide_eq_true h7)
      · omega
    · rcases hfd with ⟨h8, -⟩ | ⟨i, hi, h8, h7⟩
      · exact (h9 h8).elim
      · have hpt : P (es0.getD k e0).1 = true := by
          rw [hP1 hb1, List.any_eq_true]
          exact ⟨R.getD i (0, 0), by rw [List.getD_eq_getElem?_getD, List.getElem?_eq_getElem hi]; exact List.getElem_mem hi, decide_eq_true h7⟩
        rw [hat] at g2 e46
        have s1 := hS0.set1 (i := k) (j := 4) (w := now) (e' := ((es0.getD k e0).1, (es0.getD k e0).2.1, (es0.getD k e0).2.2.1, now, (es0.getD k e0).2.2.2.2)) hlenc (by
          refine ⟨g2.1, ?_, ?_, ?_, ?_, ?_⟩ <;> rw [gfd_sfd]
          · rw [if_neg (by omega)]; exact g2.2.1
          · rw [if_neg (by omega)]; exact g2.2.2.1
          · rw [if_neg (by omega)]; exact g2.2.2.2.1
          · rw [if_pos ⟨rfl, rfl, rfl⟩]
          · rw [if_neg (by omega)]; exact g2.2.2.2.2.2)
        rw [take_set hkl, ← e46] at s1
        have hfe : lkA1 now kp P (es0.getD k e0) = some ((es0.getD k e0).1, (es0.getD k e0).2.1, (es0.getD k e0).2.2.1, now, (es0.getD k e0).2.2.2.2) := by unfold lkA1; rw [if_pos hpt]
        have hfm : (es0.drop k).filterMap (lkA1 now kp P) = ((es0.getD k e0).1, (es0.getD k e0).2.1, (es0.getD k e0).2.2.1, now, (es0.getD k e0).2.2.2.2) :: (es0.drop (k + 1)).filterMap (lkA1 now kp P) := by rw [hd, List.filterMap_cons, hfe]
        rw [← hfm] at s1
        rw [ek2]
        exact ih G46 (by omega) s1.1 (fun h9 => (hr h9).fr (by rw [e46]; exact FR.mSfd (by decide)) (fun j h9 => by omega) id id) (by rw [e46, capOf_sfd (by decide)]; exact hC)
end S77
