/-! calls whose cost is told apart: what is refused costs only the exception -/
section Sb10
variable {E : EE} {G G' : Gt} {c s : Nat} {Q X : Int → Gt → Prop} {x i u t v z o w m ml mr : Int} {d : DS}
theorem ok_writeE (h : CH E G x d) (hi : DI d) (hc : (if wrP d z o w t v then takC d (100 * z + 10 * o + w) t v else 1) ≤ c) (hs : (if wrP d z o w t v then takS d (100 * z + 10 * o + w) t v else 6) ≤ s) : Ok E M_X11_write [rv x, iv z, iv o, iv w, iv t, iv v] G c s (RQ E G x (cWrite d z o w t v)) (RX G (cWrite d z o w t v)) := by
  have hno : ¬ ((0 ≤ z ∧ z ≤ 6) ∧ (0 ≤ o ∧ o ≤ 6) ∧ (0 ≤ w ∧ w ≤ 6) ∧ (0 ≤ t ∧ t ≤ dN d 0) ∧ (v = -2147483648 ∨ (-1000000 ≤ v ∧ v ≤ 1000000))) → 1 ≤ c ∧ 6 ≤ s ∧ RX G (cWrite d z o w t v) 1 G := fun h9 => by
    rw [if_neg (show ¬ wrP d z o w t v from h9)] at hc hs
    exact ⟨hc, hs, by rw [cWrite, if_neg h9]; exact RX.n⟩
  have e0 := h.nums.2.1
  refine i_X11_write ⟨okp_isWithin, fun h1 => hno fun h9 => wIn0.mp h1 h9.1, fun h1 => ⟨okp_isWithin, fun h2 => hno fun h9 => wIn0.mp h2 h9.2.1, fun h2 => ⟨okp_isWithin, fun h3 => ⟨h.1, okp_isWithin, fun h4 => ?_, fun h4 => hno fun h9 => wIn0.mp h4 (by rw [e0]; exact h9.2.2.2.1)⟩, fun h3 => hno fun h9 => wIn0.mp h3 h9.2.2.1⟩⟩⟩
  intro J hJ
  have h1' := wInY h1
  have h2' := wInY h2
  have h3' := wInY h3
  have h4' := wInY h4
  rw [e0] at h4'
  have hnow := hi.2.2.1
  have go : v = -2147483648 ∨ (-1000000 ≤ v ∧ v ≤ 1000000) → J := fun hv => by
    have hcw : cOk (100 * z + 10 * o + w) := by
      have e1 : Int.tdiv (100 * z + 10 * o + w) 10 = 10 * z + o := by rw [Int.tdiv_eq_ediv_of_nonneg (by omega)]; omega
      unfold cOk
      rw [e1, Int.tmod_eq_emod_of_nonneg (by omega), Int.tmod_eq_emod_of_nonneg (by omega)]
      omega
    obtain ⟨zs, hS⟩ := h.2.2.2.1
    rw [if_pos (show wrP d z o w t v from ⟨h1', h2', h3', h4', hv⟩)] at hc hs
    refine hJ ⟨h.1, i32s (by omega), i32s (by omega), i32s (by omega), i32s (by omega), hS.1, Call.to (ok_takeE h hi hcw ⟨h4'.1, by omega⟩ (Nat.le_refl _) (Nat.le_refl _)) hc hs fun r G1 ⟨e1, e2, _⟩ => ?_⟩
    rw [e1, cWrite, if_pos ⟨h1', h2', h3', h4', hv⟩]
    exact RQ.y e2
  refine ⟨fun h5 => go (Or.inl h5), fun h5 => ⟨okp_isWithin, fun h6 => go (Or.inr (wInY h6)), fun h6 => hno fun h9 => ?_⟩⟩
  rcases h9.2.2.2.2 with h7 | h7
  · exact h5 h7
  · exact wIn0.mp h6 h7
theorem ok_eraseE (h : CH E G x d) (hi : DI d) (hc : (if erP d i u t then 1 + recC d else 1) ≤ c) (hs : (if erP d i u t then 6 + recS d else 6) ≤ s) : Ok E M_X11_erase [rv x, iv i, iv u, iv t] G c s (RQ E G x (cErase d i u t)) (RX G (cErase d i u t)) := by
  refine i_X11_erase ⟨h.1, ?_⟩
  by_cases hr : 0 ≤ i ∧ i < 4
  · refine Call.to (mc' := 0) (ms' := 0) (ok_selectorOf (Q := fun r G1 => r = (lst G (gfd G 11 5 x)).getD i.toNat 0 ∧ G1 = G) h hi (fun _ => ⟨rfl, rfl⟩) (fun h8 => absurd hr h8)) (Nat.zero_le _) (Nat.zero_le _) fun r G1 ⟨e1, e2⟩ => ?_
    rw [e1, e2]
    have hq := h.sel hi hr
    have hno : ¬ ((0 ≤ u ∧ u ≤ 100000) ∧ (u ≤ t ∧ t ≤ 100000)) → 1 ≤ c - 0 ∧ 6 ≤ s - 0 ∧ RX G (cErase d i u t) 1 G := fun h9 => by
      rw [if_neg (show ¬ erP d i u t from fun h8 => h9 h8.2)] at hc hs
      exact ⟨by omega, by omega, by rw [cErase, if_pos hr, if_neg h9]; exact RX.n⟩
    refine ⟨okp_isWithin, fun h1 => hno fun h9 => wIn0.mp h1 h9.1, fun h1 => ⟨okp_isWithin, fun h2 => ?_, fun h2 => hno fun h9 => wIn0.mp h2 h9.2⟩⟩
    have h1' := wInY h1
    have h2' := wInY h2
    rw [if_pos (show erP d i u t from ⟨hr, h1', h2'⟩)] at hc hs
    refine ⟨h.1, h.cls.1, Call.to (ok_hideD h hi hq h2'.1 ⟨h1'.1, h2'.2⟩ (Nat.le_refl _) (Nat.le_refl _)) (by omega) (by omega) fun r G1 ⟨f1, f2⟩ => ?_⟩
    rw [f1, cErase, if_pos hr, if_pos ⟨h1', h2'⟩]
    exact RQ.y f2
  · rw [if_neg (show ¬ erP d i u t from fun h8 => hr h8.1)] at hc hs
    refine Call.of (mc' := 1) (ms' := 6) (Q' := fun _ _ => False) (X' := fun e G1 => e = 3 ∧ G1 = G) (ok_selectorOf h hi (fun h8 => absurd h8 hr) (fun _ => ⟨Nat.le_refl _, Nat.le_refl _, rfl, rfl⟩)) (by omega) (by omega) (fun e G1 ⟨e1, e2⟩ => ?_) (fun _ _ h8 => h8.elim)
    rw [e1, e2, cErase, if_neg hr]
    exact RX.n
theorem ok_passE (h : CH E G x d) (hw : WK d 800) (hc : 1 + (if passOk d t then passC t.toNat d else 0) ≤ c) (hs : 6 + (if passOk d t then passS t.toNat d else 0) ≤ s) : Ok E M_X11_pass [rv x, iv t] G c s (RQ E G x (cPass d t)) (RX G (cPass d t)) := by
  have h0 := hw.1.2.2.1
  have e0 := h.nums.2.1
  refine i_X11_pass ⟨okp_isWithin, fun h1 => ?_, fun h1 => ⟨by omega, by omega, by rw [cPass, if_neg (wIn0.mp h1)]; exact RX.n⟩⟩
  have h1' := wInY h1
  rw [e0]
  refine ⟨h.1, i32s (by omega), fun h2 => ?_, fun h2 => ⟨by omega, by omega, by rw [cPass, if_pos h1', if_neg (by omega)]; exact RX.n⟩⟩
  rw [if_pos (show passOk d t from ⟨h1', h2⟩)] at hc hs
  refine v_pass (D := passN t.toNat d) (m := 0) (fun G' h3 h4 => ?_) t.toNat 0 G d c s (by omega) (by omega) (CF.refl h) (hw.mono (by omega)) (by omega) rfl (by omega) (by omega)
  rw [cPass, if_pos h1', if_pos h2]
  exact RQ.y h3
theorem om_eraseE (h : MH E G m d ml mr) (hi : DI d) (hml : mr ≤ 10000000) (her : dN d 2 ≤ 1000000) (hc : (if erP d i u t then mgC (dRec d).length mr 1 else 0) ≤ c) (hs : (if erP d i u t then mgS (dRec d).length mr 1 else 0) ≤ s) :
    Ok E M_X12_erase [rv m, iv i, iv u, iv t] G c s (MqR E G m (cErase d i u t) tB ml (eMR d i u t mr)) (fun _ _ => False) := by
  have he0 := hi.2.2.2.2.1
  refine i_X12_erase ⟨okp_in, fun _ => okp_in, fun _ _ => okp_in, h.k13, fun G8 e8 => ?_⟩
  by_cases hr : 0 ≤ i ∧ i < 4
  · rw [if_neg (fun h9 => wIn0.mp h9 ⟨hr.1, by omega⟩)] at e8
    by_cases hu : (0 ≤ u ∧ u ≤ 100000) ∧ (u ≤ t ∧ t ≤ 100000)
    · rw [if_neg (fun h9 => wIn0.mp h9 hu.1), if_neg (fun h9 => wIn0.mp h9 hu.2)] at e8
      rw [if_pos (show erP d i u t from ⟨hr, hu⟩)] at hc hs
      obtain ⟨k1, k2⟩ := h.thr 0
      rw [← e8] at k1 k2
      have hm := k1.1
      have f15 : gfd G8 12 15 m = dN d 2 := hm.2.1.2.2.2.1
      refine ⟨hm.k13, fun _ => ⟨hm.k13, by rw [f15]; exact i32s' (by omega), hm.k13, fun G14 e14 => ?_⟩, fun h9 => by omega⟩
      rw [f15] at e14
      have k14 : MU E G8 G14 m (fun k => k = 13 ∨ k = 14 ∨ k = 15) := by rw [e14]; exact hm.ru.mSfd (by decide) (Or.inr (Or.inr rfl))
      have t14 : MT G8 G14 m (fun k => k = 15) := by
        have : MU E G8 G14 m (fun k => k = 15) := by rw [e14]; exact hm.ru.mSfd (by decide) rfl
        exact this.2.2.2.2.2
      have g15 : gfd G14 12 15 m = dN d 2 + 1 := by rw [e14, gfd_sfd, if_pos ⟨rfl, rfl, rfl⟩]
      have x13 := k14.1.gw 13 15
      have hR14 := hm.2.2.2.2.1.mt t14 ⟨by omega, by omega⟩
      refine ⟨k14.1.1, k14.1.1, by omega, fun J18 hJ18 => ?_⟩
      have hra := rec_add (X := fun _ _ => False) (v9 := dN d 2 + 1) k14 hR14 ⟨Or.inl rfl, Or.inr (Or.inl rfl)⟩ hml hc hs (K := fun G35 c21 s22 => V E M_X12_erase 120 [some (rv m), some (iv i), some (iv u), some (iv t), some (iv 0), some (iv 0)] [] G35 c21 s22 (MqR E G m (cErase d i u t) tB ml (eMR d i u t mr)) (fun _ _ => False)) (fun G35 c2 s2 k35 t35 hR35 _ _ => by
        have kt := k35.2.2.2.2.2
        have h35 : MH E G35 m (stD d (fun j => if j = 2 then dN d 2 + 1 else if j = 6 then recN d else dN d j) (dSer d) (dSmp d) ((dN d 2 + 1) :: dRec d) (dBk d)) ml (mlN (dRec d).length mr) := by
          refine ⟨⟨k35.1, k35.2.1, k35.2.2.1.1⟩, ?_, hm.2.2.1.mt kt ⟨by omega, by omega, by omega, by omega⟩, hm.2.2.2.1.mt kt ⟨by omega, by omega, by omega, by omega, by omega, by omega⟩, hR35, hm.2.2.2.2.2.1.mt kt ⟨by omega, by omega, by omega, by omega⟩, hm.2.2.2.2.2.2.1.mt kt (by omega), hm.2.2.2.2.2.2.2.1.mt kt ⟨by omega, by omega⟩, hm.2.2.2.2.2.2.2.2.1.mt kt ⟨by omega, by omega, by omega, by omega, by omega, by omega, by omega, by omega⟩, hm.2.2.2.2.2.2.2.2.2.1.mt kt ⟨by omega, by omega, by omega, by omega, by omega, by omega⟩, hm.2.2.2.2.2.2.2.2.2.2.1.mt kt ⟨by omega, by omega, by omega⟩, hm.2.2.2.2.2.2.2.2.2.2.2.1.mt kt ⟨by omega, by omega⟩, hm.2.2.2.2.2.2.2.2.2.2.2.2.mt kt (by omega)⟩
          exact ⟨(kt.f 1 (by omega)).trans hm.2.1.1, (kt.f 2 (by omega)).trans hm.2.1.2.1, (kt.f 48 (by omega)).trans hm.2.1.2.2.1, (t35.f 15 (by omega)).trans g15, (kt.f 46 (by omega)).trans hm.2.1.2.2.2.2⟩
        refine v_merase (d := stD d (fun j => if j = 2 then dN d 2 + 1 else if j = 6 then recN d else dN d j) (dSer d) (dSmp d) ((dN d 2 + 1) :: dRec d) (dBk d)) (e := dN d 2 + 1) h35 hi.1.2.2.1 (show setOk (selD d i) from selD_ok hi hr) hr rfl (fun G' kG hG => ?_) (dSmp d).length 0 G35 (Nat.zero_add _) h35.ru h35
        have e9 : eMR d i u t mr = mlN (dRec d).length mr := by unfold eMR; rw [if_pos ⟨hr, hu⟩]
        rw [cErase, if_pos hr, if_pos hu, e9]
        refine MqR.ok ((kG.2.2.2.2.2.f 0 (by omega)).trans ((kt.f 0 (by omega)).trans k2)) rfl ?_ ⟨hG, k1.2.trans ((k35.mono (fun _ _ => trivial)).trans (kG.mono (fun _ _ => trivial)))⟩
        show (((dSmp d).countP _ : Nat) : Int) = (((dSmp d).map (·.1)).countP _ : Nat)
        rw [List.countP_map]; rfl)
      have hra2 := hra J18 (fun x59 G60 c61 s62 hh => hJ18 x59 G60 c61 s62 (by
        have g64 := hh _ rfl
        refine ⟨g64.1, fun G24 e24 => ?_⟩
        rw [e24, g64.2.2.2.2.1, g15]
        exact ⟨g64.1, g64.1, g64.1, g64.2.1, g64.2.2.1, g64.2.2.2.1, fun G31 e31 => ⟨(g64.2.2.2.2.2 G31 e31).1, (g64.2.2.2.2.2 G31 e31).2.1, (g64.2.2.2.2.2 G31 e31).1, (g64.2.2.2.2.2 G31 e31).2.2⟩⟩))
      exact ⟨fun h9 => ⟨k14.1.1, hra2.1 h9⟩, fun h9 => ⟨k14.1.1, hra2.2 h9⟩⟩
    · have e0 : (if wIn u 0 100000 = 0 then (2 : Int) else if wIn t u 100000 = 0 then 2 else 0) = 2 := by
        by_cases h1 : wIn u 0 100000 = 0
        · rw [if_pos h1]
        · rw [if_neg h1, if_pos (wIn0.mpr (fun h9 => hu ⟨wInY h1, h9⟩))]
      rw [e0] at e8
      obtain ⟨k1, k2⟩ := h.thr 2
      rw [← e8] at k1 k2
      refine ⟨k1.1.k13, fun h9 => by omega, fun _ => ?_⟩
      have e9 : eMR d i u t mr = mr := by unfold eMR; rw [if_neg (fun h9 => hu h9.2)]
      rw [cErase, if_pos hr, if_neg hu, e9]
      exact MqR.nok (by decide) k2 k1
  · rw [if_pos (wIn0.mpr (fun h9 => hr ⟨h9.1, by omega⟩))] at e8
    obtain ⟨k1, k2⟩ := h.thr 1
    rw [← e8] at k1 k2
    refine ⟨k1.1.k13, fun h9 => by omega, fun _ => ?_⟩
    have e9 : eMR d i u t mr = mr := by unfold eMR; rw [if_neg (fun h9 => hr h9.1)]
    rw [cErase, if_neg hr, e9]
    exact MqR.nok (by decide) k2 k1
end Sb10
