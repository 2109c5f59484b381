/-! the model's erase, crash, mend -/
section Sa32
variable {E : EE} {G G' G2 G0 : Gt} {c s bc bs : Nat} {Q X : Int → Gt → Prop} {a i v q m x ml mr u l t w z o f e p n r sx : Int} {k j b : Nat} {T T' : Nat → Prop} {d d' : DS} {ser : List Int} {smp : List (Sm4 × Int)} {rs : List Int}
abbrev erP (d : DS) (i u t : Int) : Prop := (0 ≤ i ∧ i < 4) ∧ (0 ≤ u ∧ u ≤ 100000) ∧ (u ≤ t ∧ t ≤ 100000)
def eMR (d : DS) (i u t mr : Int) : Int := if erP d i u t then mlN (dRec d).length mr else mr
theorem om_erase (h : MH E G m d ml mr) (hi : DI d) (hml : mr ≤ 10000000) (her : dN d 2 ≤ 1000000) (hc : mgC (dRec d).length mr 1 ≤ c) (hs : mgS (dRec d).length mr 1 ≤ s) :
    Ok E M_X12_erase [rv m, iv i, iv u, iv t] G c s (MqR E G m (cErase d i u t) tB ml (eMR d i u t mr)) (fun _ _ => False) := by
  have he0 := hi.2.2.2.2.1
  refine i_X12_erase ⟨okp_in, fun _ => okp_in, fun _ _ => okp_in, h.k13, fun G8 e8 => ?_⟩
  by_cases hr : 0 ≤ i ∧ i < 4
  · rw [if_neg (fun h9 => wIn0.mp h9 ⟨hr.1, by omega⟩)] at e8
    by_cases hu : (0 ≤ u ∧ u ≤ 100000) ∧ (u ≤ t ∧ t ≤ 100000)
    · rw [if_neg (fun h9 => wIn0.mp h9 hu.1), if_neg (fun h9 => wIn0.mp h9 hu.2)] at e8
      obtain ⟨k1, k2⟩ := h.thr 0
      rw [← e8] at k1 k2
      have hm := k1.1
      have f15 : gfd G8 12 15 m = dN d 2 := hm.2.1.2.2.2.1
      refine ⟨hm.k13, fun _ => ⟨hm.k13, by rw [f15]; exact i32s' (by omega), hm.k13, fun G14 e14 => ?_⟩, fun h9 => by omega⟩
      rw [f15] at e14
      have k14 : MU E G8 G14 m (fun k => k = 13 ∨ k = 14 ∨ k = 15) := by rw [e14]; exact hm.ru.mSfd (by decide) (Or.inr (Or.inr rfl))
      have t14 : MT G8 G14 m (fun k => k = 15) := by
        have : MU E G8 G14 m (fun k => k = 15) := by rw [e14]; exact hm.ru.mSfd (by decide) rfl
        exact this.2.2.2.2.2
      have g15 : gfd G14 12 15 m = dN d 2 + 1 := by rw [e14, gfd_sfd, if_pos ⟨rfl, rfl, rfl⟩]
      have x13 := k14.1.gw 13 15
      have hR14 := hm.2.2.2.2.1.mt t14 ⟨by omega, by omega⟩
      refine ⟨k14.1.1, k14.1.1, by omega, fun J18 hJ18 => ?_⟩
      have hra := rec_add (X := fun _ _ => False) (v9 := dN d 2 + 1) k14 hR14 ⟨Or.inl rfl, Or.inr (Or.inl rfl)⟩ hml hc hs (K := fun G35 c21 s22 => V E M_X12_erase 120 [some (rv m), some (iv i), some (iv u), some (iv t), some (iv 0), some (iv 0)] [] G35 c21 s22 (MqR E G m (cErase d i u t) tB ml (eMR d i u t mr)) (fun _ _ => False)) (fun G35 c2 s2 k35 t35 hR35 _ _ => by
        have kt := k35.2.2.2.2.2
        have h35 : MH E G35 m (stD d (fun j => if j = 2 then dN d 2 + 1 else if j = 6 then recN d else dN d j) (dSer d) (dSmp d) ((dN d 2 + 1) :: dRec d) (dBk d)) ml (mlN (dRec d).length mr) := by
          refine ⟨⟨k35.1, k35.2.1, k35.2.2.1.1⟩, ?_, hm.2.2.1.mt kt ⟨by omega, by omega, by omega, by omega⟩, hm.2.2.2.1.mt kt ⟨by omega, by omega, by omega, by omega, by omega, by omega⟩, hR35, hm.2.2.2.2.2.1.mt kt ⟨by omega, by omega, by omega, by omega⟩, hm.2.2.2.2.2.2.1.mt kt (by omega), hm.2.2.2.2.2.2.2.1.mt kt ⟨by omega, by omega⟩, hm.2.2.2.2.2.2.2.2.1.mt kt ⟨by omega, by omega, by omega, by omega, by omega, by omega, by omega, by omega⟩, hm.2.2.2.2.2.2.2.2.2.1.mt kt ⟨by omega, by omega, by omega, by omega, by omega, by omega⟩, hm.2.2.2.2.2.2.2.2.2.2.1.mt kt ⟨by omega, by omega, by omega⟩, hm.2.2.2.2.2.2.2.2.2.2.2.1.mt kt ⟨by omega, by omega⟩, hm.2.2.2.2.2.2.2.2.2.2.2.2.mt kt (by omega)⟩
          exact ⟨(kt.f 1 (by omega)).trans hm.2.1.1, (kt.f 2 (by omega)).trans hm.2.1.2.1, (kt.f 48 (by omega)).trans hm.2.1.2.2.1, (t35.f 15 (by omega)).trans g15, (kt.f 46 (by omega)).trans hm.2.1.2.2.2.2⟩
        refine v_merase (d := stD d (fun j => if j = 2 then dN d 2 + 1 else if j = 6 then recN d else dN d j) (dSer d) (dSmp d) ((dN d 2 + 1) :: dRec d) (dBk d)) (e := dN d 2 + 1) h35 hi.1.2.2.1 (show setOk (selD d i) from selD_ok hi hr) hr rfl (fun G' kG hG => ?_) (dSmp d).length 0 G35 (Nat.zero_add _) h35.ru h35
        have e9 : eMR d i u t mr = mlN (dRec d).length mr := by unfold eMR; rw [if_pos ⟨hr, hu⟩]
        rw [cErase, if_pos hr, if_pos hu, e9]
        refine MqR.ok ((kG.2.2.2.2.2.f 0 (by omega)).trans ((kt.f 0 (by omega)).trans k2)) rfl ?_ ⟨hG, k1.2.trans ((k35.mono (fun _ _ => trivial)).trans (kG.mono (fun _ _ => trivial)))⟩
        show (((dSmp d).countP _ : Nat) : Int) = (((dSmp d).map (·.1)).countP _ : Nat)
        rw [List.countP_map]; rfl)
      have hra2 := hra J18 (fun x59 G60 c61 s62 hh => hJ18 x59 G60 c61 s62 (by
        have g64 := hh _ rfl
        refine ⟨g64.1, fun G24 e24 => ?_⟩
        rw [e24, g64.2.2.2.2.1, g15]
        exact ⟨g64.1, g64.1, g64.1, g64.2.1, g64.2.2.1, g64.2.2.2.1, fun G31 e31 => ⟨(g64.2.2.2.2.2 G31 e31).1, (g64.2.2.2.2.2 G31 e31).2.1, (g64.2.2.2.2.2 G31 e31).1, (g64.2.2.2.2.2 G31 e31).2.2⟩⟩))
      exact ⟨fun h9 => ⟨k14.1.1, hra2.1 h9⟩, fun h9 => ⟨k14.1.1, hra2.2 h9⟩⟩
    · have e0 : (if wIn u 0 100000 = 0 then (2 : Int) else if wIn t u 100000 = 0 then 2 else 0) = 2 := by
        by_cases h1 : wIn u 0 100000 = 0
        · rw [if_pos h1]
        · rw [if_neg h1, if_pos (wIn0.mpr (fun h9 => hu ⟨wInY h1, h9⟩))]
      rw [e0] at e8
      obtain ⟨k1, k2⟩ := h.thr 2
      rw [← e8] at k1 k2
      refine ⟨k1.1.k13, fun h9 => by omega, fun _ => ?_⟩
      have e9 : eMR d i u t mr = mr := by unfold eMR; rw [if_neg (fun h9 => hu h9.2)]
      rw [cErase, if_pos hr, if_neg hu, e9]
      exact MqR.nok (by decide) k2 k1
  · rw [if_pos (wIn0.mpr (fun h9 => hr ⟨h9.1, by omega⟩))] at e8
    obtain ⟨k1, k2⟩ := h.thr 1
    rw [← e8] at k1 k2
    refine ⟨k1.1.k13, fun h9 => by omega, fun _ => ?_⟩
    have e9 : eMR d i u t mr = mr := by unfold eMR; rw [if_neg (fun h9 => hr h9.1)]
    rw [cErase, if_neg hr, e9]
    exact MqR.nok (by decide) k2 k1
/-! crash -/
def unF (r : Int) (q : Sm4 × Int) : Sm4 × Int := (unh r q.1, q.2)
theorem v_munhide {i9 tor : Int} (hr : 0 < r) (hn : 0 ≤ i9 ∧ i9 ≤ 1000) (hQ : ∀ G', MU E G0 G' m (fun k => k = 10) → MH E G' m (smpD d ((dSmp d).map (unF r))) ml mr → V E M_X12_crash 31 [some (rv m), some (iv tor), some (iv (i9 + 1)), none, none] [] G' c s Q X) :
    ∀ (n j : Nat) (G : Gt), j + n = (dSmp d).length → MU E G0 G m (fun k => k = 10) → MH E G m (smpD d (((dSmp d).take j).map (unF r) ++ (dSmp d).drop j)) ml mr →
      V E M_X12_crash 80 [some (rv m), some (iv tor), some (iv i9), some (iv r), some (iv (j : Int))] [] G c s Q X := by
  intro n
  induction n with
  | zero =>
    intro j G hj kk h
    have e1 : (dSmp d).take j = dSmp d := List.take_of_length_le (by omega)
    have e2 : (dSmp d).drop j = [] := List.drop_eq_nil_of_le (by omega)
    rw [e1, e2, List.append_nil] at h
    have hn9 := h.2.2.2.1.1
    rw [show dSmp (smpD d ((dSmp d).map (unF r))) = (dSmp d).map (unF r) from rfl, List.length_map] at hn9
    exact b_X12_crash_80 ⟨h.k13, fun _ => ⟨i32s' (by omega), hQ G kk h⟩, fun h9 => by omega⟩
  | succ n ih =>
    intro j G hj kk h
    have hlt : j < (dSmp d).length := by omega
    have hL := maplen (f := unF r) (L := dSmp d) (j := j)
    have hat := mapat (f := unF r) (y := z4) hlt
    have hS : MSm G m (dSer d) (((dSmp d).take j).map (unF r) ++ (dSmp d).drop j) ml := h.2.2.2.1
    have hn' : gfd G 12 12 m = (dSmp d).length := by rw [hS.1, hL]
    obtain ⟨⟨a1, a2, a3⟩, a4, a5, a6, a7⟩ := hS.at (k := j) (by rw [hL]; exact hlt)
    rw [hat] at a6
    have hgl := hS.2.2.1
    have hml := hS.2.1
    rw [hL] at hml
    have x10 := h.1.1.gw 10 15
    refine b_X12_crash_80 ⟨h.k13, fun h9 => by omega, fun _ => ⟨fun h9 => by omega, fun _ => ⟨h.k13, h.k13, x10.1, by omega, by omega, fun _ => h.k13, fun _ => x10.1, fun _ => by omega, fun _ => by omega, x10.1, by omega, by omega, fun G19 e19 => ⟨i32s' (by omega), ?_⟩⟩⟩⟩
    rw [a6] at e19
    have k19 : MU E G G19 m (fun k => k = 10) := by rw [e19]; exact h.ru.mSel (by decide) rfl
    have hS19 := hS.setH h.1.1 (k := j) (by rw [hL]; exact hlt) (if qH ((dSmp d).getD j z4).1 = r then 0 else qH ((dSmp d).getD j z4).1)
    rw [hat] at hS19
    have hfq : unF r ((dSmp d).getD j z4) = ((qC ((dSmp d).getD j z4).1, qT ((dSmp d).getD j z4).1, qV ((dSmp d).getD j z4).1, if qH ((dSmp d).getD j z4).1 = r then 0 else qH ((dSmp d).getD j z4).1), ((dSmp d).getD j z4).2) := rfl
    rw [← hfq, mapset hlt, ← e19] at hS19
    exact ih (j + 1) G19 (by omega) (kk.trans k19) (h.otherS k19 (fun j h9 => Or.inl h9) hS19)
theorem MSm.drop1 {q : Sm4 × Int} (h : MSm G m ser (smp ++ [q]) ml) (h12 : gfd G' 12 12 m = smp.length) (kt : MT G G' m (fun k => k = 12 ∨ k = 14)) : MSm G' m ser smp ml := by
  obtain ⟨h1, h2, h3, h4⟩ := h
  rw [List.length_append] at h2
  have h2' : ((smp.length + 1 : Nat) : Int) ≤ ml ∧ ml ≤ 20000000 := h2
  refine ⟨h12, ⟨by omega, h2'.2⟩, ⟨(kt.l 7 (by omega)).trans h3.1, (kt.l 8 (by omega)).trans h3.2.1, (kt.l 9 (by omega)).trans h3.2.2.1, (kt.l 10 (by omega)).trans h3.2.2.2.1, (kt.l 11 (by omega)).trans h3.2.2.2.2⟩, fun k hk => ?_⟩
  have g := h4 k (by rw [List.length_append]; show k < smp.length + 1; omega)
  rw [appZ, if_pos hk] at g
  rw [kt.e 7 (by omega), kt.e 8 (by omega), kt.e 9 (by omega), kt.e 10 (by omega), kt.e 11 (by omega)]
  exact g
def crD (d : DS) (n : Nat) : DS := stD d (dN d) (dSer d) (crS n (dRec d) (dSmp d)).2 (crS n (dRec d) (dSmp d)).1 (dBk d)
theorem v_mcrash {tor : Int} (ht : tor ≤ 1000) {D : DS} (hQ : ∀ G', MU E G0 G' m (fun k => k = 10 ∨ k = 12 ∨ k = 14) → MH E G' m D ml mr → Q (dRec D).length G') : ∀ (n : Nat) (i9 : Int) (G : Gt) (d : DS), 0 ≤ i9 → i9 + n = tor → SI (dSer d) (smS d) (dRec d) (dN d 2) → crD d n = D → MU E G0 G m (fun k => k = 10 ∨ k = 12 ∨ k = 14) → MH E G m d ml mr →
    V E M_X12_crash 31 [some (rv m), some (iv tor), some (iv i9), none, none] [] G c s Q X := by
  intro n
  induction n with
  | zero =>
    intro i9 G d h0 hi hsi hD kk h
    have e : crD d 0 = d := rfl
    have hq := hQ G kk (by rw [← hD, e]; exact h)
    rw [← hD, e, ← h.2.2.2.2.1.1] at hq
    exact b_X12_crash_31 ⟨fun _ => ⟨h.k13, hq⟩, fun h9 => by omega⟩
  | succ n ih =>
    intro i9 G d h0 hi hsi hD kk h
    obtain ⟨r1, r2, r3, r4⟩ := id h.2.2.2.2.1
    refine b_X12_crash_31 ⟨fun h9 => by omega, fun _ => ⟨h.k13, fun hz => ?_, fun hz => ⟨h.k13, i32s' (by omega), h.k13, fun G9 e9 => ?_⟩⟩⟩
    · have hnil : dRec d = [] := List.length_eq_zero_iff.mp (by omega)
      have e : crD d (n + 1) = d := by
        unfold crD
        rw [hnil]
        show stD d (dN d) (dSer d) (dSmp d) [] (dBk d) = d
        rw [← hnil]; rfl
      have hq := hQ G kk (by rw [← hD, e]; exact h)
      rw [← hD, e, ← r1] at hq
      exact ⟨h.k13, hq⟩
    · obtain ⟨r, rs, hrs⟩ : ∃ r rs, dRec d = r :: rs := by
        cases hh : dRec d with
        | nil => rw [hh] at r1; rw [r1] at hz; exact absurd hz (by decide)
        | cons r rs => exact ⟨r, rs, rfl⟩
      have hlen : (dRec d).length = rs.length + 1 := by rw [hrs]; rfl
      have k9 : MU E G G9 m (fun k => k = 10 ∨ k = 12 ∨ k = 14) := by rw [e9]; exact h.ru.mSfd (by decide) (Or.inr (Or.inr rfl))
      have t9 : MT G G9 m (fun k => k = 14) := by
        have : MU E G G9 m (fun k => k = 14) := by rw [e9]; exact h.ru.mSfd (by decide) rfl
        exact this.2.2.2.2.2
      have f14 : gfd G9 12 14 m = rs.length := by rw [e9, gfd_sfd, if_pos ⟨rfl, rfl, rfl⟩, r1]; omega
      have x13 := k9.1.gw 13 15
      have hl13 : gln G9 (gfd G9 12 13 m) = mr := (t9.l 13 (by omega)).trans r3
      have hval : gel G9 (gfd G9 12 13 m) (rs.length : Int) = r := by
        rw [t9.e 13 (by omega), r4 rs.length (by omega), hrs, List.reverse_cons, appZ, List.length_reverse, if_neg (by omega), if_pos rfl]
      have hMR : MRc G9 m rs mr := by
        refine ⟨f14, ⟨by omega, r2.2⟩, hl13, fun j hj => ?_⟩
        rw [t9.e 13 (by omega), r4 j (by omega), hrs, List.reverse_cons, appZ, List.length_reverse, if_pos hj]
      rw [f14, hval]
      rw [hrs] at hsi
      have hsi2 := hsi.undo
      have hcr : crD d (n + 1) = crD (stD d (dN d) (dSer d) (undoS r (dSmp d)) rs (dBk d)) n := by
        unfold crD
        rw [hrs]; rfl
      rw [hcr] at hD
      have hsi3 : SI (dSer d) (smS (stD d (dN d) (dSer d) (undoS r (dSmp d)) rs (dBk d))) rs (dN d 2) := by
        show SI (dSer d) ((undoS r (dSmp d)).map (·.1)) rs (dN d 2)
        rw [undoS_map]; exact hsi2
      have hr0 : 0 ≤ r := (hsi.2.2.2.2.2 r List.mem_cons_self).1
      refine ⟨k9.1.1, k9.1.1, x13.1, by omega, by omega, fun hne => ?_, fun he0 => ⟨k9.1.1, ?_⟩⟩
      · have hm := h
        have kt := t9
        have h9 : MH E G9 m (stD d (dN d) (dSer d) (dSmp d) rs (dBk d)) ml mr := ⟨⟨k9.1, k9.2.1, k9.2.2.1.1⟩, hm.2.1.mt kt ⟨by omega, by omega, by omega, by omega, by omega⟩, hm.2.2.1.mt kt ⟨by omega, by omega, by omega, by omega⟩, hm.2.2.2.1.mt kt ⟨by omega, by omega, by omega, by omega, by omega, by omega⟩, hMR, hm.2.2.2.2.2.1.mt kt ⟨by omega, by omega, by omega, by omega⟩, hm.2.2.2.2.2.2.1.mt kt (by omega), hm.2.2.2.2.2.2.2.1.mt kt ⟨by omega, by omega⟩, hm.2.2.2.2.2.2.2.2.1.mt kt ⟨by omega, by omega, by omega, by omega, by omega, by omega, by omega, by omega⟩, hm.2.2.2.2.2.2.2.2.2.1.mt kt ⟨by omega, by omega, by omega, by omega, by omega, by omega⟩, hm.2.2.2.2.2.2.2.2.2.2.1.mt kt ⟨by omega, by omega, by omega⟩, hm.2.2.2.2.2.2.2.2.2.2.2.1.mt kt ⟨by omega, by omega⟩, hm.2.2.2.2.2.2.2.2.2.2.2.2.mt kt (by omega)⟩
        have eu : undoS r (dSmp d) = (dSmp d).map (unF r) := by unfold undoS; rw [if_neg hne]; rfl
        refine v_munhide (G0 := G9) (d := stD d (dN d) (dSer d) (dSmp d) rs (dBk d)) (by omega) ⟨h0, by omega⟩ (fun G' kG hG => ?_) (dSmp d).length 0 G9 (Nat.zero_add _) h9.ru h9
        refine ih (i9 + 1) G' (stD d (dN d) (dSer d) (undoS r (dSmp d)) rs (dBk d)) (by omega) (by omega) hsi3 hD ((kk.trans k9).trans (kG.mono (fun _ h9 => Or.inl h9))) ?_
        rw [eu]; exact hG
      · obtain ⟨s0, y, hs0, -⟩ := hsi.2.2.2.2.1.2.1 he0
        have hsm : ∃ p9 q9, dSmp d = p9 ++ [q9] := by
          have hne : dSmp d ≠ [] := fun h9 => by
            have : smS d = [] := by unfold smS; rw [h9]; rfl
            rw [this] at hs0
            have := congrArg List.length hs0
            rw [List.length_append] at this
            exact absurd this (by show ¬ 0 = s0.length + 1; omega)
          exact ⟨(dSmp d).dropLast, (dSmp d).getLast hne, (List.dropLast_concat_getLast hne).symm⟩
        obtain ⟨p9, q9, hpq⟩ := hsm
        have hplen : (dSmp d).length = p9.length + 1 := by rw [hpq, List.length_append]; rfl
        have f12 : gfd G9 12 12 m = p9.length + 1 := by rw [t9.f 12 (by omega), h.2.2.2.1.1, hplen]; omega
        have hS2 := h.2.2.2.1.2.1
        rw [f12]
        refine ⟨i32s' (by omega), k9.1.1, fun G19 e19 => ?_⟩
        rw [show (p9.length : Int) + 1 - 1 = p9.length by omega] at e19
        have k19 : MU E G G19 m (fun k => k = 10 ∨ k = 12 ∨ k = 14) := by rw [e19]; exact k9.mSfd (by decide) (Or.inr (Or.inl rfl))
        have kA : MU E G G19 m (fun k => k = 12 ∨ k = 14) := by
          have : MU E G G9 m (fun k => k = 12 ∨ k = 14) := by rw [e9]; exact h.ru.mSfd (by decide) (Or.inr rfl)
          rw [e19]; exact this.mSfd (by decide) (Or.inl rfl)
        have kt := kA.2.2.2.2.2
        have g12 : gfd G19 12 12 m = p9.length := by rw [e19, gfd_sfd, if_pos ⟨rfl, rfl, rfl⟩]
        have t19 : MT G9 G19 m (fun k => k = 12) := by
          have : MU E G9 G19 m (fun k => k = 12) := by rw [e19]; exact (MU.refl k9.1 k9.2.1 k9.2.2.1.1).mSfd (by decide) rfl
          exact this.2.2.2.2.2
        have hSm19 : MSm G19 m (dSer d) p9 ml := by
          have h9 := h.2.2.2.1
          rw [hpq] at h9
          exact h9.drop1 g12 kt
        have eu : undoS r (dSmp d) = p9 := by unfold undoS; rw [if_pos he0, hpq, List.dropLast_concat]
        have hm := h
        have h19 : MH E G19 m (stD d (dN d) (dSer d) (undoS r (dSmp d)) rs (dBk d)) ml mr := by
          rw [eu]
          exact ⟨⟨k19.1, k19.2.1, k19.2.2.1.1⟩, hm.2.1.mt kt ⟨by omega, by omega, by omega, by omega, by omega⟩, hm.2.2.1.mt kt ⟨by omega, by omega, by omega, by omega⟩, hSm19, hMR.mt t19 ⟨by omega, by omega⟩, hm.2.2.2.2.2.1.mt kt ⟨by omega, by omega, by omega, by omega⟩, hm.2.2.2.2.2.2.1.mt kt (by omega), hm.2.2.2.2.2.2.2.1.mt kt ⟨by omega, by omega⟩, hm.2.2.2.2.2.2.2.2.1.mt kt ⟨by omega, by omega, by omega, by omega, by omega, by omega, by omega, by omega⟩, hm.2.2.2.2.2.2.2.2.2.1.mt kt ⟨by omega, by omega, by omega, by omega, by omega, by omega⟩, hm.2.2.2.2.2.2.2.2.2.2.1.mt kt ⟨by omega, by omega, by omega⟩, hm.2.2.2.2.2.2.2.2.2.2.2.1.mt kt ⟨by omega, by omega⟩, hm.2.2.2.2.2.2.2.2.2.2.2.2.mt kt (by omega)⟩
        have goOn : V E M_X12_crash 31 [some (rv m), some (iv tor), some (iv (i9 + 1)), none, none] [] G19 c s Q X := ih (i9 + 1) G19 _ (by omega) (by omega) hsi3 hD (kk.trans k19) h19
        refine b_X12_crash_80 ⟨k19.1.1, fun _ => ⟨i32s' (by omega), goOn⟩, fun _ => ⟨fun _ => ⟨i32s' (by omega), goOn⟩, fun h9 => by omega⟩⟩
theorem om_crash (h : MH E G m d ml mr) (hi : DI d) : Ok E M_X12_crash [rv m, iv t] G c s (MqR E G m (cCrash d t) tA ml mr) (fun _ _ => False) := by
  refine i_X12_crash ⟨okp_in, h.k13, fun G4 e4 => ?_⟩
  by_cases hr : 0 ≤ t ∧ t ≤ 1000
  · rw [if_neg (fun h9 => wIn0.mp h9 hr)] at e4
    obtain ⟨k1, k2⟩ := h.thr 0
    rw [← e4] at k1 k2
    refine ⟨k1.1.k13, fun _ => ?_, fun h9 => by omega⟩
    refine v_mcrash (G0 := G4) (D := crashD d t) hr.2 (fun G' kG hG => ?_) t.toNat 0 G4 d (Int.le_refl 0) (by omega) hi.1 rfl k1.1.ru k1.1
    rw [cCrash, if_pos hr]
    exact MqR.ok ((kG.2.2.2.2.2.f 0 (by omega)).trans k2) rfl rfl ⟨hG, k1.2.trans (kG.mono (fun _ _ => trivial))⟩
  · rw [if_pos (wIn0.mpr hr)] at e4
    obtain ⟨k1, k2⟩ := h.thr 1
    rw [← e4] at k1 k2
    refine ⟨k1.1.k13, fun h9 => by omega, fun _ => ?_⟩
    rw [cCrash, if_neg hr]
    exact MqR.nok (by decide) k2 k1
/-! mend -/
theorem mnd_none : ∀ (n : Nat) (r : List (Sm4 × Int)), r.any unc = false → mnd n r = (r, 0)
  | 0, _, _ => rfl
  | n + 1, r, h => by
    show (if r.any unc = true then _ else (r, 0)) = _
    rw [h]; rfl
theorem set1_app {A B : List (Sm4 × Int)} (h : ∀ q ∈ A, unc q = false) : set1 (A ++ B) = A ++ set1 B := by
  induction A with
  | nil => rfl
  | cons q A ih =>
    have hq := h q List.mem_cons_self
    show (if unc q = true then _ else q :: set1 (A ++ B)) = _
    rw [hq, ih (fun y hy => h y (List.mem_cons_of_mem _ hy))]; rfl
/-- mending: the first ones are done, the rest is looked at -/
theorem mnd_step {A B : List (Sm4 × Int)} {q : Sm4 × Int} {n : Nat} (hA : ∀ y ∈ A, unc y = false) (hq : unc q = true) : mnd (n + 1) (A ++ q :: B) = ((mnd n (A ++ (q.1, 1) :: B)).1, (mnd n (A ++ (q.1, 1) :: B)).2 + 1) := by
  have hany : (A ++ q :: B).any unc = true := List.any_eq_true.mpr ⟨q, List.mem_append_right _ List.mem_cons_self, hq⟩
  have e : set1 (A ++ q :: B) = A ++ (q.1, 1) :: B := by
    rw [set1_app hA]
    show A ++ (if unc q = true then (q.1, 1) :: B else q :: set1 B) = _
    rw [if_pos hq]
  show (if (A ++ q :: B).any unc = true then _ else _) = _
  rw [if_pos hany, e]
theorem v_mmend {D : List (Sm4 × Int)} {N : Int} (h1000 : w ≤ 1000) (h00 : gfd G0 12 0 m = 0) (hQ : ∀ G', MU E G0 G' m (fun k => k = 11) → MH E G' m (smpD d D) ml mr → Q N G') : ∀ (n : Nat) (A B : List (Sm4 × Int)) (y : Int) (k : Nat) (G : Gt), B.length = n → (∀ y ∈ A, unc y = false) → 0 ≤ y → y + k = w → (mnd k (A ++ B)).1 = D → y + (mnd k (A ++ B)).2 = N → MU E G0 G m (fun k => k = 11) → MH E G m (smpD d (A ++ B)) ml mr →
    V E M_X12_mend 24 [some (rv m), some (iv w), some (iv y), some (iv (A.length : Int))] [] G c s Q X := by
  intro n
  induction n with
  | zero =>
    intro A B y k G hB hA hy hyk hD hN kk h
    have hBn : B = [] := List.length_eq_zero_iff.mp hB
    rw [hBn, List.append_nil] at h hD hN
    have hnone : A.any unc = false := by
      rw [List.any_eq_false]
      intro y hy h9
      rw [hA y hy] at h9; cases h9
    rw [mnd_none k A hnone] at hD hN
    have hD' : A = D := hD
    have hN' : y + ((0 : Nat) : Int) = N := hN
    have hl : gfd G 12 12 m = A.length := h.2.2.2.1.1
    have hq := hQ G kk (by rw [← hD']; exact h)
    rw [← hN', show y + ((0 : Nat) : Int) = y by omega] at hq
    exact b_X12_mend_24 ⟨h.k13, fun _ => hq, fun h9 => by omega⟩
  | succ n ih =>
    intro A B y k G hB hA hy hyk hD hN kk h
    obtain ⟨q, B', rfl⟩ : ∃ q B', B = q :: B' := by
      cases B with
      | nil => exact absurd hB (by show ¬ 0 = n + 1; omega)
      | cons q B' => exact ⟨q, B', rfl⟩
    have hB' : B'.length = n := by have : B'.length + 1 = n + 1 := hB; omega
    have hS : MSm G m (dSer d) (A ++ q :: B') ml := h.2.2.2.1
    have hlen : (A ++ q :: B').length = A.length + (n + 1) := by rw [List.length_append, hB]
    have hltA : A.length < (A ++ q :: B').length := by omega
    have hget : (A ++ q :: B').getD A.length z4 = q := by
      rw [List.getD_eq_getElem?_getD, List.getElem?_append_right (Nat.le_refl _), Nat.sub_self]; rfl
    have hl : gfd G 12 12 m = (A ++ q :: B').length := hS.1
    have hgl := hS.2.2.1
    have hml := hS.2.1
    obtain ⟨k1, k2, k3⟩ := h.isSeen (k := A.length) hltA
    have ek : dSmp (smpD d (A ++ q :: B')) = A ++ q :: B' := rfl
    rw [ek, hget] at k2
    have g7 := (hS.at hltA).2.2.2.2
    rw [hget] at g7
    have x11 := h.1.1.gw 11 17
    have f0 : gfd G 12 0 m = 0 := (kk.2.2.2.2.2.f 0 (by omega)).trans h00
    have eA : ((A ++ [q]).length : Int) = (A.length : Int) + 1 := by rw [List.length_append]; rfl
    have skip : unc q = false → i32 ((A.length : Int) + 1) ∧ V E M_X12_mend 24 [some (rv m), some (iv w), some (iv y), some (iv ((A.length : Int) + 1))] [] G c s Q X := fun hb => by
      refine ⟨i32s' (by omega), ?_⟩
      rw [← eA]
      have eAB : A ++ q :: B' = (A ++ [q]) ++ B' := by rw [List.append_assoc]; rfl
      refine ih (A ++ [q]) B' y k G hB' (fun z hz => ?_) hy hyk (by rw [← eAB]; exact hD) (by rw [← eAB]; exact hN) kk (by rw [← eAB]; exact h)
      rcases List.mem_append.mp hz with h9 | h9
      · exact hA z h9
      · rw [List.mem_singleton.mp h9]; exact hb
    refine b_X12_mend_24 ⟨h.k13, fun h9 => by omega, fun _ => ⟨h.k13, fun h9 => (h9 f0).elim, fun _ => ⟨fun hle => ?_, fun hlt => ⟨h.k13, k1, fun hz => skip ?_, fun hz => ⟨h.k13, x11.1, by omega, by omega, fun hc => skip ?_, fun hc => ⟨h.k13, x11.1, by omega, by omega, fun G20 e20 => ⟨i32s' (by omega), i32s' (by omega), ?_⟩⟩⟩⟩⟩⟩⟩
    · have hk0 : k = 0 := by omega
      rw [hk0] at hD hN
      have hD' : A ++ q :: B' = D := hD
      have hN' : y + ((0 : Nat) : Int) = N := hN
      have hq := hQ G kk (by rw [← hD']; exact h)
      rw [← hN', show y + ((0 : Nat) : Int) = y by omega] at hq
      exact hq
    · unfold unc
      exact decide_eq_false (fun h9 => k2.mp hz h9.1)
    · rw [g7] at hc
      unfold unc
      exact decide_eq_false (fun h9 => hc h9.2)
    · have hh : qH q.1 = 0 := Classical.byContradiction fun h9 => hz (k2.mpr h9)
      rw [g7] at hc
      have hu : unc q = true := decide_eq_true ⟨hh, hc⟩
      obtain ⟨k', rfl⟩ : ∃ k', k = k' + 1 := ⟨k - 1, by omega⟩
      rw [mnd_step hA hu] at hD hN
      have k20 : MU E G G20 m (fun k => k = 11) := by rw [e20]; exact h.ru.mSel (by decide) rfl
      have hS20 := hS.setC h.1.1 (k := A.length) hltA 1
      rw [hget, ← e20] at hS20
      have eset : (A ++ q :: B').set A.length (q.1, 1) = (A ++ [(q.1, 1)]) ++ B' := by
        rw [List.set_append_right _ _ (Nat.le_refl _), Nat.sub_self, List.append_assoc]; rfl
      rw [eset] at hS20
      have eAB : A ++ (q.1, 1) :: B' = (A ++ [(q.1, 1)]) ++ B' := by rw [List.append_assoc]; rfl
      have eA2 : ((A ++ [((q.1, 1) : Sm4 × Int)]).length : Int) = (A.length : Int) + 1 := by rw [List.length_append]; rfl
      rw [← eA2]
      have hN2 : y + (((mnd k' (A ++ (q.1, 1) :: B')).2 + 1 : Nat) : Int) = N := hN
      refine ih (A ++ [(q.1, 1)]) B' (y + 1) k' G20 hB' (fun z hz9 => ?_) (by omega) (by omega) (by rw [← eAB]; exact hD) (by rw [← eAB]; omega) (kk.trans k20) (h.otherS k20 (fun j h9 => Or.inr h9) hS20)
      rcases List.mem_append.mp hz9 with h9 | h9
      · exact hA z h9
      · rw [List.mem_singleton.mp h9]
        exact decide_eq_false (fun h8 => absurd (show (1 : Int) = 0 from h8.2) (by decide))
theorem om_mend (h : MH E G m d ml mr) : Ok E M_X12_mend [rv m, iv w] G c s (MqR E G m (cMend d w) tA ml mr) (fun _ _ => False) := by
  refine i_X12_mend ⟨okp_in, h.k13, fun G4 e4 => ?_⟩
  by_cases hr : 1 ≤ w ∧ w ≤ 1000
  · rw [if_neg (fun h9 => wIn0.mp h9 hr)] at e4
    obtain ⟨k1, k2⟩ := h.thr 0
    rw [← e4] at k1 k2
    refine v_mmend (G0 := G4) (d := d) (D := (mnd w.toNat (dSmp d)).1) (N := (mnd w.toNat (dSmp d)).2) hr.2 k2 (fun G' kG hG => ?_) (dSmp d).length [] (dSmp d) 0 w.toNat G4 rfl (fun y hy => (List.not_mem_nil hy).elim) (Int.le_refl 0) (by omega) rfl (by rw [List.nil_append]; omega) k1.1.ru k1.1
    rw [cMend, if_pos hr]
    exact MqR.ok ((kG.2.2.2.2.2.f 0 (by omega)).trans k2) rfl rfl ⟨hG, k1.2.trans (kG.mono (fun _ _ => trivial))⟩
  · rw [if_pos (wIn0.mpr hr)] at e4
    obtain ⟨k1, k2⟩ := h.thr 1
    rw [← e4] at k1 k2
    have hS := k1.1.2.2.2.1
    refine b_X12_mend_24 ⟨k1.1.k13, fun _ => ?_, fun h9 => ⟨k1.1.k13, fun _ => ?_, fun h8 => by omega⟩⟩
    · rw [cMend, if_neg hr]
      exact MqR.nok (by decide) k2 k1
    · rw [cMend, if_neg hr]
      exact MqR.nok (by decide) k2 k1
end Sa32
