/-! what is spent, reckoned against what stands: rules, seconds -/
section Sc03
variable {d d' : DS} {z : Mz} {l t v : Int} {n k i : Nat} {kk : Int} {R : List (Int × Int)} {two time : Int} {es : List En}
theorem Nm.b5 (h : Nm kk d z) (hi : DI d) (hk : 0 ≤ kk ∧ kk ≤ 512) : dN d 5 ≤ 110000 ∧ ((dRec d).length : Int) ≤ 111000 := by
  have := hi.v420
  obtain ⟨h5, hr, -⟩ := h
  omega
theorem Nm.same (h : Nm kk d z) (e5 : dN d' 5 = dN d 5) (eR : dRec d' = dRec d) (e6 : dN d' 6 = dN d 6) (eM : smS d' = smS d) : Nm kk d' z := by
  obtain ⟨h5, hr, h6, h17, hrc, hz1, hz2, hS⟩ := h
  have eP : (dSmp d').length = (dSmp d).length := by
    have := congrArg List.length eM
    unfold smS at this
    rw [List.length_map, List.length_map] at this
    exact this
  have hS' : ((dSmp d).length : Int) ≤ dN d 5 := hS
  refine ⟨by unfold vis; rw [e5, eM]; exact h5, by rw [eR, e5]; exact hr, by rw [e6]; exact h6, by rw [e6]; exact h17, by rw [eR, e6]; exact hrc, hz1, hz2, ?_⟩
  show ((dSmp d').length : Int) ≤ dN d' 5
  rw [eP, e5]; exact hS'
theorem W_same (eS : dSer d' = dSer d) (e6 : dN d' 6 = dN d 6) (eM : smS d' = smS d) : WCl d' z + E9 d' = WCl d z + E9 d ∧ WSl d' z + 5 * E9 d' = WSl d z + 5 * E9 d := by
  have eV : vis d' = vis d := by unfold vis; rw [eM]
  have eC : gC9 d' = gC9 d := by unfold gC9 cnt; rw [eS, eM]
  have eH : gS9 d' = gS9 d := by unfold gS9 cnt; rw [eS, eM]
  unfold WCl WSl
  rw [eV, eC, eH, eS, e6]
  omega
theorem note_acct (h2 : 0 ≤ two ∧ two ≤ 5) (hk : 0 ≤ kk ∧ kk ≤ 512) : ∀ (R : List (Int × Int)) (d : DS) (z : Mz), (∀ y ∈ R, cOk y.1) → DI d → Nm kk d z →
    Nm kk (noteD two d R) (nZ two d z R) ∧ 2 * (((noteC two d R + nZC two d z R : Nat) : Nat) : Int) + WCl (noteD two d R) (nZ two d z R) ≤ WCl d z ∧ 2 * (((noteS two d R + nZS two d z R : Nat) : Nat) : Int) + WSl (noteD two d R) (nZ two d z R) ≤ WSl d z
  | [], d, z, _, _, h => ⟨h, by show 2 * (0 : Int) + WCl d z ≤ _; omega, by show 2 * (0 : Int) + WSl d z ≤ _; omega⟩
  | y :: R, d, z, hc, hi, h => by
    have hb := h.b5 hi hk
    have hcl := noL_ok (two := two) (hc y List.mem_cons_self) h2
    have hm := noV_in y.2
    obtain ⟨a1, a2, a3⟩ := tk_acct (l := noL two y.1) (t := dN d 0) (v := noV y.2) hi hk h
    obtain ⟨b1, b2, b3⟩ := note_acct h2 hk R (note1 two d y) (tZ d (noL two y.1) (dN d 0) (noV y.2) z) (fun z hz => hc z (List.mem_cons_of_mem _ hz)) (hi.take hcl hi.2.2.1 (Or.inr hm) ⟨by omega, by omega⟩) a1
    have e1 : noteC two d (y :: R) = takC d (noL two y.1) (dN d 0) (noV y.2) + noteC two (note1 two d y) R := rfl
    have e2 : nZC two d z (y :: R) = tMC d (noL two y.1) (dN d 0) (noV y.2) z.1 z.2 + nZC two (note1 two d y) (tZ d (noL two y.1) (dN d 0) (noV y.2) z) R := rfl
    have e3 : noteS two d (y :: R) = takS d (noL two y.1) (dN d 0) (noV y.2) + noteS two (note1 two d y) R := rfl
    have e4 : nZS two d z (y :: R) = tMS d (noL two y.1) (dN d 0) (noV y.2) z.1 z.2 + nZS two (note1 two d y) (tZ d (noL two y.1) (dN d 0) (noV y.2) z) R := rfl
    have e5 : noteD two d (y :: R) = noteD two (note1 two d y) R := rfl
    have e6 : nZ two d z (y :: R) = nZ two (note1 two d y) (tZ d (noL two y.1) (dN d 0) (noV y.2) z) R := rfl
    have e7 : tkD d (noL two y.1) (dN d 0) (noV y.2) = note1 two d y := rfl
    rw [e7] at a2 a3
    rw [e1, e2, e3, e4, e5, e6]
    exact ⟨b1, by omega, by omega⟩
theorem sum_set9 {α : Type} {f : α → Nat} {v r : α} : ∀ (L : List α) (n : Nat), n < L.length → ((L.set n v).map f).sum + f (L.getD n r) = (L.map f).sum + f v
  | [], _, h => (Nat.not_lt_zero _ h).elim
  | c :: L, 0, _ => by
    show (f v + (L.map f).sum) + f c = (f c + (L.map f).sum) + f v
    omega
  | c :: L, n + 1, h => by
    have := sum_set9 (f := f) (v := v) (r := r) L n (by rw [List.length_cons] at h; omega)
    show (f c + ((L.set n v).map f).sum) + f (L.getD n r) = (f c + (L.map f).sum) + f v
    omega
theorem E9_ent (hn : n < (dRl d).length) : E9 (entD d n es) + (esD d n).length = E9 d + es.length :=
  sum_set9 (f := fun q : Rl => q.2.2.length) (v := ((ruD d n).1, (ruD d n).2.1, es)) (r := r0) (dRl d) n hn
theorem E9_tel1 (hn : n < (dRl d).length) : E9 (tel1 n d i) = E9 d := by
  unfold tel1
  split
  · have := E9_ent (d := d) (n := n) (es := (esD d n).set i (toldE ((esD d n).getD i e0))) hn
    rw [List.length_set] at this
    show E9 (entD d n ((esD d n).set i (toldE ((esD d n).getD i e0)))) = _
    omega
  · rfl
theorem len_tel1 : (dRl (tel1 n d i)).length = (dRl d).length := by
  unfold tel1
  split
  · show (setE (dRl d) n _).length = _
    rw [setE, List.length_set]
  · rfl
theorem E9_telN : ∀ (k i : Nat) (d : DS), n < (dRl d).length → E9 (telN n i k d) = E9 d
  | 0, _, _, _ => rfl
  | k + 1, i, d, hn => by
    show E9 (telN n (i + 1) k (tel1 n d i)) = _
    rw [E9_telN k (i + 1) (tel1 n d i) (by rw [len_tel1]; exact hn), E9_tel1 hn]
theorem rule_acct (hi : DI d) (hb : LB d) (h4 : I4 d) (hn : n < (dRl d).length) (h3 : dN d 3 + 12 < 100000000) (hk : 0 ≤ kk ∧ kk ≤ 512) (h : Nm kk d z) :
    Nm kk (ruleD n d) (ruleZ n d z) ∧ 2 * (((ruleC n d + ruleZC n d z : Nat) : Nat) : Int) + WCl (ruleD n d) (ruleZ n d z) ≤ WCl d z + 16 ∧ 2 * (((ruleS n d + ruleZS n d z : Nat) : Nat) : Int) + WSl (ruleD n d) (ruleZ n d z) ≤ WSl d z + 110 ∧ dN (ruleD n d) 3 ≤ dN d 3 + 12 ∧ DI (ruleD n d) ∧ LB (ruleD n d) ∧ I4 (ruleD n d) ∧ (dRl (ruleD n d)).length = (dRl d).length := by
  have hb5 := h.b5 hi hk
  have ho := hi.ruRv hn
  have hw : WK d (0 + 1) := ⟨hi, hb, by omega, by omega, by omega⟩
  obtain ⟨w1, w2, -⟩ := rule_ok hn ho hw
  have w4 := h4.rule hw hn ho
  suffices hh : Nm kk (ruleD n d) (ruleZ n d z) ∧ 2 * (((ruleC n d + ruleZC n d z : Nat) : Nat) : Int) + WCl (ruleD n d) (ruleZ n d z) ≤ WCl d z + 16 ∧ 2 * (((ruleS n d + ruleZS n d z : Nat) : Nat) : Int) + WSl (ruleD n d) (ruleZ n d z) ≤ WSl d z + 110 ∧ dN (ruleD n d) 3 ≤ dN d 3 + 12 from
    ⟨hh.1, hh.2.1, hh.2.2.1, hh.2.2.2, w1.1, w1.2.1, w4, w2⟩
  unfold ruleD ruleC ruleS ruleZ ruleZC ruleZS
  have hm : ruD d n ∈ dRl d := getD_mem' hn
  have hk9 := hi.2.2.2.2.2.2.2.1.2 _ hm
  by_cases h1 : (ruD d n).1.1 = -1
  · simp only [if_pos h1]
    obtain ⟨a1, a2, a3, a4⟩ := hi.look hb hn (ruO_lab (d := d) (n := n))
    obtain ⟨f1, f2, f3, f4, f5, f6⟩ := ent_facts (es := lookE d n (ruO d n)) hn
    have hm2 : ruD (entD d n (lookE d n (ruO d n))) n ∈ dRl (entD d n (lookE d n (ruO d n))) := getD_mem' (by rw [f1]; exact hn)
    have hk3 : (esD (entD d n (lookE d n (ruO d n))) n).length ≤ 12 := (a1.2.2.2.2.2.2.2.1.2 _ hm2).2.2.2.2
    have e3 : dN (entD d n (lookE d n (ruO d n))) 3 = dN d 3 := by rw [f3]
    obtain ⟨r1, r2, r3, r4, r5, r6, r7, r8, r9, r10, r11⟩ := telN_ok (n := n) (esD (entD d n (lookE d n (ruO d n))) n).length 0 _ (Nat.le_of_eq (Nat.zero_add _)) (by rw [f1]; exact hn) a1 a2 (by omega)
    have eE := E9_telN (n := n) (esD (entD d n (lookE d n (ruO d n))) n).length 0 (entD d n (lookE d n (ruO d n))) (by rw [f1]; exact hn)
    have eE2 := E9_ent (d := d) (n := n) (es := lookE d n (ruO d n)) hn
    have w5 := W_same (z := z) (r9.trans f4) (r11.trans (by rw [f3])) (r10.trans f6)
    unfold tellD
    refine ⟨h.same (r7.trans (by rw [f3])) (r8.trans f5) (r11.trans (by rw [f3])) (r10.trans f6), ?_, ?_, by omega⟩
    · omega
    · omega
  · simp only [if_neg h1]
    have h2 : 0 ≤ (ruD d n).1.1 ∧ (ruD d n).1.1 ≤ 5 := by
      rcases hk9.1.1 with h9 | h9
      · exact (h1 h9).elim
      · exact h9
    obtain ⟨b1, b2⟩ := ho.lab
    obtain ⟨-, -, -, -, r5, -⟩ := noteD_ok h2 (labR (ruO d n)) d b1 hi hb (by omega) (by omega)
    obtain ⟨n1, n2, n3⟩ := note_acct h2 hk (labR (ruO d n)) d z b1 hi h
    exact ⟨n1, by omega, by omega, by omega⟩
theorem go_acct (hk : 0 ≤ kk ∧ kk ≤ 512) : ∀ (k i : Nat) (d : DS) (z : Mz), i + k ≤ (dRl d).length → DI d → LB d → I4 d → dN d 3 + 12 * k < 100000000 → Nm kk d z →
    Nm kk (goN i k d) (goZ i k d z) ∧ 2 * (((goC i k d + goZC i k d z : Nat) : Nat) : Int) + WCl (goN i k d) (goZ i k d z) ≤ WCl d z + 16 * k ∧ 2 * (((goS i k d + goZS i k d z : Nat) : Nat) : Int) + WSl (goN i k d) (goZ i k d z) ≤ WSl d z + 110 * k ∧ dN (goN i k d) 3 ≤ dN d 3 + 12 * k ∧ DI (goN i k d) ∧ LB (goN i k d) ∧ I4 (goN i k d)
  | 0, i, d, z, _, hi, hb, h4, _, h => ⟨h, by show 2 * (0 : Int) + WCl d z ≤ _; omega, by show 2 * (0 : Int) + WSl d z ≤ _; omega, by show dN d 3 ≤ _; omega, hi, hb, h4⟩
  | k + 1, i, d, z, hik, hi, hb, h4, h3, h => by
    obtain ⟨a1, a2, a3, a4, a5, a6, a7, a8⟩ := rule_acct (n := i) hi hb h4 (by omega) (by omega) hk h
    obtain ⟨b1, b2, b3, b4, b5, b6, b7⟩ := go_acct hk k (i + 1) (ruleD i d) (ruleZ i d z) (by rw [a8]; omega) a5 a6 a7 (by omega) a1
    have e1 : goC i (k + 1) d = ruleC i d + goC (i + 1) k (ruleD i d) := rfl
    have e2 : goZC i (k + 1) d z = ruleZC i d z + goZC (i + 1) k (ruleD i d) (ruleZ i d z) := rfl
    have e3 : goS i (k + 1) d = ruleS i d + goS (i + 1) k (ruleD i d) := rfl
    have e4 : goZS i (k + 1) d z = ruleZS i d z + goZS (i + 1) k (ruleD i d) (ruleZ i d z) := rfl
    have e5 : goN i (k + 1) d = goN (i + 1) k (ruleD i d) := rfl
    have e6 : goZ i (k + 1) d z = goZ (i + 1) k (ruleD i d) (ruleZ i d z) := rfl
    rw [e1, e2, e3, e4, e5, e6]
    exact ⟨b1, by omega, by omega, by omega, b5, b6, b7⟩
theorem tick_acct (hk : 0 ≤ kk ∧ kk ≤ 512) (hi : DI d) (hb : LB d) (h4 : I4 d) (h0 : dN d 0 + 1 ≤ 100000) (h3 : dN d 3 + 96 < 100000000) (h : Nm kk d z) :
    Nm kk (tickD d) (tickZ d z) ∧ 2 * (((tickC d + tickZC d z : Nat) : Nat) : Int) + WCl (tickD d) (tickZ d z) ≤ WCl d z + (if isTick d then 128 else 0) ∧ 2 * (((tickS d + tickZS d z : Nat) : Nat) : Int) + WSl (tickD d) (tickZ d z) ≤ WSl d z + (if isTick d then 880 else 0) ∧ dN (tickD d) 3 ≤ dN d 3 + 96 ∧ DI (tickD d) ∧ LB (tickD d) ∧ I4 (tickD d) ∧ dN (tickD d) 0 = dN d 0 + 1 := by
  have n1 : Nm kk (nowD d) z := h.same rfl rfl rfl rfl
  have n2 := W_same (d := d) (d' := nowD d) (z := z) rfl rfl rfl
  have n3 : E9 (nowD d) = E9 d := rfl
  have n4 : dN (nowD d) 3 = dN d 3 := rfl
  have n5 : dN (nowD d) 0 = dN d 0 + 1 := rfl
  have hi' := hi.now h0
  have hb' : LB (nowD d) := hb
  have h4' : I4 (nowD d) := h4.now
  unfold tickD tickC tickS tickZ tickZC tickZS
  by_cases ht : isTick d
  · simp only [if_pos ht]
    have h8 : (dRl d).length ≤ 8 := hi.2.2.2.2.2.2.2.1.1
    obtain ⟨b1, b2, b3, b4, b5, b6, b7⟩ := go_acct hk (dRl d).length 0 (nowD d) z (Nat.le_of_eq (Nat.zero_add _)) hi' hb' h4' (by omega) n1
    have e : goD (nowD d) = goN 0 (dRl d).length (nowD d) := rfl
    have e0 := goN_n0 (dRl d).length 0 (nowD d)
    rw [e]
    exact ⟨b1, by omega, by omega, by omega, b5, b6, b7, by omega⟩
  · simp only [if_neg ht]
    exact ⟨n1, by omega, by omega, by omega, hi', hb', h4', n5⟩
theorem pass_acct (hk : 0 ≤ kk ∧ kk ≤ 512) : ∀ (k : Nat) (d : DS) (z : Mz), DI d → LB d → I4 d → dN d 0 + k ≤ 100000 → dN d 3 + 96 * k < 100000000 → Nm kk d z →
    Nm kk (passN k d) (passZ k d z) ∧ 2 * (((passC k d + passZC k d z : Nat) : Nat) : Int) + WCl (passN k d) (passZ k d z) ≤ WCl d z + 128 * ((dN d 0 + k) / 10 - dN d 0 / 10) ∧ 2 * (((passS k d + passZS k d z : Nat) : Nat) : Int) + WSl (passN k d) (passZ k d z) ≤ WSl d z + 880 * ((dN d 0 + k) / 10 - dN d 0 / 10) ∧ dN (passN k d) 3 ≤ dN d 3 + 96 * k ∧ DI (passN k d) ∧ LB (passN k d) ∧ I4 (passN k d)
  | 0, d, z, hi, hb, h4, _, _, h => ⟨h, by show 2 * (0 : Int) + WCl d z ≤ _; omega, by show 2 * (0 : Int) + WSl d z ≤ _; omega, by show dN d 3 ≤ _; omega, hi, hb, h4⟩
  | k + 1, d, z, hi, hb, h4, h0, h3, h => by
    obtain ⟨a1, a2, a3, a4, a5, a6, a7, a8⟩ := tick_acct hk hi hb h4 (by omega) (by omega) h
    obtain ⟨b1, b2, b3, b4, b5, b6, b7⟩ := pass_acct hk k (tickD d) (tickZ d z) a5 a6 a7 (by omega) (by omega) a1
    have e1 : passC (k + 1) d = tickC d + passC k (tickD d) := rfl
    have e2 : passZC (k + 1) d z = tickZC d z + passZC k (tickD d) (tickZ d z) := rfl
    have e3 : passS (k + 1) d = tickS d + passS k (tickD d) := rfl
    have e4 : passZS (k + 1) d z = tickZS d z + passZS k (tickD d) (tickZ d z) := rfl
    have e5 : passN (k + 1) d = passN k (tickD d) := rfl
    have e6 : passZ (k + 1) d z = passZ k (tickD d) (tickZ d z) := rfl
    have e7 : ((k + 1 : Nat) : Int) = (k : Int) + 1 := rfl
    have hd0 := hi.2.2.1.1
    rw [e1, e2, e3, e4, e5, e6, e7]
    rw [a8] at b2 b3
    have hq : dN d 0 + 1 + (k : Int) = dN d 0 + ((k : Int) + 1) := by omega
    rw [hq] at b2 b3
    have ht : (if isTick d then (1 : Int) else 0) = (dN d 0 + 1) / 10 - dN d 0 / 10 := by
      have hm : Int.tmod (dN d 0 + 1) 10 = (dN d 0 + 1) % 10 := Int.tmod_eq_emod_of_nonneg (by omega)
      by_cases h9 : isTick d
      · rw [if_pos h9]
        have h8 : Int.tmod (dN d 0 + 1) 10 = 0 := h9
        rw [hm] at h8
        omega
      · rw [if_neg h9]
        have h8 : ¬ Int.tmod (dN d 0 + 1) 10 = 0 := h9
        rw [hm] at h8
        omega
    have t1 : (if isTick d then (128 : Int) else 0) = 128 * (if isTick d then (1 : Int) else 0) := by split <;> rfl
    have t2 : (if isTick d then (880 : Int) else 0) = 880 * (if isTick d then (1 : Int) else 0) := by split <;> rfl
    rw [t1, ht] at a2
    rw [t2, ht] at a3
    exact ⟨b1, by omega, by omega, by omega, b5, b6, b7⟩
end Sc03
