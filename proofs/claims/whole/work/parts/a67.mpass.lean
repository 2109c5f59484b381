/-! time passes in the model -/
section Sa67
variable {E : EE} {G G' G2 G0 : Gt} {c s C S M : Nat} {Q X : Int → Gt → Prop} {m l v t i2 : Int} {k r n j : Nat} {d d' D : DS} {z zD : Mz}
theorem v_mp62 (hK : ∀ (G' : Gt) (c' s' : Nat), MH E G' m D zD.1 zD.2 → MU E G0 G' m (fun k => k ≠ 0) → WK D M → I4 D → ZB zD → C ≤ c' → S ≤ s' → i32 (i2 + 1) ∧ V E M_X12_pass 45 [some (rv m), some (iv t), some (iv (i2 + 1)), none] [] G' c' s' Q X) :
    ∀ (j i : Nat) (G : Gt) (d1 : DS) (z1 : Mz) (c s : Nat), i + j = (dRl d1).length → MH E G m d1 z1.1 z1.2 → MU E G0 G m (fun k => k ≠ 0) → WK d1 (j + M) → I4 d1 → ZB z1 → Int.tmod (dN d1 0) 10 = 0 → goN i j d1 = D → goZ i j d1 z1 = zD → goZC i j d1 z1 + C ≤ c → goZS i j d1 z1 + S ≤ s →
    V E M_X12_pass 62 [some (rv m), some (iv t), some (iv i2), some (iv (i : Int))] [] G c s Q X := by
  intro j
  induction j with
  | zero =>
    intro i G d1 z1 c s hk hm hU hw h4 hz ht hD hzD hc hs
    have e1 : d1 = D := hD
    have e2 : z1 = zD := hzD
    have hc' : 0 + C ≤ c := hc
    have hs' : 0 + S ≤ s := hs
    have h23 := hm.rl.1
    rw [Nat.zero_add] at hw
    refine b_X12_pass_62 ?_
    rw [h23]
    exact ⟨hm.k13, fun _ => hK G c s (by rw [← e1, ← e2]; exact hm) hU (by rw [← e1]; exact hw) (by rw [← e1]; exact h4) (by rw [← e2]; exact hz) (by omega) (by omega), fun h9 => by omega⟩
  | succ j ih =>
    intro i G d1 z1 c s hk hm hU hw h4 hz ht hD hzD hc hs
    rw [show j + 1 + M = (j + M) + 1 by omega] at hw
    have hw0 := hw
    obtain ⟨hi, hb, h5, hr, h3⟩ := hw
    have hn : i < (dRl d1).length := by omega
    have h8 := hm.rl.2
    have h23 := hm.rl.1
    have h1 := hm.2.1.1
    have hg := hm.k13
    have hmr : ruD d1 i ∈ dRl d1 := getD_mem' hn
    have hkk := hi.2.2.2.2.2.2.2.1.2 _ hmr
    have hfd := h4.1.2 _ hmr
    have hrl := hm.2.2.2.2.2.2.2.2.1.2.2.1 i hn
    rw [rz_at hn] at hrl
    have hrl4 : MWl G m (i + 1) (ruD d1 i).2.1 := hrl.2.2.2
    refine b_X12_pass_62 ?_
    rw [h23, h1]
    refine ⟨hg, fun h9 => by omega, fun _ => ⟨hg, fun h9 => (h9 ht).elim, fun _ => ⟨i32s' (by omega), hg, hg, Call.to (om_run (b := i + 1) (c := 0) (s := 0) hm hi (by omega) hrl4 hkk.2.1.2 hfd.1 hi.2.2.1) (Nat.zero_le _) (Nat.zero_le _) fun _ G11 hR => ?_⟩⟩⟩
    have hm11 : MH E G11 m d1 z1.1 z1.2 := hm.keep hR.1 (fun j h9 => by unfold scJ at h9; unfold scr; omega)
    have kU11 : MU E G0 G11 m (fun k => k ≠ 0) := hU.trans (hR.1.mono fun k h9 => by unfold scJ at h9; omega)
    have hres := hR.res hkk.2.1.2 hfd.2
    have hres' : (gfd G11 12 34 m = 0 ∧ ∃ p : Rw, ruO d1 i = some p ∧ Ft G11 m p.1 p.2 ∧ RV p.1 p.2) ∨ (gfd G11 12 34 m ≠ 0 ∧ ruO d1 i = none) := hres
    have hrv : RvO (ruO d1 i) := fun p hp => by
      rcases hres' with ⟨a1, q, a2, a3, a4⟩ | ⟨a1, a2⟩
      · rw [a2] at hp
        rw [← Option.some.inj hp]; exact a4
      · rw [a2] at hp; cases hp
    have hrl11 := hm11.2.2.2.2.2.2.2.2.1.2.2.1 i hn
    rw [rz_at hn] at hrl11
    have v24 : gel G11 (gfd G11 12 24 m) (i : Int) = if (ruD d1 i).1.1 = -1 then 1 else 0 := hrl11.1
    have hg11 := hm11.k13
    have x24 := hm11.1.1.fx 24 17 8
    obtain ⟨n1, n2, n3⟩ := rule_ok hn hrv hw0
    have n4 := h4.rule hw0 hn hrv
    have n5 : ZB (ruleZ i d1 z1) := hz.rule hw0 hrv h4.2.2.1
    have hc' : ruleZC i d1 z1 + goZC (i + 1) j (ruleD i d1) (ruleZ i d1 z1) + C ≤ c := hc
    have hs' : ruleZS i d1 z1 + goZS (i + 1) j (ruleD i d1) (ruleZ i d1 z1) + S ≤ s := hs
    have hD' : goN (i + 1) j (ruleD i d1) = D := hD
    have hzD' : goZ (i + 1) j (ruleD i d1) (ruleZ i d1 z1) = zD := hzD
    have next : ∀ G' c' s', MH E G' m (ruleD i d1) (ruleZ i d1 z1).1 (ruleZ i d1 z1).2 → MU E G0 G' m (fun k => k ≠ 0) → goZC (i + 1) j (ruleD i d1) (ruleZ i d1 z1) + C ≤ c' → goZS (i + 1) j (ruleD i d1) (ruleZ i d1 z1) + S ≤ s' → V E M_X12_pass 62 [some (rv m), some (iv t), some (iv i2), some (iv ((i : Int) + 1))] [] G' c' s' Q X := fun G' c' s' a1 a2 a3 a5 =>
      ih (i + 1) G' (ruleD i d1) (ruleZ i d1 z1) c' s' (by rw [n2]; omega) a1 a2 n1 n4 n5 (by rw [n3]; exact ht) hD' hzD' a3 a5
    refine ⟨hg11, x24.1, by omega, by omega, ?_⟩
    rw [v24]
    by_cases hal : (ruD d1 i).1.1 = -1
    · have eD : ruleD i d1 = tellD i (entD d1 i (lookE d1 i (ruO d1 i))) := by unfold ruleD; rw [if_pos hal]
      have eZ : ruleZ i d1 z1 = z1 := by unfold ruleZ; rw [if_pos hal]
      rw [if_pos hal]
      refine ⟨fun h9 => absurd h9 (by decide), fun _ => ⟨hg11, Call.to (mc' := 0) (ms' := 0) (om_looks hm11 hi hb h4.2.1 hn hal ruO_lab (by omega) hres') (Nat.zero_le _) (Nat.zero_le _) fun _ G30 ⟨hm30, k30⟩ => ⟨i32s' (by omega), ?_⟩⟩⟩
      rw [← eD] at hm30
      exact next G30 _ _ (by rw [eZ]; exact hm30) (kU11.trans (k30.mono fun k h9 => by omega)) (by omega) (by omega)
    · have eD : ruleD i d1 = noteD (ruD d1 i).1.1 d1 (labR (ruO d1 i)) := by unfold ruleD; rw [if_neg hal]
      have eZ : ruleZ i d1 z1 = nZ (ruD d1 i).1.1 d1 z1 (labR (ruO d1 i)) := by unfold ruleZ; rw [if_neg hal]
      have eC : ruleZC i d1 z1 = nZC (ruD d1 i).1.1 d1 z1 (labR (ruO d1 i)) := by unfold ruleZC; rw [if_neg hal]
      have eS : ruleZS i d1 z1 = nZS (ruD d1 i).1.1 d1 z1 (labR (ruO d1 i)) := by unfold ruleZS; rw [if_neg hal]
      have h2 : 0 ≤ (ruD d1 i).1.1 ∧ (ruD d1 i).1.1 ≤ 5 := by
        rcases hkk.1.1 with h9 | h9
        · exact (hal h9).elim
        · exact h9
      rw [if_neg hal]
      refine ⟨fun _ => ⟨hg11, fun h34 => ⟨i32s' (by omega), ?_⟩, fun h34 => ?_⟩, fun h9 => absurd rfl h9⟩
      · rcases hres' with ⟨a1, -⟩ | ⟨a1, a2⟩
        · exact (h34 a1).elim
        · rw [a2] at eD eZ
          have eD' : ruleD i d1 = d1 := eD
          have eZ' : ruleZ i d1 z1 = z1 := eZ
          exact next G11 _ _ (by rw [eD', eZ']; exact hm11) kU11 (by omega) (by omega)
      · rcases hres' with ⟨a1, p, a2, a3, a4⟩ | ⟨a1, a2⟩
        · have hlp : labR (ruO d1 i) = p.2 := by rw [a2]; rfl
          rw [hlp] at eD eZ eC eS
          refine ⟨hg11, Call.to (mc' := ruleZC i d1 z1) (ms' := ruleZS i d1 z1) (om_notes (z := z1) hm11 hi hn rfl h2 a3 a4 hz h4.2.2.1 (by omega) (by omega) (by rw [eC]; exact Nat.le_refl _) (by rw [eS]; exact Nat.le_refl _)) (by omega) (by omega) fun _ G24 ⟨hm24, k24⟩ => ⟨i32s' (by omega), ?_⟩⟩
          rw [← eD, ← eZ] at hm24
          exact next G24 _ _ hm24 (kU11.trans (k24.mono fun k h9 => by unfold T14 at h9; omega)) (by omega) (by omega)
        · exact (a1 h34).elim
def tickZ (d : DS) (z : Mz) : Mz := if isTick d then goZ 0 (dRl d).length (nowD d) z else z
def tickZC (d : DS) (z : Mz) : Nat := if isTick d then goZC 0 (dRl d).length (nowD d) z else 0
def tickZS (d : DS) (z : Mz) : Nat := if isTick d then goZS 0 (dRl d).length (nowD d) z else 0
def passZ : Nat → DS → Mz → Mz
  | 0, _, z => z
  | k + 1, d, z => passZ k (tickD d) (tickZ d z)
def passZC : Nat → DS → Mz → Nat
  | 0, _, _ => 0
  | k + 1, d, z => tickZC d z + passZC k (tickD d) (tickZ d z)
def passZS : Nat → DS → Mz → Nat
  | 0, _, _ => 0
  | k + 1, d, z => tickZS d z + passZS k (tickD d) (tickZ d z)
theorem I4.now (h : I4 d) : I4 (nowD d) := h
theorem tel1_n0 {i : Nat} : dN (tel1 n d i) 0 = dN d 0 := by
  unfold tel1
  split <;> rfl
theorem telN_n0 : ∀ (k i : Nat) (d : DS), dN (telN n i k d) 0 = dN d 0
  | 0, _, _ => rfl
  | k + 1, i, d => (telN_n0 k (i + 1) (tel1 n d i)).trans tel1_n0
theorem noteD_n0 {two : Int} : ∀ (R : List (Int × Int)) (d : DS), dN (noteD two d R) 0 = dN d 0
  | [], _ => rfl
  | y :: R, d => (noteD_n0 R (note1 two d y)).trans (tkD_5 (d := d) (l := noL two y.1) (t := dN d 0) (v := noV y.2)).2.2
theorem ruleD_n0 : dN (ruleD n d) 0 = dN d 0 := by
  unfold ruleD
  split
  · exact (telN_n0 _ 0 _).trans rfl
  · exact noteD_n0 _ d
theorem goN_n0 : ∀ (k i : Nat) (d : DS), dN (goN i k d) 0 = dN d 0
  | 0, _, _ => rfl
  | k + 1, i, d => (goN_n0 k (i + 1) (ruleD i d)).trans ruleD_n0
theorem v_mpass (hQ : ∀ G', MH E G' m D zD.1 zD.2 → MU E G0 G' m (fun k => k ≠ 0) → WK D M → I4 D → ZB zD → Q (dN D 0) G') : ∀ (k i : Nat) (G : Gt) (d1 : DS) (z1 : Mz) (c s : Nat), (i : Int) + k = t → i + k ≤ 100 → MH E G m d1 z1.1 z1.2 → MU E G0 G m (fun k => k ≠ 0) → WK d1 (8 * k + M) → I4 d1 → ZB z1 → dN d1 0 + k ≤ 100000 → passN k d1 = D → passZ k d1 z1 = zD → passZC k d1 z1 ≤ c → passZS k d1 z1 ≤ s →
    V E M_X12_pass 45 [some (rv m), some (iv t), some (iv (i : Int)), none] [] G c s Q X := by
  intro k
  induction k with
  | zero =>
    intro i G d1 z1 c s hk h100 hm hU hw h4 hz hn hD hzD hc hs
    have e1 : d1 = D := hD
    have e2 : z1 = zD := hzD
    have h1 := hm.2.1.1
    rw [Nat.mul_zero, Nat.zero_add] at hw
    refine b_X12_pass_45 ⟨fun _ => ⟨hm.k13, ?_⟩, fun h9 => by omega⟩
    rw [h1, e1]
    exact hQ G (by rw [← e1, ← e2]; exact hm) hU (by rw [← e1]; exact hw) (by rw [← e1]; exact h4) (by rw [← e2]; exact hz)
  | succ k ih =>
    intro i G d1 z1 c s hk h100 hm hU hw h4 hz hn hD hzD hc hs
    have hi := hw.1
    have h0 := hi.2.2.1
    have h1 := hm.2.1.1
    have hl8 := hi.2.2.2.2.2.2.2.1.1
    have hw9 := hw.now (by omega)
    have hc' : tickZC d1 z1 + passZC k (tickD d1) (tickZ d1 z1) ≤ c := hc
    have hs' : tickZS d1 z1 + passZS k (tickD d1) (tickZ d1 z1) ≤ s := hs
    have hD' : passN k (tickD d1) = D := hD
    have hzD' : passZ k (tickD d1) (tickZ d1 z1) = zD := hzD
    refine b_X12_pass_45 ⟨fun h9 => by omega, fun _ => ⟨hm.k13, by rw [h1]; exact i32s' (by omega), hm.k13, fun G6 e6 => ?_⟩⟩
    rw [h1] at e6
    have k6 : MU E G G6 m (fun k => k = 1) := by rw [e6]; exact hm.ru.mSfd (by decide) rfl
    have hm6 : MH E G6 m (nowD d1) z1.1 z1.2 := by
      have kt := k6.2.2.2.2.2
      have hnu := hm.2.1
      have p1 : MNu G6 m (nowD d1) := ⟨by rw [e6, gfd_sfd, if_pos ⟨rfl, rfl, rfl⟩]; rfl, (kt.f 2 (by omega)).trans hnu.2.1, (kt.f 48 (by omega)).trans hnu.2.2.1, (kt.f 15 (by omega)).trans hnu.2.2.2.1, (kt.f 46 (by omega)).trans hnu.2.2.2.2⟩
      exact ⟨⟨k6.1, k6.2.1, k6.2.2.1.1⟩, p1, hm.2.2.1.mt kt ⟨by omega, by omega, by omega, by omega⟩, hm.2.2.2.1.mt kt ⟨by omega, by omega, by omega, by omega, by omega, by omega⟩, hm.2.2.2.2.1.mt kt ⟨by omega, by omega⟩, hm.2.2.2.2.2.1.mt kt ⟨by omega, by omega, by omega, by omega⟩, hm.2.2.2.2.2.2.1.mt kt (by omega), hm.2.2.2.2.2.2.2.1.mt kt ⟨by omega, by omega⟩, hm.2.2.2.2.2.2.2.2.1.mt kt ⟨by omega, by omega, by omega, by omega, by omega, by omega, by omega, by omega⟩, hm.2.2.2.2.2.2.2.2.2.1.mt kt ⟨by omega, by omega, by omega, by omega, by omega, by omega⟩, hm.2.2.2.2.2.2.2.2.2.2.1.mt kt ⟨by omega, by omega, by omega⟩, hm.2.2.2.2.2.2.2.2.2.2.2.1.mt kt ⟨by omega, by omega⟩, hm.2.2.2.2.2.2.2.2.2.2.2.2.mt kt (by omega)⟩
    have kU6 : MU E G0 G6 m (fun k => k ≠ 0) := hU.trans (k6.mono fun k h9 => by omega)
    have en : dN (nowD d1) 0 = dN d1 0 + 1 := rfl
    have el : (dRl (nowD d1)).length = (dRl d1).length := rfl
    by_cases ht : isTick d1
    · have eD : tickD d1 = goN 0 (dRl d1).length (nowD d1) := by unfold tickD; rw [if_pos ht]; rfl
      have eZ : tickZ d1 z1 = goZ 0 (dRl d1).length (nowD d1) z1 := by unfold tickZ; rw [if_pos ht]
      have eC : tickZC d1 z1 = goZC 0 (dRl d1).length (nowD d1) z1 := by unfold tickZC; rw [if_pos ht]
      have eS : tickZS d1 z1 = goZS 0 (dRl d1).length (nowD d1) z1 := by unfold tickZS; rw [if_pos ht]
      refine v_mp62 (G0 := G0) (D := tickD d1) (zD := tickZ d1 z1) (M := 8 * k + M) (C := passZC k (tickD d1) (tickZ d1 z1)) (S := passZS k (tickD d1) (tickZ d1 z1)) (fun G' c' s' a1 a2 a3 a4 a5 a6 a7 => ⟨i32s' (by omega), ih (i + 1) G' (tickD d1) (tickZ d1 z1) c' s' (by omega) (by omega) a1 a2 a3 a4 a5 ?_ hD' hzD' a6 a7⟩) (dRl d1).length 0 G6 (nowD d1) z1 c s (Nat.zero_add _) hm6 kU6 (hw9.mono (by omega)) h4.now hz ht eD.symm eZ.symm (by omega) (by omega)
      have e0 : gfd G' 12 1 m = dN (tickD d1) 0 := a1.2.1.1
      have : dN (tickD d1) 0 = dN d1 0 + 1 := by
        rw [eD]
        exact goN_n0 _ 0 (nowD d1)
      omega
    · have eD : tickD d1 = nowD d1 := by unfold tickD; rw [if_neg ht]
      have eZ : tickZ d1 z1 = z1 := by unfold tickZ; rw [if_neg ht]
      rw [eD] at hD'
      rw [eD, eZ] at hzD' hc' hs'
      have h23 := hm6.rl.1
      have h16 := hm6.2.1.1
      have go45 : V E M_X12_pass 45 [some (rv m), some (iv t), some (iv ((i : Int) + 1)), none] [] G6 c s Q X := ih (i + 1) G6 (nowD d1) z1 c s (by omega) (by omega) hm6 kU6 (hw9.mono (by omega)) h4.now hz (by rw [en]; omega) hD' hzD' (by omega) (by omega)
      refine b_X12_pass_62 ?_
      rw [h16]
      exact ⟨hm6.k13, fun _ => ⟨i32s' (by omega), go45⟩, fun _ => ⟨hm6.k13, fun _ => ⟨i32s' (by omega), go45⟩, fun h9 => (ht h9).elim⟩⟩
/-- what a call of pass costs the model, and the rows' lengths behind it -/
abbrev passOk (d : DS) (t : Int) : Prop := (1 ≤ t ∧ t ≤ 100) ∧ t ≤ 100000 - dN d 0
def cPassZ (d : DS) (t : Int) (z : Mz) : Mz := if passOk d t then passZ t.toNat d z else z
def cPassZC (d : DS) (t : Int) (z : Mz) : Nat := if passOk d t then passZC t.toNat d z else 0
def cPassZS (d : DS) (t : Int) (z : Mz) : Nat := if passOk d t then passZS t.toNat d z else 0
theorem om_pass (h : MH E G m d z.1 z.2) (hw : WK d 800) (h4 : I4 d) (hz : ZB z) (hc : cPassZC d t z ≤ c) (hs : cPassZS d t z ≤ s) : Ok E M_X12_pass [rv m, iv t] G c s (fun r G' => MqR E G m (cPass d t) tA (cPassZ d t z).1 (cPassZ d t z).2 r G' ∧ WK (cPass d t).2.2 0 ∧ I4 (cPass d t).2.2 ∧ ZB (cPassZ d t z)) (fun _ _ => False) := by
  have h0 := hw.1.2.2.1
  have h1 := h.2.1.1
  refine i_X12_pass ⟨okp_in, fun _ => h.k13, fun h9 => ?_, h.k13, fun G7 e7 => ?_⟩
  · have := wInY h9
    rw [h1]; exact i32s' (by omega)
  rw [h1] at e7
  by_cases hp : passOk d t
  · have hr : wIn t 1 100 ≠ 0 := by rw [wIn1.mpr hp.1]; decide
    rw [if_neg hr, if_pos (by have := hp.2; omega)] at e7
    obtain ⟨k1, k2⟩ := h.thr 0
    rw [← e7] at k1 k2
    have hsp : cPass d t = yes (dN (passN t.toNat d) 0) (passN t.toNat d) := by rw [cPass, if_pos hp.1, if_pos hp.2]
    have ez : cPassZ d t z = passZ t.toNat d z := by unfold cPassZ; rw [if_pos hp]
    have ec : cPassZC d t z = passZC t.toNat d z := by unfold cPassZC; rw [if_pos hp]
    have es : cPassZS d t z = passZS t.toNat d z := by unfold cPassZS; rw [if_pos hp]
    rw [ec] at hc
    rw [es] at hs
    rw [hsp, ez]
    refine ⟨k1.1.k13, fun _ => v_mpass (D := passN t.toNat d) (zD := passZ t.toNat d z) (M := 0) (G0 := G7) (fun G' a1 a2 a3 a4 a5 => ⟨MqR.ok ((a2.2.2.2.2.2.f 0 (fun h9 => h9 rfl)).trans k2) rfl rfl ⟨a1, k1.2.trans (a2.mono fun _ _ => trivial)⟩, a3, a4, a5⟩) t.toNat 0 G7 d z c s (by have := hp.1; omega) (by have := hp.1; omega) k1.1 k1.1.ru (hw.mono (by have := hp.1; omega)) h4 hz (by have := hp.1; have := hp.2; omega) rfl rfl hc hs, fun h9 => by omega⟩
  · have ez : cPassZ d t z = z := by unfold cPassZ; rw [if_neg hp]
    rw [ez]
    have bad : ∀ e : Int, e ≠ 0 → 0 < e → G7 = sfd G 12 0 m e → cPass d t = no e d → gcl G7 m = 13 ∧ (gfd G7 12 0 m ≤ 0 → V E M_X12_pass 45 [some (rv m), some (iv t), some (iv 0), none] [] G7 c s (fun r G' => MqR E G m (cPass d t) tA z.1 z.2 r G' ∧ WK (cPass d t).2.2 0 ∧ I4 (cPass d t).2.2 ∧ ZB z) (fun _ _ => False)) ∧ (0 < gfd G7 12 0 m → MqR E G m (cPass d t) tA z.1 z.2 0 G7 ∧ WK (cPass d t).2.2 0 ∧ I4 (cPass d t).2.2 ∧ ZB z) := fun e he hpos e9 hb => by
      obtain ⟨k1, k2⟩ := h.thr e
      rw [← e9] at k1 k2
      refine ⟨k1.1.k13, fun h9 => by omega, fun _ => ?_⟩
      rw [hb]
      exact ⟨MqR.nok he k2 k1, hw.mono (Nat.zero_le _), h4, hz⟩
    by_cases h1t : 1 ≤ t ∧ t ≤ 100
    · have hr : wIn t 1 100 ≠ 0 := by rw [wIn1.mpr h1t]; decide
      have h2 : ¬ t ≤ 100000 - dN d 0 := fun h9 => hp ⟨h1t, h9⟩
      rw [if_neg hr, if_neg (by omega)] at e7
      exact bad 2 (by decide) (by decide) e7 (by rw [cPass, if_pos h1t, if_neg h2])
    · rw [if_pos (wIn0.mpr h1t)] at e7
      exact bad 1 (by decide) (by decide) e7 (by rw [cPass, if_neg h1t])
end Sa67
