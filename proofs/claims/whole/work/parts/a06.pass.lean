/-! pass -/
section Sa06
variable {E : EE} {G G' G2 : Gt} {c s bc bs : Nat} {Q X : Int → Gt → Prop} {a x i j l u t v z w m q r : Int} {d d' d2 : DS} {n : Nat}
def goD (d : DS) : DS := goN 0 (dRl d).length d
theorem WK.mono {k k' : Nat} (h : WK d k) (hk : k' ≤ k) : WK d k' := ⟨h.1, h.2.1, by have := h.2.2.1; omega, by have := h.2.2.2.1; omega, by have := h.2.2.2.2; omega⟩
theorem ok_goD {m : Nat} (h : CH E G x d) (hw : WK d ((dRl d).length + m)) (hc : goC 0 (dRl d).length d ≤ c) (hs : goS 0 (dRl d).length d ≤ s) :
    Ok E M_X11_goThroughRules [rv x] G c s (fun _ G' => CF E G G' x (goD d) ∧ WK (goD d) m ∧ (dRl (goD d)).length = (dRl d).length ∧ dN (goD d) 0 = dN d 0) (fun _ _ => False) :=
  i_X11_goThroughRules (v_goThroughRules (d := d) (m := m) (fun G' h1 h2 h3 => ⟨h1, h2, h3⟩) (dRl d).length 0 G d c s (Nat.zero_add _) (CF.refl h) hw ⟨rfl, rfl⟩ rfl hc hs)
def nowD (d : DS) : DS := ownD d (fun j => if j = 0 then dN d 0 + 1 else dN d j) (dSel d) (dDr d) (dRl d) (dSil d) (dNt d)
abbrev isTick (d : DS) : Prop := Int.tmod (dN d 0 + 1) 10 = 0
def tickD (d : DS) : DS := if isTick d then goD (nowD d) else nowD d
def tickC (d : DS) : Nat := if isTick d then goC 0 (dRl d).length (nowD d) else 0
def tickS (d : DS) : Nat := if isTick d then goS 0 (dRl d).length (nowD d) else 0
def passN : Nat → DS → DS
  | 0, d => d
  | k + 1, d => passN k (tickD d)
def passC : Nat → DS → Nat
  | 0, _ => 0
  | k + 1, d => tickC d + passC k (tickD d)
def passS : Nat → DS → Nat
  | 0, _ => 0
  | k + 1, d => tickS d + passS k (tickD d)
theorem DI.now (h : DI d) (hb : dN d 0 + 1 ≤ 100000) : DI (nowD d) := by
  obtain ⟨a1, a2, a3, a4, a5, a6, a7, a8, a9, a10, a11, a12, a13, a14⟩ := id h
  exact h.own ⟨rfl, rfl, rfl⟩ ⟨by show 0 ≤ dN d 0 + 1; omega, hb⟩ a4 a12 a6 a7 a8 a9 a10
theorem WK.now {k : Nat} (h : WK d k) (hb : dN d 0 + 1 ≤ 100000) : WK (nowD d) k := ⟨h.1.now hb, h.2⟩
theorem v_pass {D : DS} {m : Nat} (hQ : ∀ G', CF E G G' x D → WK D m → Q (dN D 0) G') : ∀ (k i : Nat) (G1 : Gt) (d1 : DS) (c s : Nat), (i : Int) + k = t → i + k ≤ 100 → CF E G G1 x d1 → WK d1 (8 * k + m) → dN d1 0 + k ≤ 100000 → passN k d1 = D → passC k d1 ≤ c → passS k d1 ≤ s →
    V E M_X11_pass 43 [some (rv x), some (iv t), some (iv (i : Int))] [] G1 c s Q X := by
  intro k
  induction k with
  | zero =>
    intro i G1 d1 c s hk h100 hC hw hn hD _ _
    have e : d1 = D := hD
    have hq := hQ G1 (by rw [← e]; exact hC) (by rw [← e, ← Nat.zero_add m]; exact hw)
    rw [← e, ← hC.1.nums.2.1] at hq
    exact b_X11_pass_43 ⟨fun _ => ⟨hC.1.1, hq⟩, fun h9 => by omega⟩
  | succ k ih =>
    intro i G1 d1 c s hk h100 hC hw hn hD hc hs
    obtain ⟨e3, e0, e1⟩ := hC.1.nums
    have hi := hw.1
    have h0 := hi.2.2.1
    have hw9 := hw.now (by omega)
    refine b_X11_pass_43 ⟨fun h9 => by omega, fun _ => ⟨hC.1.1, i32s (by omega), hC.1.1, fun G6 e6 => ?_⟩⟩
    have hC6 : CF E G1 G6 x (nowD d1) := by
      rw [e6, e0]
      refine ok_setn hC.1 hi (by decide) ⟨rfl, rfl, rfl⟩ ⟨?_, ?_, ?_⟩
      · rw [gfd_sfd, if_neg (by omega)]; exact e3
      · rw [gfd_sfd, if_pos ⟨rfl, rfl, rfl⟩]; rfl
      · rw [gfd_sfd, if_neg (by omega)]; exact e1
    have e6' : gfd G6 11 12 x = dN d1 0 + 1 := hC6.1.nums.2.1
    have hc' : tickC d1 + passC k (tickD d1) ≤ c := hc
    have hs' : tickS d1 + passS k (tickD d1) ≤ s := hs
    have hD' : passN k (tickD d1) = D := hD
    have hl8 := hi.2.2.2.2.2.2.2.1.1
    have en : dN (nowD d1) 0 = dN d1 0 + 1 := rfl
    refine ⟨hC6.1.1, ?_⟩
    rw [e6']
    by_cases ht : isTick d1
    · refine ⟨fun h9 => absurd ht h9, fun _ => ⟨hC6.1.1, ?_⟩⟩
      have eD : tickD d1 = goD (nowD d1) := by unfold tickD; rw [if_pos ht]
      have eC : tickC d1 = goC 0 (dRl d1).length (nowD d1) := by unfold tickC; rw [if_pos ht]
      have eS : tickS d1 = goS 0 (dRl d1).length (nowD d1) := by unfold tickS; rw [if_pos ht]
      have el : (dRl (nowD d1)).length = (dRl d1).length := rfl
      refine Call.to (mc' := tickC d1) (ms' := tickS d1) (ok_goD (m := 8 * k + m) hC6.1 (hw9.mono (by rw [el]; omega)) (by rw [eC]; exact Nat.le_refl _) (by rw [eS]; exact Nat.le_refl _)) (by omega) (by omega) fun _ G12 ⟨hC12, hw12, hl12, hn12⟩ => ⟨i32s (by omega), ?_⟩
      rw [← eD] at hC12 hw12 hn12
      exact ih (i + 1) G12 (tickD d1) _ _ (by omega) (by omega) ((hC.trans hC6).trans hC12) hw12 (by rw [hn12, en]; omega) hD' (by omega) (by omega)
    · refine ⟨fun _ => ⟨i32s (by omega), ?_⟩, fun h9 => absurd h9 ht⟩
      have eD : tickD d1 = nowD d1 := by unfold tickD; rw [if_neg ht]
      rw [eD] at hD'
      rw [eD] at hc' hs'
      exact ih (i + 1) G6 (nowD d1) _ _ (by omega) (by omega) (hC.trans hC6) (hw9.mono (by omega)) (by rw [en]; omega) hD' (by omega) (by omega)
def cPass (d : DS) (t : Int) : Sp := if 1 ≤ t ∧ t ≤ 100 then (if t ≤ 100000 - dN d 0 then yes (dN (passN t.toNat d) 0) (passN t.toNat d) else no 2 d) else no 1 d
theorem ok_pass (h : CH E G x d) (hw : WK d 800) (hc : 1 + passC t.toNat d ≤ c) (hs : 6 + passS t.toNat d ≤ s) : Ok E M_X11_pass [rv x, iv t] G c s (RQ E G x (cPass d t)) (RX G (cPass d t)) := by
  have h0 := hw.1.2.2.1
  have e0 := h.nums.2.1
  refine i_X11_pass ⟨okp_isWithin, fun h1 => ?_, fun h1 => ⟨by omega, by omega, by rw [cPass, if_neg (wIn0.mp h1)]; exact RX.n⟩⟩
  have h1' := wInY h1
  rw [e0]
  refine ⟨h.1, i32s (by omega), fun h2 => ?_, fun h2 => ⟨by omega, by omega, by rw [cPass, if_pos h1', if_neg (by omega)]; exact RX.n⟩⟩
  refine v_pass (D := passN t.toNat d) (m := 0) (fun G' h3 h4 => ?_) t.toNat 0 G d c s (by omega) (by omega) (CF.refl h) (hw.mono (by omega)) (by omega) rfl (by omega) (by omega)
  rw [cPass, if_pos h1', if_pos h2]
  exact RQ.y h3
end Sa06
