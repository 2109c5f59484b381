/-! the rules are gone through -/
section Sa05
variable {E : EE} {G G' G2 : Gt} {c s bc bs : Nat} {Q X : Int → Gt → Prop} {a x i j l u t v z w m q r fl en ru now wt9 kp two : Int} {d d' d2 : DS} {es : List En} {L : List Int} {o : Option Rw} {n : Nat} {R : List (Int × Int)}
theorem telF.trans {d d' d2 : DS} (h : (dRl d').length = (dRl d).length ∧ dN d' 0 = dN d 0 ∧ dN d' 5 = dN d 5 ∧ dRec d' = dRec d ∧ dSer d' = dSer d ∧ smS d' = smS d ∧ dN d' 6 = dN d 6) (h2 : (dRl d2).length = (dRl d').length ∧ dN d2 0 = dN d' 0 ∧ dN d2 5 = dN d' 5 ∧ dRec d2 = dRec d' ∧ dSer d2 = dSer d' ∧ smS d2 = smS d' ∧ dN d2 6 = dN d' 6) : (dRl d2).length = (dRl d).length ∧ dN d2 0 = dN d 0 ∧ dN d2 5 = dN d 5 ∧ dRec d2 = dRec d ∧ dSer d2 = dSer d ∧ smS d2 = smS d ∧ dN d2 6 = dN d 6 :=
  ⟨h2.1.trans h.1, h2.2.1.trans h.2.1, h2.2.2.1.trans h.2.2.1, h2.2.2.2.1.trans h.2.2.2.1, h2.2.2.2.2.1.trans h.2.2.2.2.1, h2.2.2.2.2.2.1.trans h.2.2.2.2.2.1, h2.2.2.2.2.2.2.trans h.2.2.2.2.2.2⟩
theorem telN_ok : ∀ (k i : Nat) (d : DS), i + k ≤ (esD d n).length → n < (dRl d).length → DI d → LB d → dN d 3 + k < 100000000 →
    DI (telN n i k d) ∧ LB (telN n i k d) ∧ (esD (telN n i k d) n).length = (esD d n).length ∧ dN (telN n i k d) 3 ≤ dN d 3 + k ∧ ((dRl (telN n i k d)).length = (dRl d).length ∧ dN (telN n i k d) 0 = dN d 0 ∧ dN (telN n i k d) 5 = dN d 5 ∧ dRec (telN n i k d) = dRec d ∧ dSer (telN n i k d) = dSer d ∧ smS (telN n i k d) = smS d ∧ dN (telN n i k d) 6 = dN d 6)
  | 0, _, d, _, _, hi, hb, _ => ⟨hi, hb, rfl, by show dN d 3 ≤ _; omega, rfl, rfl, rfl, rfl, rfl, rfl, rfl⟩
  | k + 1, i, d, hk, hn, hi, hb, h3 => by
    obtain ⟨t1, t2, u1, u2, u3, u4, u5, u6, u7, u8, u9⟩ := tel1_ok (i := i) hn hi hb (by omega) (by omega)
    obtain ⟨r1, r2, r3, r4, r5⟩ := telN_ok k (i + 1) (tel1 n d i) (by rw [u2]; omega) (by rw [u1]; exact hn) t1 t2 (by omega)
    refine ⟨r1, r2, r3.trans u2, ?_, telF.trans ⟨u1, u3, u5, u6, u7, u8, u9⟩ r5⟩
    show dN (telN n (i + 1) k (tel1 n d i)) 3 ≤ _
    omega
theorem tkD_more : (dRl (tkD d l t v)) = dRl d ∧ dN (tkD d l t v) 3 = dN d 3 ∧ dN (tkD d l t v) 0 = dN d 0 := by
  unfold tkD
  split <;> exact ⟨rfl, rfl, rfl⟩
theorem LB.take (h : LB d) : LB (tkD d l t v) := by
  unfold tkD
  split
  · intro q hq e he
    have := h q hq e he
    show e.1 ∈ lbS q.2.1 (serW (dSer d) l)
    unfold serW
    split
    · exact this
    · exact lbS_app _ this
  · exact h
theorem noteD_ok (h2 : 0 ≤ two ∧ two ≤ 5) : ∀ (R : List (Int × Int)) (d : DS), (∀ y ∈ R, cOk y.1) → DI d → LB d → dN d 5 + R.length ≤ 1000000 → (dRec d).length + R.length ≤ 1000000 →
    DI (noteD two d R) ∧ LB (noteD two d R) ∧ dRl (noteD two d R) = dRl d ∧ dN (noteD two d R) 0 = dN d 0 ∧ dN (noteD two d R) 3 = dN d 3 ∧ dN (noteD two d R) 5 ≤ dN d 5 + R.length ∧ (dRec (noteD two d R)).length ≤ (dRec d).length + R.length
  | [], d, _, hi, hb, _, _ => ⟨hi, hb, rfl, rfl, rfl, by show dN d 5 ≤ _; omega, by show (dRec d).length ≤ _; omega⟩
  | y :: R, d, hc, hi, hb, h5, hr => by
    rw [List.length_cons] at h5 hr
    have hcl := noL_ok (two := two) (hc y List.mem_cons_self) h2
    have hm := noV_in y.2
    have t5 := tkD_5 (d := d) (l := noL two y.1) (t := dN d 0) (v := noV y.2)
    have t6 := tkD_more (d := d) (l := noL two y.1) (t := dN d 0) (v := noV y.2)
    obtain ⟨r1, r2, r3, r4, r5, r6, r7⟩ := noteD_ok h2 R (note1 two d y) (fun z hz => hc z (List.mem_cons_of_mem _ hz)) (hi.take hcl hi.2.2.1 (Or.inr hm) ⟨by omega, by omega⟩) hb.take (by show dN (tkD _ _ _ _) 5 + _ ≤ _; omega) (by show (dRec (tkD _ _ _ _)).length + _ ≤ _; omega)
    have e : noteD two d (y :: R) = noteD two (note1 two d y) R := rfl
    have e5 : dN (note1 two d y) 5 ≤ dN d 5 + 1 := t5.1
    have e6 : (dRec (note1 two d y)).length ≤ (dRec d).length + 1 := t5.2.1
    rw [e, List.length_cons]
    exact ⟨r1, r2, r3.trans t6.1, r4.trans t6.2.2, r5.trans t6.2.1, by omega, by omega⟩
def ruO (d : DS) (n : Nat) : Option Rw := evA (dN d 0) (dSer d) (smS d) (ruD d n).2.1
def ruleD (n : Nat) (d : DS) : DS := if (ruD d n).1.1 = -1 then tellD n (entD d n (lookE d n (ruO d n))) else noteD (ruD d n).1.1 d (labR (ruO d n))
def ruleC (n : Nat) (d : DS) : Nat := if (ruD d n).1.1 = -1 then lkK d n (ruO d n) + 2 else noteC (ruD d n).1.1 d (labR (ruO d n))
def ruleS (n : Nat) (d : DS) : Nat := if (ruD d n).1.1 = -1 then 5 * lkK d n (ruO d n) + 25 else noteS (ruD d n).1.1 d (labR (ruO d n))
def goN : Nat → Nat → DS → DS
  | _, 0, d => d
  | i, k + 1, d => goN (i + 1) k (ruleD i d)
def goC : Nat → Nat → DS → Nat
  | _, 0, _ => 0
  | i, k + 1, d => ruleC i d + goC (i + 1) k (ruleD i d)
def goS : Nat → Nat → DS → Nat
  | _, 0, _ => 0
  | i, k + 1, d => ruleS i d + goS (i + 1) k (ruleD i d)
/-- in order, with room for k more rules -/
def WK (d : DS) (k : Nat) : Prop := DI d ∧ LB d ∧ dN d 5 + 12 * k ≤ 1000000 ∧ (dRec d).length + 12 * k ≤ 1000000 ∧ dN d 3 + 12 * k < 100000000
theorem ruO_lab : ∀ y ∈ labR (ruO d n), y.1 ∈ lbS (ruD d n).2.1 (dSer d) := by
  intro y hy
  unfold ruO at hy
  cases e : evA (dN d 0) (dSer d) (smS d) (ruD d n).2.1 with
  | none => rw [e] at hy; exact (List.not_mem_nil hy).elim
  | some x9 => rw [e] at hy; exact evA_lab e y hy
/-- what an expression comes to is in order -/
def RvO (o : Option Rw) : Prop := ∀ p, o = some p → RV p.1 p.2
theorem RvO.lab (h : RvO o) : (∀ y ∈ labR o, cOk y.1) ∧ (labR o).length ≤ 12 := by
  cases o with
  | none => exact ⟨fun y hy => (List.not_mem_nil hy).elim, Nat.zero_le _⟩
  | some p => exact ⟨fun y hy => ((h p rfl).2.2.1 y hy).1, (h p rfl).1⟩
theorem ResH.rv (h : ResH G x r o) : RvO o := by
  intro p hp
  rcases h with h9 | ⟨-, -, n, R, h9, -, h8⟩
  · rw [h9.2] at hp; cases hp
  · rw [h9] at hp
    rw [← Option.some.inj hp]; exact h8
theorem rule_ok {k : Nat} (hn : n < (dRl d).length) (ho : RvO (ruO d n)) (h : WK d (k + 1)) : WK (ruleD n d) k ∧ (dRl (ruleD n d)).length = (dRl d).length ∧ dN (ruleD n d) 0 = dN d 0 := by
  obtain ⟨hi, hb, h5, hr, h3⟩ := h
  have hm : ruD d n ∈ dRl d := getD_mem' hn
  have hk := hi.2.2.2.2.2.2.2.1.2 _ hm
  unfold ruleD
  by_cases h1 : (ruD d n).1.1 = -1
  · rw [if_pos h1]
    obtain ⟨a1, a2, a3, a4⟩ := hi.look hb hn (ruO_lab (d := d) (n := n))
    obtain ⟨f1, f2, f3, f4, f5, f6⟩ := ent_facts (es := lookE d n (ruO d n)) hn
    have hm2 : ruD (entD d n (lookE d n (ruO d n))) n ∈ dRl (entD d n (lookE d n (ruO d n))) := getD_mem' (by rw [f1]; exact hn)
    have hk2 := (a1.2.2.2.2.2.2.2.1.2 _ hm2).2.2.2.2
    have hk3 : (esD (entD d n (lookE d n (ruO d n))) n).length ≤ 12 := hk2
    have e3 : dN (entD d n (lookE d n (ruO d n))) 3 = dN d 3 := by rw [f3]
    obtain ⟨r1, r2, r3, r4, r5, r6, r7, r8, -⟩ := telN_ok (n := n) (esD (entD d n (lookE d n (ruO d n))) n).length 0 _ (Nat.le_of_eq (Nat.zero_add _)) (by rw [f1]; exact hn) a1 a2 (by omega)
    unfold tellD
    refine ⟨⟨r1, r2, by rw [r7, f3]; omega, by rw [r8, f5]; omega, by omega⟩, r5.trans f1, r6.trans (by rw [f3])⟩
  · rw [if_neg h1]
    have h2 : 0 ≤ (ruD d n).1.1 ∧ (ruD d n).1.1 ≤ 5 := by
      rcases hk.1.1 with h9 | h9
      · exact (h1 h9).elim
      · exact h9
    obtain ⟨b1, b2⟩ := ho.lab
    obtain ⟨r1, r2, r3, r4, r5, r6, r7⟩ := noteD_ok h2 (labR (ruO d n)) d b1 hi hb (by omega) (by omega)
    exact ⟨⟨r1, r2, by omega, by omega, by omega⟩, by rw [r3], r4⟩
theorem v_goThroughRules {D : DS} {m : Nat} (hQ : ∀ G', CF E G G' x D → WK D m → (dRl D).length = (dRl d).length ∧ dN D 0 = dN d 0 → Q 0 G') : ∀ (k i : Nat) (G1 : Gt) (d1 : DS) (c s : Nat), i + k = (dRl d1).length → CF E G G1 x d1 → WK d1 (k + m) → (dRl d1).length = (dRl d).length ∧ dN d1 0 = dN d 0 → goN i k d1 = D → goC i k d1 ≤ c → goS i k d1 ≤ s →
    V E M_X11_goThroughRules 2 [some (rv x), some (iv (i : Int)), none, none] [] G1 c s Q X := by
  intro k
  induction k with
  | zero =>
    intro i G1 d1 c s hk hC hw hsame hD _ _
    have hR := (hC.1.rul hw.1)
    have e : d1 = D := hD
    refine b_X11_goThroughRules_2 ⟨hC.1.1, hR.1.1, okp_size hR.1.1, fun _ => hQ G1 (by rw [← e]; exact hC) (by rw [← e, ← Nat.zero_add m]; exact hw) (by rw [← e]; exact hsame), fun h9 => by omega⟩
  | succ k ih =>
    intro i G1 d1 c s hk hC hw hsame hD hc hs
    rw [show k + 1 + m = (k + m) + 1 by omega] at hw
    have hw0 := hw
    obtain ⟨hi, hb, h5, hr, h3⟩ := hw
    have hR := (hC.1.rul hi)
    have hn : i < (dRl d1).length := by omega
    obtain ⟨g1, g2, g3⟩ := hC.1.rule (i := (i : Int)) hi (by omega) (by omega)
    have g2' : alAt G1 (gfd G1 11 6 x) (i : Int) = (lst G1 (gfd G1 11 6 x)).getD i 0 := g2
    have g3' : RuH G1 ((lst G1 (gfd G1 11 6 x)).getD i 0) (ruD d1 i) := g3
    rw [← g2'] at g3'
    have hA : RuAt G1 x (alAt G1 (gfd G1 11 6 x) (i : Int)) (gfd G1 4 4 (alAt G1 (gfd G1 11 6 x) (i : Int))) i := ⟨g2', rfl⟩
    refine b_X11_goThroughRules_2 ?_
    generalize alAt G1 (gfd G1 11 6 x) (i : Int) = ru at g1 g3' hA ⊢
    have hm : ruD d1 i ∈ dRl d1 := getD_mem' hn
    have hkk := hi.2.2.2.2.2.2.2.1.2 _ hm
    have hx := hC.1.1
    have hO := hC.1.2.2.1
    have h12 := hR.2.2
    have hp3 : gcl G1 (gfd G1 11 1 x) = 3 := by
      obtain ⟨_, _, _, _, _, ⟨rows, sp, K, wn, hP, hK⟩, -⟩ := hC.1
      exact hP.1
    have hwl := g3'.2.2.1
    have hne : gfd G1 4 0 ru ≠ gfd G1 2 0 (gfd G1 11 1 x) := hO.ne 4 0 2 0 g3'.1 hp3 (hO.nn (by rw [hwl.1]; decide) (by rw [hwl.1]; decide)) (fun h9 => absurd h9.1 (by decide))
    refine ⟨hx, hR.1.1, okp_size hR.1.1, fun h9 => by omega, fun _ => ⟨hx, hR.1.1, g1, Or.inr g3'.1, hx, g3'.1, hx, hC.1.cls.1, hx, hp3, ?_⟩⟩
    rw [hC.1.nums.2.1]
    refine Call.to (ok_reckonF hC.1 hi hwl hne hkk.2.1.2 hkk.2.1.1 hi.2.2.1) (Nat.zero_le _) (Nat.zero_le _) fun r G16 ⟨⟨hC16, hr16⟩, ⟨W, L, A, w1, w2, w3, k16⟩⟩ => ?_
    have hr16' : ResH G16 x r (ruO d1 i) := hr16
    have l6 : gfd G1 11 6 x ≠ -1 := hO.nn (by rw [hR.1.1]; decide) (by rw [hR.1.1]; decide)
    have hA16 : RuAt G16 x ru (gfd G1 4 4 ru) i := hA.fr k16 hx (fun h9 => by have := w1 _ _ _ h9; omega) ⟨hR.1.1, hR.1.2.1⟩ (w2.no hO 11 6 hx l6 (by decide)) g3'.1 (fun h9 => by have := w1 _ _ _ h9; omega)
    obtain ⟨q1, q2, q3, q4, q5⟩ := hC16.1.ruAt hi hn hA16
    obtain ⟨n1, n2, n3⟩ := rule_ok hn hr16'.rv hw0
    have hx16 := hC16.1.1
    have e1 : gfd G16 4 1 ru = (ruD d1 i).1.1 := q1.2.1.1
    refine ⟨q1.1, okp_records q1.1, ?_⟩
    rw [e1]
    have hc' : ruleC i d1 + goC (i + 1) k (ruleD i d1) ≤ c := hc
    have hs' : ruleS i d1 + goS (i + 1) k (ruleD i d1) ≤ s := hs
    have hD' : goN (i + 1) k (ruleD i d1) = D := hD
    have hi8 := hi.2.2.2.2.2.2.2.1.1
    by_cases h1 : (ruD d1 i).1.1 = -1
    · have eD : ruleD i d1 = tellD i (entD d1 i (lookE d1 i (ruO d1 i))) := by unfold ruleD; rw [if_pos h1]
      have eC : ruleC i d1 = lkK d1 i (ruO d1 i) + 2 := by unfold ruleC; rw [if_pos h1]
      have eS : ruleS i d1 = 5 * lkK d1 i (ruO d1 i) + 25 := by unfold ruleS; rw [if_pos h1]
      rw [if_pos h1]
      refine ⟨fun _ => ⟨hx16, q1.1, ?_⟩, fun h9 => absurd rfl h9⟩
      rw [hC16.1.nums.2.1]
      obtain ⟨mc, ms, hmc, hms, hlk⟩ := ok_lookD hC16.1 hi hb hn hA16 hr16' ruO_lab
      refine Call.to hlk (by omega) (by omega) fun _ G25 ⟨hC25, hA25⟩ => ⟨hC25.1.1, ?_⟩
      obtain ⟨a1, a2, a3, a4⟩ := hi.look hb hn (ruO_lab (d := d1) (n := i))
      obtain ⟨f1, f2, f3, f4, f5, f6⟩ := ent_facts (es := lookE d1 i (ruO d1 i)) hn
      refine Call.to (mc' := 0) (ms' := 0) (ok_tellOf hC25.1 a1 a2 (by rw [f1]; exact hn) hA25 (by rw [f3]; omega)) (Nat.zero_le _) (Nat.zero_le _) fun _ G30 ⟨hC30, _⟩ => ⟨i32s (by omega), ?_⟩
      rw [← eD] at hC30
      exact ih (i + 1) G30 (ruleD i d1) _ _ (by rw [n2]; omega) (((hC.trans hC16).trans hC25).trans hC30) n1 ⟨n2.trans hsame.1, n3.trans hsame.2⟩ hD' (by omega) (by omega)
    · have eD : ruleD i d1 = noteD (ruD d1 i).1.1 d1 (labR (ruO d1 i)) := by unfold ruleD; rw [if_neg h1]
      have eC : ruleC i d1 = noteC (ruD d1 i).1.1 d1 (labR (ruO d1 i)) := by unfold ruleC; rw [if_neg h1]
      have eS : ruleS i d1 = noteS (ruD d1 i).1.1 d1 (labR (ruO d1 i)) := by unfold ruleS; rw [if_neg h1]
      have h2 : 0 ≤ (ruD d1 i).1.1 ∧ (ruD d1 i).1.1 ≤ 5 := by
        rcases hkk.1.1 with h9 | h9
        · exact (h1 h9).elim
        · exact h9
      rw [if_neg h1]
      refine ⟨fun h9 => absurd h9 (by decide), fun _ => ⟨q1.1, hx16, ?_⟩⟩
      refine Call.to (mc' := ruleC i d1) (ms' := ruleS i d1) (ok_writeResult hC16.1 hi hr16' h2 ⟨by omega, by omega⟩ (by rw [eC]; exact Nat.le_refl _) (by rw [eS]; exact Nat.le_refl _)) (by omega) (by omega) fun _ G37 ⟨hC37, _⟩ => ⟨i32s (by omega), ?_⟩
      rw [← eD] at hC37
      exact ih (i + 1) G37 (ruleD i d1) _ _ (by rw [n2]; omega) ((hC.trans hC16).trans hC37) n1 ⟨n2.trans hsame.1, n3.trans hsame.2⟩ hD' (by omega) (by omega)
end Sa05
