/-! what holds of a state besides, kept by rules -/
section Sa66
variable {m l v two t now : Int} {k r n j : Nat} {d d' D : DS} {R : List (Int × Int)} {es : List En} {o : Option Rw} {z : Mz}
/-- the blocks: every hundred once -/
def BKI (d : DS) : Prop := ∀ c, (dBk d c).Pairwise (fun p q => p.1 ≠ q.1)
def I4 (d : DS) : Prop := FED d ∧ RI d ∧ SL d ∧ BKI d
theorem FED.ent (h : FED d) (hn : n < (dRl d).length) : FED (entD d n es) := by
  refine ⟨h.1, fun q hq => ?_⟩
  rcases List.mem_or_eq_of_mem_set hq with h9 | h9
  · exact h.2 q h9
  · rw [h9]
    exact h.2 (ruD d n) (getD_mem' hn)
theorem I4.ent (h : I4 d) (hn : n < (dRl d).length) (he : ∀ e ∈ es, eI e) : I4 (entD d n es) := ⟨h.1.ent hn, h.2.1.ent hn he, h.2.2.1, h.2.2.2⟩
theorem I4.nt {a b : Int} (h : I4 d) : I4 (ntD d a b) := h
theorem I4.tl1 (h : I4 d) (hn : n < (dRl d).length) (hk : k < (esD d n).length) : I4 (tel1 n d k) := by
  refine ⟨?_, h.2.1.tl1 hn hk, ?_, ?_⟩
  · unfold tel1
    split
    · exact h.1.ent hn
    · exact h.1
  · unfold tel1
    split
    · exact h.2.2.1
    · exact h.2.2.1
  · unfold tel1
    split
    · exact h.2.2.2
    · exact h.2.2.2
theorem I4.tlN : ∀ (k i : Nat) (d : DS), i + k ≤ (esD d n).length → n < (dRl d).length → DI d → LB d → dN d 3 + k < 100000000 → I4 d → I4 (telN n i k d)
  | 0, _, _, _, _, _, _, _, h => h
  | k + 1, i, d, hk, hn, hi, hb, h3, h => by
    obtain ⟨t1, t2, u1, u2, u3, u4, -⟩ := tel1_ok (i := i) hn hi hb (by omega) (by omega)
    exact I4.tlN k (i + 1) (tel1 n d i) (by rw [u2]; omega) (by rw [u1]; exact hn) t1 t2 (by omega) (h.tl1 hn (by omega))
theorem RI.same (h : RI d) (e : dRl d' = dRl d) : RI d' := by
  unfold RI isA
  rw [e]
  exact h
theorem I4.take (h : I4 d) : I4 (tkD d l t v) := by
  have e := (tkD_more (d := d) (l := l) (t := t) (v := v)).1
  refine ⟨h.1.same ?_ (fun q hq => ⟨q, by rw [e] at hq; exact hq, rfl⟩), h.2.1.same e, h.2.2.1.take, ?_⟩
  · unfold tkD
    split <;> rfl
  · unfold tkD
    split
    · exact h.2.2.2
    · exact h.2.2.2
theorem I4.note : ∀ (R : List (Int × Int)) (d : DS), I4 d → I4 (noteD two d R)
  | [], _, h => h
  | y :: R, d, h => I4.note R (note1 two d y) h.take
theorem look_eI (hi : DI d) (hb : LB d) (hI : RI d) (hr : r < (dRl d).length) (ho : RvO o) : ∀ e ∈ lookE d r o, eI e := fun e he => by
  have hmr : ruD d r ∈ dRl d := getD_mem' hr
  have hk := hi.2.2.2.2.2.2.2.1.2 _ hmr
  have hL9 : lookE d r o = (lkD (dN d 0) (ruD d r).1.2.2.1 o (esD d r)).map (fireE (dN d 0) (ruD d r).1.2.1) := lookS_9
  have hrng : ∀ y ∈ labR o, 0 ≤ y.1 ∧ y.1 ≤ 999 := fun y hy => by
    have := ho.lab.1 y hy
    exact ⟨this.1, by have := this.2.1; omega⟩
  have hDok := lkD_ok (kp := (ruD d r).1.2.2.1) (o := o) hi.2.2.1 (fun e he => ⟨hk.2.2.1 e he, hI.at hr e he⟩) hrng
  rw [hL9] at he
  obtain ⟨e1, h9, rfl⟩ := List.mem_map.mp he
  exact fire_eI (hDok e1 h9).2
theorem I4.rule (hw : WK d (k + 1)) (hn : n < (dRl d).length) (ho : RvO (ruO d n)) (h : I4 d) : I4 (ruleD n d) := by
  obtain ⟨hi, hb, h5, hr, h3⟩ := hw
  unfold ruleD
  by_cases h1 : (ruD d n).1.1 = -1
  · rw [if_pos h1]
    obtain ⟨a1, a2, a3, a4⟩ := hi.look hb hn (ruO_lab (d := d) (n := n))
    obtain ⟨f1, f2, f3, f4, f5, f6⟩ := ent_facts (es := lookE d n (ruO d n)) hn
    have hm2 : ruD (entD d n (lookE d n (ruO d n))) n ∈ dRl (entD d n (lookE d n (ruO d n))) := getD_mem' (by rw [f1]; exact hn)
    have hk2 : (esD (entD d n (lookE d n (ruO d n))) n).length ≤ 12 := (a1.2.2.2.2.2.2.2.1.2 _ hm2).2.2.2.2
    have e3 : dN (entD d n (lookE d n (ruO d n))) 3 = dN d 3 := by rw [f3]
    exact I4.tlN (esD (entD d n (lookE d n (ruO d n))) n).length 0 _ (Nat.le_of_eq (Nat.zero_add _)) (by rw [f1]; exact hn) a1 a2 (by omega) (h.ent hn (look_eI hi hb h.2.1 hn ho))
  · rw [if_neg h1]
    exact I4.note _ d h
/-- the lengths of the rows behind a rule, and what they cost -/
def ruleZ (n : Nat) (d : DS) (z : Mz) : Mz := if (ruD d n).1.1 = -1 then z else nZ (ruD d n).1.1 d z (labR (ruO d n))
def ruleZC (n : Nat) (d : DS) (z : Mz) : Nat := if (ruD d n).1.1 = -1 then 0 else nZC (ruD d n).1.1 d z (labR (ruO d n))
def ruleZS (n : Nat) (d : DS) (z : Mz) : Nat := if (ruD d n).1.1 = -1 then 0 else nZS (ruD d n).1.1 d z (labR (ruO d n))
def goZ : Nat → Nat → DS → Mz → Mz
  | _, 0, _, z => z
  | i, k + 1, d, z => goZ (i + 1) k (ruleD i d) (ruleZ i d z)
def goZC : Nat → Nat → DS → Mz → Nat
  | _, 0, _, _ => 0
  | i, k + 1, d, z => ruleZC i d z + goZC (i + 1) k (ruleD i d) (ruleZ i d z)
def goZS : Nat → Nat → DS → Mz → Nat
  | _, 0, _, _ => 0
  | i, k + 1, d, z => ruleZS i d z + goZS (i + 1) k (ruleD i d) (ruleZ i d z)
theorem ZB.note : ∀ (R : List (Int × Int)) (d : DS) (z : Mz), ZB z → SL d → dN d 5 + R.length ≤ 1000000 → (dRec d).length + R.length ≤ 1000000 → ZB (nZ two d z R)
  | [], _, _, h, _, _, _ => h
  | y :: R, d, z, h, hS, h5, hR => by
    rw [List.length_cons] at h5 hR
    have t5 := tkD_5 (d := d) (l := noL two y.1) (t := dN d 0) (v := noV y.2)
    have hS9 : ((dSmp d).length : Int) ≤ dN d 5 := hS
    exact ZB.note R (note1 two d y) _ (h.take (by omega) (by omega)) hS.take (by show dN (tkD _ _ _ _) 5 + _ ≤ _; omega) (by show (dRec (tkD _ _ _ _)).length + _ ≤ _; omega)
theorem ZB.rule (hw : WK d (k + 1)) (ho : RvO (ruO d n)) (hS : SL d) (h : ZB z) : ZB (ruleZ n d z) := by
  unfold ruleZ
  split
  · exact h
  · have hl := ho.lab.2
    have h5 := hw.2.2.1
    have hr := hw.2.2.2.1
    exact ZB.note _ d z h hS (by omega) (by omega)
end Sa66
