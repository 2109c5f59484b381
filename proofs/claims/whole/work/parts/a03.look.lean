/-! an alert looks, over an object -/
section Sa03
variable {E : EE} {G G' G2 : Gt} {c s bc bs : Nat} {Q X : Int → Gt → Prop} {a x i j l u t v z w m q r n fl en ru now wt9 kp : Int} {d d' d2 : DS} {es : List En} {L : List Int} {o : Option Rw}
theorem lkB_asc : ∀ (R : List (Int × Int)) {es : List En}, ascE es → ascE (lkB now es R)
  | [], _, h => h
  | y :: R, _, h => lkB_asc R (insE_asc h)
theorem lkB_mem : ∀ (R : List (Int × Int)) {es : List En} {e : En}, e ∈ lkB now es R → e ∈ es ∨ ∃ y ∈ R, e = newE now y.1
  | [], _, _, h => Or.inl h
  | y :: R, es, e, h => by
    rcases lkB_mem R (es := insE now y.1 es) h with h9 | ⟨z, hz, h9⟩
    · rcases insE_mem h9 with h8 | h8
      · exact Or.inl h8
      · exact Or.inr ⟨y, List.mem_cons_self, h8⟩
    · exact Or.inr ⟨z, List.mem_cons_of_mem _ hz, h9⟩
theorem lkA1_1 {P : Int → Bool} {e e' : En} (h : lkA1 now kp P e = some e') : e'.1 = e.1 := by
  unfold lkA1 at h
  split at h
  · rw [← Option.some.inj h]
  · split at h
    · cases h
    · rw [← Option.some.inj h]
theorem lkA1_ok {P : Int → Bool} {e e' : En} (hnow : 0 ≤ now ∧ now ≤ 100000) (h : lkA1 now kp P e = some e') (he : enOk e) : enOk e' := by
  unfold lkA1 at h
  split at h
  · rw [← Option.some.inj h]
    exact ⟨he.1, hnow, he.2.2⟩
  · split at h
    · cases h
    · rw [← Option.some.inj h]; exact he
theorem fire_1 (e : En) : (fireE now wt9 e).1 = e.1 := by unfold fireE; split <;> rfl
theorem fire_ok {e : En} (hnow : 0 ≤ now ∧ now ≤ 100000) (he : enOk e) : enOk (fireE now wt9 e) := by
  unfold fireE
  split
  · exact ⟨hnow, he.2.1, Or.inr rfl, Or.inl rfl⟩
  · exact he
theorem asc_filter {f : En → Option En} (hf : ∀ e e', f e = some e' → e'.1 = e.1) (h : ascE es) : ascE (es.filterMap f) :=
  h.filterMap f (fun a a' h9 b hb b' hb' => by rw [hf a b hb, hf a' b' hb']; exact h9)
theorem asc_fire (h : ascE es) : ascE (es.map (fireE now wt9)) := List.pairwise_map.mpr (h.imp (fun {a b} h9 => by rw [fire_1, fire_1]; exact h9))
theorem lookS_ok (hnow : 0 ≤ now ∧ now ≤ 100000) (hok : ∀ e ∈ es, enOk e) (hasc : ascE es) (hl : ∀ e ∈ es, e.1 ∈ L) (ho : ∀ y ∈ labR o, y.1 ∈ L) :
    (∀ e ∈ lookS now wt9 kp o es, enOk e) ∧ ascE (lookS now wt9 kp o es) ∧ (∀ e ∈ lookS now wt9 kp o es, e.1 ∈ L) ∧ lookN now kp o es + (lookA now kp o es).length ≤ L.length ∧ lookN now kp o es + es.length ≤ L.length ∧ lookN now kp o es ≤ (lookS now wt9 kp o es).length := by
  have fA : ∀ (P : Int → Bool), ascE (es.filterMap (lkA1 now kp P)) ∧ ∀ e ∈ es.filterMap (lkA1 now kp P), enOk e ∧ e.1 ∈ L := fun P => ⟨asc_filter (fun e e' h9 => lkA1_1 h9) hasc, fun e he => by
    obtain ⟨e1, h1, h2⟩ := List.mem_filterMap.mp he
    exact ⟨lkA1_ok hnow h2 (hok e1 h1), by rw [lkA1_1 h2]; exact hl e1 h1⟩⟩
  have fB : ∀ (M : List En), ascE M → (∀ e ∈ M, enOk e ∧ e.1 ∈ L) → ascE (lkB now M (labR o)) ∧ ∀ e ∈ lkB now M (labR o), enOk e ∧ e.1 ∈ L := fun M h1 h2 => ⟨lkB_asc _ h1, fun e he => by
    rcases lkB_mem _ he with h9 | ⟨y, hy, rfl⟩
    · exact h2 e h9
    · exact ⟨⟨hnow, hnow, Or.inl rfl, Or.inl rfl⟩, ho y hy⟩⟩
  have fC : ∀ (M : List En), ascE M → (∀ e ∈ M, enOk e ∧ e.1 ∈ L) → (∀ e ∈ M.map (fireE now wt9), enOk e) ∧ ascE (M.map (fireE now wt9)) ∧ ∀ e ∈ M.map (fireE now wt9), e.1 ∈ L := fun M h1 h2 => by
    refine ⟨fun e he => ?_, asc_fire h1, fun e he => ?_⟩ <;> obtain ⟨e1, h3, rfl⟩ := List.mem_map.mp he
    · exact fire_ok hnow (h2 e1 h3).1
    · rw [fire_1]; exact (h2 e1 h3).2
  by_cases ha : anyR o = true
  · rw [lookS_eq ha]
    obtain ⟨a1, a2⟩ := fA (fun c => anyR o && (labR o).any (fun y => decide (y.1 = c)))
    obtain ⟨b1, b2⟩ := fB _ a1 a2
    obtain ⟨c1, c2, c3⟩ := fC _ b1 b2
    have hlen := asc_short (L := L) b1 (fun e he => (b2 e he).2)
    have hge := lkB_len (now := now) (labR o) (lookA now kp o es)
    have hN : lookN now kp o es = (lkB now (lookA now kp o es) (labR o)).length - (lookA now kp o es).length := by unfold lookN; rw [if_pos ha]
    refine ⟨c1, c2, c3, ?_, ?_, ?_⟩
    · rw [hN]
      have : (lkB now (lookA now kp o es) (labR o)).length ≤ L.length := hlen
      omega
    · -- what is new is no label of those that were there
      rw [hN]
      have hn : ∀ e ∈ lkB now (lookA now kp o es) (labR o), e ∈ lookA now kp o es ∨ (e.1 ∈ L ∧ ∀ e1 ∈ es, e1.1 = e.1 → False) ∨ ∃ e1 ∈ lookA now kp o es, e1.1 = e.1 := fun e he => by
        rcases lkB_mem _ he with h9 | ⟨y, hy, rfl⟩
        · exact Or.inl h9
        · by_cases h8 : ∃ e1 ∈ es, e1.1 = y.1
          · obtain ⟨e1, h7, h6⟩ := h8
            refine Or.inr (Or.inr ⟨(e1.1, e1.2.1, e1.2.2.1, now, e1.2.2.2.2), List.mem_filterMap.mpr ⟨e1, h7, ?_⟩, h6⟩)
            unfold lkA1
            rw [if_pos]
            show (anyR o && (labR o).any (fun y => decide (y.1 = e1.1))) = true
            rw [ha, Bool.true_and]
            exact List.any_eq_true.mpr ⟨y, hy, decide_eq_true h6.symm⟩
          · exact Or.inr (Or.inl ⟨ho y hy, fun e1 h7 h6 => h8 ⟨e1, h7, h6⟩⟩)
      -- the labels: those of es, and the new ones
      have hB : (lkB now (lookA now kp o es) (labR o)).map (·.1) |>.Nodup := by
        have hp : ((lkB now (lookA now kp o es) (labR o)).map (·.1)).Pairwise (· < ·) := List.pairwise_map.mpr b1
        exact hp.imp (fun {a b} h9 => Int.ne_of_lt h9)
      have hA : (es.map (·.1)).Nodup := by
        have hp : (es.map (·.1)).Pairwise (· < ·) := List.pairwise_map.mpr hasc
        exact hp.imp (fun {a b} h9 => Int.ne_of_lt h9)
      -- new labels
      have hF : ((lkB now (lookA now kp o es) (labR o)).map (·.1)).filter (fun c => decide (c ∈ (lookA now kp o es).map (·.1))) ⊆ (lookA now kp o es).map (·.1) := fun c hc => of_decide_eq_true (List.mem_filter.mp hc).2
      have h1 := List.Nodup.length_le_of_subset (List.Pairwise.filter (fun c => decide (c ∈ (lookA now kp o es).map (·.1))) hB) hF
      have hG : es.map (·.1) ++ ((lkB now (lookA now kp o es) (labR o)).map (·.1)).filter (fun c => !decide (c ∈ (lookA now kp o es).map (·.1))) ⊆ L := fun c hc => by
        rcases List.mem_append.mp hc with h9 | h9
        · obtain ⟨e, he, rfl⟩ := List.mem_map.mp h9
          exact hl e he
        · obtain ⟨e, he, rfl⟩ := List.mem_map.mp (List.mem_filter.mp h9).1
          exact (b2 e he).2
      have hD : (es.map (·.1) ++ ((lkB now (lookA now kp o es) (labR o)).map (·.1)).filter (fun c => !decide (c ∈ (lookA now kp o es).map (·.1)))).Nodup := by
        rw [List.nodup_append]
        refine ⟨hA, List.Pairwise.filter _ hB, fun c hc c2 hc2 h9 => ?_⟩
        obtain ⟨e, he, rfl⟩ := List.mem_map.mp hc
        obtain ⟨e2, he2, e3⟩ := List.mem_map.mp (List.mem_filter.mp hc2).1
        have h3 := (List.mem_filter.mp hc2).2
        have h4 : c2 ∉ (lookA now kp o es).map (·.1) := fun h8 => by
          rw [decide_eq_true h8] at h3
          cases h3
        rcases hn e2 he2 with h8 | ⟨-, h8⟩ | ⟨e4, h8, h7⟩
        · exact h4 (List.mem_map.mpr ⟨e2, h8, e3⟩)
        · exact h8 e he (h9.trans e3.symm)
        · exact h4 (List.mem_map.mpr ⟨e4, h8, h7.trans e3⟩)
      have h2 := List.Nodup.length_le_of_subset hD hG
      rw [List.length_append, List.length_map] at h2
      have h3 := List.length_eq_countP_add_countP (l := (lkB now (lookA now kp o es) (labR o)).map (·.1)) (fun c => decide (c ∈ (lookA now kp o es).map (·.1)))
      rw [List.length_map] at h3
      rw [← List.countP_eq_length_filter] at h1 h2
      rw [List.length_map] at h1
      have h4 : ((lkB now (lookA now kp o es) (labR o)).map (·.1)).countP (fun c => decide ¬(decide (c ∈ (lookA now kp o es).map (·.1)) = true)) = ((lkB now (lookA now kp o es) (labR o)).map (·.1)).countP (fun c => !decide (c ∈ (lookA now kp o es).map (·.1))) := by
        refine List.countP_congr fun c _ => ?_
        simp
      omega
    · rw [List.length_map, hN]; omega
  · rw [lookS_eq0 (by simpa using ha)]
    obtain ⟨a1, a2⟩ := fA (fun c => anyR o && (labR o).any (fun y => decide (y.1 = c)))
    obtain ⟨c1, c2, c3⟩ := fC _ a1 a2
    have hlen := asc_short (L := L) a1 (fun e he => (a2 e he).2)
    have hlen2 := asc_short (L := L) hasc hl
    have hN : lookN now kp o es = 0 := by unfold lookN; rw [if_neg ha]
    refine ⟨c1, c2, c3, ?_, by omega, by omega⟩
    rw [hN, Nat.zero_add]
    exact hlen
def fC2 (C : Int) : Nat := if C = 0 then 2 else if C = 10 then 1 else 0
def fS2 (C : Int) : Nat := if C = 0 then 25 else if C = 10 then 15 else 0
theorem gF_le : ∀ (k : Nat) {C n : Int}, capF C → n + k ≤ 12 → grC k C n ≤ fC2 C ∧ grS k C n ≤ fS2 C ∧ capF (capN k C n)
  | 0, _, _, h, _ => ⟨Nat.zero_le _, Nat.zero_le _, h⟩
  | k + 1, C, n, h, hn => by
    have hstep : (if n = C then (1 : Nat) else 0) + fC2 (if n = C then ncap C else C) ≤ fC2 C ∧ (if n = C then (ncap C).toNat else 0) + fS2 (if n = C then ncap C else C) ≤ fS2 C ∧ capF (if n = C then ncap C else C) := by
      by_cases e : n = C
      · rw [if_pos e, if_pos e, if_pos e]
        unfold capF at h
        rcases h with rfl | rfl | rfl
        · exact ⟨by decide, by decide, Or.inr (Or.inl rfl)⟩
        · exact ⟨by decide, by decide, Or.inr (Or.inr rfl)⟩
        · omega
      · rw [if_neg e, if_neg e, if_neg e]
        exact ⟨by omega, by omega, h⟩
    obtain ⟨i1, i2, i3⟩ := gF_le k (C := if n = C then ncap C else C) (n := n + 1) hstep.2.2 (by omega)
    refine ⟨?_, ?_, i3⟩
    · show (if n = C then 1 else 0) + grC k (if n = C then ncap C else C) (n + 1) ≤ _
      omega
    · show (if n = C then (ncap C).toNat else 0) + grS k (if n = C then ncap C else C) (n + 1) ≤ _
      omega
theorem fC2_le (C : Int) : fC2 C ≤ 2 ∧ fS2 C ≤ 25 := by
  unfold fC2 fS2
  split
  · exact ⟨Nat.le_refl _, Nat.le_refl _⟩
  · split <;> exact ⟨by decide, by decide⟩
/-- where the rule lies -/
def RuAt (G : Gt) (x ru fl : Int) (n : Nat) : Prop := ru = (lst G (gfd G 11 6 x)).getD n 0 ∧ fl = gfd G 4 4 ru
theorem RuAt.fr {n : Nat} {W : Nat → Nat → Int → Prop} {L A : Int → Prop} (h : RuAt G x ru fl n) (k : FR G G' W L A) (hx : gcl G x = 12) (w6 : ¬ W 11 6 x) (hl : gcl G (gfd G 11 6 x) = 14 ∧ gfd G 13 1 (gfd G 11 6 x) ≠ -1) (hn : ¬ L (gfd G 11 6 x)) (h5 : gcl G ru = 5) (w4 : ¬ W 4 4 ru) : RuAt G' x ru fl n := by
  have e6 : gfd G' 11 6 x = gfd G 11 6 x := k.2.1 11 6 x (by decide) (by omega) w6
  have e4 : gfd G' 4 4 ru = gfd G 4 4 ru := k.2.1 4 4 ru (by decide) (by omega) w4
  exact ⟨by rw [e6, ((k.2.2.1 _ hl.1 hl.2).2 hn).1]; exact h.1, by rw [e4]; exact h.2⟩
def ruD (d : DS) (n : Nat) : Rl := (dRl d).getD n r0
def esD (d : DS) (n : Nat) : List En := (ruD d n).2.2
theorem CH.ruAt {n : Nat} (h : CH E G x d) (hi : DI d) (hn : n < (dRl d).length) (hA : RuAt G x ru fl n) : RuH G ru (ruD d n) ∧ ruOk (ruD d n) ∧ FnH G fl (esD d n) ∧ capF (capOf G fl) ∧ gfd G 11 6 x ≠ fl := by
  have hR := (h.rul hi).1
  have hq : RuH G ru (ruD d n) := by rw [hA.1]; exact hR.2.2.2.2.1 n hn
  have hm : ruD d n ∈ dRl d := by
    unfold ruD
    rw [List.getD_eq_getElem?_getD, List.getElem?_eq_getElem hn]
    exact List.getElem_mem hn
  have hn1 : gfd G 4 4 ru ≠ -1 := h.2.2.1.nn (by rw [hq.2.2.2.1.1]; decide) (by rw [hq.2.2.2.1.1]; decide)
  exact ⟨hq, hi.2.2.2.2.2.2.2.1.2 _ hm, by rw [hA.2]; exact hq.2.2.2.1, by rw [hA.2]; exact hq.2.2.2.2, fun h9 => (h.ruleL (Or.inr (Or.inr rfl)) ru hq.1).2 hn1 (by rw [h9, hA.2])⟩
def lookE (d : DS) (n : Nat) (o : Option Rw) : List En := lookS (dN d 0) (ruD d n).1.2.1 (ruD d n).1.2.2.1 o (esD d n)
def lkK (d : DS) (n : Nat) (o : Option Rw) : Nat := lookN (dN d 0) (ruD d n).1.2.2.1 o (esD d n)
theorem LB.at (h : LB d) {n : Nat} (hn : n < (dRl d).length) : ∀ e ∈ esD d n, e.1 ∈ lbS (ruD d n).2.1 (dSer d) := by
  refine h _ ?_
  unfold ruD
  rw [List.getD_eq_getElem?_getD, List.getElem?_eq_getElem hn]
  exact List.getElem_mem hn
theorem ok_lookD {n : Nat} (h : CH E G x d) (hi : DI d) (hb : LB d) (hn : n < (dRl d).length) (hA : RuAt G x ru fl n) (hr : ResH G x r o) (ho : ∀ y ∈ labR o, y.1 ∈ lbS (ruD d n).2.1 (dSer d)) :
    ∃ mc ms, mc ≤ lkK d n o + 2 ∧ ms ≤ 5 * lkK d n o + 25 ∧ Ok E M_X4_look [rv ru, rv r, iv (dN d 0)] G mc ms (fun _ G' => CF E G G' x (entD d n (lookE d n o)) ∧ RuAt G' x ru fl n) (fun _ _ => False) := by
  obtain ⟨hq, hk, hF, hC, h6⟩ := h.ruAt hi hn hA
  have hx := h.1
  have hL := (h.rul hi).1
  have h12 := hi.1.2.1
  obtain ⟨s1, s2, s3, s4, s5, -⟩ := lookS_ok (wt9 := (ruD d n).1.2.1) (kp := (ruD d n).1.2.2.1) (o := o) (L := lbS (ruD d n).2.1 (dSer d)) hi.2.2.1 hk.2.2.1 hk.2.2.2.1 (hb.at hn) ho
  have hlb := lbS_len (ws := (ruD d n).2.1) h12
  have hlA : lkK d n o + (lookA (dN d 0) (ruD d n).1.2.2.1 o (esD d n)).length ≤ 12 := Nat.le_trans s4 hlb
  obtain ⟨g1, g2, g3⟩ := gF_le (lkK d n o) (C := capOf G fl) (n := ((lookA (dN d 0) (ruD d n).1.2.2.1 o (esD d n)).length : Nat)) hC (by omega)
  obtain ⟨f1, f2⟩ := fC2_le (capOf G fl)
  refine ⟨lkK d n o + grC (lkK d n o) (capOf G fl) (lookA (dN d 0) (ruD d n).1.2.2.1 o (esD d n)).length, 5 * lkK d n o + grS (lkK d n o) (capOf G fl) (lookA (dN d 0) (ruD d n).1.2.2.1 o (esD d n)).length, by omega, by omega, ?_⟩
  refine (Ok.mono ?_ (fun _ G1 (h9 : LkS E G G1 ru fl (lookE d n o) ∧ capOf G1 fl = capN (lkK d n o) (capOf G fl) ((lookA (dN d 0) (ruD d n).1.2.2.1 o (esD d n)).length : Nat)) => ?_) (fun _ _ h9 => h9))
  · exact ok_look h.2.1 h.2.2.1 hq.1 hA.2.symm hF hi.2.2.1 hq.2.1.2.1 hq.2.1.2.2.1 hk.1.2.2.1.1 (by
      rcases hr with h9 | ⟨a1, a2, a3⟩
      · exact Or.inl h9
      · exact Or.inr ⟨a1, a3⟩) hk.2.2.1 hk.2.2.2.1 (by have := hk.2.2.2.2; show (ruD d n).2.2.length ≤ 400; omega)
  · obtain ⟨⟨k1, k2, k3, k4, k5, k6, k7⟩, k8⟩ := h9
    refine ⟨h.ent hi hn hA.1 hA.2 k1 (k2.owg h.2.2.1) k3 k6 (by rw [k8]; exact g3) k7, hA.fr k3 hx (fun h9 => absurd h9.1 (by decide)) ⟨hL.1, hL.2.1⟩ h6 hq.1 (fun h9 => absurd h9.1 (by decide))⟩
theorem DI.look {n : Nat} (hi : DI d) (hb : LB d) (hn : n < (dRl d).length) (ho : ∀ y ∈ labR o, y.1 ∈ lbS (ruD d n).2.1 (dSer d)) : DI (entD d n (lookE d n o)) ∧ LB (entD d n (lookE d n o)) ∧ lkK d n o + (esD d n).length ≤ 12 ∧ lkK d n o ≤ (lookE d n o).length := by
  have hm : ruD d n ∈ dRl d := by
    unfold ruD
    rw [List.getD_eq_getElem?_getD, List.getElem?_eq_getElem hn]
    exact List.getElem_mem hn
  have hk := hi.2.2.2.2.2.2.2.1.2 _ hm
  obtain ⟨s1, s2, s3, s4, s5, s6⟩ := lookS_ok (wt9 := (ruD d n).1.2.1) (kp := (ruD d n).1.2.2.1) (o := o) (L := lbS (ruD d n).2.1 (dSer d)) hi.2.2.1 hk.2.2.1 hk.2.2.2.1 (hb.at hn) ho
  have hlb := lbS_len (ws := (ruD d n).2.1) hi.1.2.1
  refine ⟨hi.ent hn s1 s2 (Nat.le_trans (asc_short s2 s3) hlb), fun q hq => ?_, Nat.le_trans s5 hlb, s6⟩
  rcases List.mem_or_eq_of_mem_set hq with h9 | h9
  · exact hb q h9
  · rw [h9]; exact s3
end Sa03
