/-! an alert of the model looks: the contract -/
section Sa64
variable {E : EE} {G G' G2 G0 : Gt} {c s : Nat} {Q X : Int → Gt → Prop} {m l ml mr now kp wt9 : Int} {k r n j : Nat} {d D : DS} {es A B : List En} {x : En} {rl : List Rl} {R : List (Int × Int)} {o : Option Rw}
/-- the labels that an alert looks at -/
def lab9 (o : Option Rw) : List (Int × Int) := if anyR o = true then labR o else []
def lkD (now kp : Int) (o : Option Rw) (es : List En) : List En := lkB now (es.filterMap (lkF now kp (lab9 o))) (lab9 o)
theorem lookS_9 : lookS now wt9 kp o es = (lkD now kp o es).map (fireE now wt9) := by
  unfold lkD lab9
  cases h : anyR o with
  | true =>
    rw [lookS_eq h, if_pos rfl]
    unfold lookA lkF
    simp only [h, Bool.true_and]
  | false =>
    rw [lookS_eq0 h, if_neg (by decide)]
    unfold lookA lkF
    simp only [h, Bool.false_and, List.any_nil]
    rfl
theorem lkF_ok {e e' : En} (hnow : 0 ≤ now ∧ now ≤ 100000) (h : lkF now kp R e = some e') (he : enOk e ∧ eI e) : enOk e' ∧ eI e' := by
  refine ⟨lkA1_ok hnow h he.1, ?_⟩
  have h9 := h
  unfold lkF lkA1 at h9
  split at h9
  · rw [← Option.some.inj h9]; exact he.2
  · split at h9
    · cases h9
    · rw [← Option.some.inj h9]; exact he.2
theorem lkD_ok (hnow : 0 ≤ now ∧ now ≤ 100000) (h : ∀ e ∈ es, enOk e ∧ eI e) (ho : ∀ y ∈ labR o, 0 ≤ y.1 ∧ y.1 ≤ 999) : ∀ e ∈ lkD now kp o es, enOk e ∧ eI e := fun e he => by
  unfold lkD at he
  rcases lkB_mem _ he with h9 | ⟨y, hy, rfl⟩
  · obtain ⟨e1, h1, h2⟩ := List.mem_filterMap.mp h9
    exact lkF_ok hnow h2 (h e1 h1)
  · have hy' : y ∈ labR o := by
      unfold lab9 at hy
      split at hy
      · exact hy
      · exact (List.not_mem_nil hy).elim
    exact ⟨⟨hnow, hnow, Or.inl rfl, Or.inl rfl⟩, fun _ => rfl, ho y hy'⟩
theorem fire_eI {e : En} (h : eI e) : eI (fireE now wt9 e) := by
  unfold fireE
  split
  · exact ⟨fun h9 => absurd h9 (by show ¬ ((1 : Int) = 0); decide), h.2⟩
  · exact h
theorem looks_n {h34 h29 h32 h30 : Int} (h : (h34 = 0 ∧ ∃ p : Rw, o = some p ∧ h29 = p.1 ∧ h30 = p.2.length ∧ (p.2.length ≠ 0 → h32 = (p.2.getD 0 (0, 0)).2) ∧ RV p.1 p.2) ∨ (h34 ≠ 0 ∧ o = none)) :
    (if (if h34 = 0 then ((if h29 = 0 then (0 : Int) else (if 0 < h32 then (0 : Int) else 1)) : Int) else 1) = 0 then (h30 : Int) else 0) = (lab9 o).length := by
  rcases h with ⟨a1, p, a2, a3, a4, a5, a6⟩ | ⟨a1, a2⟩
  · rw [if_pos a1]
    have hl : labR o = p.2 := by rw [a2]; rfl
    have hA : anyR o = (decide (p.1 = 0) || decide (0 < (p.2.getD 0 (0, 0)).2)) := by rw [a2]; rfl
    unfold lab9
    rw [hA, hl]
    by_cases h0 : p.1 = 0
    · rw [a3, if_pos h0, if_pos rfl, decide_eq_true h0, Bool.true_or, if_pos rfl, a4]
    · rw [a3, if_neg h0, decide_eq_false h0, Bool.false_or]
      have h1 : p.2.length ≠ 0 := by
        rcases a6.2.2.2 with h9 | ⟨h9, v, h8⟩
        · exact (h0 h9).elim
        · rw [h8]; exact Nat.one_ne_zero
      rw [a5 h1]
      by_cases h2 : 0 < (p.2.getD 0 (0, 0)).2
      · rw [if_pos h2, if_pos rfl, decide_eq_true h2, if_pos rfl, a4]
      · rw [if_neg h2, if_neg (by decide), decide_eq_false h2, if_neg (by decide)]
        rfl
  · rw [if_neg a1, if_neg (by decide), a2]
    rfl
theorem om_looks (h : MH E G m d ml mr) (hi : DI d) (hb : LB d) (hI : RI d) (hr : r < (dRl d).length) (hal : (ruD d r).1.1 = -1) (ho : ∀ y ∈ labR o, y.1 ∈ lbS (ruD d r).2.1 (dSer d)) (h3 : dN d 3 + 12 < 100000000)
    (hres : (gfd G 12 34 m = 0 ∧ ∃ p : Rw, o = some p ∧ Ft G m p.1 p.2 ∧ RV p.1 p.2) ∨ (gfd G 12 34 m ≠ 0 ∧ o = none)) :
    Ok E M_X12_looks [rv m, iv (r : Int)] G c s (fun _ G' => MH E G' m (tellD r (entD d r (lookE d r o))) ml mr ∧ MU E G G' m (fun k => 38 ≤ k ∧ k ≤ 47)) (fun _ _ => False) := by
  have h8 := h.rl.2
  have hg := h.k13
  have hs := h.1.1
  have hes := h.esd hr
  have hmr : ruD d r ∈ dRl d := getD_mem' hr
  have hk := hi.2.2.2.2.2.2.2.1.2 _ hmr
  have hnow := hi.2.2.1
  have x29 := hs.fx 29 17 10
  have x30 := hs.fx 30 15 10
  have x32 := hs.fx 32 16 120
  have x38 := hs.fx 38 15 8
  have hrl := h.2.2.2.2.2.2.2.2.1.2.2.1 r hr
  rw [rz_at hr] at hrl
  obtain ⟨w26, w27⟩ := hrl.2.2.1 hal
  have w26' : gel G (gfd G 12 26 m) (r : Int) = (ruD d r).1.2.1 := w26
  have w27' : gel G (gfd G 12 27 m) (r : Int) = (ruD d r).1.2.2.1 := w27
  have w1 : gfd G 12 1 m = dN d 0 := h.2.1.1
  have hlb : LbM G m (lab9 o) := by
    unfold lab9
    by_cases ha : anyR o = true
    · rw [if_pos ha]
      rcases hres with ⟨a1, p, a2, a3, a4⟩ | ⟨a1, a2⟩
      · have hl : labR o = p.2 := by rw [a2]; rfl
        rw [hl]
        refine ⟨a4.1, fun k hk9 => ?_⟩
        rw [a3.1, (a3.2.2 k hk9).1]
        exact a4.lab hk9
      · rw [a2] at ha; cases ha
    · rw [if_neg ha]
      exact ⟨Nat.zero_le _, fun k hk9 => absurd hk9 (Nat.not_lt_zero k)⟩
  have hn := looks_n (o := o) (h34 := gfd G 12 34 m) (h29 := gel G (gfd G 12 29 m) 0) (h32 := gel G (gfd G 12 32 m) 0) (h30 := gel G (gfd G 12 30 m) 0) (by
    rcases hres with ⟨a1, p, a2, a3, a4⟩ | h9
    · refine Or.inl ⟨a1, p, a2, a3.1, a3.2.1, fun h9 => ?_, a4⟩
      exact (a3.2.2 0 (by omega)).2
    · exact Or.inr h9)
  have hrng : ∀ y ∈ labR o, 0 ≤ y.1 ∧ y.1 ≤ 999 := fun y hy => by
    rcases hres with ⟨a1, p, a2, a3, a4⟩ | ⟨a1, a2⟩
    · rw [a2] at hy
      have := (a4.2.2.1 y hy).1
      exact ⟨this.1, by have := this.2.1; omega⟩
    · rw [a2] at hy; exact (List.not_mem_nil hy).elim
  have hE : ∀ e ∈ esD d r, enOk e ∧ eI e := fun e he => ⟨hk.2.2.1 e he, hI.at hr e he⟩
  have hDok := lkD_ok (kp := (ruD d r).1.2.2.1) hnow hE hrng
  obtain ⟨q1, q2, q3, q4⟩ := hi.look hb hr ho
  have hL9 : lookE d r o = (lkD (dN d 0) (ruD d r).1.2.2.1 o (esD d r)).map (fireE (dN d 0) (ruD d r).1.2.1) := lookS_9
  obtain ⟨f1, f2, f3, f4, f5, f6⟩ := ent_facts (es := lookE d r o) hr
  have hm2 : ruD (entD d r (lookE d r o)) r ∈ dRl (entD d r (lookE d r o)) := getD_mem' (by rw [f1]; exact hr)
  have hl12 : (esD (entD d r (lookE d r o)) r).length ≤ 12 := (q1.2.2.2.2.2.2.2.1.2 _ hm2).2.2.2.2
  have hl12' := hl12
  rw [f2, hL9, List.length_map] at hl12'
  have fin : ∀ G', EsS E G G' m r ((lkD (dN d 0) (ruD d r).1.2.2.1 o (esD d r)).map (fireE (dN d 0) (ruD d r).1.2.1)) → V E M_X12_looks 558 [some (rv m), some (iv (r : Int)), none, none, some (iv 0), none, none, none, none] [] G' c s (fun _ G' => MH E G' m (tellD r (entD d r (lookE d r o))) ml mr ∧ MU E G G' m (fun k => 38 ≤ k ∧ k ≤ 47)) (fun _ _ => False) := fun G' hS => by
    rw [← hL9] at hS
    have kt := hS.1.1.2.2.2.2.2
    have m24 : ∀ i : Nat, i < 8 → MEs G m i ((dRl d).getD i rz).2.2 := h.2.2.2.2.2.2.2.2.2.1
    have p1 : MRl G' m (setE (dRl d) r (lookE d r o)) := (h.2.2.2.2.2.2.2.2.1.mt kt ⟨by omega, by omega, by omega, by omega, by omega, by omega, by omega, by omega⟩).sE hr
    have p2 : MEn G' m (setE (dRl d) r (lookE d r o)) := MEn.sE hr (fun i hi8 hne => (m24 i hi8).es0 hS.1 hne) hS.mes
    have hm' : MH E G' m (entD d r (lookE d r o)) ml mr := ⟨⟨hS.1.1.1, hS.1.1.2.1, hS.1.1.2.2.1.1⟩, h.2.1.mt kt ⟨by omega, by omega, by omega, by omega, by omega⟩, h.2.2.1.mt kt ⟨by omega, by omega, by omega, by omega⟩, h.2.2.2.1.mt kt ⟨by omega, by omega, by omega, by omega, by omega, by omega⟩, h.2.2.2.2.1.mt kt ⟨by omega, by omega⟩, h.2.2.2.2.2.1.mt kt ⟨by omega, by omega, by omega, by omega⟩, h.2.2.2.2.2.2.1.mt kt (by omega), h.2.2.2.2.2.2.2.1.mt kt ⟨by omega, by omega⟩, p1, p2, h.2.2.2.2.2.2.2.2.2.2.1.mt kt ⟨by omega, by omega, by omega⟩, h.2.2.2.2.2.2.2.2.2.2.2.1.mt kt ⟨by omega, by omega⟩, h.2.2.2.2.2.2.2.2.2.2.2.2.mt kt (by omega)⟩
    have hI' : RI (entD d r (lookE d r o)) := hI.ent hr (fun e he => by
      rw [hL9] at he
      obtain ⟨e1, h9, rfl⟩ := List.mem_map.mp he
      exact fire_eI (hDok e1 h9).2)
    exact v_lk558 (D := tellD r (entD d r (lookE d r o))) (fun G2 a b => ⟨a, b⟩) (esD (entD d r (lookE d r o)) r).length 0 G' _ (Nat.zero_add _) hm' (hS.1.1.mono fun k h9 => by omega) q1 q2 hI' (by rw [f1]; exact hr) (by rw [f3]; omega) rfl
  refine i_X12_looks ⟨hg, fun _ => hg, fun _ => x29.1, fun _ => by omega, fun _ _ => hg, fun _ _ => x32.1, fun _ _ => by omega, fun _ => hg, fun _ => x30.1, fun _ => by omega, hg, x38.1, by omega, by omega, by rw [hes.1]; exact i32s' (by have := hes.2.1; omega), ?_⟩
  rw [hn, hes.1]
  refine v_lk58 (es := esD d r) (R := lab9 o) (by omega) w1 w27' hlb hk.2.2.1 hnow (hes.2.1) (fun G1 hS1 => ?_) (esD d r).length G (Nat.le_refl _) ?_
  · refine v_lk268 (D := lkD (dN d 0) (ruD d r).1.2.2.1 o (esD d r)) (by omega) w1 hlb (by omega) (fun G2 hS2 => ?_) (lab9 o).length 0 G1 _ (Nat.zero_add _) hS1 (by rw [List.drop_zero]; rfl)
    exact v_lk479 (by omega) w1 w26' (fun e he => (hDok e he).1) (fun e he => (hDok e he).2.1) hnow fin (lkD (dN d 0) (ruD d r).1.2.2.1 o (esD d r)).length 0 G2 (Nat.zero_add _) (by rw [List.take_zero, List.drop_zero]; exact hS2)
  · rw [List.take_length, List.drop_length]
    show EsS E G G m r (esD d r ++ [])
    rw [List.append_nil]
    exact EsS.of hs h.1.2.1 h.1.2.2 hes
end Sa64
