/-! an alert of the model looks: entries that come, entries that fire -/
section Sa61
variable {E : EE} {G G' G2 G0 : Gt} {c s : Nat} {Q X : Int → Gt → Prop} {m p q v n3 l now kp k4 wt9 : Int} {k r : Nat} {es A B C D : List En} {x x9 : En} {R : List (Int × Int)}
theorem insG {i b : Nat} {y : En} (hp : b ≤ C.length) : (C.take b ++ y :: C.drop b).getD i e0 = if i < b then C.getD i e0 else if i = b then y else C.getD (i - 1) e0 := by
  rw [apG, List.length_take, Nat.min_eq_left hp]
  by_cases h1 : i < b
  · rw [if_pos h1, if_pos h1, List.getD_eq_getElem?_getD, List.getElem?_take, if_pos h1, ← List.getD_eq_getElem?_getD]
  · rw [if_neg h1, if_neg h1]
    by_cases h2 : i = b
    · rw [if_pos h2, if_pos h2]
    · rw [if_neg h2, if_neg h2, List.getD_eq_getElem?_getD, List.getElem?_drop, ← List.getD_eq_getElem?_getD, show b + (i - b - 1) = i - 1 by omega]
theorem v_lk371 (hr : r < 8) {b : Nat} (hp : b ≤ C.length) (hC : C.length < 24) (h1 : gfd G0 12 1 m = now) (hn3 : 0 ≤ n3 ∧ n3 ≤ 12) (hk4 : 0 ≤ k4 ∧ k4 ≤ 12)
    (hK : ∀ G', EsS E G0 G' m r (C.take b ++ newE now l :: C.drop b) → V E M_X12_looks 268 [some (rv m), some (iv (r : Int)), none, some (iv n3), some (iv (k4 + 1)), none, none, none, none] [] G' c s Q X) :
    ∀ (j e : Nat) (G : Gt), e = b + j → e ≤ C.length → EsU E G0 G m r → gel G (gfd G0 12 38 m) r = C.length → (∀ kk, 39 ≤ kk → kk ≤ 43 → ∀ i : Nat, i ≤ C.length → (e < i → gel G (gfd G0 12 kk m) (24 * (r : Int) + i) = cE (C.getD (i - 1) e0) kk) ∧ (i < e ∨ (i = e ∧ e < C.length) → gel G (gfd G0 12 kk m) (24 * (r : Int) + i) = cE (C.getD i e0) kk)) →
    V E M_X12_looks 371 [some (rv m), some (iv (r : Int)), none, some (iv n3), some (iv k4), some (iv l), some (iv (b : Int)), some (iv (e : Int)), none] [] G c s Q X := by
  intro j
  induction j with
  | zero =>
    intro e G he heC hU h38 hv
    have e38 : gel G (gfd G 12 38 m) (r : Int) = C.length := by rw [hU.2.1]; exact h38
    have x38 := hU.1.1.fx 38 15 8
    refine b_X12_looks_371 ⟨fun _ => ⟨hU.1.1.1, x38.1, by omega, by omega, by rw [e38]; exact i32s' (by omega), x38.1, by omega, by omega, fun G10 e10 => ?_⟩, fun h9 => by omega⟩
    rw [e38] at e10
    obtain ⟨a1, a2, a3⟩ := hU.s38 ((C.length : Int) + 1)
    rw [← e10] at a1 a2 a3
    have y39 := a1.1.1.fx 39 15 192
    have hpb : 24 * (r : Int) ≤ 24 * (r : Int) + b ∧ 24 * (r : Int) + b < 24 * (r : Int) + 24 := by omega
    refine ⟨i32s' (by omega), i32s' (by omega), a1.1.1.1, y39.1, by omega, by omega, fun G17 e17 => ?_⟩
    obtain ⟨b1, b2, b3⟩ := a1.sk (k := 39) (by decide) (by decide) hpb l
    rw [← e17] at b1 b2 b3
    have y40 := b1.1.1.fx 40 15 192
    refine ⟨b1.1.1.1, y40.1, by omega, by omega, fun G22 e22 => ?_⟩
    obtain ⟨c1, c2, c3⟩ := b1.sk (k := 40) (by decide) (by decide) hpb 0
    rw [← e22] at c1 c2 c3
    have y41 := c1.1.1.fx 41 15 192
    have n22 : gfd G22 12 1 m = now := by rw [c1.2.1]; exact h1
    refine ⟨c1.1.1.1, c1.1.1.1, y41.1, by omega, by omega, fun G28 e28 => ?_⟩
    rw [n22] at e28
    obtain ⟨d1, d2, d3⟩ := c1.sk (k := 41) (by decide) (by decide) hpb now
    rw [← e28] at d1 d2 d3
    have y42 := d1.1.1.fx 42 15 192
    have n28 : gfd G28 12 1 m = now := by rw [d1.2.1]; exact h1
    refine ⟨d1.1.1.1, d1.1.1.1, y42.1, by omega, by omega, fun G34 e34 => ?_⟩
    rw [n28] at e34
    obtain ⟨f1, f2, f3⟩ := d1.sk (k := 42) (by decide) (by decide) hpb now
    rw [← e34] at f1 f2 f3
    have y43 := f1.1.1.fx 43 17 192
    refine ⟨f1.1.1.1, y43.1, by omega, by omega, fun G39 e39 => ⟨i32s' (by omega), hK G39 ?_⟩⟩
    obtain ⟨g1, g2, g3⟩ := f1.sk (k := 43) (by decide) (by decide) hpb 0
    rw [← e39] at g1 g2 g3
    have hl : (C.take b ++ newE now l :: C.drop b).length = C.length + 1 := by rw [List.length_append, List.length_cons, List.length_take, List.length_drop]; omega
    refine ⟨g1, by rw [g2, f2, d2, c2, b2, a2, hl]; rfl, by omega, fun k h7 h8 i hi => ?_⟩
    rw [hl] at hi
    rw [insG hp, g3 k h7 h8, f3 k h7 h8, d3 k h7 h8, c3 k h7 h8, b3 k h7 h8, a3 k h7 h8]
    by_cases hib : i = b
    · rw [if_neg (show ¬ i < b by omega), if_pos hib, hib]
      have hk : k = 39 ∨ k = 40 ∨ k = 41 ∨ k = 42 ∨ k = 43 := by omega
      rcases hk with rfl | rfl | rfl | rfl | rfl <;> simp [cE, newE]
    · have hne : ¬ (24 * (r : Int) + i = 24 * (r : Int) + b) := by omega
      rw [if_neg (fun h9 => hne h9.2), if_neg (fun h9 => hne h9.2), if_neg (fun h9 => hne h9.2), if_neg (fun h9 => hne h9.2), if_neg (fun h9 => hne h9.2)]
      have h6 := hv k h7 h8 i (by omega)
      by_cases hlt : i < b
      · rw [if_pos hlt]
        exact h6.2 (Or.inl (by omega))
      · rw [if_neg hlt, if_neg hib]
        exact h6.1 (by omega)
  | succ j ih =>
    intro e G he heC hU h38 hv
    refine b_X12_looks_371 ⟨fun h9 => by omega, fun _ => ⟨i32s' (by omega), i32s' (by omega), i32s' (by omega), i32s' (by omega), i32s' (by omega), hU.1.1.1, Call.to (om_moves hU hr ⟨by omega, by omega⟩ ⟨by omega, by omega⟩ (by omega)) (Nat.zero_le _) (Nat.zero_le _) fun _ G48 hm => ⟨i32s' (by omega), ?_⟩⟩⟩
    rw [show (e : Int) + (-1) = ((e - 1 : Nat) : Int) by omega]
    refine ih (e - 1) G48 (by omega) (by omega) hm.1 (by rw [hm.2.1]; exact h38) (fun kk h7 h8 i hi => ⟨fun h9 => ?_, fun h9 => ?_⟩)
    · rw [hm.2.2 kk h7 h8]
      by_cases hie : i = e
      · rw [if_pos (by omega), hie, show 24 * (r : Int) + e - 1 = 24 * (r : Int) + ((e - 1 : Nat) : Int) by omega]
        exact (hv kk h7 h8 (e - 1) (by omega)).2 (Or.inl (by omega))
      · rw [if_neg (by omega)]
        exact (hv kk h7 h8 i hi).1 (by omega)
    · rw [hm.2.2 kk h7 h8, if_neg (by omega)]
      exact (hv kk h7 h8 i hi).2 (Or.inl (by omega))
theorem v_lk301 (hr : r < 8) (hS : EsS E G0 G m r C) (hC : C.length < 24) (h1 : gfd G0 12 1 m = now) (hn3 : 0 ≤ n3 ∧ n3 ≤ 12) (hk4 : 0 ≤ k4 ∧ k4 < 12)
    (hK : ∀ G', EsS E G0 G' m r (insE now l C) → V E M_X12_looks 268 [some (rv m), some (iv (r : Int)), none, some (iv n3), some (iv (k4 + 1)), none, none, none, none] [] G' c s Q X) :
    ∀ (j b : Nat), b + j = C.length → (∀ i, i < b → (C.getD i e0).1 < l) → V E M_X12_looks 301 [some (rv m), some (iv (r : Int)), none, some (iv n3), some (iv k4), some (iv l), some (iv (b : Int)), none, none] [] G c s Q X := by
  have hg := hS.1.1.1.1
  have x38 := hS.1.1.1.fx 38 15 8
  have x39 := hS.1.1.1.fx 39 15 192
  have e38 : gel G (gfd G 12 38 m) (r : Int) = C.length := by rw [hS.1.2.1]; exact hS.2.1
  have go : ∀ b : Nat, b ≤ C.length → C.take b ++ newE now l :: C.drop b = insE now l C → V E M_X12_looks 371 [some (rv m), some (iv (r : Int)), none, some (iv n3), some (iv k4), some (iv l), some (iv (b : Int)), some (iv (C.length : Int)), none] [] G c s Q X := fun b hb he =>
    v_lk371 hr hb hC h1 hn3 (by omega) (by rw [he]; exact hK) (C.length - b) C.length G (by omega) (Nat.le_refl _) hS.1 hS.2.1 (fun kk h7 h8 i hi => ⟨fun h9 => by omega, fun h9 => hS.2.2.2 kk h7 h8 i (by omega)⟩)
  intro j
  induction j with
  | zero =>
    intro b hb hlt
    have e : b = C.length := hb
    have he := insE_at (now := now) (l := l) (es := C) (p := b) (by omega) hlt (fun h9 => by omega)
    rw [if_neg (fun h9 => by omega)] at he
    refine b_X12_looks_301 ?_
    rw [e38]
    refine ⟨hg, x38.1, by omega, by omega, fun J5 hJ => ⟨fun _ => hJ ⟨hg, x38.1, by omega, by omega, fun _ => ⟨hg, x38.1, by omega, by omega, go b (by omega) he.symm⟩, fun h9 => by omega⟩, fun h9 => by omega⟩⟩
  | succ j ih =>
    intro b hb hlt
    have hbl : b < C.length := by omega
    have e39 : gel G (gfd G 12 39 m) (24 * (r : Int) + b) = (C.getD b e0).1 := by rw [hS.1.2.1]; exact hS.2.2.2 39 (by decide) (by decide) b hbl
    refine b_X12_looks_301 ?_
    rw [e38, e39]
    refine ⟨hg, x38.1, by omega, by omega, fun J5 hJ => ⟨fun h9 => by omega, fun _ => ⟨hg, i32s' (by omega), i32s' (by omega), x39.1, by omega, by omega, fun h9 => hJ ?_, fun h9 => ⟨i32s' (by omega), ih (b + 1) (by omega) (fun i hi => ?_)⟩⟩⟩⟩
    · have he := insE_at (now := now) (l := l) (es := C) (p := b) (by omega) hlt (fun _ => h9)
      refine ⟨hg, x38.1, by omega, by omega, fun h8 => by omega, fun _ => ⟨hg, i32s' (by omega), i32s' (by omega), x39.1, by omega, by omega, fun h8 => ⟨i32s' (by omega), ?_⟩, fun h8 => ⟨hg, x38.1, by omega, by omega, ?_⟩⟩⟩
      · rw [if_pos ⟨hbl, h8⟩] at he
        exact hK G (by rw [he]; exact hS)
      · rw [if_neg (fun h7 => h8 h7.2)] at he
        exact go b (by omega) he.symm
    · by_cases hib : i = b
      · rw [hib]; exact h9
      · exact hlt i (by omega)
theorem v_lk268 (hr : r < 8) (h1 : gfd G0 12 1 m = now) (hb : LbM G0 m R) (hD : D.length ≤ 23)
    (hK : ∀ G', EsS E G0 G' m r D → V E M_X12_looks 479 [some (rv m), some (iv (r : Int)), none, none, some (iv 0), none, none, none, none] [] G' c s Q X) :
    ∀ (j k : Nat) (G : Gt) (C : List En), k + j = R.length → EsS E G0 G m r C → lkB now C (R.drop k) = D → V E M_X12_looks 268 [some (rv m), some (iv (r : Int)), none, some (iv (R.length : Int)), some (iv (k : Int)), none, none, none, none] [] G c s Q X := by
  have h12 := hb.1
  intro j
  induction j with
  | zero =>
    intro k G C hk hS hD9
    rw [List.drop_eq_nil_of_le (by omega)] at hD9
    have e : C = D := hD9
    exact b_X12_looks_268 ⟨fun _ => hK G (by rw [← e]; exact hS), fun h9 => by omega⟩
  | succ j ih =>
    intro k G C hk hS hD9
    have hlt : k < R.length := by omega
    have hg := hS.1.1.1.1
    have x29 := hS.1.1.1.fx 29 17 10
    have x31 := hS.1.1.1.fx 31 15 120
    have hbG := (hb.mu hS.1.1.2.2.2.2.2 ⟨by omega, by omega⟩).2 k hlt
    have hlen := lkB_len (now := now) (R.drop k) C
    rw [hD9] at hlen
    rw [dropG (0, 0) hlt] at hD9
    have hD8 : lkB now (insE now (R.getD k (0, 0)).1 C) (R.drop (k + 1)) = D := hD9
    refine b_X12_looks_268 ⟨fun h9 => by omega, fun _ => ⟨hg, x29.1, by omega, fun _ => hg, fun _ => x31.1, fun _ => by omega, fun _ => by omega, ?_⟩⟩
    rw [hbG]
    exact v_lk301 hr hS (by omega) h1 (by omega) (by omega) (fun G' hS' => ih (k + 1) G' _ (by omega) hS' hD8) C.length 0 (Nat.zero_add _) (fun i h9 => absurd h9 (Nat.not_lt_zero i))
/-- an entry that waits isn't told -/
def wtE (es : List En) : Prop := ∀ e ∈ es, e.2.1 = 0 → e.2.2.2.2 = 0
theorem v_lk479 (hr : r < 8) (h1 : gfd G0 12 1 m = now) (h26 : gel G0 (gfd G0 12 26 m) r = wt9) (hok : ∀ e ∈ es, enOk e) (hwt : wtE es) (hnow : 0 ≤ now ∧ now ≤ 100000)
    (hK : ∀ G', EsS E G0 G' m r (es.map (fireE now wt9)) → V E M_X12_looks 558 [some (rv m), some (iv (r : Int)), none, none, some (iv 0), none, none, none, none] [] G' c s Q X) :
    ∀ (j k : Nat) (G : Gt), k + j = es.length → EsS E G0 G m r ((es.take k).map (fireE now wt9) ++ es.drop k) → V E M_X12_looks 479 [some (rv m), some (iv (r : Int)), none, none, some (iv (k : Int)), none, none, none, none] [] G c s Q X := by
  intro j
  induction j with
  | zero =>
    intro k G hk hS
    have e : k = es.length := hk
    rw [e, List.take_length, List.drop_length, List.append_nil] at hS
    have e38 : gel G (gfd G 12 38 m) (r : Int) = es.length := by rw [hS.1.2.1, hS.2.1, List.length_map]
    have x38 := hS.1.1.1.fx 38 15 8
    refine b_X12_looks_479 ?_
    rw [e38]
    exact ⟨hS.1.1.1.1, x38.1, by omega, by omega, fun _ => hK G hS, fun h9 => by omega⟩
  | succ j ih =>
    intro k G hk hS
    have hlt : k < es.length := by omega
    have hA : ((es.take k).map (fireE now wt9)).length = k := by rw [List.length_map, List.length_take]; omega
    have hl : ((es.take k).map (fireE now wt9) ++ es.drop k).length = es.length := by rw [List.length_append, hA, List.length_drop]; omega
    have e38 : gel G (gfd G 12 38 m) (r : Int) = es.length := by rw [hS.1.2.1, hS.2.1, hl]
    have h24 := hS.2.2.1
    rw [hl] at h24
    have hm := getD_mem' (v := e0) hlt
    have hx := hok _ hm
    have hw := hwt _ hm
    have hnext : ∀ G', EsS E G0 G' m r ((es.take k).map (fireE now wt9) ++ fireE now wt9 (es.getD k e0) :: es.drop (k + 1)) → V E M_X12_looks 479 [some (rv m), some (iv (r : Int)), none, none, some (iv ((k : Int) + 1)), none, none, none, none] [] G' c s Q X := fun G' hS' => ih (k + 1) G' (by omega) (by
      rw [takeS (d := e0) hlt, List.map_append, List.append_assoc]
      exact hS')
    rw [dropG e0 hlt] at hS
    generalize es.getD k e0 = x at hS hx hw hnext
    generalize es.drop (k + 1) = T at hS hnext
    generalize (es.take k).map (fireE now wt9) = A at hS hnext hA
    have at9 : ∀ k', 39 ≤ k' → k' ≤ 43 → gel G (gfd G 12 k' m) (24 * (r : Int) + k) = cE x k' := fun k' h7 h8 => by
      have := hS.at h7 h8
      rw [hA] at this
      exact this
    have v40 : gel G (gfd G 12 40 m) (24 * (r : Int) + k) = x.2.1 := at9 40 (by decide) (by decide)
    have v41 : gel G (gfd G 12 41 m) (24 * (r : Int) + k) = x.2.2.1 := at9 41 (by decide) (by decide)
    have v1 : gfd G 12 1 m = now := by rw [hS.1.2.1]; exact h1
    have v26 : gel G (gfd G 12 26 m) r = wt9 := by rw [hS.1.1.2.2.2.2.2.e 26 (by omega)]; exact h26
    have hg := hS.1.1.1.1
    have x38 := hS.1.1.1.fx 38 15 8
    have x40 := hS.1.1.1.fx 40 15 192
    have x41 := hS.1.1.1.fx 41 15 192
    have x26 := hS.1.1.1.fx 26 15 8
    have hx1 := hx.1
    refine b_X12_looks_479 ?_
    rw [e38, v40, v41, v1, v26]
    refine ⟨hg, x38.1, by omega, by omega, fun h9 => by omega, fun _ => ⟨i32s' (by omega), i32s' (by omega), hg, x40.1, by omega, by omega, fun h9 => ⟨i32s' (by omega), hnext G ?_⟩, fun h9 => ⟨hg, hg, x41.1, by omega, by omega, i32s' (by omega), hg, x26.1, by omega, by omega, fun h8 => ⟨i32s' (by omega), hnext G ?_⟩, fun h8 => ⟨hg, x40.1, by omega, by omega, fun G30 e30 => ?_⟩⟩⟩⟩
    · have e : fireE now wt9 x = x := by unfold fireE; rw [if_neg (fun h7 => h9 h7.1)]
      rw [e]; exact hS
    · have e : fireE now wt9 x = x := by unfold fireE; rw [if_neg (fun h7 => by omega)]
      rw [e]; exact hS
    · have hS30 : EsS E G0 G30 m r (A ++ (x.1, 1, x.2.2.1, x.2.2.2.1, x.2.2.2.2) :: T) := by
        have := hS.put (k := 40) (v := 1) (x9 := (x.1, 1, x.2.2.1, x.2.2.2.1, x.2.2.2.2)) (by decide) (by decide) (k5 rfl rfl rfl rfl rfl)
        rw [hA] at this
        rw [e30]
        exact this
      have y41 := hS30.1.1.1.fx 41 15 192
      have w1 : gfd G30 12 1 m = now := by rw [hS30.1.2.1]; exact h1
      refine ⟨hS30.1.1.1.1, hS30.1.1.1.1, y41.1, by omega, by omega, fun G36 e36 => ⟨i32s' (by omega), hnext G36 ?_⟩⟩
      rw [w1] at e36
      have e : fireE now wt9 x = (x.1, 1, now, x.2.2.2.1, x.2.2.2.2) := by unfold fireE; rw [if_pos ⟨h9, h8⟩, hw h9]
      have := hS30.put (k := 41) (v := now) (x9 := (x.1, 1, now, x.2.2.2.1, x.2.2.2.2)) (by decide) (by decide) (k5 rfl rfl rfl rfl rfl)
      rw [hA] at this
      rw [e36, e]
      exact this
end Sa61
