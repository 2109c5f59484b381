/-! what holds of a state; what the class answers without a change -/
section S80
variable {E : EE} {G G' : Gt} {c s : Nat} {Q X : Int → Gt → Prop} {x i j k l u : Int} {d : DS}
def r0 : Rl := ((0, 0, 0, 0), [], [])
def s0 : Int × Int × Int := (0, 0, 0)
def ruOk (q : Rl) : Prop := ((q.1.1 = -1 ∨ (0 ≤ q.1.1 ∧ q.1.1 ≤ 5)) ∧ (0 ≤ q.1.2.1 ∧ q.1.2.1 ≤ 1000) ∧ (0 ≤ q.1.2.2.1 ∧ q.1.2.2.1 ≤ 1000) ∧ (-1 ≤ q.1.2.2.2 ∧ q.1.2.2.2 ≤ 7)) ∧ (q.2.1.length ≤ 10 ∧ ∀ w ∈ q.2.1, wOk w) ∧ (∀ e ∈ q.2.2, enOk e) ∧ ascE q.2.2 ∧ q.2.2.length ≤ 12
def setOk (t : Int × Int × Int) : Prop := (0 ≤ t.1 ∧ t.1 ≤ 127) ∧ (0 ≤ t.2.1 ∧ t.2.1 ≤ 127) ∧ (0 ≤ t.2.2 ∧ t.2.2 ≤ 127)
/-- what holds of a state, the counts apart -/
def DI (d : DS) : Prop :=
  SI (dSer d) ((dSmp d).map (·.1)) (dRec d) (dN d 2) ∧ (dN d 4 = 0 ∨ dN d 4 = 1) ∧ (0 ≤ dN d 0 ∧ dN d 0 ≤ 100000) ∧ (1 ≤ dN d 1 ∧ dN d 1 ≤ 100000) ∧ 0 ≤ dN d 2 ∧
  ((dSel d).length = 4 ∧ ∀ t ∈ dSel d, setOk t) ∧ ((dDr d).length ≤ 10 ∧ ∀ w ∈ dDr d, wOk w) ∧ ((dRl d).length ≤ 8 ∧ ∀ q ∈ dRl d, ruOk q) ∧
  ((dSil d).length ≤ 10 ∧ ∀ t ∈ dSil d, setOk t.1) ∧ (dNt d).length = min (dN d 3).toNat 60 ∧ (∃ n, RV n (dAns d)) ∧ (0 ≤ dN d 3 ∧ dN d 3 ≤ 100000000) ∧ (0 ≤ dN d 5 ∧ dN d 5 ≤ 1000000 ∧ (dRec d).length ≤ 1000000) ∧ ∀ c, c ∉ dSer d → dBk d c = []
theorem wInY {x l u : Int} (h : wIn x l u ≠ 0) : l ≤ x ∧ x ≤ u := by
  rcases wIn01 x l u with h9 | h9
  · exact absurd h9 h
  · exact wIn1.mp h9
theorem lget (hL : LW E G) (h14 : gcl G l = 14) (hr : gfd G 13 1 l ≠ -1) (h0 : 0 ≤ i) (h1 : i < (lst G l).length) : OkP E M_A_get [rv l, iv i] G (alAt G l i) ∧ alAt G l i = (lst G l).getD i.toNat 0 := by
  obtain ⟨n, rfl⟩ := Int.eq_ofNat_of_zero_le h0
  exact ⟨okp_get hL h14 hr (i := (n : Int)) h0 (by rw [hL.size h14 hr]; omega), alAt_get hL h14 hr (i := n) (by omega)⟩
theorem map_at {f : Int → Int} {L M : List Int} (h : L.map f = M) {i : Nat} (hi : i < L.length) : f (L.getD i 0) = M.getD i 0 := by
  rw [← h, List.getD_eq_getElem?_getD, List.getD_eq_getElem?_getD, List.getElem?_map, List.getElem?_eq_getElem hi]; rfl
theorem CH.num (h : CH E G x d) (hi : DI d) : gcl G (gfd G 11 0 x) = 9 ∧ NR G (gfd G 11 0 x) ∧ (numL G (gfd G 11 0 x)).length = (dSer d).length ∧ (∀ i, i < (dSer d).length → (numL G (gfd G 11 0 x)).getD i 0 ∈ numL G (gfd G 11 0 x) ∧ sLab G ((numL G (gfd G 11 0 x)).getD i 0) = (dSer d).getD i 0) ∧ gfd G 13 2 (gfd G 8 0 (gfd G 11 0 x)) = (dSer d).length ∧ (dSer d).length ≤ 12 := by
  obtain ⟨hx, hL, -, ⟨zs, hS⟩, -⟩ := h
  have hN := hS.nr hi.1
  have hl : (numL G (gfd G 11 0 x)).length = (dSer d).length := by
    have := congrArg List.length hS.2.2.2.1
    rw [List.length_map] at this
    exact this
  exact ⟨hS.1, hN, hl, fun i hi => ⟨getD_mem (by omega), map_at hS.2.2.2.1 (by omega)⟩, by rw [hN.size hL, hl], hi.1.2.1⟩
theorem ok_seriesOf (h : CH E G x d) (hi : DI d) (hp : 0 ≤ i ∧ i < (dSer d).length → Q ((numL G (gfd G 11 0 x)).getD i.toNat 0) G) (hn : ¬ (0 ≤ i ∧ i < (dSer d).length) → 1 ≤ c ∧ 6 ≤ s ∧ X 3 G) : Ok E M_X11_seriesOf [rv x, iv i] G c s Q X := by
  obtain ⟨h9, hN, hl, hm, hz, h12⟩ := h.num hi
  have hx := h.1
  have hL := h.2.1
  refine i_X11_seriesOf ⟨hx, h9, hN.2.1, okp_size hN.2.1, i32s (by omega), okp_isWithin, fun hw => ?_, fun hw => hn (by have := wIn0.mp hw; omega)⟩
  have hw' := wInY hw
  have g := lget (i := i) hL hN.2.1 hN.2.2.1 hw'.1 (by show i < ((numL G (gfd G 11 0 x)).length : Int); omega)
  have g2 : alAt G (gfd G 8 0 (gfd G 11 0 x)) i = (numL G (gfd G 11 0 x)).getD i.toNat 0 := g.2
  refine ⟨hx, h9, hN.2.1, g.1, Or.inr ?_, ?_⟩
  · rw [g2]
    exact (hN.2.2.2.2.1 _ (hm i.toNat (by omega)).1).1.1
  · rw [g2]
    exact hp (by omega)
theorem ok_selectorOf (h : CH E G x d) (hi : DI d) (hp : 0 ≤ i ∧ i < 4 → Q ((lst G (gfd G 11 5 x)).getD i.toNat 0) G) (hn : ¬ (0 ≤ i ∧ i < 4) → 1 ≤ c ∧ 6 ≤ s ∧ X 3 G) : Ok E M_X11_selectorOf [rv x, iv i] G c s Q X := by
  obtain ⟨hx, hL, -, -, -, -, -, -, -, hS, -⟩ := h
  have h4 := hi.2.2.2.2.2.1.1
  have hz : gfd G 13 2 (gfd G 11 5 x) = 4 := by rw [hL.size hS.1 hS.2.1, hS.2.2.1, h4]; rfl
  have hl := hS.2.2.1
  refine i_X11_selectorOf ⟨hx, hS.1, okp_size hS.1, i32s (by omega), okp_isWithin, fun hw => ?_, fun hw => hn (by have := wIn0.mp hw; omega)⟩
  have hw' := wInY hw
  have g := lget (i := i) hL hS.1 hS.2.1 hw'.1 (by omega)
  refine ⟨hx, hS.1, g.1, Or.inr ?_, ?_⟩
  · rw [g.2]
    exact (hS.2.2.2 i.toNat (by omega)).1
  · rw [g.2]
    exact hp (by omega)
/-- whether there is an alert of this number -/
abbrev isA (d : DS) (i : Int) : Prop := 0 ≤ i ∧ i < (dRl d).length ∧ ((dRl d).getD i.toNat r0).1.1 = -1
theorem CH.rul (h : CH E G x d) (hi : DI d) : RuL G (gfd G 11 6 x) (dRl d) ∧ gfd G 13 2 (gfd G 11 6 x) = (dRl d).length ∧ (dRl d).length ≤ 8 := by
  obtain ⟨hx, hL, -, -, -, -, -, -, -, -, hR, -⟩ := h
  exact ⟨hR, by rw [hL.size hR.1 hR.2.1, hR.2.2.1], hi.2.2.2.2.2.2.2.1.1⟩
theorem CH.rule (h : CH E G x d) (hi : DI d) (h0 : 0 ≤ i) (h1 : i < (dRl d).length) : OkP E M_A_get [rv (gfd G 11 6 x), iv i] G (alAt G (gfd G 11 6 x) i) ∧ alAt G (gfd G 11 6 x) i = (lst G (gfd G 11 6 x)).getD i.toNat 0 ∧ RuH G ((lst G (gfd G 11 6 x)).getD i.toNat 0) ((dRl d).getD i.toNat r0) := by
  obtain ⟨hR, hz, h8⟩ := h.rul hi
  have hl := hR.2.2.1
  have g := lget (i := i) h.2.1 hR.1 hR.2.1 h0 (by omega)
  exact ⟨g.1, g.2, hR.2.2.2.2.1 i.toNat (by omega)⟩
theorem okp_isAlert (h : CH E G x d) (hi : DI d) : OkP E M_X11_isAlert [rv x, iv i] G (if isA d i then 1 else 0) := by
  obtain ⟨hR, hz, h8⟩ := h.rul hi
  have hx := h.1
  have hY : wIn i 0 (gfd G 13 2 (gfd G 11 6 x) - 1) ≠ 0 → 0 ≤ i ∧ i < (dRl d).length := fun hw => by
    have := wInY hw
    omega
  have e : (if (wIn i 0 ((gfd G 13 2 (gfd G 11 6 x)) - 1)) = 0 then (0 : Int) else (if (if gfd G 4 1 (alAt G (gfd G 11 6 x) i) = -1 then (0 : Int) else 1) = 0 then (1 : Int) else 0)) = if isA d i then 1 else 0 := by
    by_cases hw : wIn i 0 (gfd G 13 2 (gfd G 11 6 x) - 1) = 0
    · rw [if_pos hw, if_neg]
      intro ⟨h1, h2, _⟩
      have := wIn0.mp hw
      omega
    · rw [if_neg hw]
      obtain ⟨h0, h1⟩ := hY hw
      obtain ⟨g1, g2, g3⟩ := h.rule hi h0 h1
      rw [g2, g3.2.1.1]
      by_cases h9 : ((dRl d).getD i.toNat r0).1.1 = -1
      · rw [if_pos h9, if_pos rfl, if_pos ⟨h0, h1, h9⟩]
      · rw [if_neg h9, if_neg (by decide), if_neg]
        intro ⟨_, _, h5⟩
        exact h9 h5
  refine i_X11_isAlert ⟨hx, hR.1, okp_size hR.1, i32s (by omega), okp_isWithin, fun _ => hx, fun _ => hR.1, fun hw => ?_, fun hw => Or.inr ?_, fun hw => ?_, fun hw => ?_, ?_, e, rfl⟩
  · exact (h.rule hi (hY hw).1 (hY hw).2).1
  · obtain ⟨g1, g2, g3⟩ := h.rule hi (hY hw).1 (hY hw).2
    rw [g2]; exact g3.1
  · obtain ⟨g1, g2, g3⟩ := h.rule hi (hY hw).1 (hY hw).2
    rw [g2]; exact g3.1
  · obtain ⟨g1, g2, g3⟩ := h.rule hi (hY hw).1 (hY hw).2
    exact okp_records (by rw [g2]; exact g3.1)
  · rw [e]
    by_cases h9 : isA d i
    · exact Or.inr (if_pos h9)
    · exact Or.inl (if_neg h9)
theorem ok_alertOf (h : CH E G x d) (hi : DI d) (hp : isA d i → Q ((lst G (gfd G 11 6 x)).getD i.toNat 0) G) (hn : ¬ isA d i → 1 ≤ c ∧ 6 ≤ s ∧ X 3 G) : Ok E M_X11_alertOf [rv x, iv i] G c s Q X := by
  obtain ⟨hR, hz, h8⟩ := h.rul hi
  have hx := h.1
  refine i_X11_alertOf ⟨hx, hR.1, okp_size hR.1, i32s (by omega), okp_isWithin, fun hw => hn fun h9 => ?_, fun hw => ?_⟩
  · have := wIn0.mp hw
    have h1 := h9.1
    have h2 := h9.2.1
    omega
  · have hw' := wInY hw
    obtain ⟨g1, g2, g3⟩ := h.rule hi (i := i) hw'.1 (by omega)
    have g5 : gcl G (alAt G (gfd G 11 6 x) i) = 5 := by rw [g2]; exact g3.1
    have e : gfd G 4 1 (alAt G (gfd G 11 6 x) i) = ((dRl d).getD i.toNat r0).1.1 := by rw [g2]; exact g3.2.1.1
    refine ⟨hx, hR.1, g1, Or.inr g5, g5, okp_records g5, fun hr => ⟨hx, hR.1, g1, Or.inr g5, ?_⟩, fun hr => hn fun h9 => hr ?_⟩
    · rw [g2]
      refine hp ⟨hw'.1, by omega, ?_⟩
      rw [e] at hr
      by_cases h9 : ((dRl d).getD i.toNat r0).1.1 = -1
      · exact h9
      · rw [if_neg h9] at hr
        exact absurd hr (by decide)
    · rw [e, if_pos h9.2.2]
/-- how many results a draft leaves -/
def rlV (ws : List Wd) : Int := (ws.map fun w => 1 - wNeeds w.1).sum
theorem wNeeds02 (k : Int) : 0 ≤ wNeeds k ∧ wNeeds k ≤ 2 := by
  unfold wNeeds
  split
  · omega
  · split <;> omega
theorem v_resultsLeft (h : CH E G x d) (hi : DI d) : ∀ (n j : Nat) (y : Int), j + n = (dDr d).length → -10 ≤ y + 10 - j ∧ y ≤ j → -(j : Int) ≤ y → V E M_X11_resultsLeft 4 [some (rv x), some (iv y), some (iv (j : Int))] [] G c s (fun r G' => r = y + rlV ((dDr d).drop j) ∧ G' = G) X := by
  have hx := h.1
  have hL := h.2.1
  have hD : WlH G (gfd G 11 10 x) (dDr d) := h.2.2.2.2.2.2.2.2.2.2.2.2.2.1.1
  have h10 := hi.2.2.2.2.2.2.1.1
  have hz : gfd G 13 2 (gfd G 11 10 x) = (dDr d).length := by rw [hL.size hD.1 hD.2.1, hD.2.2.1]
  intro n
  induction n with
  | zero =>
    intro j y hj hy hy2
    refine b_X11_resultsLeft_4 ⟨hx, hD.1, okp_size hD.1, fun _ => ⟨?_, rfl⟩, fun h9 => absurd h9 (by omega)⟩
    rw [List.drop_eq_nil_of_le (by omega)]
    show y = y + 0
    omega
  | succ n ih =>
    intro j y hj hy hy2
    have hlt : j < (dDr d).length := by omega
    have g := lget (i := (j : Int)) hL hD.1 hD.2.1 (by omega) (by rw [hD.2.2.1]; omega)
    have g2 : alAt G (gfd G 11 10 x) (j : Int) = (lst G (gfd G 11 10 x)).getD j 0 := g.2
    have hW := hD.2.2.2 j hlt
    have e : gfd G 10 0 (alAt G (gfd G 11 10 x) (j : Int)) = ((dDr d).getD j w0).1 := by rw [g2]; exact hW.2.1
    have e11 : gcl G (alAt G (gfd G 11 10 x) (j : Int)) = 11 := by rw [g2]; exact hW.1
    have hn := wNeeds02 ((dDr d).getD j w0).1
    have eD : (dDr d).drop j = (dDr d).getD j w0 :: (dDr d).drop (j + 1) := by
      rw [List.getD_eq_getElem?_getD, List.getElem?_eq_getElem hlt, List.drop_eq_getElem_cons hlt]; rfl
    refine b_X11_resultsLeft_4 ⟨hx, hD.1, okp_size hD.1, fun h9 => absurd h9 (by omega), fun _ => ⟨hx, hD.1, g.1, Or.inr e11, e11, okp_needs, i32s (by rw [e]; omega), i32s (by rw [e]; omega), i32s (by omega), ?_⟩⟩
    have := ih (j + 1) (y + (1 - wNeeds ((dDr d).getD j w0).1)) (by omega) (by omega) (by omega)
    rw [e, eD]
    have e2 : rlV ((dDr d).getD j w0 :: (dDr d).drop (j + 1)) = (1 - wNeeds ((dDr d).getD j w0).1) + rlV ((dDr d).drop (j + 1)) := by
      unfold rlV
      rw [List.map_cons, List.sum_cons]
    rw [e2, ← Int.add_assoc]
    exact this
theorem okp_resultsLeft (h : CH E G x d) (hi : DI d) : OkP E M_X11_resultsLeft [rv x] G (rlV (dDr d)) := by
  refine i_X11_resultsLeft ?_
  have := v_resultsLeft (c := 0) (s := 0) (X := fun _ _ => False) h hi (dDr d).length 0 0 (by omega) (by omega) (by omega)
  rw [List.drop_zero, Int.zero_add] at this
  exact this
abbrev ffV (k o : Int) : Prop := if k = 0 then -1000000 ≤ o ∧ o ≤ 1000000 else if 1 ≤ k ∧ k ≤ 7 then 0 ≤ o ∧ o ≤ 3 else if k = 15 then 0 ≤ o ∧ o ≤ 1000 else 0 ≤ o ∧ o ≤ 7
abbrev sfV (k t : Int) : Prop := 1 ≤ k ∧ k ≤ 7 → (if k = 1 then 0 ≤ t else 1 ≤ t) ∧ t ≤ 1000
theorem okp_isFirstFit : OkP E M_X11_isFirstFit [iv k, iv l] G (if ffV k l then 1 else 0) := by
  have go : ∀ (a b : Int), (ffV k l ↔ a ≤ l ∧ l ≤ b) → wIn l a b = if ffV k l then 1 else 0 := fun a b h9 => by
    by_cases h8 : ffV k l
    · rw [if_pos h8, wIn1.mpr (h9.mp h8)]
    · rw [if_neg h8, wIn0.mpr (fun h7 => h8 (h9.mpr h7))]
  refine i_X11_isFirstFit ⟨fun h0 => ⟨okp_reads, fun hr => ⟨okp_isWithin, wIn01 _ _ _, go _ _ ?_, rfl⟩, fun hr => ⟨okp_isWithin, wIn01 _ _ _, go _ _ ?_, rfl⟩⟩, fun h0 => ⟨okp_isWithin, wIn01 _ _ _, go _ _ ?_, rfl⟩⟩
  · have := wIn0.mp hr
    unfold ffV
    rw [if_neg h0, if_neg this]
    by_cases h15 : k = 15
    · rw [if_pos h15, if_pos h15]
    · rw [if_neg h15, if_neg h15]
  · have := wInY hr
    unfold ffV
    rw [if_neg h0, if_pos this]
  · unfold ffV
    rw [if_pos h0]
theorem okp_isSecondFit : OkP E M_X11_isSecondFit [iv k, iv l] G (if sfV k l then 1 else 0) := by
  have e : (if (wIn k 1 7) = 0 then (1 : Int) else (if k = 1 then ((if (wIn l 0 1000) = 0 then (0 : Int) else 1) : Int) else (if (wIn l 1 1000) = 0 then (0 : Int) else 1))) = if sfV k l then 1 else 0 := by
    have go : ∀ (a : Int), (sfV k l ↔ a ≤ l ∧ l ≤ 1000) → (if wIn l a 1000 = 0 then (0 : Int) else 1) = if sfV k l then 1 else 0 := fun a h9 => by
      by_cases h8 : sfV k l
      · rw [if_pos h8, wIn1.mpr (h9.mp h8), if_neg (by decide)]
      · rw [if_neg h8, wIn0.mpr (fun h7 => h8 (h9.mpr h7)), if_pos rfl]
    by_cases hk : wIn k 1 7 = 0
    · have := wIn0.mp hk
      rw [if_pos hk, if_pos (fun h9 => absurd h9 this)]
    · have := wInY hk
      rw [if_neg hk]
      by_cases h1 : k = 1
      · rw [if_pos h1]
        refine go 0 ⟨fun h9 => ?_, fun h9 _ => ?_⟩
        · have := h9 this
          rw [if_pos h1] at this
          exact this
        · rw [if_pos h1]
          exact h9
      · rw [if_neg h1]
        refine go 1 ⟨fun h9 => ?_, fun h9 _ => ?_⟩
        · have := h9 this
          rw [if_neg h1] at this
          exact this
        · rw [if_neg h1]
          exact h9
  refine i_X11_isSecondFit ⟨okp_reads, fun _ _ => okp_isWithin, fun _ _ => okp_isWithin, ?_, e, rfl⟩
  rw [e]
  by_cases h9 : sfV k l
  · exact Or.inr (if_pos h9)
  · exact Or.inl (if_neg h9)
end S80
