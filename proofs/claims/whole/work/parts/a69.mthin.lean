/-! the model thins -/
section Sa69
variable {E : EE} {G G' G2 G0 : Gt} {c s : Nat} {Q X : Int → Gt → Prop} {m ml mr i l u w t v : Int} {k n j : Nat} {d : DS} {L : List (Int × Int)} {sm : List Sm4} {W : Nat → Int}
/-- count, total, least, greatest -/
abbrev Q4 : Type := Nat × Int × Int × Int
def q4s (A : Q4) (v : Int) : Q4 := (A.1 + 1, A.2.1 + v, if A.1 = 0 then v else min A.2.2.1 v, if A.1 = 0 then v else max A.2.2.2 v)
def z4q : Q4 := (0, 0, 0, 0)
theorem q4_comm (A : Q4) (x y : Int) : q4s (q4s A x) y = q4s (q4s A y) x := by
  obtain ⟨a, b, g, h⟩ := A
  show (a + 1 + 1, b + x + y, if a + 1 = 0 then y else min (if a = 0 then x else min g x) y, if a + 1 = 0 then y else max (if a = 0 then x else max h x) y) = (a + 1 + 1, b + y + x, if a + 1 = 0 then x else min (if a = 0 then y else min g y) x, if a + 1 = 0 then x else max (if a = 0 then y else max h y) x)
  rw [if_neg (Nat.succ_ne_zero a), if_neg (Nat.succ_ne_zero a), if_neg (Nat.succ_ne_zero a), if_neg (Nat.succ_ne_zero a)]
  refine Prod.ext rfl (Prod.ext (by show b + x + y = b + y + x; omega) (Prod.ext ?_ ?_))
  · show min (if a = 0 then x else min g x) y = min (if a = 0 then y else min g y) x
    split <;> omega
  · show max (if a = 0 then x else max h x) y = max (if a = 0 then y else max h y) x
    split <;> omega
def rel4 (W : Nat → Int) (A : Q4) : Prop := W 0 = A.1 ∧ (A.1 ≠ 0 → W 4 = A.2.1 ∧ W 5 = A.2.2.1 ∧ W 6 = A.2.2.2) ∧ (A.1 = 0 → A = z4q)
theorem rel4_inc {A : Q4} (h : rel4 W A) : rel4 (incW W t v) (q4s A v) := by
  obtain ⟨h1, h2, h3⟩ := h
  refine ⟨?_, fun _ => ?_, fun h9 => absurd h9 (Nat.succ_ne_zero _)⟩
  · by_cases h0 : W 0 = 0
    · show endW (if W 0 = 0 then begW W t v else moreW W v) t v 0 = _
      rw [if_pos h0]
      show W 0 + 1 = ((A.1 + 1 : Nat) : Int)
      omega
    · show endW (if W 0 = 0 then begW W t v else moreW W v) t v 0 = _
      rw [if_neg h0]
      show W 0 + 1 = ((A.1 + 1 : Nat) : Int)
      omega
  · unfold incW q4s
    by_cases h0 : W 0 = 0
    · have ha : A.1 = 0 := by omega
      have hz := h3 ha
      rw [if_pos h0, hz]
      refine ⟨?_, rfl, rfl⟩
      show v = 0 + v
      omega
    · have ha : A.1 ≠ 0 := by omega
      obtain ⟨e4, e5, e6⟩ := h2 ha
      rw [if_neg h0, if_neg ha, if_neg ha]
      refine ⟨?_, ?_, ?_⟩
      · show W 4 + v = A.2.1 + v
        rw [e4]
      · show min (W 5) v = min A.2.2.1 v
        rw [e5]
      · show max (W 6) v = max A.2.2.2 v
        rw [e6]
theorem rel4_gaP : ∀ (L : List (Int × Int)) (W : Nat → Int) (A : Q4), rel4 W A → rel4 (gaP L W) (((L.filter fun y => decide (y.2 ≠ -2147483648)).map (·.2)).foldl q4s A)
  | [], _, _, h => h
  | y :: L, W, A, h => by
    have e : gaP (y :: L) W = gaP L (if y.2 = -2147483648 then W else incW W y.1 y.2) := rfl
    rw [e]
    by_cases hy : y.2 = -2147483648
    · rw [if_pos hy, List.filter_cons_of_neg (by rw [decide_eq_false (fun h9 => h9 hy)]; decide)]
      exact rel4_gaP L W A h
    · rw [if_neg hy, List.filter_cons_of_pos (p := fun y : Int × Int => decide (y.2 ≠ -2147483648)) (decide_eq_true hy), List.map_cons, List.foldl_cons]
      exact rel4_gaP L _ _ (rel4_inc h)
/-- what is told of four facts -/
def tell4 (A : Q4) (w : Int) : Int := if w = 0 then (A.1 : Int) else if w = 1 then A.2.1 else if w = 2 then A.2.2.1 else A.2.2.2
theorem thV_4 {A : Q4} (h : rel4 W A) (w : Int) : thV W w = tell4 A w := by
  obtain ⟨h1, h2, h3⟩ := h
  unfold thV tell4
  by_cases h0 : W 0 = 0
  · rw [if_pos h0, h3 (by omega)]
    repeat' split
    all_goals rfl
  · obtain ⟨e4, e5, e6⟩ := h2 (by omega)
    rw [if_neg h0, h1, e4, e5, e6]
def thP (cc l u : Int) (q : Sm4) : Bool := own cc q && (decide (qV q ≠ -2147483648) && decide (Int.tdiv (qT q) l = u))
theorem th_perm (cc : Int) (hl : l = 10 ∨ l = 100) (hu : 0 ≤ u) (h0 : ∀ q ∈ sm, 0 ≤ qT q) : ((((seeT cc sm).filter (inT (u * l) (u * l + l - 1))).filter fun y => decide (y.2 ≠ -2147483648)).map (·.2)).Perm ((sm.filter (thP cc l u)).map qV) := by
  have h1 : (seeT cc sm).Perm ((sm.filter (own cc)).map fun q => (qT q, qV q)) := srt_perm _
  have h2 := ((h1.filter (inT (u * l) (u * l + l - 1))).filter (fun y => decide (y.2 ≠ -2147483648))).map (·.2)
  refine h2.trans (List.Perm.of_eq ?_)
  rw [List.filter_map, List.filter_map, List.map_map, List.filter_filter, List.filter_filter]
  have e : sm.filter (fun q => (((fun y : Int × Int => decide (y.2 ≠ -2147483648)) ∘ fun q => (qT q, qV q)) q && (inT (u * l) (u * l + l - 1) ∘ fun q => (qT q, qV q)) q && own cc q)) = sm.filter (thP cc l u) := by
    refine List.filter_congr fun q hq => ?_
    have hq0 := h0 q hq
    have hin : inT (u * l) (u * l + l - 1) (qT q, qV q) = decide (Int.tdiv (qT q) l = u) := by
      unfold inT
      show (decide (u * l ≤ qT q) && decide (qT q ≤ u * l + l - 1)) = _
      rw [Int.tdiv_eq_ediv_of_nonneg hq0]
      rcases hl with rfl | rfl
      · by_cases h9 : qT q / 10 = u
        · rw [decide_eq_true h9, decide_eq_true (by omega), decide_eq_true (by omega)]; rfl
        · rw [decide_eq_false h9]
          by_cases h8 : u * 10 ≤ qT q
          · rw [decide_eq_false (p := qT q ≤ u * 10 + 10 - 1) (by omega), Bool.and_false]
          · rw [decide_eq_false h8, Bool.false_and]
      · by_cases h9 : qT q / 100 = u
        · rw [decide_eq_true h9, decide_eq_true (by omega), decide_eq_true (by omega)]; rfl
        · rw [decide_eq_false h9]
          by_cases h8 : u * 100 ≤ qT q
          · rw [decide_eq_false (p := qT q ≤ u * 100 + 100 - 1) (by omega), Bool.and_false]
          · rw [decide_eq_false h8, Bool.false_and]
    show (decide (qV q ≠ -2147483648) && inT (u * l) (u * l + l - 1) (qT q, qV q) && own cc q) = (own cc q && (decide (qV q ≠ -2147483648) && decide (Int.tdiv (qT q) l = u)))
    rw [hin]
    cases decide (qV q ≠ -2147483648) <;> cases decide (Int.tdiv (qT q) l = u) <;> cases own cc q <;> rfl
  rw [e]
  rfl
/-- the four facts of a list of samples -/
def th4 (cc l u : Int) (sm : List Sm4) : Q4 := ((sm.filter (thP cc l u)).map qV).foldl q4s z4q
theorem thinW_4 (hi : DI d) (hl : l = 10 ∨ l = 100) (hu : 0 ≤ u) : thV (thinW d i l u) w = tell4 (th4 (serC d i) l u (smS d)) w := by
  have h := rel4_gaP ((seeT (serC d i) (smS d)).filter (inT (u * l) (u * l + l - 1))) (fun _ => 0) z4q ⟨rfl, fun h9 => absurd rfl h9, fun _ => rfl⟩
  have hp := th_perm (sm := smS d) (serC d i) hl hu (fun q hq => (hi.1.2.2.2.1 q hq).2.1.1)
  have e := hp.foldl_eq' (f := q4s) (fun x _ y _ z => q4_comm z x y) z4q
  rw [e] at h
  exact thV_4 h w
theorem th4_snoc (cc : Int) (q : Sm4) : th4 cc l u (sm ++ [q]) = if thP cc l u q = true then q4s (th4 cc l u sm) (qV q) else th4 cc l u sm := by
  unfold th4
  rw [List.filter_append]
  by_cases h : thP cc l u q = true
  · rw [if_pos h, List.filter_cons_of_pos h, List.filter_nil, List.map_append, List.foldl_append]; rfl
  · rw [if_neg h, List.filter_cons_of_neg h, List.filter_nil, List.append_nil]
theorem q4_bd : ∀ (V : List Int) (A : Q4), (∀ v ∈ V, -1000000 ≤ v ∧ v ≤ 1000000) → (V.foldl q4s A).1 = A.1 + V.length ∧ A.2.1 - 1000000 * V.length ≤ (V.foldl q4s A).2.1 ∧ (V.foldl q4s A).2.1 ≤ A.2.1 + 1000000 * V.length
  | [], A, _ => ⟨rfl, by show A.2.1 - 1000000 * ((0 : Nat) : Int) ≤ A.2.1; omega, by show A.2.1 ≤ A.2.1 + 1000000 * ((0 : Nat) : Int); omega⟩
  | v :: V, A, h => by
    have hv := h v List.mem_cons_self
    obtain ⟨a1, a2, a3⟩ := q4_bd V (q4s A v) (fun y hy => h y (List.mem_cons_of_mem _ hy))
    have e1 : (q4s A v).1 = A.1 + 1 := rfl
    have e2 : (q4s A v).2.1 = A.2.1 + v := rfl
    rw [e1] at a1
    rw [e2] at a2 a3
    rw [List.foldl_cons, List.length_cons]
    exact ⟨by omega, by omega, by omega⟩
theorem th4_bd {cc : Int} (hv : ∀ q ∈ sm, vOk (qV q)) (h60 : sm.countP (own cc) ≤ 60) : (th4 cc l u sm).1 ≤ 60 ∧ -60000000 ≤ (th4 cc l u sm).2.1 ∧ (th4 cc l u sm).2.1 ≤ 60000000 := by
  obtain ⟨a1, a2, a3⟩ := q4_bd ((sm.filter (thP cc l u)).map qV) z4q (fun v hv9 => by
    obtain ⟨q, hq, rfl⟩ := List.mem_map.mp hv9
    obtain ⟨hq1, hq2⟩ := List.mem_filter.mp hq
    unfold thP at hq2
    simp only [Bool.and_eq_true, decide_eq_true_eq] at hq2
    rcases hv q hq1 with h9 | h9
    · exact (hq2.2.1 h9).elim
    · exact h9)
  have hl : ((sm.filter (thP cc l u)).map qV).length ≤ 60 := by
    rw [List.length_map, ← List.countP_eq_length_filter]
    refine Nat.le_trans (List.countP_mono_left fun q _ h9 => ?_) h60
    unfold thP at h9
    exact (Bool.and_eq_true_iff.mp h9).1
  have z1 : z4q.1 = 0 := rfl
  have z2 : z4q.2.1 = 0 := rfl
  unfold th4
  omega
end Sa69
