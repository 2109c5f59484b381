/-! the class's store -/
section S36
variable {E : EE} {G G' G2 : Gt} {c s : Nat} {Q X : Int → Gt → Prop} {a x : Int}
def numL (G : Gt) (a : Int) : List Int := lst G (gfd G 8 0 a)
def sLab (G : Gt) (x : Int) : Int := gfd G 7 0 x
/-- the series of a store in order -/
def NR (G : Gt) (a : Int) : Prop := gcl G a = 9 ∧ gcl G (gfd G 8 0 a) = 14 ∧ gfd G 13 1 (gfd G 8 0 a) ≠ -1 ∧ (numL G a).length ≤ 12 ∧ (∀ x ∈ numL G a, SR G x ∧ 0 ≤ sLab G x ∧ sLab G x ≤ 666) ∧ ((numL G a).map (sLab G)).Nodup
theorem drop_getD {L : List Int} {i : Nat} (h : i < L.length) : L.drop i = L.getD i 0 :: L.drop (i + 1) := by
  rw [List.drop_eq_getElem_cons h, List.getD_eq_getElem?_getD, List.getElem?_eq_getElem h]; rfl
theorem NR.get (hL : LW E G) (h : NR G a) {i : Nat} (h1 : i < (numL G a).length) : OkP E M_A_get [rv (gfd G 8 0 a), iv i] G ((numL G a).getD i 0) ∧ alAt G (gfd G 8 0 a) i = (numL G a).getD i 0 ∧ SR G ((numL G a).getD i 0) ∧ (0 ≤ sLab G ((numL G a).getD i 0) ∧ sLab G ((numL G a).getD i 0) ≤ 666) ∧ (i : Int) < gfd G 13 2 (gfd G 8 0 a) := by
  have e := hL.size h.2.1 h.2.2.1
  have e' : gfd G 13 2 (gfd G 8 0 a) = (numL G a).length := e
  have e1 : alAt G (gfd G 8 0 a) i = (numL G a).getD i 0 := alAt_get hL h.2.1 h.2.2.1 h1
  have hm := h.2.2.2.2.1 _ (getD_mem h1)
  have := okp_get hL h.2.1 h.2.2.1 (i := (i : Int)) (by omega) (by omega)
  rw [e1] at this
  exact ⟨this, e1, hm.1, hm.2, by omega⟩
theorem NR.size (hL : LW E G) (h : NR G a) : gfd G 13 2 (gfd G 8 0 a) = (numL G a).length := hL.size h.2.1 h.2.2.1
/-- the series of these labels, -1 for none -/
def fsV (G : Gt) (L : List Int) (l : Int) : Int := (L.find? (fun x => decide (sLab G x = l))).getD (-1)
theorem v_sfind {l : Int} (hL : LW E G) (h : NR G a) : ∀ (j i : Nat), i + j = (numL G a).length → V E M_X8_find 2 [some (rv a), some (iv l), some (iv (i : Int))] [] G c s (fun r G' => r = fsV G ((numL G a).drop i) l ∧ G' = G) X := by
  intro j
  induction j with
  | zero =>
    intro i hi
    refine b_X8_find_2 ⟨h.1, h.2.1, okp_size h.2.1, fun _ => ⟨?_, rfl⟩, fun h9 => by have := h.size hL; omega⟩
    rw [List.drop_eq_nil_of_le (by omega)]; rfl
  | succ j ih =>
    intro i hi
    obtain ⟨g1, g2, g3, g4, g5⟩ := h.get hL (i := i) (by omega)
    have e := drop_getD (L := numL G a) (i := i) (by omega)
    have hsz := h.2.2.2.1
    refine b_X8_find_2 ⟨h.1, h.2.1, okp_size h.2.1, fun h9 => by omega, fun _ => ?_⟩
    rw [g2]
    refine ⟨h.1, h.2.1, g1, Or.inr g3.1, g3.1, fun h9 => ⟨i32s (by omega), ?_⟩, fun h9 => ⟨h.1, h.2.1, g1, Or.inr g3.1, ?_, rfl⟩⟩
    · have := ih (i + 1) (by omega)
      have e2 : fsV G ((numL G a).drop i) l = fsV G ((numL G a).drop (i + 1)) l := by
        unfold fsV
        rw [e, List.find?_cons_of_neg]
        intro h8; exact h9 (of_decide_eq_true h8)
      rw [e2]
      exact this
    · unfold fsV
      rw [e, List.find?_cons_of_pos]
      · rfl
      · exact decide_eq_true h9
theorem okp_sfind {l : Int} (hL : LW E G) (h : NR G a) : OkP E M_X8_find [rv a, iv l] G (fsV G (numL G a) l) :=
  i_X8_find (v_sfind hL h (numL G a).length 0 (by omega))
/-- how many samples are seen of the series with a label 0 -/
def csV (G : Gt) (L : List Int) (z : Int) : Nat := (L.map fun x => if Int.tdiv (sLab G x) 100 = z then (seenL G x).length else 0).sum
theorem csV_cons (G : Gt) (x : Int) (L : List Int) (z : Int) : csV G (x :: L) z = (if Int.tdiv (sLab G x) 100 = z then (seenL G x).length else 0) + csV G L z := rfl
theorem v_countSeen {z : Int} (hL : LW E G) (h : NR G a) : ∀ (j i : Nat) (n : Int), i + j = (numL G a).length → 0 ≤ n → n ≤ 60 * i → V E M_X8_countSeen 4 [some (rv a), some (iv z), some (iv n), some (iv (i : Int)), none] [] G c s (fun r G' => r = n + csV G ((numL G a).drop i) z ∧ G' = G) X := by
  intro j
  induction j with
  | zero =>
    intro i n hi h0 h1
    refine b_X8_countSeen_4 ⟨h.1, h.2.1, okp_size h.2.1, fun _ => ⟨?_, rfl⟩, fun h9 => by have := h.size hL; omega⟩
    rw [List.drop_eq_nil_of_le (by omega)]
    show n = n + ((0 : Nat) : Int)
    omega
  | succ j ih =>
    intro i n hi h0 h1
    obtain ⟨g1, g2, g3, g4, g5⟩ := h.get hL (i := i) (by omega)
    have e := drop_getD (L := numL G a) (i := i) (by omega)
    have hsz := h.2.2.2.1
    refine b_X8_countSeen_4 ⟨h.1, h.2.1, okp_size h.2.1, fun h9 => by omega, fun _ => ?_⟩
    rw [g2]
    have e3 : gfd G 13 2 (gfd G 7 1 ((numL G a).getD i 0)) = (seenL G ((numL G a).getD i 0)).length := hL.size g3.2.1 g3.2.2.1
    have h60 := g3.2.2.2.2.2
    rw [e, csV_cons, e3]
    refine ⟨h.1, h.2.1, g1, Or.inr g3.1, g3.1, fun _ => g3.1, fun _ => g3.2.1, fun _ => ?_, fun _ => i32s (by omega), i32s (by omega), ?_⟩
    · rw [← e3]; exact okp_size g3.2.1
    · have := ih (i + 1) (if Int.tdiv (sLab G ((numL G a).getD i 0)) 100 = z then n + (seenL G ((numL G a).getD i 0)).length else n) (by omega) (by split <;> omega) (by split <;> omega)
      have e4 : (if Int.tdiv (sLab G ((numL G a).getD i 0)) 100 = z then n + (seenL G ((numL G a).getD i 0)).length else n) + (csV G ((numL G a).drop (i + 1)) z : Int) = n + (((if Int.tdiv (sLab G ((numL G a).getD i 0)) 100 = z then (seenL G ((numL G a).getD i 0)).length else 0) + csV G ((numL G a).drop (i + 1)) z : Nat) : Int) := by
        split <;> omega
      rw [e4] at this
      exact this
theorem okp_countSeen {z : Int} (hL : LW E G) (h : NR G a) : OkP E M_X8_countSeen [rv a, iv z] G (csV G (numL G a) z) := by
  refine i_X8_countSeen ?_
  have := v_countSeen (c := 0) (s := 0) (X := fun _ _ => False) (z := z) hL h (numL G a).length 0 0 (by omega) (by omega) (by omega)
  rw [Int.zero_add] at this
  exact this
def clV (G : Gt) (L : List Int) (q : Int) : Nat := L.countP (fun x => decide (slS G q (sLab G x) ≠ 0))
theorem v_countSelected {q : Int} (hL : LW E G) (h : NR G a) (hq : gcl G q = 7) : ∀ (j i : Nat) (n : Int), i + j = (numL G a).length → 0 ≤ n → n ≤ i → V E M_X8_countSelected 4 [some (rv a), some (rv q), some (iv n), some (iv (i : Int))] [] G c s (fun r G' => r = n + clV G ((numL G a).drop i) q ∧ G' = G) X := by
  intro j
  induction j with
  | zero =>
    intro i n hi h0 h1
    refine b_X8_countSelected_4 ⟨h.1, h.2.1, okp_size h.2.1, fun _ => ⟨?_, rfl⟩, fun h9 => by have := h.size hL; omega⟩
    rw [List.drop_eq_nil_of_le (by omega)]
    show n = n + ((0 : Nat) : Int)
    omega
  | succ j ih =>
    intro i n hi h0 h1
    obtain ⟨g1, g2, g3, g4, g5⟩ := h.get hL (i := i) (by omega)
    have e := drop_getD (L := numL G a) (i := i) (by omega)
    have hsz := h.2.2.2.1
    refine b_X8_countSelected_4 ⟨h.1, h.2.1, okp_size h.2.1, fun h9 => by omega, fun _ => ?_⟩
    rw [g2]
    refine ⟨h.1, h.2.1, g1, Or.inr g3.1, g3.1, hq, okp_selects hq, fun _ => i32s (by omega), i32s (by omega), ?_⟩
    have e5 : (clV G ((numL G a).drop i) q : Int) = (if slS G q (sLab G ((numL G a).getD i 0)) = 0 then 0 else 1) + (clV G ((numL G a).drop (i + 1)) q : Int) := by
      unfold clV
      rw [e, List.countP_cons]
      by_cases h9 : slS G q (sLab G ((numL G a).getD i 0)) = 0
      · rw [if_neg (by rw [h9]; decide), if_pos h9]; omega
      · rw [if_pos (decide_eq_true h9), if_neg h9]; omega
    have := ih (i + 1) (if slS G q (sLab G ((numL G a).getD i 0)) = 0 then n else n + 1) (by omega) (by split <;> omega) (by split <;> omega)
    have e4 : (if slS G q (sLab G ((numL G a).getD i 0)) = 0 then n else n + 1) + (clV G ((numL G a).drop (i + 1)) q : Int) = n + (clV G ((numL G a).drop i) q : Int) := by
      rw [e5]; split <;> omega
    rw [e4] at this
    exact this
theorem okp_countSelected {q : Int} (hL : LW E G) (h : NR G a) (hq : gcl G q = 7) : OkP E M_X8_countSelected [rv a, rv q] G (clV G (numL G a) q) := by
  refine i_X8_countSelected ?_
  have := v_countSelected (c := 0) (s := 0) (X := fun _ _ => False) (q := q) hL h hq (numL G a).length 0 0 (by omega) (by omega) (by omega)
  rw [Int.zero_add] at this
  exact this
end S36
