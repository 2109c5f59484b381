/-! results joined -/
section S63
variable {E : EE} {G G' G2 : Gt} {c s : Nat} {Q X : Int → Gt → Prop} {a r q l u v n m p sp w k set lo up nl nu : Int} {W : Nat → Nat → Int → Prop} {L A : Int → Prop} {R U : List (Int × Int)}
/-- a result's values are in order -/
def RV (n : Int) (R : List (Int × Int)) : Prop := R.length ≤ 12 ∧ ascL R ∧ (∀ y ∈ R, cOk y.1 ∧ bnd y.2) ∧ (n = 0 ∨ (n = 1 ∧ ∃ v, R = [(666, v)]))
def fmJ (f : Int × Int → Option Int) (R : List (Int × Int)) : List (Int × Int) := R.filterMap (fun y => (f y).map (fun w => (y.1, w)))
theorem fmJ_key {f : Int × Int → Option Int} {y : Int × Int} (h : y ∈ fmJ f R) : ∃ z ∈ R, z.1 = y.1 := by
  obtain ⟨z, hz, e⟩ := List.mem_filterMap.mp h
  refine ⟨z, hz, ?_⟩
  cases hf : f z with
  | none => rw [hf] at e; cases e
  | some w =>
    rw [hf] at e
    have : (z.1, w) = y := Option.some.inj e
    rw [← this]
theorem fmJ_asc {f : Int × Int → Option Int} : ∀ {R : List (Int × Int)}, ascL R → ascL (fmJ f R)
  | [], _ => List.Pairwise.nil
  | y :: R, h => by
    have h1 := List.pairwise_cons.mp h
    unfold fmJ
    rw [List.filterMap_cons]
    cases hf : f y with
    | none => exact fmJ_asc h1.2
    | some w =>
      refine List.pairwise_cons.mpr ⟨fun z hz => ?_, fmJ_asc h1.2⟩
      obtain ⟨x, hx, e⟩ := fmJ_key (f := f) hz
      rw [← e]; exact h1.1 x hx
theorem fmJ_len {f : Int × Int → Option Int} : (fmJ f R).length ≤ R.length := List.length_filterMap_le _ _
theorem putL_end : ∀ {R : List (Int × Int)}, (∀ y ∈ R, y.1 < l) → putL l v R = R ++ [(l, v)]
  | [], _ => rfl
  | y :: R, h => by
    have h0 := h y List.mem_cons_self
    unfold putL
    rw [if_neg (by omega), putL_end (fun z hz => h z (List.mem_cons_of_mem _ hz))]; rfl
theorem takeS {α : Type} {R : List α} {d : α} {i : Nat} (h : i < R.length) : R.take (i + 1) = R.take i ++ [R.getD i d] := by
  rw [List.take_succ, List.getD_eq_getElem?_getD, List.getElem?_eq_getElem h]; rfl
theorem asc_lt (h : ascL R) {i : Nat} (hi : i < R.length) : ∀ y ∈ R.take i, y.1 < (R.getD i (0, 0)).1 := fun y hy => by
  obtain ⟨j, hj⟩ := List.getElem?_of_mem hy
  have h1 : j < i := by
    by_cases h9 : j < i
    · exact h9
    · rw [List.getElem?_take, if_neg h9] at hj; cases hj
  rw [List.getElem?_take, if_pos h1, List.getElem?_eq_getElem (by omega)] at hj
  have := List.pairwise_iff_getElem.mp h j i (by omega) hi h1
  rw [List.getD_eq_getElem?_getD, List.getElem?_eq_getElem hi]
  have e : R[j] = y := Option.some.inj hj
  rw [← e]; exact this
theorem fm_step {f : Int × Int → Option Int} (h : ascL R) {i : Nat} (hi : i < R.length) : putO (R.getD i (0, 0)).1 (f (R.getD i (0, 0))) (fmJ f (R.take i)) = fmJ f (R.take (i + 1)) ∧ ascL (fmJ f (R.take i)) ∧ (∀ y ∈ fmJ f (R.take i), y.1 < (R.getD i (0, 0)).1) ∧ (fmJ f (R.take i)).length ≤ i := by
  have hk : ∀ y ∈ fmJ f (R.take i), y.1 < (R.getD i (0, 0)).1 := fun y hy => by
    obtain ⟨z, hz, e⟩ := fmJ_key hy
    rw [← e]; exact asc_lt h hi z hz
  refine ⟨?_, fmJ_asc (h.sublist (List.take_sublist _ _)), hk, Nat.le_trans fmJ_len (by rw [List.length_take]; omega)⟩
  rw [takeS (d := ((0, 0) : Int × Int)) hi]
  unfold fmJ at *
  rw [List.filterMap_append, List.filterMap_cons, List.filterMap_nil]
  cases hf : f (R.getD i (0, 0)) with
  | none => exact (List.append_nil _).symm
  | some w => exact putL_end hk
theorem RowH.single (h : RowH G r n R) (hv : RV n R) : OkP E M_X3_single [rv r] G (if n = 0 then 0 else (R.getD 0 (0, 0)).2) := by
  have := okp_single (E := E) h.1
  have e : siV G r = (if n = 0 then 0 else (R.getD 0 (0, 0)).2) := by
    unfold siV
    rw [h.2.1]
    rcases hv.2.2.2 with h1 | ⟨h1, v, h2⟩
    · rw [if_pos h1, if_pos h1]
    · have hl := h.len
      have ha := h.at (i := 0) (by rw [h2]; exact Nat.succ_pos _)
      have hl' : (R.length : Int) = 1 := by rw [h2]; rfl
      rw [if_neg (by omega), if_neg (by omega), if_neg (by omega), ha]; rfl
  rw [e] at this; exact this
/-- where a vector has the same labels of a set -/
theorem v_findSame {g : Int} (h : RowH G r n R) (hv : RV n R) (hs : 0 ≤ set ∧ set ≤ 7) : ∀ (j i : Nat) (x : Int), i + j = R.length → (((R.take i).countP (fun y => decide (wMask y.1 set = g)) = 0 ∧ x = -1) ∨ ((R.take i).countP (fun y => decide (wMask y.1 set = g)) = 1 ∧ ∃ b, b < i ∧ x = (b : Nat) ∧ wMask (R.getD b (0, 0)).1 set = g)) →
    V E M_X2_findSame 12 [some (rv r), none, some (iv set), some (iv g), some (iv x), some (iv (i : Int))] [] G c s (fun rr G' => G' = G ∧ ((R.countP (fun y => decide (wMask y.1 set = g)) = 0 ∧ rr = -1) ∨ (R.countP (fun y => decide (wMask y.1 set = g)) = 1 ∧ ∃ b, b < R.length ∧ rr = (b : Nat) ∧ wMask (R.getD b (0, 0)).1 set = g) ∨ (2 ≤ R.countP (fun y => decide (wMask y.1 set = g)) ∧ rr = R.length))) X := by
  have hl := h.len
  have h1 := h.1.1
  have h0 := h.1.2.1
  have h12 := hv.1
  have eN : gfd G 3 2 r = R.length := hl.symm
  intro j
  induction j with
  | zero =>
    intro i x hij hx
    refine b_X2_findSame_12 ⟨h1, fun _ => ⟨rfl, ?_⟩, fun h9 => by omega⟩
    have hi : i = R.length := by omega
    subst hi
    rw [List.take_length] at hx
    rcases hx with h9 | h9
    · exact Or.inl h9
    · exact Or.inr (Or.inl h9)
  | succ j ih =>
    intro i x hij hx
    have hi : i < R.length := by omega
    have ha := h.at hi
    have hm := hv.2.2.1 _ (show R.getD i (0, 0) ∈ R by rw [List.getD_eq_getElem?_getD, List.getElem?_eq_getElem hi]; exact List.getElem_mem hi)
    have e1 : gel G (gfd G 3 0 r) (i : Int) = (R.getD i (0, 0)).1 := by rw [ha]; rfl
    have ct : (R.take (i + 1)).countP (fun y => decide (wMask y.1 set = g)) = (R.take i).countP (fun y => decide (wMask y.1 set = g)) + if wMask (R.getD i (0, 0)).1 set = g then 1 else 0 := by
      rw [takeS (d := ((0, 0) : Int × Int)) hi, List.countP_append, List.countP_singleton]
      by_cases h9 : wMask (R.getD i (0, 0)).1 set = g
      · rw [if_pos h9, if_pos (decide_eq_true h9)]
      · rw [if_neg h9, if_neg (by simpa using h9)]
    refine b_X2_findSame_12 ⟨h1, fun h9 => by omega, fun _ => ⟨h1, h0.1, by omega, by omega, ?_⟩⟩
    rw [e1]
    refine ⟨okp_only ⟨hm.1.1, Int.le_trans hm.1.2.1 (by decide)⟩ hs, fun h9 => ⟨i32s (by omega), ?_⟩, fun h9 => ⟨fun h8 => ⟨i32s (by omega), ?_⟩, fun h8 => ⟨h1, rfl, ?_⟩⟩⟩
    · rw [if_neg h9, Nat.add_zero] at ct
      refine ih (i + 1) x (by omega) ?_
      rw [ct]
      rcases hx with h8 | ⟨h8, b, b1, b2, b3⟩
      · exact Or.inl h8
      · exact Or.inr ⟨h8, b, by omega, b2, b3⟩
    · rw [if_pos h9] at ct
      refine ih (i + 1) (i : Int) (by omega) ?_
      rcases hx with h7 | ⟨h7, b, b1, b2, b3⟩
      · exact Or.inr ⟨by rw [ct, h7.1], i, by omega, rfl, h9⟩
      · omega
    · rw [if_pos h9] at ct
      rcases hx with h7 | ⟨h7, b, b1, b2, b3⟩
      · exact (h8 h7.2).elim
      · refine Or.inr (Or.inr ⟨?_, eN⟩)
        have := (List.take_sublist (i + 1) R).countP_le (p := fun y => decide (wMask y.1 set = g))
        omega
theorem ok_findSame (h : RowH G r n R) (hv : RV n R) (hl : 0 ≤ l ∧ l ≤ 1000) (hs : 0 ≤ set ∧ set ≤ 7) : Ok E M_X2_findSame [rv r, iv l, iv set] G 0 0 (fun rr G' => G' = G ∧ ((R.countP (fun y => decide (wMask y.1 set = wMask l set)) = 0 ∧ rr = -1) ∨ (R.countP (fun y => decide (wMask y.1 set = wMask l set)) = 1 ∧ ∃ b, b < R.length ∧ rr = (b : Nat) ∧ wMask (R.getD b (0, 0)).1 set = wMask l set) ∨ (2 ≤ R.countP (fun y => decide (wMask y.1 set = wMask l set)) ∧ rr = R.length))) (fun _ _ => False) :=
  i_X2_findSame ⟨okp_only hl hs, v_findSame h hv hs R.length 0 (-1) (by omega) (Or.inl ⟨rfl, rfl⟩)⟩
/-- two results joined: none where it fails -/
def sml (set g : Int) (y : Int × Int) : Bool := decide (wMask y.1 set = g)
def jnF (k set : Int) (U : List (Int × Int)) (y : Int × Int) : Option Int := match U.find? (sml set (wMask y.1 set)) with
  | none => none
  | some z => jnV k y.2 z.2 y.2
def joinR (k set nl : Int) (L : List (Int × Int)) (nu : Int) (U : List (Int × Int)) : Option (Int × List (Int × Int)) :=
  if nl ≠ 0 ∧ nu ≠ 0 then (if k = 13 ∧ (U.getD 0 (0, 0)).2 = 0 then none else some (1, [(666, if k = 14 then (if (U.getD 0 (0, 0)).2 < (L.getD 0 (0, 0)).2 then 1000 else 0) else rkV k (L.getD 0 (0, 0)).2 (U.getD 0 (0, 0)).2)]))
  else if nl ≠ 0 then some (0, fmJ (fun y => jnV k (L.getD 0 (0, 0)).2 y.2 y.2) U)
  else if nu ≠ 0 then some (0, fmJ (fun y => jnV k y.2 (U.getD 0 (0, 0)).2 y.2) L)
  else if L.any (fun y => decide (2 ≤ U.countP (sml set (wMask y.1 set)))) then none
  else some (0, fmJ (jnF k set U) L)
theorem find_of_count {U : List (Int × Int)} {f : Int × Int → Bool} (h1 : U.countP f = 1) {b : Nat} (hb : b < U.length) (hf : f (U.getD b (0, 0)) = true) : U.find? f = some (U.getD b (0, 0)) := by
  induction U generalizing b with
  | nil => exact absurd hb (Nat.not_lt_zero b)
  | cons y U ih =>
    rw [List.countP_cons] at h1
    by_cases hy : f y = true
    · rw [if_pos hy] at h1
      have h0 : U.countP f = 0 := by omega
      rw [List.find?_cons_of_pos hy]
      cases b with
      | zero => rfl
      | succ b =>
        exfalso
        have hb' : b < U.length := by simpa using hb
        have hm : U.getD b (0, 0) ∈ U := by rw [List.getD_eq_getElem?_getD, List.getElem?_eq_getElem hb']; exact List.getElem_mem hb'
        exact (List.countP_eq_zero.mp h0) _ hm hf
    · rw [if_neg hy] at h1
      rw [List.find?_cons_of_neg hy]
      cases b with
      | zero => exact (hy hf).elim
      | succ b => exact ih (by omega) (by simpa using hb) hf
end S63
