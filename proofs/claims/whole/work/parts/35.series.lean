/-! the class's series -/
section S35
variable {E : EE} {G G' G2 : Gt} {c s : Nat} {Q X : Int → Gt → Prop} {a x : Int}
def sT (G : Gt) (x : Int) : Int := gfd G 5 1 x
def sV (G : Gt) (x : Int) : Int := gfd G 5 2 x
def seenL (G : Gt) (a : Int) : List Int := lst G (gfd G 7 1 a)
/-- a series in order -/
def SR (G : Gt) (a : Int) : Prop := gcl G a = 8 ∧ gcl G (gfd G 7 1 a) = 14 ∧ gfd G 13 1 (gfd G 7 1 a) ≠ -1 ∧ (∀ x ∈ seenL G a, gcl G x = 6 ∧ 0 ≤ sT G x ∧ sT G x ≤ 100000 ∧ (sV G x = -2147483648 ∨ (-1000000 ≤ sV G x ∧ sV G x ≤ 1000000))) ∧ (seenL G a).Pairwise (fun x y => sT G x < sT G y) ∧ (seenL G a).length ≤ 60
def cAh (G : Gt) (a t : Int) : Nat := (seenL G a).countP (fun x => decide (sT G x < t))
theorem count_of {L : List Int} {T : Int → Int} {t : Int} {k : Nat} (hk : k ≤ L.length) (h1 : ∀ i, i < k → T (L.getD i 0) < t) (h2 : ∀ i, k ≤ i → i < L.length → t ≤ T (L.getD i 0)) : L.countP (fun x => decide (T x < t)) = k := by
  have e : L = L.take k ++ L.drop k := (List.take_append_drop k L).symm
  rw [e, List.countP_append]
  have e1 : (L.take k).countP (fun x => decide (T x < t)) = (L.take k).length := by
    rw [List.countP_eq_length]
    intro x hx
    obtain ⟨i, hi⟩ := List.getElem?_of_mem hx
    have hlt : i < k := by
      by_cases h9 : i < k
      · exact h9
      · rw [List.getElem?_take, if_neg h9] at hi; cases hi
    rw [List.getElem?_take, if_pos hlt] at hi
    have := h1 i hlt
    rw [List.getD_eq_getElem?_getD, hi] at this
    exact decide_eq_true this
  have e2 : (L.drop k).countP (fun x => decide (T x < t)) = 0 := by
    rw [List.countP_eq_zero]
    intro x hx h9
    obtain ⟨i, hi⟩ := List.getElem?_of_mem hx
    rw [List.getElem?_drop] at hi
    have hlt : k + i < L.length := by
      by_cases h8 : k + i < L.length
      · exact h8
      · rw [List.getElem?_eq_none (by omega)] at hi; cases hi
    have := h2 (k + i) (by omega) hlt
    rw [List.getD_eq_getElem?_getD, hi] at this
    have h7 := of_decide_eq_true h9
    exact absurd h7 (Int.not_lt.mpr this)
  rw [e1, e2, List.length_take]
  omega
theorem sort_lt {L : List Int} {T : Int → Int} (h : L.Pairwise (fun x y => T x < T y)) {i j : Nat} (hij : i < j) (hj : j < L.length) : T (L.getD i 0) < T (L.getD j 0) := by
  have hi : i < L.length := by omega
  have := List.pairwise_iff_getElem.mp h i j hi hj hij
  rw [List.getD_eq_getElem?_getD, List.getD_eq_getElem?_getD, List.getElem?_eq_getElem hi, List.getElem?_eq_getElem hj]
  exact this
theorem getD_mem {L : List Int} {i : Nat} (h : i < L.length) : L.getD i 0 ∈ L := by
  rw [List.getD_eq_getElem?_getD, List.getElem?_eq_getElem h]
  exact List.getElem_mem h
theorem SR.at (hL : LW E G) (h : SR G a) {i : Int} (h0 : 0 ≤ i) (h1 : i < (seenL G a).length) : alAt G (gfd G 7 1 a) i = (seenL G a).getD i.toNat 0 ∧ i < gfd G 13 2 (gfd G 7 1 a) := by
  have e := hL.size h.2.1 h.2.2.1
  have := alAt_get hL h.2.1 h.2.2.1 (i := i.toNat) (by show i.toNat < (seenL G a).length; omega)
  rw [show ((i.toNat : Nat) : Int) = i by omega] at this
  exact ⟨this, by rw [e]; exact h1⟩
theorem v_countAhead {t : Int} (hL : LW E G) (h : SR G a) : ∀ (k : Nat), k ≤ (seenL G a).length → (∀ i, k ≤ i → i < (seenL G a).length → t ≤ sT G ((seenL G a).getD i 0)) →
    V E M_X7_countAhead 8 [some (rv a), some (iv t), some (iv (k : Int))] [] G c s (fun r G' => r = cAh G a t ∧ G' = G) X := by
  intro k
  induction k with
  | zero =>
    intro hk ha
    refine b_X7_countAhead_8 ⟨fun _ => ⟨?_, rfl⟩, fun h9 => by omega⟩
    rw [show cAh G a t = 0 from count_of (T := sT G) hk (fun i hi => by omega) ha]
  | succ k ih =>
    intro hk ha
    have e0 : ((k + 1 : Nat) : Int) - 1 = (k : Int) := by omega
    have e1 : ((k + 1 : Nat) : Int) + (-1) = (k : Int) := by omega
    have hat := h.at hL (i := (k : Int)) (by omega) (by omega)
    have hm := h.2.2.2.1 _ (getD_mem (L := seenL G a) (i := k) (by omega))
    have hat1 : alAt G (gfd G 7 1 a) (k : Int) = (seenL G a).getD k 0 := hat.1
    have hle := h.2.2.2.2.2
    refine b_X7_countAhead_8 ⟨fun h9 => by omega, fun _ => ?_⟩
    rw [e0, e1, hat1]
    refine ⟨h.1, i32s (by omega), h.2.1, ?_, Or.inr hm.1, hm.1, fun h9 => ⟨?_, rfl⟩, fun h9 => ⟨i32s (by omega), ih (by omega) fun i hi hi2 => ?_⟩⟩
    · have := okp_get hL h.2.1 h.2.2.1 (i := (k : Int)) (by omega) hat.2
      rw [hat1] at this; exact this
    · have : cAh G a t = k + 1 := count_of (T := sT G) hk (fun i hi => ?_) ha
      · rw [this]
      · by_cases h8 : i = k
        · rw [h8]; exact h9
        · have := sort_lt h.2.2.2.2.1 (i := i) (j := k) (by omega) (by omega)
          have h9' : sT G ((seenL G a).getD k 0) < t := h9
          omega
    · by_cases h8 : i = k
      · rw [h8]; exact h9
      · exact ha i (by omega) hi2
theorem okp_countAhead {t : Int} (hL : LW E G) (h : SR G a) : OkP E M_X7_countAhead [rv a, iv t] G (cAh G a t) := by
  refine i_X7_countAhead ⟨h.1, h.2.1, okp_size h.2.1, ?_⟩
  rw [hL.size h.2.1 h.2.2.1]
  exact v_countAhead hL h (seenL G a).length (Nat.le_refl _) (fun i h1 h2 => by omega)
end S35
