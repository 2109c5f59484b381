/-! the class's series -/
section S35
variable {E : EE} {G G' G2 : Gt} {c s : Nat} {Q X : Int → Gt → Prop} {a x : Int}
def sT (G : Gt) (x : Int) : Int := gfd G 5 1 x
def sV (G : Gt) (x : Int) : Int := gfd G 5 2 x
def seenL (G : Gt) (a : Int) : List Int := lst G (gfd G 7 1 a)
/-- a series in order -/
def SR (G : Gt) (a : Int) : Prop := gcl G a = 8 ∧ gcl G (gfd G 7 1 a) = 14 ∧ gfd G 13 1 (gfd G 7 1 a) ≠ -1 ∧ (∀ x ∈ seenL G a, gcl G x = 6 ∧ 0 ≤ sT G x ∧ sT G x ≤ 100000 ∧ (sV G x = -2147483648 ∨ (-1000000 ≤ sV G x ∧ sV G x ≤ 1000000))) ∧ (seenL G a).Pairwise (fun x y => sT G x < sT G y) ∧ (seenL G a).length ≤ 60
def cAh (G : Gt) (a t : Int) : Nat := (seenL G a).countP (fun x => decide (sT G x < t))
theorem count_of {L : List Int} {T : Int → Int} {t : Int} {k : Nat} (hk : k ≤ L.length) (h1 : ∀ i, i < k → T (L.getD i 0) < t) (h2 : ∀ i, k ≤ i → i < L.length → t ≤ T (L.getD i 0)) : L.countP (fun x => decide (T x < t)) = k := by
  have e : L = L.take k ++ L.drop k := (List.take_append_drop k L).symm
  rw [e, List.countP_append]
  have e1 : (L.take k).countP (fun x => decide (T x < t)) = (L.take k).length := by
    rw [List.countP_eq_length]
    intro x hx
    obtain ⟨i, hi⟩ := List.getElem?_of_mem hx
    have hlt : i < k := by
      by_cases h9 : i < k
      · exact h9
      · rw [List.getElem?_take, if_neg h9] at hi; cases hi
    rw [List.getElem?_take, if_pos hlt] at hi
    have := h1 i hlt
    rw [List.getD_eq_getElem?_getD, hi] at this
    exact decide_eq_true this
  have e2 : (L.drop k).countP (fun x => decide (T x < t)) = 0 := by
    rw [List.countP_eq_zero]
    intro x hx h9
    obtain ⟨i, hi⟩ := List.getElem?_of_mem hx
    rw [List.getElem?_drop] at hi
    have hlt : k + i < L.length := by
      by_cases h8 : k + i < L.length
      · exact h8
      · rw [List.getElem?_eq_none (by omega)] at hi; cases hi
    have := h2 (k + i) (by omega) hlt
    rw [List.getD_eq_getElem?_getD, hi] at this
    have h7 := of_decide_eq_true h9
    exact absurd h7 (Int.not_lt.mpr this)
  rw [e1, e2, List.length_take]
  omega
theorem sort_lt {L : List Int} {T : Int → Int} (h : L.Pairwise (fun x y => T x < T y)) {i j : Nat} (hij : i < j) (hj : j < L.length) : T (L.getD i 0) < T (L.getD j 0) := by
  have hi : i < L.length := by omega
  have := List.pairwise_iff_getElem.mp h i j hi hj hij
  rw [List.getD_eq_getElem?_getD, List.getD_eq_getElem?_getD, List.getElem?_eq_getElem hi, List.getElem?_eq_getElem hj]
  exact this
theorem getD_mem {L : List Int} {i : Nat} (h : i < L.length) : L.getD i 0 ∈ L := by
  rw [List.getD_eq_getElem?_getD, List.getElem?_eq_getElem h]
  exact List.getElem_mem h
theorem SR.at (hL : LW E G) (h : SR G a) {i : Int} (h0 : 0 ≤ i) (h1 : i < (seenL G a).length) : alAt G (gfd G 7 1 a) i = (seenL G a).getD i.toNat 0 ∧ i < gfd G 13 2 (gfd G 7 1 a) := by
  have e := hL.size h.2.1 h.2.2.1
  have := alAt_get hL h.2.1 h.2.2.1 (i := i.toNat) (by show i.toNat < (seenL G a).length; omega)
  rw [show ((i.toNat : Nat) : Int) = i by omega] at this
  exact ⟨this, by rw [e]; exact h1⟩
theorem v_countAhead {t : Int} (hL : LW E G) (h : SR G a) : ∀ (k : Nat), k ≤ (seenL G a).length → (∀ i, k ≤ i → i < (seenL G a).length → t ≤ sT G ((seenL G a).getD i 0)) →
    V E M_X7_countAhead 8 [some (rv a), some (iv t), some (iv (k : Int))] [] G c s (fun r G' => r = cAh G a t ∧ G' = G) X := by
  intro k
  induction k with
  | zero =>
    intro hk ha
    refine b_X7_countAhead_8 ⟨fun _ => ⟨?_, rfl⟩, fun h9 => by omega⟩
    rw [show cAh G a t = 0 from count_of (T := sT G) hk (fun i hi => by omega) ha]
  | succ k ih =>
    intro hk ha
    have e0 : ((k + 1 : Nat) : Int) - 1 = (k : Int) := by omega
    have e1 : ((k + 1 : Nat) : Int) + (-1) = (k : Int) := by omega
    have hat := h.at hL (i := (k : Int)) (by omega) (by omega)
    have hm := h.2.2.2.1 _ (getD_mem (L := seenL G a) (i := k) (by omega))
    have hat1 : alAt G (gfd G 7 1 a) (k : Int) = (seenL G a).getD k 0 := hat.1
    have hle := h.2.2.2.2.2
    refine b_X7_countAhead_8 ⟨fun h9 => by omega, fun _ => ?_⟩
    rw [e0, e1, hat1]
    refine ⟨h.1, i32s (by omega), h.2.1, ?_, Or.inr hm.1, hm.1, fun h9 => ⟨?_, rfl⟩, fun h9 => ⟨i32s (by omega), ih (by omega) fun i hi hi2 => ?_⟩⟩
    · have := okp_get hL h.2.1 h.2.2.1 (i := (k : Int)) (by omega) hat.2
      rw [hat1] at this; exact this
    · have : cAh G a t = k + 1 := count_of (T := sT G) hk (fun i hi => ?_) ha
      · rw [this]
      · by_cases h8 : i = k
        · rw [h8]; exact h9
        · have := sort_lt h.2.2.2.2.1 (i := i) (j := k) (by omega) (by omega)
          have h9' : sT G ((seenL G a).getD k 0) < t := h9
          omega
    · by_cases h8 : i = k
      · rw [h8]; exact h9
      · exact ha i (by omega) hi2
theorem okp_countAhead {t : Int} (hL : LW E G) (h : SR G a) : OkP E M_X7_countAhead [rv a, iv t] G (cAh G a t) := by
  refine i_X7_countAhead ⟨h.1, h.2.1, okp_size h.2.1, ?_⟩
  rw [hL.size h.2.1 h.2.2.1]
  exact v_countAhead hL h (seenL G a).length (Nat.le_refl _) (fun i h1 h2 => by omega)
theorem cut {L : List Int} {T : Int → Int} {t : Int} (h : L.Pairwise (fun x y => T x < T y)) : ∀ n, n ≤ L.length → (∀ i, n ≤ i → i < L.length → t ≤ T (L.getD i 0)) → ∃ k, k ≤ n ∧ (∀ i, i < k → T (L.getD i 0) < t) ∧ ∀ i, k ≤ i → i < L.length → t ≤ T (L.getD i 0) := by
  intro n
  induction n with
  | zero => exact fun _ h2 => ⟨0, Nat.le_refl _, fun i hi => by omega, h2⟩
  | succ n ih =>
    intro hn h2
    by_cases h3 : T (L.getD n 0) < t
    · refine ⟨n + 1, Nat.le_refl _, fun i hi => ?_, h2⟩
      by_cases h4 : i = n
      · rw [h4]; exact h3
      · have := sort_lt h (i := i) (j := n) (by omega) (by omega)
        omega
    · obtain ⟨k, k1, k2, k3⟩ := ih (by omega) (fun i hi hi2 => by
        by_cases h4 : i = n
        · rw [h4]; omega
        · exact h2 i (by omega) hi2)
      exact ⟨k, by omega, k2, k3⟩
theorem cAh_spec (t : Int) (h : SR G a) : cAh G a t ≤ (seenL G a).length ∧ (∀ i, i < cAh G a t → sT G ((seenL G a).getD i 0) < t) ∧ ∀ i, cAh G a t ≤ i → i < (seenL G a).length → t ≤ sT G ((seenL G a).getD i 0) := by
  obtain ⟨k, k1, k2, k3⟩ := cut (T := sT G) (t := t) h.2.2.2.2.1 (seenL G a).length (Nat.le_refl _) (fun i h1 h2 => by omega)
  have : cAh G a t = k := count_of (T := sT G) k1 k2 k3
  rw [this]; exact ⟨k1, k2, k3⟩
theorem SR.get (hL : LW E G) (h : SR G a) {i : Int} (h0 : 0 ≤ i) (h1 : i < (seenL G a).length) : OkP E M_A_get [rv (gfd G 7 1 a), iv i] G (alAt G (gfd G 7 1 a) i) ∧ gcl G (alAt G (gfd G 7 1 a) i) = 6 ∧ alAt G (gfd G 7 1 a) i = (seenL G a).getD i.toNat 0 ∧ 0 ≤ sT G ((seenL G a).getD i.toNat 0) ∧ sT G ((seenL G a).getD i.toNat 0) ≤ 100000 := by
  have hat := h.at hL h0 h1
  have hm := h.2.2.2.1 _ (getD_mem (L := seenL G a) (i := i.toNat) (by omega))
  exact ⟨okp_get hL h.2.1 h.2.2.1 h0 hat.2, by rw [hat.1]; exact hm.1, hat.1, hm.2.1, hm.2.2.1⟩
/-- what a new sample is -/
def jdV (G : Gt) (a t v : Int) : Int :=
  if cAh G a t < (seenL G a).length ∧ sT G ((seenL G a).getD (cAh G a t) 0) = t then (if sV G ((seenL G a).getD (cAh G a t) 0) = v then 2 else 3)
  else if 0 < (seenL G a).length ∧ 100 < sT G ((seenL G a).getD ((seenL G a).length - 1) 0) - t then 4 else 0
theorem okp_judge {t v : Int} (hL : LW E G) (h : SR G a) (ht : 0 ≤ t ∧ t ≤ 100000) : OkP E M_X7_judge [rv a, iv t, iv v] G (jdV G a t v) := by
  have hsz := hL.size h.2.1 h.2.2.1
  have hsz' : gfd G 13 2 (gfd G 7 1 a) = (seenL G a).length := hsz
  have h60 := h.2.2.2.2.2
  have hc := cAh_spec t h
  refine i_X7_judge ⟨h.1, Call.pure (okp_countAhead hL h) ⟨h.1, h.2.1, okp_size h.2.1, fun J hJ => ?_⟩⟩
  have hJ' : ¬ (cAh G a t < (seenL G a).length ∧ sT G ((seenL G a).getD (cAh G a t) 0) = t) → J := fun hn => hJ (by
    refine ⟨h.1, h.2.1, okp_size h.2.1, i32s (by omega), fun h9 => ⟨?_, rfl⟩, fun h9 => ?_⟩
    · unfold jdV; rw [if_neg hn, if_neg (by omega)]
    · obtain ⟨g1, g2, g3, g4, g5⟩ := h.get hL (i := gfd G 13 2 (gfd G 7 1 a) - 1) h9 (by omega)
      have e1 : (gfd G 13 2 (gfd G 7 1 a) - 1).toNat = (seenL G a).length - 1 := by omega
      rw [e1] at g3 g4 g5
      rw [g3] at g1 g2 ⊢
      refine ⟨h.1, h.2.1, g1, Or.inr g2, g2, i32s (by unfold sT at g4 g5; omega), fun h8 => ⟨?_, rfl⟩, fun h8 => ⟨?_, rfl⟩⟩
      · unfold jdV; rw [if_neg hn, if_neg (by unfold sT; omega)]
      · unfold jdV; rw [if_neg hn, if_pos (by unfold sT; omega)])
  refine ⟨fun h9 => hJ' (by omega), fun h9 => ?_⟩
  obtain ⟨g1, g2, g3, g4, g5⟩ := h.get hL (i := (cAh G a t : Int)) (by omega) (by omega)
  rw [Int.toNat_natCast] at g3 g4 g5
  rw [g3] at g1 g2 ⊢
  refine ⟨h.1, h.2.1, g1, Or.inr g2, g2, fun h8 => hJ' (fun h7 => h8 h7.2), fun h8 => ⟨h.1, h.2.1, g1, Or.inr g2, g2, ?_, rfl⟩⟩
  unfold jdV
  exact (if_pos ⟨by omega, h8⟩).symm
/-- the latest sample at a time or ahead -/
def ltV (G : Gt) (a t : Int) : Int := if 0 < cAh G a (t + 1) ∧ t - sT G ((seenL G a).getD (cAh G a (t + 1) - 1) 0) ≤ 50 then (seenL G a).getD (cAh G a (t + 1) - 1) 0 else -1
theorem okp_latest {t : Int} (hL : LW E G) (h : SR G a) (ht : -100000 ≤ t ∧ t ≤ 100000) : OkP E M_X7_latest [rv a, iv t] G (ltV G a t) := by
  have h60 := h.2.2.2.2.2
  have hc := cAh_spec (t + 1) h
  refine i_X7_latest ⟨i32s (by omega), h.1, Call.pure (okp_countAhead hL h) ⟨i32s (by omega), fun h9 => ⟨?_, rfl⟩, fun h9 => ?_⟩⟩
  · unfold ltV; rw [if_neg (by omega)]
  · obtain ⟨g1, g2, g3, g4, g5⟩ := h.get hL (i := (cAh G a (t + 1) : Int) - 1) h9 (by omega)
    have e1 : ((cAh G a (t + 1) : Int) - 1).toNat = cAh G a (t + 1) - 1 := by omega
    rw [e1] at g3 g4 g5
    rw [g3] at g1 g2 ⊢
    refine ⟨h.1, h.2.1, g1, Or.inr g2, g2, i32s (by unfold sT at g4 g5; omega), fun h8 => ⟨h.1, h.2.1, g1, Or.inr g2, ?_, rfl⟩, fun h8 => ⟨?_, rfl⟩⟩
    · unfold ltV; rw [if_pos ⟨by omega, h8⟩]
    · unfold ltV; rw [if_neg (fun h7 => absurd h8 (Int.not_lt.mpr h7.2))]
theorem ok_show {bc bs : Nat} (hL : LW E G) (h : SR G a) (hx : gcl G x = 6) (hroom : addRoom G (gfd G 7 1 a) bc bs) :
    Ok E M_X7_show [rv a, rv x] G bc bs (fun _ G' => LU E G G' (gfd G 7 1 a) (insL (seenL G a) (cAh G a (sT G x)) x) (addCap G (gfd G 7 1 a))) (fun _ _ => False) := by
  have hsz' : gfd G 13 2 (gfd G 7 1 a) = (seenL G a).length := hL.size h.2.1 h.2.2.1
  have h60 := h.2.2.2.2.2
  have hc := cAh_spec (sT G x) h
  refine i_X7_show ⟨h.1, hx, h.1, Call.pure (okp_countAhead hL h) ⟨h.2.1, Call.to (ok_addAt hL h.2.1 h.2.2.1 (Or.inr (by unfold okE; omega)) (by omega) (by omega) (by show (cAh G a (sT G x) : Int) ≤ _; omega) hroom) (Nat.le_refl _) (Nat.le_refl _) fun r G1 hq => ?_⟩⟩
  exact hq
theorem ok_forget (hL : LW E G) (h : SR G a) (hx : gcl G x = 6) (hin : cAh G a (sT G x) < (seenL G a).length ∧ (seenL G a).getD (cAh G a (sT G x)) 0 = x) :
    Ok E M_X7_forget [rv a, rv x] G 0 0 (fun _ G' => LU E G G' (gfd G 7 1 a) ((seenL G a).eraseIdx (cAh G a (sT G x))) (capOf G (gfd G 7 1 a))) (fun _ _ => False) := by
  have hsz' : gfd G 13 2 (gfd G 7 1 a) = (seenL G a).length := hL.size h.2.1 h.2.2.1
  refine i_X7_forget ⟨hx, h.1, Call.pure (okp_countAhead hL h) ⟨h.1, h.2.1, okp_size h.2.1, fun h9 => ?_, fun h9 => ?_⟩⟩
  · have h9' : gfd G 13 2 (gfd G 7 1 a) ≤ (cAh G a (sT G x) : Int) := h9
    omega
  · obtain ⟨g1, g2, g3, g4, g5⟩ := h.get hL (i := (cAh G a (sT G x) : Int)) (by omega) (by omega)
    rw [Int.toNat_natCast] at g3
    refine ⟨h.1, h.2.1, g1, fun h8 => (h8 (g3.trans hin.2)).elim, fun h8 => ⟨h.1, h.2.1, Call.to (ok_remove hL h.2.1 h.2.2.1 (by omega) (by omega)) (Nat.le_refl _) (Nat.le_refl _) fun r G1 hq => ?_⟩⟩
    exact hq.2
end S35
