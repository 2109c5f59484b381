/-! the model: whether an entry is kept back -/
section Sa62
variable {E : EE} {G G' G2 G0 : Gt} {c s : Nat} {Q X : Int → Gt → Prop} {m l ml mr ih : Int} {k r : Nat} {d : DS} {es : List En} {x : En}
/-- what holds of an entry besides -/
def eI (e : En) : Prop := (e.2.1 = 0 → e.2.2.2.2 = 0) ∧ 0 ≤ e.1 ∧ e.1 ≤ 999
/-- an inhibitor is an alert; what holds of the entries -/
def RI (d : DS) : Prop := (∀ q ∈ dRl d, q.1.2.2.2 = -1 ∨ isA d q.1.2.2.2) ∧ ∀ q ∈ dRl d, ∀ e ∈ q.2.2, eI e
theorem v_kp13 (h : MH E G m d ml mr) (hi : DI d) (ha : isA d ih) (hK : ∀ y : Int, y = 0 ∨ y = 1 → (y ≠ 0 ↔ inhB (enT d ih) l = true) → V E M_X12_isKept 90 [some (rv m), none, some (iv l), some (iv y), none, some (iv 0)] [] G c s Q X) :
    ∀ (j k : Nat) (y : Int), k + j = (enT d ih).length → y = 0 ∨ y = 1 → (y ≠ 0 ↔ inhB ((enT d ih).take k) l = true) → V E M_X12_isKept 13 [some (rv m), none, some (iv l), some (iv y), some (iv ih), some (iv (k : Int))] [] G c s Q X := by
  obtain ⟨e1, e2, e3⟩ := h.ents ⟨ha.1, ha.2.1⟩
  have h8 := h.rl.2
  have hr1 := ha.1
  have hr2 := ha.2.1
  have a38 := h.1.1.fx 38 15 8
  have a40 := h.1.1.fx 40 15 192
  have a39 := h.1.1.fx 39 15 192
  have hg := h.k13
  intro j
  induction j with
  | zero =>
    intro k y hk hy hiff
    have e : k = (enT d ih).length := hk
    rw [e, List.take_length] at hiff
    refine b_X12_isKept_13 ⟨fun h9 => by omega, fun _ => ?_⟩
    rw [e1]
    exact ⟨hg, a38.1, by omega, by omega, fun _ => hK y hy hiff, fun h9 => by omega⟩
  | succ j jh =>
    intro k y hk hy hiff
    have hlt : k < (enT d ih).length := by omega
    have hm : ((dRl d).getD ih.toNat r0) ∈ dRl d := getD_mem' (by omega)
    have hok := (hi.2.2.2.2.2.2.2.1.2 _ hm).2.2.1 ((enT d ih).getD k e0) (getD_mem' hlt)
    have v39 := (e3 k hlt).1
    have v40 := (e3 k hlt).2.1
    refine b_X12_isKept_13 ⟨fun h9 => by omega, fun _ => ?_⟩
    rw [e1, v39, v40]
    refine ⟨hg, a38.1, by omega, by omega, fun h9 => by omega, fun _ => ⟨fun _ => hg, fun _ => i32s' (by omega), fun _ => i32s' (by omega), fun _ => a40.1, fun _ => by omega, fun _ => by omega, fun _ _ => hg, fun _ _ => i32s' (by omega), fun _ _ => i32s' (by omega), fun _ _ => a39.1, fun _ _ => by omega, fun _ _ => by omega, i32s' (by omega), jh (k + 1) _ (by omega) ?_ ?_⟩⟩
    · repeat' split
      all_goals first | exact Or.inl rfl | exact Or.inr rfl
    · have hT : inhB ((enT d ih).take (k + 1)) l = (inhB ((enT d ih).take k) l || decide (((enT d ih).getD k e0).2.1 ≠ 0 ∧ Int.tdiv ((enT d ih).getD k e0).1 100 = Int.tdiv l 100)) := by
        unfold inhB
        rw [takeS (d := e0) hlt, List.any_append, List.any_cons, List.any_nil, Bool.or_false]
      rw [hT]
      generalize (enT d ih).getD k e0 = x at hok
      have h21 := hok.2.2.1
      by_cases h0 : y = 0
      · have hF : inhB ((enT d ih).take k) l = false := by
          cases hh : inhB ((enT d ih).take k) l with
          | false => rfl
          | true => exact (hiff.mpr hh h0).elim
        rw [if_pos h0, hF, Bool.false_or]
        by_cases hc : x.2.1 ≠ 0 ∧ Int.tdiv x.1 100 = Int.tdiv l 100
        · rw [if_pos (by have := hc.1; omega), if_pos hc.2, decide_eq_true hc]
          exact ⟨fun _ => rfl, fun _ => by decide⟩
        · rw [decide_eq_false hc]
          by_cases h1 : x.2.1 = 1
          · rw [if_pos h1, if_neg (fun h9 => hc ⟨by omega, h9⟩)]
            exact ⟨fun h9 => absurd rfl h9, fun h9 => absurd h9 (by decide)⟩
          · rw [if_neg h1]
            exact ⟨fun h9 => absurd rfl h9, fun h9 => absurd h9 (by decide)⟩
      · rw [if_neg h0, hiff.mp h0, Bool.true_or]
        exact ⟨fun _ => rfl, fun _ => by decide⟩
theorem v_kp90 (h : MH E G m d ml mr) (hi : DI d) (hl : 0 ≤ l ∧ l ≤ 999) {B : Bool} (hK : ∀ y : Int, y = 0 ∨ y = 1 → (y ≠ 0 ↔ (B || silB d l) = true) → Q y G) :
    ∀ (j k : Nat) (y : Int), k + j = (dSil d).length → y = 0 ∨ y = 1 → (y ≠ 0 ↔ (B || ((dSil d).take k).any fun t => decide (dN d 0 ≤ t.2) && slT t.1 l) = true) → V E M_X12_isKept 90 [some (rv m), none, some (iv l), some (iv y), none, some (iv (k : Int))] [] G c s Q X := by
  obtain ⟨s1, s2, s3⟩ := h.2.2.2.2.2.2.2.2.2.2.2.1
  have e1 := h.2.1.1
  have a44 := h.1.1.fx 44 15 40
  have hg := h.k13
  intro j
  induction j with
  | zero =>
    intro k y hk hy hiff
    have e : k = (dSil d).length := hk
    rw [e, List.take_length] at hiff
    refine b_X12_isKept_90 ?_
    rw [s1]
    exact ⟨hg, fun _ => ⟨hy, hK y hy hiff⟩, fun h9 => by omega⟩
  | succ j jh =>
    intro k y hk hy hiff
    have hlt : k < (dSil d).length := by omega
    obtain ⟨v0, v1, v2, v3⟩ := s3 k hlt
    have hset := hi.2.2.2.2.2.2.2.2.1.2 _ (getD_mem' (v := (s0, (0 : Int))) hlt)
    have hsl : mIn ((dSil d).getD k (s0, 0)).1.1 ((dSil d).getD k (s0, 0)).1.2.1 ((dSil d).getD k (s0, 0)).1.2.2 l = slV ((dSil d).getD k (s0, 0)).1.1 ((dSil d).getD k (s0, 0)).1.2.1 ((dSil d).getD k (s0, 0)).1.2.2 l := sel_eq hset hl
    refine b_X12_isKept_90 ?_
    rw [s1, v3, v0, v1, v2, e1]
    refine ⟨hg, fun h9 => by omega, fun _ => ⟨fun _ => hg, fun _ => hg, fun _ => i32s' (by omega), fun _ => i32s' (by omega), fun _ => a44.1, fun _ => by omega, fun _ => by omega, fun _ _ => hg, fun _ _ => i32s' (by omega), fun _ _ => a44.1, fun _ _ => by omega, fun _ _ => by omega, fun _ _ => hg, fun _ _ => i32s' (by omega), fun _ _ => i32s' (by omega), fun _ _ => a44.1, fun _ _ => by omega, fun _ _ => by omega, fun _ _ => hg, fun _ _ => i32s' (by omega), fun _ _ => i32s' (by omega), fun _ _ => a44.1, fun _ _ => by omega, fun _ _ => by omega, fun _ _ => okp_isIn, i32s' (by omega), jh (k + 1) _ (by omega) ?_ ?_⟩⟩
    · repeat' split
      all_goals first | exact Or.inl rfl | exact Or.inr rfl
    · have hT : ((dSil d).take (k + 1)).any (fun t => decide (dN d 0 ≤ t.2) && slT t.1 l) = (((dSil d).take k).any (fun t => decide (dN d 0 ≤ t.2) && slT t.1 l) || (decide (dN d 0 ≤ ((dSil d).getD k (s0, 0)).2) && slT ((dSil d).getD k (s0, 0)).1 l)) := by
        rw [takeS (d := (s0, (0 : Int))) hlt, List.any_append, List.any_cons, List.any_nil, Bool.or_false]
      rw [hT, ← Bool.or_assoc]
      generalize (B || ((dSil d).take k).any fun t => decide (dN d 0 ≤ t.2) && slT t.1 l) = B9 at hiff
      rw [hsl]
      have hsT : slT ((dSil d).getD k (s0, 0)).1 l = decide (slV ((dSil d).getD k (s0, 0)).1.1 ((dSil d).getD k (s0, 0)).1.2.1 ((dSil d).getD k (s0, 0)).1.2.2 l ≠ 0) := rfl
      rw [hsT]
      generalize slV ((dSil d).getD k (s0, 0)).1.1 ((dSil d).getD k (s0, 0)).1.2.1 ((dSil d).getD k (s0, 0)).1.2.2 l = sv
      generalize ((dSil d).getD k (s0, 0)).2 = un
      by_cases h0 : y = 0
      · have hF : B9 = false := by
          cases hh : B9 with
          | false => rfl
          | true => exact (hiff.mpr hh h0).elim
        rw [if_pos h0, hF, Bool.false_or]
        by_cases h1 : un < dN d 0
        · rw [if_pos h1, decide_eq_false (by omega), Bool.false_and]
          exact ⟨fun h9 => absurd rfl h9, fun h9 => absurd h9 (by decide)⟩
        · rw [if_neg h1, decide_eq_true (by omega), Bool.true_and]
          by_cases h2 : sv = 0
          · rw [if_pos h2, decide_eq_false (fun h9 => h9 h2)]
            exact ⟨fun h9 => absurd rfl h9, fun h9 => absurd h9 (by decide)⟩
          · rw [if_neg h2, decide_eq_true h2]
            exact ⟨fun _ => rfl, fun _ => by decide⟩
      · rw [if_neg h0, hiff.mp h0, Bool.true_or]
        exact ⟨fun _ => rfl, fun _ => by decide⟩
/-- whether an entry of these labels isn't told -/
def kpB (d : DS) (r : Nat) (l : Int) : Bool := inhD2 d (ihD d r) l || silB d l
theorem om_isKept (h : MH E G m d ml mr) (hi : DI d) (hr : r < (dRl d).length) (hI : RI d) (hl : 0 ≤ l ∧ l ≤ 999) : Ok E M_X12_isKept [rv m, iv (r : Int), iv l] G c s (fun y G' => (y ≠ 0 ↔ kpB d r l = true) ∧ G' = G) (fun _ _ => False) := by
  have h8 := h.rl.2
  have a28 := h.1.1.fx 28 15 8
  have e28 : gel G (gfd G 12 28 m) (r : Int) = ihD d r := by
    rw [h.2.2.2.2.2.2.2.2.1.2.2.2 r (by omega), rz_at hr]; rfl
  have hm : ruD d r ∈ dRl d := getD_mem' hr
  have hq : ihD d r = -1 ∨ isA d (ihD d r) := hI.1 _ hm
  refine i_X12_isKept ?_
  rw [e28]
  refine ⟨h.k13, a28.1, by omega, by omega, ?_⟩
  have last : ∀ y : Int, y = 0 ∨ y = 1 → (y ≠ 0 ↔ inhD2 d (ihD d r) l = true) → V E M_X12_isKept 90 [some (rv m), none, some (iv l), some (iv y), none, some (iv 0)] [] G c s (fun y G' => (y ≠ 0 ↔ kpB d r l = true) ∧ G' = G) (fun _ _ => False) := fun y hy hiff =>
    v_kp90 h hi hl (B := inhD2 d (ihD d r) l) (fun y2 h2 h3 => ⟨h3, rfl⟩) (dSil d).length 0 y (Nat.zero_add _) hy (by rw [List.take_zero, List.any_nil, Bool.or_false]; exact hiff)
  rcases hq with hq | hq
  · rw [hq] at last ⊢
    refine b_X12_isKept_13 ⟨fun _ => last 0 (Or.inl rfl) ⟨fun h9 => absurd rfl h9, fun h9 => ?_⟩, fun h9 => absurd rfl h9⟩
    unfold inhD2 at h9
    rw [decide_eq_false (fun h8 => by have h7 := h8.1; omega), Bool.false_and] at h9
    cases h9
  · have e : inhD2 d (ihD d r) l = inhB (enT d (ihD d r)) l := by unfold inhD2; rw [decide_eq_true hq, Bool.true_and]
    rw [e] at last
    exact v_kp13 h hi hq last (enT d (ihD d r)).length 0 0 (Nat.zero_add _) (Or.inl rfl) ⟨fun h9 => absurd rfl h9, fun h9 => by rw [List.take_zero] at h9; cases h9⟩
end Sa62
