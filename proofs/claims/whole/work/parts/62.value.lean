/-! one value by another one -/
section S62
variable {E : EE} {G G' G2 : Gt} {c s : Nat} {Q X : Int → Gt → Prop} {a r q l u v n m p sp w : Int} {W : Nat → Nat → Int → Prop} {L A : Int → Prop}
def bnd (x : Int) : Prop := -100000000000000 ≤ x ∧ x ≤ 100000000000000
theorem wBd_in (x : Int) : bnd (wBd x) := by
  unfold wBd bnd
  repeat' split
  all_goals omega
theorem wBd_id {x : Int} (h : bnd x) : wBd x = x := by
  unfold bnd at h
  unfold wBd
  rw [if_neg (by omega), if_neg (by omega)]
def absV (x : Int) : Int := if 0 ≤ x then x else -x
def mulP (a b : Int) : Int := if Int.tdiv a 1000 = 0 then Int.tdiv a 1000 * b + Int.tdiv (Int.tmod a 1000 * b) 1000 else if Int.tdiv 100000000000000 (Int.tdiv a 1000) < b then 100000000000000 else Int.tdiv a 1000 * b + Int.tdiv (Int.tmod a 1000 * b) 1000
def mulV (l u : Int) : Int := if (if 0 ≤ l then (0 : Int) else 1) = (if 0 ≤ u then (0 : Int) else 1) then mulP (absV l) (absV u) else -(mulP (absV l) (absV u))
theorem absV_in {x : Int} (h : bnd x) : 0 ≤ absV x ∧ absV x ≤ 100000000000000 := by
  unfold bnd at h
  unfold absV
  split <;> omega
theorem mul_facts {a b : Int} (ha : 0 ≤ a ∧ a ≤ 100000000000000) (hb : 0 ≤ b ∧ b ≤ 100000000000000) :
    (0 ≤ Int.tdiv a 1000 ∧ Int.tdiv a 1000 ≤ 100000000000) ∧ (0 ≤ Int.tmod a 1000 ∧ Int.tmod a 1000 ≤ 999) ∧ (0 ≤ Int.tmod a 1000 * b ∧ Int.tmod a 1000 * b ≤ 999 * 100000000000000) ∧ (0 ≤ Int.tdiv (Int.tmod a 1000 * b) 1000 ∧ Int.tdiv (Int.tmod a 1000 * b) 1000 ≤ 99900000000000) ∧
    (Int.tdiv a 1000 ≠ 0 → b ≤ Int.tdiv 100000000000000 (Int.tdiv a 1000) → 0 ≤ Int.tdiv a 1000 * b ∧ Int.tdiv a 1000 * b ≤ 100000000000000) ∧
    (Int.tdiv a 1000 ≠ 0 → ¬ b ≤ Int.tdiv 100000000000000 (Int.tdiv a 1000) → 100000000000000 < Int.tdiv a 1000 * b) ∧
    a * b / 1000 = Int.tdiv a 1000 * b + Int.tdiv (Int.tmod a 1000 * b) 1000 := by
  have e1 : Int.tdiv a 1000 = a / 1000 := Int.tdiv_eq_ediv_of_nonneg ha.1
  have e2 : Int.tmod a 1000 = a % 1000 := Int.tmod_eq_emod_of_nonneg ha.1
  rw [e1, e2]
  have h1 : 0 ≤ a / 1000 ∧ a / 1000 ≤ 100000000000 := by omega
  have h2 : 0 ≤ a % 1000 ∧ a % 1000 ≤ 999 := by omega
  have h3 := mulb (x := a % 1000) (y := b) (A := 999) (B := 100000000000000) h2 hb
  have e3 : Int.tdiv (a % 1000 * b) 1000 = a % 1000 * b / 1000 := Int.tdiv_eq_ediv_of_nonneg h3.1
  rw [e3]
  have h4 : 0 ≤ a % 1000 * b / 1000 ∧ a % 1000 * b / 1000 ≤ 99900000000000 := by omega
  have e4 : Int.tdiv 100000000000000 (a / 1000) = 100000000000000 / (a / 1000) := Int.tdiv_eq_ediv_of_nonneg (by omega)
  rw [e4]
  refine ⟨h1, h2, h3, h4, fun h5 h6 => ⟨Int.mul_nonneg h1.1 hb.1, ?_⟩, fun h5 h6 => ?_, ?_⟩
  · have := Int.mul_le_mul_of_nonneg_left h6 h1.1
    have h7 := Int.mul_ediv_self_le (x := 100000000000000) (k := a / 1000) h5
    omega
  · have h7 : 100000000000000 / (a / 1000) + 1 ≤ b := by omega
    have := Int.mul_le_mul_of_nonneg_left h7 h1.1
    have h8 := Int.lt_mul_ediv_self_add (x := 100000000000000) (k := a / 1000) (by omega)
    rw [Int.mul_add, Int.mul_one] at this
    omega
  · have e5 : a * b = a % 1000 * b + 1000 * (a / 1000 * b) := by
      conv => lhs; rw [← Int.emod_add_mul_ediv a 1000]
      rw [Int.add_mul, Int.mul_assoc]
    rw [e5, Int.add_mul_ediv_left _ _ (by decide)]
    omega
theorem mulP_in {a b : Int} (ha : 0 ≤ a ∧ a ≤ 100000000000000) (hb : 0 ≤ b ∧ b ≤ 100000000000000) : 0 ≤ mulP a b ∧ mulP a b ≤ 199900000000000 ∧ wBd (mulP a b) = wBd (a * b / 1000) := by
  obtain ⟨h1, h2, h3, h4, h5, h6, h7⟩ := mul_facts ha hb
  unfold mulP
  by_cases c1 : Int.tdiv a 1000 = 0
  · rw [if_pos c1, h7, c1, Int.zero_mul]
    exact ⟨by omega, by omega, rfl⟩
  · rw [if_neg c1]
    by_cases c2 : Int.tdiv 100000000000000 (Int.tdiv a 1000) < b
    · rw [if_pos c2, h7]
      have := h6 c1 (by omega)
      refine ⟨by omega, by omega, ?_⟩
      unfold wBd
      rw [if_neg (by omega), if_neg (by omega), if_pos (by omega)]
    · rw [if_neg c2, h7]
      have := h5 c1 (by omega)
      exact ⟨by omega, by omega, rfl⟩
theorem wBd_neg (x : Int) : wBd (-x) = -(wBd x) := by
  unfold wBd
  by_cases h1 : 100000000000000 < x
  · rw [if_neg (by omega), if_pos (by omega), if_pos h1]
  · by_cases h2 : x < -100000000000000
    · rw [if_pos (by omega), if_neg h1, if_pos h2]; rfl
    · rw [if_neg (by omega), if_neg (by omega), if_neg h1, if_neg h2]
theorem mulV_in (hl : bnd l) (hu : bnd u) : (-199900000000000 ≤ mulV l u ∧ mulV l u ≤ 199900000000000) ∧ wBd (mulV l u) = wBd (Int.tdiv (l * u) 1000) := by
  have h := mulP_in (absV_in hl) (absV_in hu)
  have key : ∀ x y : Int, 0 ≤ x → 0 ≤ y → Int.tdiv (x * y) 1000 = x * y / 1000 := fun x y hx hy => Int.tdiv_eq_ediv_of_nonneg (Int.mul_nonneg hx hy)
  unfold mulV
  unfold absV at *
  by_cases c1 : 0 ≤ l
  · by_cases c2 : 0 ≤ u
    · simp only [if_pos c1, if_pos c2] at *
      rw [key l u c1 c2]
      exact ⟨by omega, h.2.2⟩
    · simp only [if_pos c1, if_neg c2] at *
      have e : Int.tdiv (l * u) 1000 = -(l * -u / 1000) := by
        rw [← key l (-u) c1 (by omega), Int.mul_neg, Int.neg_tdiv]; omega
      rw [if_neg (by decide), wBd_neg, e, wBd_neg, h.2.2]
      exact ⟨by omega, rfl⟩
  · by_cases c2 : 0 ≤ u
    · simp only [if_neg c1, if_pos c2] at *
      have e : Int.tdiv (l * u) 1000 = -(-l * u / 1000) := by
        rw [← key (-l) u (by omega) c2, Int.neg_mul, Int.neg_tdiv]; omega
      rw [if_neg (by decide), wBd_neg, e, wBd_neg, h.2.2]
      exact ⟨by omega, rfl⟩
    · simp only [if_neg c1, if_neg c2] at *
      have e : Int.tdiv (l * u) 1000 = -l * -u / 1000 := by
        rw [← key (-l) (-u) (by omega) (by omega), Int.neg_mul_neg]
      rw [e]
      exact ⟨by omega, h.2.2⟩
theorem okp_multiply (hl : bnd l) (hu : bnd u) : OkP E M_X2_multiply [jv l, jv u] G (mulV l u) := by
  have ha := absV_in hl
  have hb := absV_in hu
  obtain ⟨h1, h2, h3, h4, h5, h6, h7⟩ := mul_facts ha hb
  have hp := mulP_in ha hb
  unfold bnd at hl hu
  have q1 : Int.tdiv (absV l) 1000 = 0 → Int.tdiv (absV l) 1000 * absV u = 0 := fun h9 => by rw [h9, Int.zero_mul]
  refine i_X2_multiply ⟨fun _ => i64s (by omega), fun _ => i64s (by omega), fun h9 => ?_, fun _ => i64s ?_, fun h9 => ?_, fun h9 => h9, fun h9 => ?_, fun h9 h8 => ?_, fun _ _ => i64s ?_, fun h9 h8 => ?_, fun _ => ?_, ?_, rfl⟩
  · have := q1 h9
    exact i64s (by show _ ≤ Int.tdiv (absV l) 1000 * absV u ∧ Int.tdiv (absV l) 1000 * absV u ≤ _; omega)
  · show _ ≤ Int.tmod (absV l) 1000 * absV u ∧ Int.tmod (absV l) 1000 * absV u ≤ _
    omega
  · have := q1 h9
    exact i64s (by show _ ≤ Int.tdiv (absV l) 1000 * absV u + Int.tdiv (Int.tmod (absV l) 1000 * absV u) 1000 ∧ Int.tdiv (absV l) 1000 * absV u + Int.tdiv (Int.tmod (absV l) 1000 * absV u) 1000 ≤ _; omega)
  · have h10 : Int.tdiv (absV l) 1000 ≠ 0 := h9
    have := tdivb (x := 100000000000000) (y := Int.tdiv (absV l) 1000) (A := 100000000000000) (by omega) (by omega)
    exact i64s (by show _ ≤ Int.tdiv 100000000000000 (Int.tdiv (absV l) 1000) ∧ Int.tdiv 100000000000000 (Int.tdiv (absV l) 1000) ≤ _; omega)
  · have := h5 h9 h8
    exact i64s (by show _ ≤ Int.tdiv (absV l) 1000 * absV u ∧ Int.tdiv (absV l) 1000 * absV u ≤ _; omega)
  · show _ ≤ Int.tmod (absV l) 1000 * absV u ∧ Int.tmod (absV l) 1000 * absV u ≤ _
    omega
  · have := h5 h9 h8
    exact i64s (by show _ ≤ Int.tdiv (absV l) 1000 * absV u + Int.tdiv (Int.tmod (absV l) 1000 * absV u) 1000 ∧ Int.tdiv (absV l) 1000 * absV u + Int.tdiv (Int.tmod (absV l) 1000 * absV u) 1000 ≤ _; omega)
  · exact i64s (by show _ ≤ -(mulP (absV l) (absV u)) ∧ -(mulP (absV l) (absV u)) ≤ _; omega)
  · rfl
/-- a value that may still be out of its bounds -/
def rkV (k l u : Int) : Int := if k = 10 then l + u else if k = 11 then l - u else if k = 12 then mulV l u else if u = 0 then 0 else Int.tdiv (l * 1000) u
theorem tdiv_abs {x y A : Int} (hx : -A ≤ x ∧ x ≤ A) (hy : y ≠ 0) : -A ≤ Int.tdiv x y ∧ Int.tdiv x y ≤ A := by
  rcases Int.lt_or_gt_of_ne hy with h | h
  · have e : Int.tdiv x y = -(Int.tdiv x (-y)) := by rw [Int.tdiv_neg]; omega
    have := tdiv_in (a := x) (b := -y) (lo := -A) (hi := A) hx (by omega) (by omega)
    omega
  · exact tdiv_in hx (by omega) (by omega)
theorem rkV_in {k : Int} (hl : bnd l) (hu : bnd u) : -1000000000000000000 ≤ rkV k l u ∧ rkV k l u ≤ 1000000000000000000 := by
  have h := (mulV_in hl hu).1
  unfold bnd at hl hu
  unfold rkV
  split
  · omega
  · split
    · omega
    · split
      · omega
      · split
        · omega
        · rename_i h9
          have := tdiv_abs (x := l * 1000) (y := u) (A := 100000000000000000) (by omega) h9
          omega
theorem okp_reckonValue {k : Int} (hl : bnd l) (hu : bnd u) : OkP E M_X2_reckonValue [iv k, jv l, jv u] G (rkV k l u) := by
  have hl' := hl
  have hu' := hu
  unfold bnd at hl' hu'
  refine i_X2_reckonValue ⟨fun h => ⟨i64s (by omega), ?_, rfl⟩, fun h => ⟨i64s (by omega), ?_, rfl⟩, fun h => Call.pure (okp_multiply hl hu) ⟨?_, rfl⟩, fun h => ⟨fun _ => i64s (by omega), fun h9 => h9, fun h9 => ?_, ?_, rfl⟩⟩
  · unfold rkV; rw [if_pos h]
  · unfold rkV; rw [if_neg (by omega), if_pos h]
  · unfold rkV; rw [if_neg (by omega), if_neg (by omega), if_pos h]
  · have := tdiv_abs (x := l * 1000) (y := u) (A := 100000000000000000) (by omega) h9
    exact i64s (by omega)
  · unfold rkV; rw [if_neg (show ¬ k = 10 by omega), if_neg (show ¬ k = 11 by omega), if_neg (show ¬ k = 12 by omega)]
/-- the value that a join leaves for a label -/
def jnV (k l u w : Int) : Option Int := if k = 14 then (if u < l then some w else none) else if k = 13 ∧ u = 0 then none else some (rkV k l u)
/-- the spare result changes, and nothing else -/
def spF (E : EE) (G0 G : Gt) (sp : Int) : Prop := LW E G ∧ ONW G0 G ∧ FR G0 G (fun c k y => c = 3 ∧ 2 ≤ k ∧ y = sp) noA (fun y => y = gfd G0 3 0 sp ∨ y = gfd G0 3 1 sp)
theorem spF.refl (hL : LW E G) : spF E G G sp := ⟨hL, ONW.refl G, FR.refl G⟩
theorem spF.fd {G0 : Gt} (h : spF E G0 G sp) (hs : gcl G0 sp = 4) (k : Nat) (hk : k < 2) : gfd G 3 k sp = gfd G0 3 k sp := h.2.2.2.1 3 k sp (by decide) (by omega) (fun h9 => by omega)
theorem spF.ru {G0 : Gt} (h : spF E G0 G sp) (hs : RSh G sp) (h4 : gcl G0 sp = 4) (k : RU G G' sp) : spF E G0 G' sp := by
  have h0 := hs.2.1.1
  have h1 := hs.2.2.1.1
  refine ⟨k.lw h.1, h.2.1.trans k.onw, h.2.2.andThen (RU.fr h.1 k (by omega) (by omega)) (fun _ _ _ _ h9 => h9) (fun _ _ h9 => h9) (fun y _ h9 => ?_)⟩
  rw [h.fd h4 0 (by decide), h.fd h4 1 (by decide)] at h9; exact h9
theorem spF.row {G0 : Gt} {R : List (Int × Int)} (h : spF E G0 G sp) (hO : OW G0) (h4 : gcl G0 sp = 4) (hr : RowH G0 r n R) (hne : r ≠ sp) : RowH G r n R := by
  have g4 := hr.1.1
  have c0 := hr.1.2.1.1
  have c1 := hr.1.2.2.1.1
  have n0 := hO.nn (y := gfd G0 3 0 r) (by omega) (by omega)
  have n1 := hO.nn (y := gfd G0 3 1 r) (by omega) (by omega)
  refine hr.fr h.2.2 (fun j h9 => hne h9.2.2) (fun h9 => ?_) (fun h9 => ?_)
  · rcases h9 with h9 | h9
    · exact absurd h9 (hO.ne 3 0 3 0 g4 h4 n0 (fun h8 => hne h8.2.2))
    · exact absurd h9 (hO.ne 3 0 3 1 g4 h4 n0 (by omega))
  · rcases h9 with h9 | h9
    · exact absurd h9 (hO.ne 3 1 3 0 g4 h4 n1 (by omega))
    · exact absurd h9 (hO.ne 3 1 3 1 g4 h4 n1 (fun h8 => hne h8.2.2))
def putO (l : Int) (o : Option Int) (R : List (Int × Int)) : List (Int × Int) := match o with
  | none => R
  | some w => putL l w R
theorem ok_joinValues {k : Int} {R : List (Int × Int)} (hp : gcl G p = 3) (hsp : gfd G 2 2 p = sp) (h : RowH G sp 0 R) (ha : ascL R) (h12 : R.length < 12) (hl : bnd l) (hu : bnd u) (hq : ∀ y ∈ R, y.1 ≠ q) :
    Ok E M_X2_joinValues [rv p, iv k, jv l, jv u, iv q, jv w] G 0 0 (fun _ G' => RU G G' sp ∧ RowH G' sp 0 (putO q (jnV k l u w) R)) (fun _ _ => False) := by
  refine i_X2_joinValues ?_
  rw [hsp]
  refine ⟨fun hk => ?_, fun hk => ⟨fun h9 => ⟨RU.refl G sp, ?_⟩, fun h9 => ⟨hp, h.1.1, Call.to (ok_putR h ha h12) (Nat.le_refl _) (Nat.le_refl _) fun _ G1 h1 => ?_⟩⟩⟩
  · intro J hJ
    have hJ' : ¬ (k = 13 ∧ u = 0) → J := fun hn => hJ ⟨hp, Call.pure (okp_reckonValue hl hu) ⟨h.1.1, Call.to (ok_putR h ha h12) (Nat.le_refl _) (Nat.le_refl _) fun _ G1 h1 => by
      unfold jnV
      rw [if_neg hk, if_neg hn]
      exact h1⟩⟩
    exact ⟨fun h9 => hJ' (fun h8 => h9 h8.1), fun h9 => ⟨fun h8 => ⟨RU.refl G sp, by unfold jnV; rw [if_neg hk, if_pos ⟨h9, h8⟩]; exact h⟩, fun h8 => hJ' (fun h7 => h8 h7.2)⟩⟩
  · unfold jnV
    rw [if_pos hk, if_neg (by omega)]; exact h
  · unfold jnV
    rw [if_pos hk, if_pos h9]; exact h1
theorem ok_joinNumbers {k : Int} {R : List (Int × Int)} (hp : gcl G p = 3) (hsp : gfd G 2 2 p = sp) (h : RowH G sp n R) (hl : bnd l) (hu : bnd u) :
    Ok E M_X2_joinNumbers [rv p, iv k, jv l, jv u] G 0 0 (fun rr G' => rr = (if k = 13 ∧ u = 0 then 0 else 1) ∧ RU G G' sp ∧ RowH G' sp 1 [(666, if k = 14 then (if u < l then 1000 else 0) else rkV k l u)]) (fun _ _ => False) := by
  refine i_X2_joinNumbers ?_
  rw [hsp]
  refine ⟨fun hk => ⟨hp, Call.pure (okp_reckonValue hl hu) ⟨h.1.1, Call.to (ok_num h) (Nat.le_refl _) (Nat.le_refl _) fun _ G1 h1 => ?_⟩⟩, fun hk => ⟨hp, h.1.1, Call.to (ok_num h) (Nat.le_refl _) (Nat.le_refl _) fun _ G1 h1 => ?_⟩⟩
  · rw [if_neg hk]
    have e : (if k = 13 then ((if u = 0 then (0 : Int) else 1) : Int) else 1) = if k = 13 ∧ u = 0 then 0 else 1 := by
      by_cases h1 : k = 13
      · by_cases h2 : u = 0
        · rw [if_pos h1, if_pos h2, if_pos ⟨h1, h2⟩]
        · rw [if_pos h1, if_neg h2, if_neg (fun h9 => h2 h9.2)]
      · rw [if_neg h1, if_neg (fun h9 => h1 h9.1)]
    rw [e]
    exact ⟨by split <;> simp, rfl, h1⟩
  · rw [if_pos hk, if_neg (by omega)]
    refine ⟨rfl, h1.1, ?_⟩
    have e : (if l ≤ u then (0 : Int) else 1000) = if u < l then 1000 else 0 := by
      by_cases h9 : l ≤ u
      · rw [if_pos h9, if_neg (by omega)]
      · rw [if_neg h9, if_pos (by omega)]
    rw [← e]; exact h1.2
end S62
