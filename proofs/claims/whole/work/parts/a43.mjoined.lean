/-! the model joins two values -/
section Sa43
variable {E : EE} {G G' G2 G0 Gs : Gt} {c s : Nat} {Q X : Int → Gt → Prop} {m v b l r u x i nn set g kk : Int} {k j n : Nat} {R A B F T : List (Int × Int)} {S : List Rw}
def JnQ (E : EE) (G G' : Gt) (m kk l u r : Int) : Prop := MU E G G' m (fun j => j = 51) ∧ gfd G' 12 51 m = (if kk = 14 then (if u < l then 1 else 0) else if kk = 13 ∧ u = 0 then 0 else 1) ∧ r = (if kk = 14 then l else wBd (rkV kk l u))
theorem wBd_hi (h : 100000000000000 ≤ x) : wBd x = 100000000000000 := by
  unfold wBd
  repeat' split
  all_goals omega
theorem wBd_lo (h : x ≤ -100000000000000) : wBd x = -100000000000000 := by
  unfold wBd
  repeat' split
  all_goals omega
theorem tdiv_ge {p : Int} (h : 100000000000000000 ≤ p) : 100000000000000 ≤ Int.tdiv p 1000 := by
  rw [Int.tdiv_eq_ediv_of_nonneg (by omega)]
  omega
/-- a product that would not fit is at the bound -/
theorem mul_over {a b : Int} (hb : 0 < b) (h : ¬ a ≤ Int.tdiv 100000000000000000 b) : 100000000000000000 ≤ a * b := by
  have e : Int.tdiv 100000000000000000 b = 100000000000000000 / b := Int.tdiv_eq_ediv_of_nonneg (by decide)
  rw [e] at h
  have h1 : 100000000000000000 / b + 1 ≤ a := by omega
  have h2 := Int.mul_le_mul_of_nonneg_right h1 (Int.le_of_lt hb)
  have h3 := Int.lt_ediv_add_one_mul_self 100000000000000000 hb
  omega
theorem mul_under {a b : Int} (ha : 0 ≤ a) (hb : 0 < b) (h : a ≤ Int.tdiv 100000000000000000 b) : 0 ≤ a * b ∧ a * b ≤ 100000000000000000 := by
  have e : Int.tdiv 100000000000000000 b = 100000000000000000 / b := Int.tdiv_eq_ediv_of_nonneg (by decide)
  rw [e] at h
  have h2 := Int.mul_le_mul_of_nonneg_right h (Int.le_of_lt hb)
  have h3 := Int.ediv_mul_le 100000000000000000 (Int.ne_of_gt hb)
  exact ⟨Int.mul_nonneg ha (Int.le_of_lt hb), by omega⟩
theorem om_joined (hs : MSh E G m) (hL : LW E G) (hO : OW G) (hk : 10 ≤ kk ∧ kk ≤ 14) (hl : bnd l) (hu : bnd u) : Ok E M_X12_joined [rv m, iv kk, jv l, jv u] G c s (fun r G' => JnQ E G G' m kk l u r) (fun _ _ => False) := by
  have hU : MU E G G m (fun j => j = 51) := MU.refl hs hL hO
  unfold bnd at hl hu
  have z1 : ∀ y : Int, gfd (sfd G 12 51 m y) 12 51 m = y := fun y => by rw [gfd_sfd, if_pos ⟨rfl, rfl, rfl⟩]
  have h01 : (if kk = 13 then ((if u = 0 then (0 : Int) else 1) : Int) else 1) = 0 ∨ (if kk = 13 then ((if u = 0 then (0 : Int) else 1) : Int) else 1) = 1 := by
    by_cases h1 : kk = 13
    · rw [if_pos h1]
      by_cases h2 : u = 0
      · rw [if_pos h2]; exact Or.inl rfl
      · rw [if_neg h2]; exact Or.inr rfl
    · rw [if_neg h1]; exact Or.inr rfl
  refine i_X12_joined ⟨hs.1, h01, fun G5 e5 => ?_⟩
  have k5 : MU E G G5 m (fun j => j = 51) := by rw [e5]; exact hU.mSfd (by decide) rfl
  have v5 : gfd G5 12 51 m = (if kk = 13 then (if u = 0 then (0 : Int) else 1) else 1) := by rw [e5]; exact z1 _
  refine ⟨fun h9 => ⟨i64s (by omega), okp_bounded, k5, ?_, ?_⟩, fun h9 => ⟨i64s (by omega), okp_bounded, k5, ?_, ?_⟩, fun h9 => ?_, fun h9 => ?_, fun h9 => ?_⟩
  · rw [v5, if_neg (by omega), if_neg (by omega), if_neg (by omega)]
  · rw [if_neg (by omega)]
    unfold rkV
    rw [if_pos h9]
  · rw [v5, if_neg (by omega), if_neg (by omega), if_neg (by omega)]
  · rw [if_neg (by omega)]
    unfold rkV
    rw [if_neg (by omega), if_pos h9]
  · -- a product
    have er : wBd (rkV kk l u) = wBd (Int.tdiv (l * u) 1000) := by
      have e : rkV kk l u = mulV l u := by unfold rkV; rw [if_neg (by omega), if_neg (by omega), if_pos h9]
      rw [e]
      exact (mulV_in (by unfold bnd; omega) (by unfold bnd; omega)).2
    have au : 0 ≤ (if 0 ≤ u then (u : Int) else (-u)) ∧ (if 0 ≤ u then (u : Int) else (-u)) ≤ 100000000000000 := by split <;> omega
    have al : 0 ≤ (if 0 ≤ l then (l : Int) else (-l)) ∧ (if 0 ≤ l then (l : Int) else (-l)) ≤ 100000000000000 := by split <;> omega
    have hsg : (if 0 ≤ l then (l : Int) else (-l)) * (if 0 ≤ u then (u : Int) else (-u)) = if (0 ≤ l) = (0 ≤ u) then l * u else -(l * u) := by
      by_cases h1 : 0 ≤ l <;> by_cases h2 : 0 ≤ u
      · rw [if_pos h1, if_pos h2, if_pos (by rw [eq_true h1, eq_true h2])]
      · rw [if_pos h1, if_neg h2, if_neg (by rw [eq_true h1, eq_false h2]; exact fun h3 => by cases (h3 ▸ trivial : False)), Int.mul_neg]
      · rw [if_neg h1, if_pos h2, if_neg (by rw [eq_false h1, eq_true h2]; exact fun h3 => by cases (h3.symm ▸ trivial : False)), Int.neg_mul]
      · rw [if_neg h1, if_neg h2, if_pos (by rw [eq_false h1, eq_false h2]), Int.neg_mul_neg]
    have hz : (if 0 ≤ u then (u : Int) else (-u)) = 0 → u = 0 := fun h8 => by split at h8 <;> omega
    have hsl : 0 ≤ l ∨ l < 0 := by omega
    have hsu : 0 ≤ u ∨ u < 0 := by omega
    have hlz : (if 0 ≤ l then (l : Int) else (-l)) = 0 → l = 0 := fun h8 => by split at h8 <;> omega
    generalize (if 0 ≤ u then (u : Int) else (-u)) = b at au hsg hz ⊢
    generalize (if 0 ≤ l then (l : Int) else (-l)) = a at al hsg hlz ⊢
    have hpm : l * u = a * b ∨ l * u = -(a * b) := by
      split at hsg <;> omega
    have hflag : ∀ r, r = wBd (rkV kk l u) → JnQ E G G5 m kk l u r := fun r h8 => ⟨k5, by rw [v5, if_neg (by omega), if_neg (by omega), if_neg (by omega)], by rw [if_neg (by omega)]; exact h8⟩
    have hund : (if b ≤ 0 then (0 : Int) else (if a ≤ (Int.tdiv 100000000000000000 b) then (0 : Int) else 1)) = 0 → 0 ≤ a * b ∧ a * b ≤ 100000000000000000 := fun h8 => by
      by_cases h7 : b ≤ 0
      · have : b = 0 := by omega
        rw [this, Int.mul_zero]; exact ⟨by decide, by decide⟩
      · rw [if_neg h7] at h8
        by_cases h6 : a ≤ Int.tdiv 100000000000000000 b
        · exact mul_under al.1 (by omega) h6
        · rw [if_neg h6] at h8; exact absurd h8 (by decide)
    have htd : ∀ h7 : 0 < b, -100000000000000000 ≤ Int.tdiv 100000000000000000 b ∧ Int.tdiv 100000000000000000 b ≤ 100000000000000000 := fun h7 => tdiv_in (by decide) (by decide) (by omega)
    refine ⟨fun _ => i64s (by omega), fun _ => i64s (by omega), fun h8 => by omega, fun h8 => i64s (by have := htd h8; omega), fun h8 => i64s (by have := hund h8; omega), fun _ => okp_bounded, hflag _ ?_⟩
    rw [er]
    by_cases h8 : (if b ≤ 0 then (0 : Int) else (if a ≤ (Int.tdiv 100000000000000000 b) then (0 : Int) else 1)) = 0
    · rw [if_pos h8]
    · rw [if_neg h8]
      have hb : 0 < b := by
        by_cases h7 : b ≤ 0
        · rw [if_pos h7] at h8; exact (h8 rfl).elim
        · omega
      rw [if_neg (by omega)] at h8
      have hov := mul_over hb (a := a) (fun h7 => by rw [if_pos h7] at h8; exact h8 rfl)
      have t1 := tdiv_ge hov
      rcases hsl with h1 | h1 <;> rcases hsu with h2 | h2
      · rw [if_pos h1, if_pos h2]
        have : l * u = a * b := by have := Int.mul_nonneg h1 h2; omega
        rw [this, wBd_hi t1]
      · rw [if_pos h1, if_neg (by omega)]
        have : l * u = -(a * b) := by have := Int.mul_nonneg h1 (show 0 ≤ -u by omega); rw [Int.mul_neg] at this; omega
        rw [this, Int.neg_tdiv, wBd_lo (by omega)]
      · rw [if_neg (by omega), if_pos h2]
        have : l * u = -(a * b) := by have := Int.mul_nonneg (show 0 ≤ -l by omega) h2; rw [Int.neg_mul] at this; omega
        rw [this, Int.neg_tdiv, wBd_lo (by omega)]
      · rw [if_neg (by omega), if_neg (by omega)]
        have : l * u = a * b := by have := Int.mul_nonneg (show 0 ≤ -l by omega) (show 0 ≤ -u by omega); rw [Int.neg_mul_neg] at this; omega
        rw [this, wBd_hi t1]
  · -- a quotient
    have hnz : gfd G5 12 51 m ≠ 0 → u ≠ 0 := fun h8 h7 => h8 (by rw [v5, if_pos h9, if_pos h7])
    refine ⟨k5.1.1, fun _ => i64s (by omega), hnz, fun h8 => i64s (by have := tdiv_abs (x := 1000 * l) (A := 100000000000000000) (by omega) (hnz h8); omega), fun _ => okp_bounded, k5, ?_, ?_⟩
    · rw [v5, if_pos h9, if_neg (show ¬ kk = 14 by omega)]
      by_cases h7 : u = 0
      · rw [if_pos h7, if_pos ⟨h9, h7⟩]
      · rw [if_neg h7, if_neg (fun h6 => h7 h6.2)]
    · rw [v5, if_pos h9, if_neg (show ¬ kk = 14 by omega)]
      unfold rkV
      rw [if_neg (show ¬ kk = 10 by omega), if_neg (show ¬ kk = 11 by omega), if_neg (show ¬ kk = 12 by omega)]
      by_cases h7 : u = 0
      · rw [if_pos h7, if_pos rfl, if_pos h7]; rfl
      · rw [if_neg h7, if_neg (show ¬ ((1 : Int) = 0) by decide), if_neg h7, Int.mul_comm l 1000]
  · have h14 : kk = 14 := by omega
    refine ⟨k5.1.1, by split <;> simp, fun G37 e37 => ⟨by rw [e37]; exact k5.mSfd (by decide) rfl, ?_, by rw [if_pos h14]⟩⟩
    rw [e37, gfd_sfd, if_pos ⟨rfl, rfl, rfl⟩, if_pos h14]
    by_cases h7 : u < l
    · rw [if_pos h7, if_neg (by omega)]
    · rw [if_neg h7, if_pos (by omega)]
end Sa43
