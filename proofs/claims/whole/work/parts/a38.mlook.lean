/-! the model looks at a series -/
section Sa38
variable {E : EE} {G G' G2 G0 : Gt} {c s : Nat} {Q X : Int → Gt → Prop} {m ml mr t v b l n r u s9 x i nn time two what lo hi n20 : Int} {k j : Nat} {ser : List Int} {smp : List (Sm4 × Int)} {sm : List Sm4} {d : DS} {R A B S9 L9 : List (Int × Int)} {W W' : Nat → Int}
def NX (n hi : Int) : List (Int × Int) → Prop
  | [] => n = -1 ∨ hi < n
  | y :: _ => n = y.1
theorem inT_iff {y : Int × Int} : inT lo hi y = true ↔ lo ≤ y.1 ∧ y.1 ≤ hi := by
  unfold inT
  rw [Bool.and_eq_true, decide_eq_true_eq, decide_eq_true_eq]
theorem nxB (hasc : ascL S9) (h0 : ∀ y ∈ S9, 0 ≤ y.1) (hL : S9.filter (inT lo hi) = A ++ B) (hA : ∀ z ∈ A, z.1 ≤ b) (hB : ∀ z ∈ B, b < z.1) (hlo : lo ≤ b + 1) : NX (nxL b S9) hi B := by
  have hascL : ascL (A ++ B) := by rw [← hL]; exact List.Pairwise.filter _ hasc
  have mem : ∀ z, z ∈ A ++ B ↔ z ∈ S9 ∧ lo ≤ z.1 ∧ z.1 ≤ hi := fun z => by rw [← hL, List.mem_filter, inT_iff]
  rcases nxL_spec (b := b) h0 hasc with ⟨a1, a2⟩ | ⟨a1, a2, ⟨v, a3⟩, a4⟩
  · cases B with
    | nil => exact Or.inl a1
    | cons y B =>
      have h1 := (mem y).mp (List.mem_append_right _ List.mem_cons_self)
      have h2 := a2 y h1.1
      have h3 := hB y List.mem_cons_self
      omega
  · cases B with
    | nil =>
      refine Or.inr ?_
      by_cases h9 : nxL b S9 ≤ hi
      · have h1 : ((nxL b S9, v) : Int × Int) ∈ A ++ [] := (mem _).mpr ⟨a3, by show lo ≤ nxL b S9; omega, h9⟩
        rw [List.append_nil] at h1
        have h2 : nxL b S9 ≤ b := hA _ h1
        omega
      · omega
    | cons y B =>
      have h1 := (mem y).mp (List.mem_append_right _ List.mem_cons_self)
      have h3 := hB y List.mem_cons_self
      have h4 := a4 y h1.1 h3
      show nxL b S9 = y.1
      have h5 : ((nxL b S9, v) : Int × Int) ∈ A ++ y :: B := (mem _).mpr ⟨a3, by show lo ≤ nxL b S9; omega, by show nxL b S9 ≤ hi; omega⟩
      rcases List.mem_append.mp h5 with h6 | h6
      · have h7 : nxL b S9 ≤ b := hA _ h6
        omega
      · rcases List.mem_cons.mp h6 with h7 | h7
        · rw [← h7]
        · have h8 : y.1 < nxL b S9 := (List.pairwise_cons.mp (List.pairwise_append.mp hascL).2.1).1 _ h7
          omega
theorem v_look231 (hsx : SX E G m s9 l smp) (hcode : OkP E M_X12_codeOfSeries [rv m, iv s9] G (mCode G m s9)) (hw : 2 ≤ what ∧ what ≤ 7) (h2 : 1 ≤ two ∧ two ≤ 1000) (ht : 0 ≤ time ∧ time ≤ 100000) (hlen : (seeT l (smp.map (·.1))).length ≤ 60)
    {PA : Int → Gt → Prop} (hadd : ∀ v, Ok E M_X12_add [rv m, iv (mCode G m s9), jv v] G 0 0 (fun _ G' => PA v G') (fun _ _ => False))
    (hN : ctV (gaP ((seeT l (smp.map (·.1))).filter (inT (time - two + 1) time)) (fun _ => 0)) what = 0 → Q 0 G)
    (hY : ctV (gaP ((seeT l (smp.map (·.1))).filter (inT (time - two + 1) time)) (fun _ => 0)) what ≠ 0 → ∀ G', PA (toV (gaP ((seeT l (smp.map (·.1))).filter (inT (time - two + 1) time)) (fun _ => 0)) what two time) G' → Q 0 G') :
    ∀ (B A : List (Int × Int)) (n20 : Int), (seeT l (smp.map (·.1))).filter (inT (time - two + 1) time) = A ++ B → NX n20 time B → -1 ≤ n20 →
      V E M_X12_looksAt 231 [some (rv m), none, some (iv s9), some (iv time), some (iv what), some (iv two), some (iv (gaP A (fun _ => 0) 0)), some (jv (gaP A (fun _ => 0) 4)), none, some (jv (gaP A (fun _ => 0) 5)), none, some (jv (gaP A (fun _ => 0) 6)), none, some (jv (gaP A (fun _ => 0) 7)), none, some (jv (gaP A (fun _ => 0) 8)), none, some (iv (gaP A (fun _ => 0) 1)), some (iv (gaP A (fun _ => 0) 3)), some (iv (gaP A (fun _ => 0) 2)), some (iv n20), none, none, none, none, none, none] [] G c s Q X := by
  have hasc := seeT_asc (l := l) hsx.2.2.2.2.2
  have hbt : ∀ y ∈ seeT l (smp.map (·.1)), (0 ≤ y.1 ∧ y.1 ≤ 100000) ∧ vOk y.2 := fun y hy => ⟨⟨(hsx.at hy).1, (hsx.at hy).2.1⟩, (hsx.at hy).2.2⟩
  have hfl : ((seeT l (smp.map (·.1))).filter (inT (time - two + 1) time)).length ≤ 60 := Nat.le_trans (List.length_filter_le _ _) hlen
  intro B
  induction B with
  | nil =>
    intro A n20 hL hnx hn1
    rw [List.append_nil] at hL
    have hg := gaP_ok A (by rw [← hL]; exact List.Pairwise.filter _ hasc) (by rw [← hL]; omega) (fun y hy => hbt y (by rw [← hL] at hy; exact (List.mem_filter.mp hy).1))
    have hrng := gaP_in (lo := time - two + 1) (hi := time) A (fun _ => 0) (Int.le_refl 0) (fun y hy => by rw [← hL] at hy; exact inT_iff.mp (List.mem_filter.mp hy).2) (fun h9 => absurd h9 (Int.lt_irrefl 0))
    rw [hL] at hN hY
    generalize gaP A (fun _ => 0) = W at hg hrng hN hY ⊢
    obtain ⟨g1, g2, g3, g4⟩ := hg
    refine b_X12_looksAt_231 fun J1 hJ1 => ?_
    have j1 : J1 := hJ1 (fun J2 hJ2 => by
      have j2 : (what = 7 → W 0 ≤ 1) → J2 := by
        intro hj
        refine hJ2 ⟨fun h7 => hN ?_, fun h7 => ⟨fun h0 => hN ?_, fun h0 => ?_⟩⟩
        · have := hj h7
          unfold ctV
          rw [if_pos (by rw [if_pos h7]; omega)]
        · unfold ctV
          rw [if_pos (by rw [if_neg h7]; omega)]
        · obtain ⟨b1, b3, b4, b5, b6, b7, b8⟩ := g1.2.2 h0
          have b0 := g1.2.1
          have hct : ctV W what ≠ 0 := by
            unfold ctV
            rw [if_neg (by rw [if_neg h7]; omega)]; decide
          have ev : (if what = 6 then W 7 else if what = 2 then 1000 * W 0 else if what = 3 then 1000 * W 4 else if what = 4 then 1000 * W 5 else 1000 * W 6) = toV W what two time := by
            unfold toV
            by_cases e2 : what = 2
            · rw [if_neg (by omega), if_pos e2, if_pos e2]
            · by_cases e3 : what = 3
              · rw [if_neg (by omega), if_neg e2, if_pos e3, if_neg e2, if_pos e3]
              · by_cases e4 : what = 4
                · rw [if_neg (by omega), if_neg e2, if_neg e3, if_pos e4, if_neg e2, if_neg e3, if_pos e4]
                · by_cases e6 : what = 6
                  · rw [if_pos e6, if_neg e2, if_neg e3, if_neg e4, if_neg (by omega), if_pos e6]
                  · rw [if_neg e6, if_neg e2, if_neg e3, if_neg e4, if_neg e2, if_neg e3, if_neg e4, if_pos (by omega)]
          refine ⟨hsx.1.1, hcode, fun _ _ _ _ => i64s (by omega), fun _ _ _ _ => i64s (by omega), fun _ _ _ => i64s (by omega), fun _ _ => i64s (by omega), hsx.1.1, ?_⟩
          rw [ev]
          exact Call.to (hadd _) (Nat.zero_le _) (Nat.zero_le _) fun _ G' hp => hY hct G' hp
      refine ⟨fun h7 => j2 (fun h9 => (h7 h9).elim), fun h7 => ⟨fun h1 => j2 (fun _ => h1), fun h1 => ?_⟩⟩
      obtain ⟨b1, b3, b4, b5, b6, b7, b8⟩ := g1.2.2 (by omega)
      have b0 := g1.2.1
      have hlt := g4 h1
      have hr2 := hrng (by omega)
      have er : Int.tdiv (Int.tdiv (W 2 - W 1) (W 0 - 1)) 2 = rcV W := rfl
      have r1 := tdivb (x := W 2 - W 1) (y := W 0 - 1) (A := 100000) (by omega) (by omega)
      have r2 := tdivb (x := Int.tdiv (W 2 - W 1) (W 0 - 1)) (y := 2) (A := 100000) r1 (by omega)
      rw [er] at r2 ⊢
      have r3 := mulb (x := 1000 * W 8) (y := W 2 - W 1 + min (rcV W) (W 1 - (time - two)) + min (rcV W) (time - W 2)) (A := 200000000000) (B := 300000) (by omega) (by omega)
      have r4 := mulb (x := W 2 - W 1) (y := two) (A := 100000) (B := 1000) (by omega) (by omega)
      have r5 : 1 ≤ (W 2 - W 1) * two := by
        have := Int.mul_le_mul (a := 1) (b := 1) (c := W 2 - W 1) (d := two) (by omega) h2.1 (by omega) (by omega)
        omega
      have r6 := tdivb (x := 1000 * W 8 * (W 2 - W 1 + min (rcV W) (W 1 - (time - two)) + min (rcV W) (time - W 2))) (y := (W 2 - W 1) * two) (A := 60000000000000000) (by omega) r5
      have hct : ctV W what ≠ 0 := by
        unfold ctV
        rw [if_neg (by rw [if_pos h7]; omega)]; decide
      have ev : Int.tdiv (1000 * W 8 * (W 2 - W 1 + min (rcV W) (W 1 - (time - two)) + min (rcV W) (time - W 2))) ((W 2 - W 1) * two) = toV W what two time := by
        unfold toV rtV
        rw [if_neg (by omega), if_neg (by omega), if_neg (by omega), if_neg (by omega), if_neg (by omega), if_neg (by omega), Int.min_comm (rcV W) (W 1 - (time - two)), Int.min_comm (rcV W) (time - W 2)]
      refine ⟨i32s' (by omega), i32s' (by omega), by omega, i64s (by omega), i32s' (by omega), i32s' (by omega), okp_least, i64s (by omega), i32s' (by omega), okp_least, i64s (by omega), hsx.1.1, hcode, i64s (by omega), i64s (by omega), i64s (by omega), by omega, i64s (by omega), hsx.1.1, ?_⟩
      rw [ev]
      exact Call.to (hadd _) (Nat.zero_le _) (Nat.zero_le _) fun _ G' hp => hY hct G' hp)
    refine ⟨fun _ => j1, fun h9 => ⟨fun _ => j1, fun h8 => ?_⟩⟩
    rcases hnx with h7 | h7
    · exact (h9 h7).elim
    · omega
  | cons y B ih =>
    intro A n20 hL hnx hn1
    have hL2 : (seeT l (smp.map (·.1))).filter (inT (time - two + 1) time) = (A ++ [y]) ++ B := by rw [hL, List.append_assoc]; rfl
    have ymL : y ∈ (seeT l (smp.map (·.1))).filter (inT (time - two + 1) time) := by rw [hL]; exact List.mem_append_right _ List.mem_cons_self
    have ym := (List.mem_filter.mp ymL).1
    have yr := inT_iff.mp (List.mem_filter.mp ymL).2
    have hy := hbt y ym
    have hym2 : ((y.1, y.2) : Int × Int) ∈ seeT l (smp.map (·.1)) := ym
    have hascL : ascL (A ++ y :: B) := by rw [← hL]; exact List.Pairwise.filter _ hasc
    have hlA : A.length + 1 ≤ 60 := by
      rw [hL, List.length_append, List.length_cons] at hfl
      omega
    have hg := gaP_ok A (List.pairwise_append.mp hascL).1 (by omega) (fun z hz => hbt z (by
      have : z ∈ (seeT l (smp.map (·.1))).filter (inT (time - two + 1) time) := by rw [hL]; exact List.mem_append_left _ hz
      exact (List.mem_filter.mp this).1))
    have hlast : ∀ z ∈ A ++ [y], z.1 ≤ y.1 := fun z hz => by
      rcases List.mem_append.mp hz with h9 | h9
      · exact Int.le_of_lt ((List.pairwise_append.mp hascL).2.2 z h9 y List.mem_cons_self)
      · rw [List.mem_singleton.mp h9]; exact Int.le_refl _
    have hnxt : NX (nxL y.1 (seeT l (smp.map (·.1)))) time B := nxB hasc (fun z hz => (hbt z hz).1.1) hL2 hlast (fun z hz => (List.pairwise_cons.mp (List.pairwise_append.mp hascL).2.1).1 z hz) (by omega)
    have hnx1 : -1 ≤ nxL y.1 (seeT l (smp.map (·.1))) := by
      rcases nxL_spec (b := y.1) (fun z hz => (hbt z hz).1.1) hasc with ⟨a1, -⟩ | ⟨a1, -⟩ <;> omega
    have hsn := gaP_snoc A y (fun _ => 0)
    have hih := ih (A ++ [y]) _ hL2 hnxt hnx1
    rw [hsn] at hih
    have hz := gaP_zero A
    have hnx' : n20 = y.1 := hnx
    rw [hnx']
    have hyt := hy.1
    generalize gaP A (fun _ => 0) = W at hg hz hih ⊢
    obtain ⟨g1, g2, g3, g4⟩ := hg
    refine b_X12_looksAt_231 fun J1 hJ1 => ⟨fun h9 => by omega, fun _ => ⟨fun h9 => by omega, fun _ => ⟨hsx.1.1, Call.pure (hsx.va hym2) ⟨fun hst => ?_, fun hst => ?_⟩⟩⟩⟩
    · rw [if_pos hst] at hih
      exact ⟨hsx.1.1, Call.pure (hsx.nx y.1) hih⟩
    · rw [if_neg hst] at hih
      have hv9 : -1000000 ≤ y.2 ∧ y.2 ≤ 1000000 := by
        rcases hy.2 with h9 | h9
        · exact (hst h9).elim
        · exact h9
      have b0 := g1.2.1
      have bd := g1.2.2
      have bnd0 : (-1000000 * W 0 ≤ W 4 ∧ W 4 ≤ 1000000 * W 0) ∧ (-1000000000 ≤ W 7 ∧ W 7 ≤ 1000000000) ∧ (0 ≤ W 8 ∧ W 8 ≤ 2000000 * W 0) ∧ (-1000000 ≤ W 3 ∧ W 3 ≤ 1000000) := by
        by_cases h0 : W 0 = 0
        · rw [hz h0]; exact ⟨⟨by decide, by decide⟩, ⟨by decide, by decide⟩, ⟨by decide, by decide⟩, ⟨by decide, by decide⟩⟩
        · obtain ⟨b1, b3, b4, b5, b6, b7, b8⟩ := bd (by have := g1.1; omega)
          exact ⟨b4, b7, b8, b3⟩
      have g0 := g1.1
      have td := tdiv2 (x := 1000 * y.2 - W 7) (n := 1000000000) (by omega)
      refine ⟨i64s (by omega), fun _ => i64s (by omega), fun _ => i64s (by omega), fun _ => i64s (by omega), fun _ => i64s (by omega), fun _ _ => i32s' (by omega), i64s (by
        split
        · omega
        · split
          · split <;> omega
          · omega), i32s' (by omega), hsx.1.1, Call.pure (hsx.nx y.1) ?_⟩
      have q0 : incW W y.1 y.2 0 = W 0 + 1 := by
        unfold incW; by_cases h0 : W 0 = 0
        · rw [if_pos h0]; rfl
        · rw [if_neg h0]; rfl
      have q1 : incW W y.1 y.2 1 = if W 0 = 0 then y.1 else W 1 := by
        unfold incW; by_cases h0 : W 0 = 0
        · rw [if_pos h0, if_pos h0]; rfl
        · rw [if_neg h0, if_neg h0]; rfl
      have q2 : incW W y.1 y.2 2 = y.1 := rfl
      have q3 : incW W y.1 y.2 3 = y.2 := rfl
      have q4 : incW W y.1 y.2 4 = W 4 + y.2 := by
        unfold incW; by_cases h0 : W 0 = 0
        · rw [if_pos h0, hz h0]; show y.2 = 0 + y.2; omega
        · rw [if_neg h0]; rfl
      have q5 : incW W y.1 y.2 5 = if W 0 = 0 then y.2 else if W 5 ≤ y.2 then W 5 else y.2 := by
        unfold incW; by_cases h0 : W 0 = 0
        · rw [if_pos h0, if_pos h0]; rfl
        · rw [if_neg h0, if_neg h0]; show min (W 5) y.2 = _; split <;> omega
      have q6 : incW W y.1 y.2 6 = if W 0 = 0 then y.2 else if y.2 ≤ W 6 then W 6 else y.2 := by
        unfold incW; by_cases h0 : W 0 = 0
        · rw [if_pos h0, if_pos h0]; rfl
        · rw [if_neg h0, if_neg h0]; show max (W 6) y.2 = _; split <;> omega
      have q7 : incW W y.1 y.2 7 = if W 0 = 0 then 1000 * y.2 else W 7 + Int.tdiv (1000 * y.2 - W 7) 2 := by
        unfold incW; by_cases h0 : W 0 = 0
        · rw [if_pos h0, if_pos h0]; rfl
        · rw [if_neg h0, if_neg h0]; rfl
      have q8 : incW W y.1 y.2 8 = W 8 + if W 0 = 0 then 0 else if y.2 < W 3 then (if y.2 ≤ 0 then 0 else y.2) else y.2 - W 3 := by
        unfold incW; by_cases h0 : W 0 = 0
        · rw [if_pos h0, if_pos h0, hz h0]; rfl
        · rw [if_neg h0, if_neg h0]
          show W 8 + (if W 3 ≤ y.2 then y.2 - W 3 else max y.2 0) = _
          by_cases h1 : W 3 ≤ y.2
          · rw [if_pos h1, if_neg (by omega)]
          · rw [if_neg h1, if_pos (by omega)]
            split <;> omega
      rw [q0, q1, q2, q3, q4, q5, q6, q7, q8] at hih
      exact hih
end Sa38
