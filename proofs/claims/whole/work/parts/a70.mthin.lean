/-! the model thins: the loop -/
section Sa70
variable {E : EE} {G G' G2 G0 : Gt} {c s : Nat} {Q X : Int → Gt → Prop} {m ml mr i l u w t v : Int} {k n j : Nat} {d : DS}
theorem v_mthin (h : MH E G m d ml mr) (hi : DI d) (hr : inS d i) (hl : l = 10 ∨ l = 100) (hu : 0 ≤ u ∧ u ≤ 10000) (hQ : Q (tell4 (th4 (serC d i) l u (smS d)) w) G) :
    ∀ (j k : Nat), k + j = (dSmp d).length → V E M_X12_thinned 78 [some (rv m), some (iv i), some (iv l), some (iv u), some (iv w), some (iv ((th4 (serC d i) l u ((smS d).take k)).1 : Int)), some (iv (th4 (serC d i) l u ((smS d).take k)).2.1), some (iv (th4 (serC d i) l u ((smS d).take k)).2.2.1), some (iv (th4 (serC d i) l u ((smS d).take k)).2.2.2), some (iv (k : Int))] [] G c s Q X := by
  obtain ⟨h1, h2, ⟨l1, l2, l3, l4, l5⟩, h3⟩ := h.2.2.2.1
  have hg := h.k13
  have a7 := (h.1.1.gw 7 15).1
  have a8 := (h.1.1.gw 8 15).1
  have a9 := (h.1.1.gw 9 15).1
  have hlen : (smS d).length = (dSmp d).length := List.length_map ..
  intro j
  induction j with
  | zero =>
    intro k hk
    rw [List.take_of_length_le (by omega)]
    refine b_X12_thinned_78 ⟨hg, fun _ => ?_, fun h9 => by omega⟩
    exact hQ
  | succ j ih =>
    intro k hk
    have hlt : k < (dSmp d).length := by omega
    obtain ⟨k1, k2, k3⟩ := h.isSeen hlt
    have hown := h.2.2.2.1.own hi.1.1 hlt hr
    obtain ⟨-, v8, v9, v10, -⟩ := h3 k hlt
    have hx : (smS d).getD k (0, 0, 0, 0) = ((dSmp d).getD k z4).1 := smS_getD hlt
    have hmem : ((dSmp d).getD k z4).1 ∈ smS d := by rw [← hx]; exact getD_mem' (by omega)
    have hq := hi.1.2.2.2.1 _ hmem
    have h60 : (smS d).countP (own (serC d i)) ≤ 60 := Nat.le_trans (own_like _ _) (hi.1.2.2.2.2.1.basic.2 _)
    have hbd := th4_bd (l := l) (u := u) (cc := serC d i) (sm := (smS d).take k) (fun q hq9 => (hi.1.2.2.2.1 q (List.mem_of_mem_take hq9)).2.2.1) (Nat.le_trans (List.Sublist.countP_le (List.take_sublist k _)) h60)
    have hnext := ih (k + 1) (by omega)
    rw [takeS (d := ((0 : Int), (0 : Int), (0 : Int), (0 : Int))) (by omega), hx, th4_snoc] at hnext
    generalize ((dSmp d).getD k z4).1 = q at k2 hown v8 v9 v10 hq hnext
    generalize th4 (serC d i) l u ((smS d).take k) = A at hbd hnext
    have htd : 0 ≤ Int.tdiv (qT q) l ∧ Int.tdiv (qT q) l ≤ 100000 := by
      have := hq.2.1
      rw [Int.tdiv_eq_ediv_of_nonneg this.1]
      rcases hl with rfl | rfl <;> omega
    have hv := hq.2.2.1
    unfold vOk at hv
    have hl0 : l ≠ 0 := by omega
    have i3 : i32 ((k : Int) + 1) := i32s' (by omega)
    have lk7 : (k : Int) < gln G (gfd G 12 7 m) := by omega
    have lk8 : (k : Int) < gln G (gfd G 12 8 m) := by omega
    have lk9 : (k : Int) < gln G (gfd G 12 9 m) := by omega
    refine b_X12_thinned_78 ⟨hg, fun h9 => by omega, fun _ => ⟨hg, k1, fun hz => ⟨i3, ?_⟩, fun hz => ?_⟩⟩
    · rw [if_neg (fun h9 => by
        unfold thP at h9
        have := own_iff.mp (Bool.and_eq_true_iff.mp h9).1
        exact k2.mp hz this.1)] at hnext
      exact hnext
    · have hseen : qH q = 0 := Classical.byContradiction fun h9 => hz (k2.mpr h9)
      have ht : thP (serC d i) l u q = true ↔ gel G (gfd G 12 7 m) k = i ∧ qV q ≠ -2147483648 ∧ Int.tdiv (qT q) l = u := by
        unfold thP
        rw [Bool.and_eq_true_iff, Bool.and_eq_true_iff, own_iff, decide_eq_true_iff, decide_eq_true_iff, hown]
        exact ⟨fun h9 => ⟨h9.1.2, h9.2⟩, fun h9 => ⟨⟨hseen, h9.1⟩, h9.2⟩⟩
      rw [v8, v9]
      generalize gel G (gfd G 12 7 m) (k : Int) = sx at ht
      generalize Int.tdiv (qT q) l = td at htd ht
      generalize qV q = qv at hv ht hnext
      have hA1 : (0 : Int) ≤ A.1 := Int.natCast_nonneg _
      have e1 : (if sx = i then ((if qv = (-2147483648) then ((A.1 : Int) : Int) else (if td = u then (((A.1 : Int) + 1) : Int) else (A.1 : Int))) : Int) else (A.1 : Int)) = ((if thP (serC d i) l u q = true then q4s A qv else A).1 : Int) := by
        by_cases hp : thP (serC d i) l u q = true
        · obtain ⟨b1, b2, b3⟩ := ht.mp hp
          rw [if_pos b1, if_neg b2, if_pos b3, if_pos hp]; rfl
        · rw [if_neg hp]
          by_cases b1 : sx = i
          · rw [if_pos b1]
            by_cases b2 : qv = -2147483648
            · rw [if_pos b2]
            · rw [if_neg b2, if_neg (fun b3 => hp (ht.mpr ⟨b1, b2, b3⟩))]
          · rw [if_neg b1]
      have gen : ∀ (o n : Int), (if sx = i then ((if qv = (-2147483648) then (o : Int) else (if td = u then (n : Int) else o)) : Int) else o) = if thP (serC d i) l u q = true then n else o := fun o n => by
        by_cases hp : thP (serC d i) l u q = true
        · obtain ⟨b1, b2, b3⟩ := ht.mp hp
          rw [if_pos b1, if_neg b2, if_pos b3, if_pos hp]
        · rw [if_neg hp]
          by_cases b1 : sx = i
          · rw [if_pos b1]
            by_cases b2 : qv = -2147483648
            · rw [if_pos b2]
            · rw [if_neg b2, if_neg (fun b3 => hp (ht.mpr ⟨b1, b2, b3⟩))]
          · rw [if_neg b1]
      have hnext2 : V E M_X12_thinned 78 [some (rv m), some (iv i), some (iv l), some (iv u), some (iv w), some (iv (if thP (serC d i) l u q = true then (A.1 : Int) + 1 else A.1)), some (iv (if thP (serC d i) l u q = true then A.2.1 + qv else A.2.1)), some (iv (if thP (serC d i) l u q = true then (if (A.1 : Int) = 0 then qv else (if A.2.2.1 ≤ qv then A.2.2.1 else qv)) else A.2.2.1)), some (iv (if thP (serC d i) l u q = true then (if (A.1 : Int) = 0 then qv else (if qv ≤ A.2.2.2 then A.2.2.2 else qv)) else A.2.2.2)), some (iv ((k : Int) + 1))] [] G c s Q X := by
        by_cases hp : thP (serC d i) l u q = true
        · rw [if_pos hp] at hnext
          rw [if_pos hp, if_pos hp, if_pos hp, if_pos hp]
          have f1 : (if (A.1 : Int) = 0 then qv else (if A.2.2.1 ≤ qv then A.2.2.1 else qv)) = (q4s A qv).2.2.1 := by
            show _ = if A.1 = 0 then qv else min A.2.2.1 qv
            by_cases h0 : A.1 = 0
            · rw [if_pos h0, if_pos (by omega)]
            · rw [if_neg h0, if_neg (by omega)]
              split <;> omega
          have f2 : (if (A.1 : Int) = 0 then qv else (if qv ≤ A.2.2.2 then A.2.2.2 else qv)) = (q4s A qv).2.2.2 := by
            show _ = if A.1 = 0 then qv else max A.2.2.2 qv
            by_cases h0 : A.1 = 0
            · rw [if_pos h0, if_pos (by omega)]
            · rw [if_neg h0, if_neg (by omega)]
              split <;> omega
          rw [f1, f2]
          exact hnext
        · rw [if_neg hp] at hnext
          rw [if_neg hp, if_neg hp, if_neg hp, if_neg hp]
          exact hnext
      rw [← gen, ← gen, ← gen, ← gen] at hnext2
      clear hnext ih gen e1
      and_intros
      all_goals first | (intros; omega) | (intros; exact i32s' (by omega)) | exact hnext2
theorem om_thinned (h : MH E G m d ml mr) (hi : DI d) : Ok E M_X12_thinned [rv m, iv i, iv l, iv u, iv w] G c s (MqR E G m (cThinned d i l u w) tB ml mr) (fun _ _ => False) := by
  have hg := h.k13
  refine i_X12_thinned ⟨hg, okp_isSeries h.1.1 h.lb.1, fun _ _ => okp_in, fun _ _ _ => okp_in, fun _ _ _ => okp_in, fun _ _ _ _ => okp_in, hg, fun G15 e15 => ?_⟩
  rw [h.sr6.1] at e15
  have bad : ∀ e : Int, 0 < e → cThinned d i l u w = no (if e = 1 then 3 else 1) d → (e = 1 ∨ e = 2) → G15 = sfd G 12 0 m e → gcl G15 m = 13 ∧ (gfd G15 12 0 m ≤ 0 → V E M_X12_thinned 78 [some (rv m), some (iv i), some (iv l), some (iv u), some (iv w), some (iv 0), some (iv 0), some (iv 0), some (iv 0), some (iv 0)] [] G15 c s (MqR E G m (cThinned d i l u w) tB ml mr) (fun _ _ => False)) ∧ (0 < gfd G15 12 0 m → MqR E G m (cThinned d i l u w) tB ml mr 0 G15) := fun e he hb h12 e9 => by
    obtain ⟨k1, k2⟩ := h.thr e
    rw [← e9] at k1 k2
    refine ⟨k1.1.k13, fun h9 => by omega, fun _ => ?_⟩
    rw [hb]
    rcases h12 with rfl | rfl
    · exact MqR.nok (by decide) k2 k1
    · exact MqR.nok (by decide) k2 k1
  by_cases hr : inS d i
  · rw [if_neg (fun h9 => (inS_w i).mp h9 hr)] at e15
    have bad2 : ¬ ((l = 10 ∨ l = 100) ∧ (0 ≤ u ∧ u ≤ 10000) ∧ (0 ≤ w ∧ w ≤ 3)) → G15 = sfd G 12 0 m 2 → _ := fun hb e9 => bad 2 (by decide) (by rw [cThinned, if_pos hr, if_neg hb]; rfl) (Or.inr rfl) e9
    have fine : (l = 10 ∨ l = 100) ∧ (0 ≤ u ∧ u ≤ 10000) ∧ (0 ≤ w ∧ w ≤ 3) → G15 = sfd G 12 0 m 0 → gcl G15 m = 13 ∧ (gfd G15 12 0 m ≤ 0 → V E M_X12_thinned 78 [some (rv m), some (iv i), some (iv l), some (iv u), some (iv w), some (iv 0), some (iv 0), some (iv 0), some (iv 0), some (iv 0)] [] G15 c s (MqR E G m (cThinned d i l u w) tB ml mr) (fun _ _ => False)) ∧ (0 < gfd G15 12 0 m → MqR E G m (cThinned d i l u w) tB ml mr 0 G15) := fun hb e9 => by
      obtain ⟨k1, k2⟩ := h.thr 0
      rw [← e9] at k1 k2
      refine ⟨k1.1.k13, fun _ => ?_, fun h9 => by omega⟩
      refine v_mthin k1.1 hi hr hb.1 hb.2.1 ?_ (dSmp d).length 0 (Nat.zero_add _)
      rw [cThinned, if_pos hr, if_pos hb]
      exact MqR.ok k2 rfl (thinW_4 hi hb.1 hb.2.1.1).symm k1
    by_cases b1 : l = 10
    · rw [if_pos b1] at e15
      by_cases b2 : 0 ≤ u ∧ u ≤ 10000
      · rw [if_neg (by rw [wIn1.mpr b2]; decide)] at e15
        by_cases b3 : 0 ≤ w ∧ w ≤ 3
        · rw [if_neg (by rw [wIn1.mpr b3]; decide)] at e15
          exact fine ⟨Or.inl b1, b2, b3⟩ e15
        · rw [if_pos (wIn0.mpr b3)] at e15
          exact bad2 (fun h9 => b3 h9.2.2) e15
      · rw [if_pos (wIn0.mpr b2)] at e15
        exact bad2 (fun h9 => b2 h9.2.1) e15
    · rw [if_neg b1] at e15
      by_cases b1' : l = 100
      · rw [if_pos b1'] at e15
        by_cases b2 : 0 ≤ u ∧ u ≤ 10000
        · rw [if_neg (by rw [wIn1.mpr b2]; decide)] at e15
          by_cases b3 : 0 ≤ w ∧ w ≤ 3
          · rw [if_neg (by rw [wIn1.mpr b3]; decide)] at e15
            exact fine ⟨Or.inr b1', b2, b3⟩ e15
          · rw [if_pos (wIn0.mpr b3)] at e15
            exact bad2 (fun h9 => b3 h9.2.2) e15
        · rw [if_pos (wIn0.mpr b2)] at e15
          exact bad2 (fun h9 => b2 h9.2.1) e15
      · rw [if_neg b1'] at e15
        exact bad2 (fun h9 => by rcases h9.1 with h8 | h8; exact b1 h8; exact b1' h8) e15
  · rw [if_pos ((inS_w i).mpr hr)] at e15
    exact bad 1 (by decide) (by rw [cThinned, if_neg hr]; rfl) (Or.inl rfl) e15
end Sa70
