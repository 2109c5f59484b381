set_option maxRecDepth 20000 in
theorem b_X2_init_0 {E : EE} {l0 : Int} {G : Gt} {c s : Nat} {Q X : Int → Gt → Prop} (h : (0 ≤ l0 ∧ 1 ≤ c ∧ 3 ≤ s ∧ ∀ q4 : Int, gcl G q4 = 0 → (eb E : Int) ≤ q4 → ∀ G5 : Gt, G5 = (newo G q4 13) → 0 ≤ q4 ∧ Call E M_A_init [rv q4] G5 (c - 1) (s - 3) X (fun r7 G8 c9 s10 => gcl G8 l0 = 3 ∧ ∀ G12 : Gt, G12 = (sfd G8 2 0 l0 q4) → 1 ≤ c9 ∧ 9 ≤ s10 ∧ ∀ q15 : Int, gcl G12 q15 = 0 → (eb E : Int) ≤ q15 → ∀ G16 : Gt, G16 = (newo G12 q15 9) → 0 ≤ q15 ∧ Call E M_X9_init [rv q15] G16 (c9 - 1) (s10 - 9) X (fun r18 G19 c20 s21 => gcl G19 l0 = 3 ∧ ∀ G23 : Gt, G23 = (sfd G19 2 1 l0 q15) → 1 ≤ c20 ∧ 4 ≤ s21 ∧ ∀ q26 : Int, gcl G23 q26 = 0 → (eb E : Int) ≤ q26 → ∀ G27 : Gt, G27 = (newo G23 q26 3) → 0 ≤ q26 ∧ Call E M_X3_init [rv q26] G27 (c20 - 1) (s21 - 4) X (fun r29 G30 c31 s32 => gcl G30 l0 = 3 ∧ ∀ G34 : Gt, G34 = (sfd G30 2 2 l0 q26) → gcl G34 l0 = 3 ∧ ∀ G36 : Gt, G36 = (sfd G34 2 3 l0 0) → V E M_X2_init 44 [some (rv l0), some (iv 0)] [] G36 c31 s32 Q X))))) : V E M_X2_init 0 [some (rv l0), none] [] G c s Q X := by
  refine v_aload_n (pc := 0) (dk dt_X2_init 0 rfl) rfl rfl ?_
  obtain ⟨v1, h⟩ := h
  refine v_objInit (pc := 1) (dk dt_X2_init 1 rfl) mw_X2_3 (Nat.le_of_ble_eq_true rfl) (Nat.le_of_ble_eq_true rfl) (Nat.le_of_ble_eq_true rfl) v1 ?_
  refine v_aload_n (pc := 4) (dk dt_X2_init 2 rfl) rfl rfl ?_
  obtain ⟨v2, h⟩ := h
  obtain ⟨v3, h⟩ := h
  refine v_new (pc := 5) (dk dt_X2_init 3 rfl) nl_X2_9 v2 v3 (fun q4 hq4 gq4 => ?_)
  replace h := h q4 hq4 gq4
  generalize hG5 : (newo G q4 13) = G5
  replace h := h G5 hG5.symm
  refine v_dup (pc := 8) (dk dt_X2_init 4 rfl) (by intro h9; cases h9) ?_
  obtain ⟨v6, h⟩ := h
  refine v_ciV (As := []) (stk := [rv q4, rv l0]) (pc := 9) (dk dt_X2_init 5 rfl) ml_X2_11 rfl rfl (Nat.le_of_ble_eq_true rfl) rfl v6 (Call.mono h (fun r7 G8 c9 s10 h => ?_))
  obtain ⟨v11, h⟩ := h
  refine v_putR (pc := 12) (dk dt_X2_init 6 rfl) fl_X2_12 (Or.inr ⟨rfl, rfl⟩) v11 ?_
  generalize hG12 : (sfd G8 2 0 l0 q4) = G12
  replace h := h G12 hG12.symm
  refine v_aload_n (pc := 15) (dk dt_X2_init 7 rfl) rfl rfl ?_
  obtain ⟨v13, h⟩ := h
  obtain ⟨v14, h⟩ := h
  refine v_new (pc := 16) (dk dt_X2_init 8 rfl) nl_X2_18 v13 v14 (fun q15 hq15 gq15 => ?_)
  replace h := h q15 hq15 gq15
  generalize hG16 : (newo G12 q15 9) = G16
  replace h := h G16 hG16.symm
  refine v_dup (pc := 19) (dk dt_X2_init 9 rfl) (by intro h9; cases h9) ?_
  obtain ⟨v17, h⟩ := h
  refine v_ciNV (As := []) (stk := [rv q15, rv l0]) (pc := 20) (dk dt_X2_init 10 rfl) ml_X2_20 in_X9_init rfl rfl (Nat.le_of_ble_eq_true rfl) rfl v17 (Call.mono h (fun r18 G19 c20 s21 h => ?_))
  obtain ⟨v22, h⟩ := h
  refine v_putR (pc := 23) (dk dt_X2_init 11 rfl) fl_X2_21 (Or.inr ⟨rfl, rfl⟩) v22 ?_
  generalize hG23 : (sfd G19 2 1 l0 q15) = G23
  replace h := h G23 hG23.symm
  refine v_aload_n (pc := 26) (dk dt_X2_init 12 rfl) rfl rfl ?_
  obtain ⟨v24, h⟩ := h
  obtain ⟨v25, h⟩ := h
  refine v_new (pc := 27) (dk dt_X2_init 13 rfl) nl_X2_25 v24 v25 (fun q26 hq26 gq26 => ?_)
  replace h := h q26 hq26 gq26
  generalize hG27 : (newo G23 q26 3) = G27
  replace h := h G27 hG27.symm
  refine v_dup (pc := 30) (dk dt_X2_init 14 rfl) (by intro h9; cases h9) ?_
  obtain ⟨v28, h⟩ := h
  refine v_ciNV (As := []) (stk := [rv q26, rv l0]) (pc := 31) (dk dt_X2_init 15 rfl) ml_X2_27 in_X3_init rfl rfl (Nat.le_of_ble_eq_true rfl) rfl v28 (Call.mono h (fun r29 G30 c31 s32 h => ?_))
  obtain ⟨v33, h⟩ := h
  refine v_putR (pc := 34) (dk dt_X2_init 16 rfl) fl_X2_28 (Or.inl rfl) v33 ?_
  generalize hG34 : (sfd G30 2 2 l0 q26) = G34
  replace h := h G34 hG34.symm
  refine v_aload_n (pc := 37) (dk dt_X2_init 17 rfl) rfl rfl ?_
  refine v_iconst (pc := 38) (dk dt_X2_init 18 rfl) ⟨by decide, by decide⟩ ?_
  obtain ⟨v35, h⟩ := h
  refine v_putI (pc := 39) (dk dt_X2_init 19 rfl) fl_X2_32 (Or.inl rfl) v35 ?_
  generalize hG36 : (sfd G34 2 3 l0 0) = G36
  replace h := h G36 hG36.symm
  refine v_iconst (pc := 42) (dk dt_X2_init 20 rfl) ⟨by decide, by decide⟩ ?_
  refine v_istore_n (pc := 43) (ls' := [some (rv l0), some (iv 0)]) (dk dt_X2_init 21 rfl) rfl (Nat.le_of_ble_eq_true rfl) rfl ?_
  exact h
set_option maxRecDepth 20000 in
theorem i_X2_init {E : EE} {l0 : Int} {G : Gt} {c s : Nat} {Q X : Int → Gt → Prop} (h : (0 ≤ l0 ∧ 1 ≤ c ∧ 3 ≤ s ∧ ∀ q4 : Int, gcl G q4 = 0 → (eb E : Int) ≤ q4 → ∀ G5 : Gt, G5 = (newo G q4 13) → 0 ≤ q4 ∧ Call E M_A_init [rv q4] G5 (c - 1) (s - 3) X (fun r7 G8 c9 s10 => gcl G8 l0 = 3 ∧ ∀ G12 : Gt, G12 = (sfd G8 2 0 l0 q4) → 1 ≤ c9 ∧ 9 ≤ s10 ∧ ∀ q15 : Int, gcl G12 q15 = 0 → (eb E : Int) ≤ q15 → ∀ G16 : Gt, G16 = (newo G12 q15 9) → 0 ≤ q15 ∧ Call E M_X9_init [rv q15] G16 (c9 - 1) (s10 - 9) X (fun r18 G19 c20 s21 => gcl G19 l0 = 3 ∧ ∀ G23 : Gt, G23 = (sfd G19 2 1 l0 q15) → 1 ≤ c20 ∧ 4 ≤ s21 ∧ ∀ q26 : Int, gcl G23 q26 = 0 → (eb E : Int) ≤ q26 → ∀ G27 : Gt, G27 = (newo G23 q26 3) → 0 ≤ q26 ∧ Call E M_X3_init [rv q26] G27 (c20 - 1) (s21 - 4) X (fun r29 G30 c31 s32 => gcl G30 l0 = 3 ∧ ∀ G34 : Gt, G34 = (sfd G30 2 2 l0 q26) → gcl G34 l0 = 3 ∧ ∀ G36 : Gt, G36 = (sfd G34 2 3 l0 0) → V E M_X2_init 44 [some (rv l0), some (iv 0)] [] G36 c31 s32 Q X))))) : Ok E M_X2_init [rv l0] G c s Q X := Ok.intro (k := 1) rfl rfl (Nat.le_of_ble_eq_true rfl) rfl (b_X2_init_0 h)
set_option maxRecDepth 20000 in
theorem b_X2_init_44 {E : EE} {l0 l1 : Int} {G : Gt} {c s : Nat} {Q X : Int → Gt → Prop} (h : ((10 ≤ l1 → Q 0 G) ∧ (l1 < 10 → (gcl G l0 = 3 ∧ 1 ≤ c ∧ 4 ≤ s ∧ ∀ q5 : Int, gcl G q5 = 0 → (eb E : Int) ≤ q5 → ∀ G6 : Gt, G6 = (newo G q5 3) → 0 ≤ q5 ∧ Call E M_X3_init [rv q5] G6 (c - 1) (s - 4) X (fun r8 G9 c10 s11 => gcl G9 (gfd G 2 0 l0) = 14 ∧ Call E M_A_add [rv (gfd G 2 0 l0), rv q5] G9 c10 s11 X (fun r13 G14 c15 s16 => i32 (l1 + 1) ∧ V E M_X2_init 44 [some (rv l0), some (iv (l1 + 1))] [] G14 c15 s16 Q X)))))) : V E M_X2_init 44 [some (rv l0), some (iv l1)] [] G c s Q X := by
  refine v_iload_n (pc := 44) (dk dt_X2_init 22 rfl) rfl rfl ?_
  refine v_bipush (pc := 45) (dk dt_X2_init 23 rfl) (by decide) ⟨by decide, by decide⟩ ?_
  refine v_icmp_ge (pc := 47) (tgt := 71) (dk dt_X2_init 24 rfl) (by decide) (fun c1 => ?_) (fun c1 => ?_)
  · replace h := h.1 c1
    exact v_vret (pc := 71) (dk dt_X2_init 34 rfl) rfl h
  · replace h := h.2 c1
    refine v_aload_n (pc := 50) (dk dt_X2_init 25 rfl) rfl rfl ?_
    obtain ⟨v2, h⟩ := h
    refine v_getR (pc := 51) (dk dt_X2_init 26 rfl) fl_X2_12 v2 (fun _ => ?_)
    obtain ⟨v3, h⟩ := h
    obtain ⟨v4, h⟩ := h
    refine v_new (pc := 54) (dk dt_X2_init 27 rfl) nl_X2_25 v3 v4 (fun q5 hq5 gq5 => ?_)
    replace h := h q5 hq5 gq5
    generalize hG6 : (newo G q5 3) = G6
    replace h := h G6 hG6.symm
    refine v_dup (pc := 57) (dk dt_X2_init 28 rfl) (by intro h9; cases h9) ?_
    obtain ⟨v7, h⟩ := h
    refine v_ciNV (As := []) (stk := [rv q5, rv (gfd G 2 0 l0)]) (pc := 58) (dk dt_X2_init 29 rfl) ml_X2_27 in_X3_init rfl rfl (Nat.le_of_ble_eq_true rfl) rfl v7 (Call.mono h (fun r8 G9 c10 s11 h => ?_))
    obtain ⟨v12, h⟩ := h
    refine v_cvZ (c := 13) (As := [rv q5]) (stk := []) (pc := 61) (dk dt_X2_init 30 rfl) ml_X2_36 rfl rfl (Nat.le_of_ble_eq_true rfl) rfl ⟨by decide, rfl⟩ v12 rfl (Call.mono h (fun r13 G14 c15 s16 h => ?_))
    refine v_pop (pc := 64) (dk dt_X2_init 31 rfl) (by intro h9; cases h9) ?_
    obtain ⟨v17, h⟩ := h
    refine v_iinc (pc := 65) (ls' := [some (rv l0), some (iv (l1 + 1))]) (dk dt_X2_init 32 rfl) (Nat.le_of_ble_eq_true rfl) rfl v17 rfl ?_
    refine v_goto (pc := 68) (tgt := 44) (dk dt_X2_init 33 rfl) (by decide) ?_
    exact h
set_option maxRecDepth 20000 in
theorem b_X2_reckon_0 {E : EE} {l0 l1 l2 l3 : Int} {G : Gt} {c s : Nat} {Q X : Int → Gt → Prop} (h : (gcl G l0 = 3 ∧ ∀ G2 : Gt, G2 = (sfd G 2 3 l0 0) → V E M_X2_reckon 8 [some (rv l0), some (rv l1), some (rv l2), some (iv l3), some (iv 0), none, none] [] G2 c s Q X)) : V E M_X2_reckon 0 [some (rv l0), some (rv l1), some (rv l2), some (iv l3), none, none, none] [] G c s Q X := by
  refine v_aload_n (pc := 0) (dk dt_X2_reckon 0 rfl) rfl rfl ?_
  refine v_iconst (pc := 1) (dk dt_X2_reckon 1 rfl) ⟨by decide, by decide⟩ ?_
  obtain ⟨v1, h⟩ := h
  refine v_putI (pc := 2) (dk dt_X2_reckon 2 rfl) fl_X2_32 (Or.inl rfl) v1 ?_
  generalize hG2 : (sfd G 2 3 l0 0) = G2
  replace h := h G2 hG2.symm
  refine v_iconst (pc := 5) (dk dt_X2_reckon 3 rfl) ⟨by decide, by decide⟩ ?_
  refine v_istore (pc := 6) (ls' := [some (rv l0), some (rv l1), some (rv l2), some (iv l3), some (iv 0), none, none]) (dk dt_X2_reckon 4 rfl) (Nat.le_of_ble_eq_true rfl) rfl ?_
  exact h
set_option maxRecDepth 20000 in
theorem i_X2_reckon {E : EE} {l0 l1 l2 l3 : Int} {G : Gt} {c s : Nat} {Q X : Int → Gt → Prop} (h : (gcl G l0 = 3 ∧ ∀ G2 : Gt, G2 = (sfd G 2 3 l0 0) → V E M_X2_reckon 8 [some (rv l0), some (rv l1), some (rv l2), some (iv l3), some (iv 0), none, none] [] G2 c s Q X)) : Ok E M_X2_reckon [rv l0, rv l1, rv l2, iv l3] G c s Q X := Ok.intro (k := 3) rfl rfl (Nat.le_of_ble_eq_true rfl) rfl (b_X2_reckon_0 h)
set_option maxRecDepth 20000 in
theorem b_X2_reckon_8 {E : EE} {l0 l1 l2 l3 l4 : Int} {G : Gt} {c s : Nat} {Q X : Int → Gt → Prop} (h : (gcl G l1 = 14 ∧ OkP E M_A_size [rv l1] G (gfd G 13 2 l1) ∧ (((gfd G 13 2 l1) ≤ l4 → (gcl G l0 = 3 ∧ ((gfd G 2 3 l0) = 1 → gcl G l0 = 3) ∧ ((gfd G 2 3 l0) = 1 → gcl G (gfd G 2 0 l0) = 14) ∧ ((gfd G 2 3 l0) = 1 → OkP E M_A_isEmpty [rv (gfd G 2 0 l0)] G (if gfd G 13 2 (gfd G 2 0 l0) = 0 then (1 : Int) else 0)) ∧ ((gfd G 2 3 l0) = 1 → (if gfd G 13 2 (gfd G 2 0 l0) = 0 then (1 : Int) else 0) = 0 → gcl G l0 = 3) ∧ ((gfd G 2 3 l0) = 1 → (if gfd G 13 2 (gfd G 2 0 l0) = 0 then (1 : Int) else 0) = 0 → gcl G (gfd G 2 0 l0) = 14) ∧ ((gfd G 2 3 l0) = 1 → (if gfd G 13 2 (gfd G 2 0 l0) = 0 then (1 : Int) else 0) = 0 → OkP E M_A_get [rv (gfd G 2 0 l0), iv 0] G (alAt G (gfd G 2 0 l0) 0)) ∧ ((gfd G 2 3 l0) = 1 → (if gfd G 13 2 (gfd G 2 0 l0) = 0 then (1 : Int) else 0) = 0 → (alAt G (gfd G 2 0 l0) 0) = -1 ∨ gcl G (alAt G (gfd G 2 0 l0) 0) = 4) ∧ Q (if (gfd G 2 3 l0) = 1 then ((if (if gfd G 13 2 (gfd G 2 0 l0) = 0 then (1 : Int) else 0) = 0 then ((alAt G (gfd G 2 0 l0) 0) : Int) else (-1)) : Int) else (-1)) G)) ∧ (l4 < (gfd G 13 2 l1) → (gcl G l1 = 14 ∧ OkP E M_A_get [rv l1, iv l4] G (alAt G l1 l4) ∧ ((alAt G l1 l4) = -1 ∨ gcl G (alAt G l1 l4) = 11) ∧ gcl G (alAt G l1 l4) = 11 ∧ OkP E M_X10_needs [iv (gfd G 10 0 (alAt G l1 l4))] G (wNeeds (gfd G 10 0 (alAt G l1 l4))) ∧ gcl G l0 = 3 ∧ (((gfd G 2 3 l0) < (wNeeds (gfd G 10 0 (alAt G l1 l4))) → Q (-1) G) ∧ ((wNeeds (gfd G 10 0 (alAt G l1 l4))) ≤ (gfd G 2 3 l0) → (gcl G l0 = 3 ∧ i32 ((gfd G 2 3 l0) - (wNeeds (gfd G 10 0 (alAt G l1 l4)))) ∧ gcl G l0 = 3 ∧ gcl G (gfd G 2 0 l0) = 14 ∧ OkP E M_A_size [rv (gfd G 2 0 l0)] G (gfd G 13 2 (gfd G 2 0 l0)) ∧ ((((gfd G 2 3 l0) - (wNeeds (gfd G 10 0 (alAt G l1 l4)))) < (gfd G 13 2 (gfd G 2 0 l0)) → (gcl G l0 = 3 ∧ i32 (1 - (wNeeds (gfd G 10 0 (alAt G l1 l4)))) ∧ i32 ((gfd G 2 3 l0) + (1 - (wNeeds (gfd G 10 0 (alAt G l1 l4))))) ∧ gcl G l0 = 3 ∧ ∀ G31 : Gt, G31 = (sfd G 2 3 l0 ((gfd G 2 3 l0) + (1 - (wNeeds (gfd G 10 0 (alAt G l1 l4)))))) → gcl G31 l0 = 3 ∧ Call E M_X2_goThrough [rv l0, rv (alAt G l1 l4), rv l2, iv l3] G31 c s X (fun r33 G34 c35 s36 => ((r33 ≠ 0 → (i32 (l4 + 1) ∧ V E M_X2_reckon 8 [some (rv l0), some (rv l1), some (rv l2), some (iv l3), some (iv (l4 + 1)), none, none] [] G34 c35 s36 Q X)) ∧ (r33 = 0 → Q (-1) G34))))) ∧ ((gfd G 13 2 (gfd G 2 0 l0)) ≤ ((gfd G 2 3 l0) - (wNeeds (gfd G 10 0 (alAt G l1 l4)))) → Q (-1) G)))))))))) : V E M_X2_reckon 8 [some (rv l0), some (rv l1), some (rv l2), some (iv l3), some (iv l4), none, none] [] G c s Q X := by
  refine v_iload (pc := 8) (dk dt_X2_reckon 5 rfl) rfl ?_
  refine v_aload_n (pc := 10) (dk dt_X2_reckon 6 rfl) rfl rfl ?_
  obtain ⟨v1, h⟩ := h
  obtain ⟨v2, h⟩ := h
  refine v_cvPI (c := 13) (v := (gfd G 13 2 l1)) (As := []) (stk := [iv l4]) (pc := 11) (dk dt_X2_reckon 7 rfl) ml_X2_40 rfl rfl (Nat.le_of_ble_eq_true rfl) rfl ⟨by decide, rfl⟩ v1 rfl v2 ?_
  refine v_icmp_ge (pc := 14) (tgt := 98) (dk dt_X2_reckon 8 rfl) (by decide) (fun c3 => ?_) (fun c3 => ?_)
  · replace h := h.1 c3
    refine v_aload_n (pc := 98) (dk dt_X2_reckon_1 10 rfl) rfl rfl ?_
    obtain ⟨v4, h⟩ := h
    refine v_getI (pc := 99) (dk dt_X2_reckon_1 11 rfl) fl_X2_32 v4 (fun _ => ?_)
    refine v_iconst (pc := 102) (dk dt_X2_reckon_1 12 rfl) ⟨by decide, by decide⟩ ?_
    obtain ⟨v6, v7, v8, v10, v11, v12, v13, h⟩ := h
    suffices k39 : V E M_X2_reckon 131 [none, none, none, none, none, none, none] [rv (if (gfd G 2 3 l0) = 1 then ((if (if gfd G 13 2 (gfd G 2 0 l0) = 0 then (1 : Int) else 0) = 0 then ((alAt G (gfd G 2 0 l0) 0) : Int) else (-1)) : Int) else (-1))] G c s Q X by
      refine v_icmp_ne (pc := 103) (tgt := 130) (dk dt_X2_reckon_1 13 rfl) (by decide) (fun c5 => ?_) (fun c5 => ?_)
      · refine v_null (pc := 130) (dk dt_X2_reckon_1 24 rfl) ?_
        exact v_less2 (ls' := [none, none, none, none, none, none, none]) trivial (by have hk9 := k39; try simp only [if_neg c5] at hk9 ⊢; exact hk9)
      · refine v_aload_n (pc := 106) (dk dt_X2_reckon_1 14 rfl) rfl rfl ?_
        refine v_getR (pc := 107) (dk dt_X2_reckon_1 15 rfl) fl_X2_12 (v6 c5) (fun _ => ?_)
        refine v_cvPZ (c := 13) (v := (if gfd G 13 2 (gfd G 2 0 l0) = 0 then (1 : Int) else 0)) (As := []) (stk := []) (pc := 110) (dk dt_X2_reckon_1 16 rfl) ml_X2_61 rfl rfl (Nat.le_of_ble_eq_true rfl) rfl ⟨by decide, rfl⟩ (v7 c5) rfl (v8 c5) ?_
        refine v_if_ne (pc := 113) (tgt := 130) (dk dt_X2_reckon_1 17 rfl) (by decide) (fun c9 => ?_) (fun c9 => ?_)
        · refine v_null (pc := 130) (dk dt_X2_reckon_1 24 rfl) ?_
          exact v_less2 (ls' := [none, none, none, none, none, none, none]) trivial (by have hk9 := k39; try simp only [if_pos c5] at hk9 ⊢; try simp only [if_neg c9] at hk9 ⊢; exact hk9)
        · refine v_aload_n (pc := 116) (dk dt_X2_reckon_1 18 rfl) rfl rfl ?_
          refine v_getR (pc := 117) (dk dt_X2_reckon_1 19 rfl) fl_X2_12 (v10 c5 c9) (fun _ => ?_)
          refine v_iconst (pc := 120) (dk dt_X2_reckon_1 20 rfl) ⟨by decide, by decide⟩ ?_
          refine v_cvPR (c := 13) (v := (alAt G (gfd G 2 0 l0) 0)) (As := [iv 0]) (stk := []) (pc := 121) (dk dt_X2_reckon_1 21 rfl) ml_X2_44 rfl rfl (Nat.le_of_ble_eq_true rfl) rfl ⟨by decide, rfl⟩ (v11 c5 c9) rfl (v12 c5 c9) ?_
          refine v_cast (c := 3) (pc := 124) (dk dt_X2_reckon_1 22 rfl) (by decide) cl_X2_25 (v13 c5 c9) ?_
          refine v_goto (pc := 127) (tgt := 131) (dk dt_X2_reckon_1 23 rfl) (by decide) ?_
          exact v_less2 (ls' := [none, none, none, none, none, none, none]) trivial (by have hk9 := k39; try simp only [if_pos c5] at hk9 ⊢; try simp only [if_pos c9] at hk9 ⊢; exact hk9)
    exact v_aret (pc := 131) (dk dt_X2_reckon_1 25 rfl) rfl (by first | exact Or.inl ⟨_, rfl⟩ | exact Or.inr ⟨_, rfl⟩) h
  · replace h := h.2 c3
    refine v_aload_n (pc := 17) (dk dt_X2_reckon 9 rfl) rfl rfl ?_
    refine v_iload (pc := 18) (dk dt_X2_reckon 10 rfl) rfl ?_
    obtain ⟨v14, h⟩ := h
    obtain ⟨v15, h⟩ := h
    refine v_cvPR (c := 13) (v := (alAt G l1 l4)) (As := [iv l4]) (stk := []) (pc := 20) (dk dt_X2_reckon 11 rfl) ml_X2_44 rfl rfl (Nat.le_of_ble_eq_true rfl) rfl ⟨by decide, rfl⟩ v14 rfl v15 ?_
    obtain ⟨v16, h⟩ := h
    refine v_cast (c := 10) (pc := 23) (dk dt_X2_reckon 12 rfl) (by decide) cl_X2_48 v16 ?_
    refine v_astore (pc := 26) (ls' := [some (rv l0), some (rv l1), some (rv l2), some (iv l3), some (iv l4), some (rv (alAt G l1 l4)), none]) (dk dt_X2_reckon 13 rfl) (Nat.le_of_ble_eq_true rfl) rfl ?_
    refine v_aload (pc := 28) (dk dt_X2_reckon 14 rfl) rfl ?_
    obtain ⟨v17, h⟩ := h
    refine v_getI (pc := 30) (dk dt_X2_reckon 15 rfl) fl_X2_50 v17 (fun _ => ?_)
    obtain ⟨v18, h⟩ := h
    refine v_csPI (v := (wNeeds (gfd G 10 0 (alAt G l1 l4)))) (As := [iv (gfd G 10 0 (alAt G l1 l4))]) (stk := []) (pc := 33) (dk dt_X2_reckon 16 rfl) ml_X2_53 rfl rfl (Nat.le_of_ble_eq_true rfl) rfl rfl v18 ?_
    refine v_istore (pc := 36) (ls' := [some (rv l0), some (rv l1), some (rv l2), some (iv l3), some (iv l4), some (rv (alAt G l1 l4)), some (iv (wNeeds (gfd G 10 0 (alAt G l1 l4))))]) (dk dt_X2_reckon 17 rfl) (Nat.le_of_ble_eq_true rfl) rfl ?_
    refine v_aload_n (pc := 38) (dk dt_X2_reckon 18 rfl) rfl rfl ?_
    obtain ⟨v19, h⟩ := h
    refine v_getI (pc := 39) (dk dt_X2_reckon 19 rfl) fl_X2_32 v19 (fun _ => ?_)
    refine v_iload (pc := 42) (dk dt_X2_reckon 20 rfl) rfl ?_
    refine v_icmp_lt (pc := 44) (tgt := 64) (dk dt_X2_reckon 21 rfl) (by decide) (fun c20 => ?_) (fun c20 => ?_)
    · replace h := h.1 c20
      refine v_null (pc := 64) (dk dt_X2_reckon 30 rfl) ?_
      exact v_aret (pc := 65) (dk dt_X2_reckon 31 rfl) rfl (by first | exact Or.inl ⟨_, rfl⟩ | exact Or.inr ⟨_, rfl⟩) h
    · replace h := h.2 c20
      refine v_aload_n (pc := 47) (dk dt_X2_reckon 22 rfl) rfl rfl ?_
      obtain ⟨v21, h⟩ := h
      refine v_getI (pc := 48) (dk dt_X2_reckon 23 rfl) fl_X2_32 v21 (fun _ => ?_)
      refine v_iload (pc := 51) (dk dt_X2_reckon 24 rfl) rfl ?_
      obtain ⟨v22, h⟩ := h
      refine v_isub (pc := 53) (dk dt_X2_reckon 25 rfl) v22 ?_
      refine v_aload_n (pc := 54) (dk dt_X2_reckon 26 rfl) rfl rfl ?_
      obtain ⟨v23, h⟩ := h
      refine v_getR (pc := 55) (dk dt_X2_reckon 27 rfl) fl_X2_12 v23 (fun _ => ?_)
      obtain ⟨v24, h⟩ := h
      obtain ⟨v25, h⟩ := h
      refine v_cvPI (c := 13) (v := (gfd G 13 2 (gfd G 2 0 l0))) (As := []) (stk := [iv ((gfd G 2 3 l0) - (wNeeds (gfd G 10 0 (alAt G l1 l4))))]) (pc := 58) (dk dt_X2_reckon 28 rfl) ml_X2_40 rfl rfl (Nat.le_of_ble_eq_true rfl) rfl ⟨by decide, rfl⟩ v24 rfl v25 ?_
      refine v_icmp_lt (pc := 61) (tgt := 66) (dk dt_X2_reckon 29 rfl) (by decide) (fun c26 => ?_) (fun c26 => ?_)
      · replace h := h.1 c26
        refine v_aload_n (pc := 66) (dk dt_X2_reckon 32 rfl) rfl rfl ?_
        refine v_dup (pc := 67) (dk dt_X2_reckon 33 rfl) (by intro h9; cases h9) ?_
        obtain ⟨v27, h⟩ := h
        refine v_getI (pc := 68) (dk dt_X2_reckon 34 rfl) fl_X2_32 v27 (fun _ => ?_)
        refine v_iconst (pc := 71) (dk dt_X2_reckon 35 rfl) ⟨by decide, by decide⟩ ?_
        refine v_iload (pc := 72) (dk dt_X2_reckon 36 rfl) rfl ?_
        obtain ⟨v28, h⟩ := h
        refine v_isub (pc := 74) (dk dt_X2_reckon 37 rfl) v28 ?_
        obtain ⟨v29, h⟩ := h
        refine v_iadd (pc := 75) (dk dt_X2_reckon 38 rfl) v29 ?_
        obtain ⟨v30, h⟩ := h
        refine v_putI (pc := 76) (dk dt_X2_reckon 39 rfl) fl_X2_32 (Or.inl rfl) v30 ?_
        generalize hG31 : (sfd G 2 3 l0 ((gfd G 2 3 l0) + (1 - (wNeeds (gfd G 10 0 (alAt G l1 l4)))))) = G31
        replace h := h G31 hG31.symm
        refine v_aload_n (pc := 79) (dk dt_X2_reckon_1 0 rfl) rfl rfl ?_
        refine v_aload (pc := 80) (dk dt_X2_reckon_1 1 rfl) rfl ?_
        refine v_aload_n (pc := 82) (dk dt_X2_reckon_1 2 rfl) rfl rfl ?_
        refine v_iload_n (pc := 83) (dk dt_X2_reckon_1 3 rfl) rfl rfl ?_
        obtain ⟨v32, h⟩ := h
        refine v_cvZ (c := 2) (As := [rv (alAt G l1 l4), rv l2, iv l3]) (stk := []) (pc := 84) (dk dt_X2_reckon_1 4 rfl) ml_X2_57 rfl rfl (Nat.le_of_ble_eq_true rfl) rfl ⟨by decide, rfl⟩ v32 rfl (Call.mono h (fun r33 G34 c35 s36 h => ?_))
        refine v_if_ne (pc := 87) (tgt := 92) (dk dt_X2_reckon_1 5 rfl) (by decide) (fun c37 => ?_) (fun c37 => ?_)
        · replace h := h.1 c37
          obtain ⟨v38, h⟩ := h
          refine v_iinc (pc := 92) (ls' := [some (rv l0), some (rv l1), some (rv l2), some (iv l3), some (iv (l4 + 1)), some (rv (alAt G l1 l4)), some (iv (wNeeds (gfd G 10 0 (alAt G l1 l4))))]) (dk dt_X2_reckon_1 8 rfl) (Nat.le_of_ble_eq_true rfl) rfl v38 rfl ?_
          refine v_goto (pc := 95) (tgt := 8) (dk dt_X2_reckon_1 9 rfl) (by decide) ?_
          exact v_less2 (ls' := [some (rv l0), some (rv l1), some (rv l2), some (iv l3), some (iv (l4 + 1)), none, none]) ⟨rfl, rfl, rfl, rfl, rfl, trivial⟩ h
        · replace h := h.2 c37
          refine v_null (pc := 90) (dk dt_X2_reckon_1 6 rfl) ?_
          exact v_aret (pc := 91) (dk dt_X2_reckon_1 7 rfl) rfl (by first | exact Or.inl ⟨_, rfl⟩ | exact Or.inr ⟨_, rfl⟩) h
      · replace h := h.2 c26
        refine v_null (pc := 64) (dk dt_X2_reckon 30 rfl) ?_
        exact v_aret (pc := 65) (dk dt_X2_reckon 31 rfl) rfl (by first | exact Or.inl ⟨_, rfl⟩ | exact Or.inr ⟨_, rfl⟩) h
set_option maxRecDepth 20000 in
theorem b_X2_goThrough_0 {E : EE} {l0 l1 l2 l3 : Int} {G : Gt} {c s : Nat} {Q X : Int → Gt → Prop} (h : (gcl G l0 = 3 ∧ i32 ((gfd G 2 3 l0) - 1) ∧ ((((gfd G 2 3 l0) - 1) < 0 → Q 0 G) ∧ (0 ≤ ((gfd G 2 3 l0) - 1) → (gcl G l0 = 3 ∧ gcl G (gfd G 2 0 l0) = 14 ∧ OkP E M_A_size [rv (gfd G 2 0 l0)] G (gfd G 13 2 (gfd G 2 0 l0)) ∧ ((((gfd G 2 3 l0) - 1) < (gfd G 13 2 (gfd G 2 0 l0)) → (gcl G l0 = 3 ∧ gcl G (gfd G 2 0 l0) = 14 ∧ OkP E M_A_get [rv (gfd G 2 0 l0), iv ((gfd G 2 3 l0) - 1)] G (alAt G (gfd G 2 0 l0) ((gfd G 2 3 l0) - 1)) ∧ ((alAt G (gfd G 2 0 l0) ((gfd G 2 3 l0) - 1)) = -1 ∨ gcl G (alAt G (gfd G 2 0 l0) ((gfd G 2 3 l0) - 1)) = 4) ∧ gcl G l1 = 11 ∧ ∀ J13 : Int → Gt → Nat → Nat → Prop, (∀ (x14 : Int) (G15 : Gt) (c16 s17 : Nat), (gcl G15 l0 = 3 ∧ gcl G15 (gfd G15 2 2 l0) = 4 ∧ Call E M_X3_keepInBounds [rv (gfd G15 2 2 l0)] G15 c16 s17 X (fun r20 G21 c22 s23 => gcl G21 l0 = 3 ∧ gcl G21 l0 = 3 ∧ gcl G21 (gfd G21 2 0 l0) = 14 ∧ Call E M_A_set [rv (gfd G21 2 0 l0), iv ((gfd G 2 3 l0) - 1), rv (gfd G21 2 2 l0)] G21 c22 s23 X (fun r27 G28 c29 s30 => gcl G28 l0 = 3 ∧ ∀ G32 : Gt, G32 = (sfd G28 2 2 l0 (alAt G (gfd G 2 0 l0) ((gfd G 2 3 l0) - 1))) → (x14 = 0 ∨ x14 = 1) ∧ Q x14 G32))) → J13 x14 G15 c16 s17) → (((gfd G 10 0 l1) ≠ 0 → (gcl G l1 = 11 ∧ OkP E M_X10_reads [iv (gfd G 10 0 l1)] G (wIn (gfd G 10 0 l1) 1 7) ∧ (((wIn (gfd G 10 0 l1) 1 7) = 0 → (gcl G l1 = 11 ∧ (((gfd G 10 0 l1) ≠ 15 → (gcl G l1 = 11 ∧ OkP E M_X10_joins [iv (gfd G 10 0 l1)] G (wIn (gfd G 10 0 l1) 10 14) ∧ (((wIn (gfd G 10 0 l1) 10 14) ≠ 0 → (i32 (((gfd G 2 3 l0) - 1) + 1) ∧ gcl G l0 = 3 ∧ gcl G (gfd G 2 0 l0) = 14 ∧ OkP E M_A_size [rv (gfd G 2 0 l0)] G (gfd G 13 2 (gfd G 2 0 l0)) ∧ ∀ J47 : Int → Gt → Nat → Nat → Prop, (∀ (x48 : Int) (G49 : Gt) (c50 s51 : Nat), J13 x48 G49 c50 s51 → J47 x48 G49 c50 s51) → ∀ J52 : Gt → Nat → Nat → Prop, (∀ (G53 : Gt) (c54 s55 : Nat), J47 0 G53 c54 s55 → J52 G53 c54 s55) → (((gfd G 13 2 (gfd G 2 0 l0)) ≤ (((gfd G 2 3 l0) - 1) + 1) → J52 G c s) ∧ ((((gfd G 2 3 l0) - 1) + 1) < (gfd G 13 2 (gfd G 2 0 l0)) → (gcl G l0 = 3 ∧ i32 (((gfd G 2 3 l0) - 1) + 1) ∧ gcl G (gfd G 2 0 l0) = 14 ∧ OkP E M_A_get [rv (gfd G 2 0 l0), iv (((gfd G 2 3 l0) - 1) + 1)] G (alAt G (gfd G 2 0 l0) (((gfd G 2 3 l0) - 1) + 1)) ∧ ((alAt G (gfd G 2 0 l0) (((gfd G 2 3 l0) - 1) + 1)) = -1 ∨ gcl G (alAt G (gfd G 2 0 l0) (((gfd G 2 3 l0) - 1) + 1)) = 4) ∧ gcl G l0 = 3 ∧ Call E M_X2_join [rv l0, rv l1, rv (alAt G (gfd G 2 0 l0) ((gfd G 2 3 l0) - 1)), rv (alAt G (gfd G 2 0 l0) (((gfd G 2 3 l0) - 1) + 1))] G c s X (fun r63 G64 c65 s66 => ((r63 = 0 → J52 G64 c65 s66) ∧ (r63 ≠ 0 → J47 1 G64 c65 s66)))))))) ∧ ((wIn (gfd G 10 0 l1) 10 14) = 0 → (gcl G l0 = 3 ∧ Call E M_X2_fold [rv l0, rv (alAt G (gfd G 2 0 l0) ((gfd G 2 3 l0) - 1)), rv l1] G c s X (fun r69 G70 c71 s72 => J13 1 G70 c71 s72)))))) ∧ ((gfd G 10 0 l1) = 15 → (gcl G l1 = 11 ∧ gcl G l0 = 3 ∧ Call E M_X2_takeQuantiles [rv l0, rv (alAt G (gfd G 2 0 l0) ((gfd G 2 3 l0) - 1)), iv (gfd G 10 1 l1)] G c s X (fun r75 G76 c77 s78 => J13 1 G76 c77 s78)))))) ∧ ((wIn (gfd G 10 0 l1) 1 7) ≠ 0 → (gcl G l0 = 3 ∧ Call E M_X2_read [rv l0, rv l1, rv l2, iv l3] G c s X (fun r80 G81 c82 s83 => J13 1 G81 c82 s83)))))) ∧ ((gfd G 10 0 l1) = 0 → (gcl G l0 = 3 ∧ gcl G l1 = 11 ∧ gcl G (gfd G 2 2 l0) = 4 ∧ Call E M_X3_becomeNumber [rv (gfd G 2 2 l0), jv (gfd G 10 1 l1)] G c s X (fun r87 G88 c89 s90 => J13 1 G88 c89 s90)))))) ∧ ((gfd G 13 2 (gfd G 2 0 l0)) ≤ ((gfd G 2 3 l0) - 1) → Q 0 G))))))) : V E M_X2_goThrough 0 [some (rv l0), some (rv l1), some (rv l2), some (iv l3), none, none, none] [] G c s Q X := by
  refine v_aload_n (pc := 0) (dk dt_X2_goThrough 0 rfl) rfl rfl ?_
  obtain ⟨v1, h⟩ := h
  refine v_getI (pc := 1) (dk dt_X2_goThrough 1 rfl) fl_X2_32 v1 (fun _ => ?_)
  refine v_iconst (pc := 4) (dk dt_X2_goThrough 2 rfl) ⟨by decide, by decide⟩ ?_
  obtain ⟨v2, h⟩ := h
  refine v_isub (pc := 5) (dk dt_X2_goThrough 3 rfl) v2 ?_
  refine v_istore (pc := 6) (ls' := [some (rv l0), some (rv l1), some (rv l2), some (iv l3), some (iv ((gfd G 2 3 l0) - 1)), none, none]) (dk dt_X2_goThrough 4 rfl) (Nat.le_of_ble_eq_true rfl) rfl ?_
  refine v_iload (pc := 8) (dk dt_X2_goThrough 5 rfl) rfl ?_
  refine v_if_lt (pc := 10) (tgt := 25) (dk dt_X2_goThrough 6 rfl) (by decide) (fun c3 => ?_) (fun c3 => ?_)
  · replace h := h.1 c3
    refine v_iconst (pc := 25) (dk dt_X2_goThrough 12 rfl) ⟨by decide, by decide⟩ ?_
    exact v_zret (pc := 26) (dk dt_X2_goThrough 13 rfl) rfl (Or.inl rfl) h
  · replace h := h.2 c3
    refine v_iload (pc := 13) (dk dt_X2_goThrough 7 rfl) rfl ?_
    refine v_aload_n (pc := 15) (dk dt_X2_goThrough 8 rfl) rfl rfl ?_
    obtain ⟨v4, h⟩ := h
    refine v_getR (pc := 16) (dk dt_X2_goThrough 9 rfl) fl_X2_12 v4 (fun _ => ?_)
    obtain ⟨v5, h⟩ := h
    obtain ⟨v6, h⟩ := h
    refine v_cvPI (c := 13) (v := (gfd G 13 2 (gfd G 2 0 l0))) (As := []) (stk := [iv ((gfd G 2 3 l0) - 1)]) (pc := 19) (dk dt_X2_goThrough 10 rfl) ml_X2_40 rfl rfl (Nat.le_of_ble_eq_true rfl) rfl ⟨by decide, rfl⟩ v5 rfl v6 ?_
    refine v_icmp_lt (pc := 22) (tgt := 27) (dk dt_X2_goThrough 11 rfl) (by decide) (fun c7 => ?_) (fun c7 => ?_)
    · replace h := h.1 c7
      refine v_aload_n (pc := 27) (dk dt_X2_goThrough 14 rfl) rfl rfl ?_
      obtain ⟨v8, h⟩ := h
      refine v_getR (pc := 28) (dk dt_X2_goThrough 15 rfl) fl_X2_12 v8 (fun _ => ?_)
      refine v_iload (pc := 31) (dk dt_X2_goThrough 16 rfl) rfl ?_
      obtain ⟨v9, h⟩ := h
      obtain ⟨v10, h⟩ := h
      refine v_cvPR (c := 13) (v := (alAt G (gfd G 2 0 l0) ((gfd G 2 3 l0) - 1))) (As := [iv ((gfd G 2 3 l0) - 1)]) (stk := []) (pc := 33) (dk dt_X2_goThrough 17 rfl) ml_X2_44 rfl rfl (Nat.le_of_ble_eq_true rfl) rfl ⟨by decide, rfl⟩ v9 rfl v10 ?_
      obtain ⟨v11, h⟩ := h
      refine v_cast (c := 3) (pc := 36) (dk dt_X2_goThrough 18 rfl) (by decide) cl_X2_25 v11 ?_
      refine v_astore (pc := 39) (ls' := [some (rv l0), some (rv l1), some (rv l2), some (iv l3), some (iv ((gfd G 2 3 l0) - 1)), some (rv (alAt G (gfd G 2 0 l0) ((gfd G 2 3 l0) - 1))), none]) (dk dt_X2_goThrough 19 rfl) (Nat.le_of_ble_eq_true rfl) rfl ?_
      refine v_iconst (pc := 41) (dk dt_X2_goThrough 20 rfl) ⟨by decide, by decide⟩ ?_
      refine v_istore (pc := 42) (ls' := [some (rv l0), some (rv l1), some (rv l2), some (iv l3), some (iv ((gfd G 2 3 l0) - 1)), some (rv (alAt G (gfd G 2 0 l0) ((gfd G 2 3 l0) - 1))), some (iv 1)]) (dk dt_X2_goThrough 21 rfl) (Nat.le_of_ble_eq_true rfl) rfl ?_
      refine v_aload_n (pc := 44) (dk dt_X2_goThrough 22 rfl) rfl rfl ?_
      obtain ⟨v12, h⟩ := h
      refine v_getI (pc := 45) (dk dt_X2_goThrough 23 rfl) fl_X2_50 v12 (fun _ => ?_)
      obtain ⟨J13, dJ13⟩ : ∃ J9 : Int → Gt → Nat → Nat → Prop, J9 = fun x14 G15 c16 s17 => V E M_X2_goThrough 173 [some (rv l0), none, none, none, some (iv ((gfd G 2 3 l0) - 1)), some (rv (alAt G (gfd G 2 0 l0) ((gfd G 2 3 l0) - 1))), some (iv x14)] [] G15 c16 s17 Q X := ⟨_, rfl⟩
      have hJ13 : ∀ (x14 : Int) (G15 : Gt) (c16 s17 : Nat), (gcl G15 l0 = 3 ∧ gcl G15 (gfd G15 2 2 l0) = 4 ∧ Call E M_X3_keepInBounds [rv (gfd G15 2 2 l0)] G15 c16 s17 X (fun r20 G21 c22 s23 => gcl G21 l0 = 3 ∧ gcl G21 l0 = 3 ∧ gcl G21 (gfd G21 2 0 l0) = 14 ∧ Call E M_A_set [rv (gfd G21 2 0 l0), iv ((gfd G 2 3 l0) - 1), rv (gfd G21 2 2 l0)] G21 c22 s23 X (fun r27 G28 c29 s30 => gcl G28 l0 = 3 ∧ ∀ G32 : Gt, G32 = (sfd G28 2 2 l0 (alAt G (gfd G 2 0 l0) ((gfd G 2 3 l0) - 1))) → (x14 = 0 ∨ x14 = 1) ∧ Q x14 G32))) → J13 x14 G15 c16 s17 := by
        intro x14 G15 c16 s17 h
        rw [dJ13]
        refine v_aload_n (pc := 173) (dk dt_X2_goThrough_2 4 rfl) rfl rfl ?_
        obtain ⟨v18, h⟩ := h
        refine v_getR (pc := 174) (dk dt_X2_goThrough_2 5 rfl) fl_X2_28 v18 (fun _ => ?_)
        obtain ⟨v19, h⟩ := h
        refine v_cvV (c := 3) (As := []) (stk := []) (pc := 177) (dk dt_X2_goThrough_2 6 rfl) ml_X2_95 rfl rfl (Nat.le_of_ble_eq_true rfl) rfl ⟨by decide, rfl⟩ v19 rfl (Call.mono h (fun r20 G21 c22 s23 h => ?_))
        refine v_aload_n (pc := 180) (dk dt_X2_goThrough_2 7 rfl) rfl rfl ?_
        obtain ⟨v24, h⟩ := h
        refine v_getR (pc := 181) (dk dt_X2_goThrough_2 8 rfl) fl_X2_12 v24 (fun _ => ?_)
        refine v_iload (pc := 184) (dk dt_X2_goThrough_2 9 rfl) rfl ?_
        refine v_aload_n (pc := 186) (dk dt_X2_goThrough_2 10 rfl) rfl rfl ?_
        obtain ⟨v25, h⟩ := h
        refine v_getR (pc := 187) (dk dt_X2_goThrough_2 11 rfl) fl_X2_28 v25 (fun _ => ?_)
        obtain ⟨v26, h⟩ := h
        refine v_cvR (c := 13) (As := [iv ((gfd G 2 3 l0) - 1), rv (gfd G21 2 2 l0)]) (stk := []) (pc := 190) (dk dt_X2_goThrough_2 12 rfl) ml_X2_98 rfl rfl (Nat.le_of_ble_eq_true rfl) rfl ⟨by decide, rfl⟩ v26 rfl (Call.mono h (fun r27 G28 c29 s30 h => ?_))
        refine v_pop (pc := 193) (dk dt_X2_goThrough_2 13 rfl) (by intro h9; cases h9) ?_
        refine v_aload_n (pc := 194) (dk dt_X2_goThrough_2 14 rfl) rfl rfl ?_
        refine v_aload (pc := 195) (dk dt_X2_goThrough_2 15 rfl) rfl ?_
        obtain ⟨v31, h⟩ := h
        refine v_putR (pc := 197) (dk dt_X2_goThrough_2 16 rfl) fl_X2_28 (Or.inl rfl) v31 ?_
        generalize hG32 : (sfd G28 2 2 l0 (alAt G (gfd G 2 0 l0) ((gfd G 2 3 l0) - 1))) = G32
        replace h := h G32 hG32.symm
        refine v_iload (pc := 200) (dk dt_X2_goThrough_2 17 rfl) rfl ?_
        obtain ⟨v33, h⟩ := h
        exact v_zret (pc := 202) (dk dt_X2_goThrough_2 18 rfl) rfl v33 h
      replace h := h _ hJ13
      refine v_if_ne (pc := 48) (tgt := 66) (dk dt_X2_goThrough 24 rfl) (by decide) (fun c34 => ?_) (fun c34 => ?_)
      · replace h := h.1 c34
        refine v_aload_n (pc := 66) (dk dt_X2_goThrough 32 rfl) rfl rfl ?_
        obtain ⟨v35, h⟩ := h
        refine v_getI (pc := 67) (dk dt_X2_goThrough 33 rfl) fl_X2_50 v35 (fun _ => ?_)
        obtain ⟨v36, h⟩ := h
        refine v_csPZ (v := (wIn (gfd G 10 0 l1) 1 7)) (As := [iv (gfd G 10 0 l1)]) (stk := []) (pc := 70) (dk dt_X2_goThrough 34 rfl) ml_X2_72 rfl rfl (Nat.le_of_ble_eq_true rfl) rfl rfl v36 ?_
        refine v_if_eq (pc := 73) (tgt := 86) (dk dt_X2_goThrough 35 rfl) (by decide) (fun c37 => ?_) (fun c37 => ?_)
        · replace h := h.1 c37
          refine v_aload_n (pc := 86) (dk dt_X2_goThrough_1 2 rfl) rfl rfl ?_
          obtain ⟨v38, h⟩ := h
          refine v_getI (pc := 87) (dk dt_X2_goThrough_1 3 rfl) fl_X2_50 v38 (fun _ => ?_)
          refine v_bipush (pc := 90) (dk dt_X2_goThrough_1 4 rfl) (by decide) ⟨by decide, by decide⟩ ?_
          refine v_icmp_ne (pc := 92) (tgt := 108) (dk dt_X2_goThrough_1 5 rfl) (by decide) (fun c39 => ?_) (fun c39 => ?_)
          · replace h := h.1 c39
            refine v_aload_n (pc := 108) (dk dt_X2_goThrough_1 12 rfl) rfl rfl ?_
            obtain ⟨v40, h⟩ := h
            refine v_getI (pc := 109) (dk dt_X2_goThrough_1 13 rfl) fl_X2_50 v40 (fun _ => ?_)
            obtain ⟨v41, h⟩ := h
            refine v_csPZ (v := (wIn (gfd G 10 0 l1) 10 14)) (As := [iv (gfd G 10 0 l1)]) (stk := []) (pc := 112) (dk dt_X2_goThrough_1 14 rfl) ml_X2_84 rfl rfl (Nat.le_of_ble_eq_true rfl) rfl rfl v41 ?_
            refine v_if_ne (pc := 115) (tgt := 128) (dk dt_X2_goThrough_1 15 rfl) (by decide) (fun c42 => ?_) (fun c42 => ?_)
            · replace h := h.1 c42
              refine v_iload (pc := 128) (dk dt_X2_goThrough_1 21 rfl) rfl ?_
              refine v_iconst (pc := 130) (dk dt_X2_goThrough_1 22 rfl) ⟨by decide, by decide⟩ ?_
              obtain ⟨v43, h⟩ := h
              refine v_iadd (pc := 131) (dk dt_X2_goThrough_1 23 rfl) v43 ?_
              refine v_aload_n (pc := 132) (dk dt_X2_goThrough_1 24 rfl) rfl rfl ?_
              obtain ⟨v44, h⟩ := h
              refine v_getR (pc := 133) (dk dt_X2_goThrough_1 25 rfl) fl_X2_12 v44 (fun _ => ?_)
              obtain ⟨v45, h⟩ := h
              obtain ⟨v46, h⟩ := h
              refine v_cvPI (c := 13) (v := (gfd G 13 2 (gfd G 2 0 l0))) (As := []) (stk := [iv (((gfd G 2 3 l0) - 1) + 1)]) (pc := 136) (dk dt_X2_goThrough_1 26 rfl) ml_X2_40 rfl rfl (Nat.le_of_ble_eq_true rfl) rfl ⟨by decide, rfl⟩ v45 rfl v46 ?_
              obtain ⟨J47, dJ47⟩ : ∃ J9 : Int → Gt → Nat → Nat → Prop, J9 = fun x48 G49 c50 s51 => V E M_X2_goThrough 171 [some (rv l0), none, none, none, some (iv ((gfd G 2 3 l0) - 1)), some (rv (alAt G (gfd G 2 0 l0) ((gfd G 2 3 l0) - 1))), none] [iv x48] G49 c50 s51 Q X := ⟨_, rfl⟩
              have hJ47 : ∀ (x48 : Int) (G49 : Gt) (c50 s51 : Nat), J13 x48 G49 c50 s51 → J47 x48 G49 c50 s51 := by
                intro x48 G49 c50 s51 h
                rw [dJ47]
                refine v_istore (pc := 171) (ls' := [some (rv l0), none, none, none, some (iv ((gfd G 2 3 l0) - 1)), some (rv (alAt G (gfd G 2 0 l0) ((gfd G 2 3 l0) - 1))), some (iv x48)]) (dk dt_X2_goThrough_2 3 rfl) (Nat.le_of_ble_eq_true rfl) rfl ?_
                rw [dJ13] at h
                exact h
              replace h := h _ hJ47
              obtain ⟨J52, dJ52⟩ : ∃ J9 : Gt → Nat → Nat → Prop, J9 = fun G53 c54 s55 => V E M_X2_goThrough 170 [some (rv l0), none, none, none, some (iv ((gfd G 2 3 l0) - 1)), some (rv (alAt G (gfd G 2 0 l0) ((gfd G 2 3 l0) - 1))), none] [] G53 c54 s55 Q X := ⟨_, rfl⟩
              have hJ52 : ∀ (G53 : Gt) (c54 s55 : Nat), J47 0 G53 c54 s55 → J52 G53 c54 s55 := by
                intro G53 c54 s55 h
                rw [dJ52]
                refine v_iconst (pc := 170) (dk dt_X2_goThrough_2 2 rfl) ⟨by decide, by decide⟩ ?_
                rw [dJ47] at h
                exact h
              replace h := h _ hJ52
              refine v_icmp_ge (pc := 139) (tgt := 170) (dk dt_X2_goThrough_1 27 rfl) (by decide) (fun c56 => ?_) (fun c56 => ?_)
              · replace h := h.1 c56
                rw [dJ52] at h
                exact v_less2 (ls' := [some (rv l0), none, none, none, some (iv ((gfd G 2 3 l0) - 1)), some (rv (alAt G (gfd G 2 0 l0) ((gfd G 2 3 l0) - 1))), none]) ⟨rfl, rfl, rfl, trivial⟩ h
              · replace h := h.2 c56
                refine v_aload_n (pc := 142) (dk dt_X2_goThrough_1 28 rfl) rfl rfl ?_
                refine v_aload_n (pc := 143) (dk dt_X2_goThrough_1 29 rfl) rfl rfl ?_
                refine v_aload (pc := 144) (dk dt_X2_goThrough_1 30 rfl) rfl ?_
                refine v_aload_n (pc := 146) (dk dt_X2_goThrough_1 31 rfl) rfl rfl ?_
                obtain ⟨v57, h⟩ := h
                refine v_getR (pc := 147) (dk dt_X2_goThrough_1 32 rfl) fl_X2_12 v57 (fun _ => ?_)
                refine v_iload (pc := 150) (dk dt_X2_goThrough_1 33 rfl) rfl ?_
                refine v_iconst (pc := 152) (dk dt_X2_goThrough_1 34 rfl) ⟨by decide, by decide⟩ ?_
                obtain ⟨v58, h⟩ := h
                refine v_iadd (pc := 153) (dk dt_X2_goThrough_1 35 rfl) v58 ?_
                obtain ⟨v59, h⟩ := h
                obtain ⟨v60, h⟩ := h
                refine v_cvPR (c := 13) (v := (alAt G (gfd G 2 0 l0) (((gfd G 2 3 l0) - 1) + 1))) (As := [iv (((gfd G 2 3 l0) - 1) + 1)]) (stk := [rv (alAt G (gfd G 2 0 l0) ((gfd G 2 3 l0) - 1)), rv l1, rv l0]) (pc := 154) (dk dt_X2_goThrough_1 36 rfl) ml_X2_44 rfl rfl (Nat.le_of_ble_eq_true rfl) rfl ⟨by decide, rfl⟩ v59 rfl v60 ?_
                obtain ⟨v61, h⟩ := h
                refine v_cast (c := 3) (pc := 157) (dk dt_X2_goThrough_1 37 rfl) (by decide) cl_X2_25 v61 ?_
                obtain ⟨v62, h⟩ := h
                refine v_cvZ (c := 2) (As := [rv l1, rv (alAt G (gfd G 2 0 l0) ((gfd G 2 3 l0) - 1)), rv (alAt G (gfd G 2 0 l0) (((gfd G 2 3 l0) - 1) + 1))]) (stk := []) (pc := 160) (dk dt_X2_goThrough_1 38 rfl) ml_X2_91 rfl rfl (Nat.le_of_ble_eq_true rfl) rfl ⟨by decide, rfl⟩ v62 rfl (Call.mono h (fun r63 G64 c65 s66 h => ?_))
                refine v_if_eq (pc := 163) (tgt := 170) (dk dt_X2_goThrough_1 39 rfl) (by decide) (fun c67 => ?_) (fun c67 => ?_)
                · replace h := h.1 c67
                  rw [dJ52] at h
                  exact v_less2 (ls' := [some (rv l0), none, none, none, some (iv ((gfd G 2 3 l0) - 1)), some (rv (alAt G (gfd G 2 0 l0) ((gfd G 2 3 l0) - 1))), none]) ⟨rfl, rfl, rfl, trivial⟩ h
                · replace h := h.2 c67
                  refine v_iconst (pc := 166) (dk dt_X2_goThrough_2 0 rfl) ⟨by decide, by decide⟩ ?_
                  refine v_goto (pc := 167) (tgt := 171) (dk dt_X2_goThrough_2 1 rfl) (by decide) ?_
                  rw [dJ47] at h
                  exact v_less2 (ls' := [some (rv l0), none, none, none, some (iv ((gfd G 2 3 l0) - 1)), some (rv (alAt G (gfd G 2 0 l0) ((gfd G 2 3 l0) - 1))), none]) ⟨rfl, rfl, rfl, trivial⟩ h
            · replace h := h.2 c42
              refine v_aload_n (pc := 118) (dk dt_X2_goThrough_1 16 rfl) rfl rfl ?_
              refine v_aload (pc := 119) (dk dt_X2_goThrough_1 17 rfl) rfl ?_
              refine v_aload_n (pc := 121) (dk dt_X2_goThrough_1 18 rfl) rfl rfl ?_
              obtain ⟨v68, h⟩ := h
              refine v_cvV (c := 2) (As := [rv (alAt G (gfd G 2 0 l0) ((gfd G 2 3 l0) - 1)), rv l1]) (stk := []) (pc := 122) (dk dt_X2_goThrough_1 19 rfl) ml_X2_87 rfl rfl (Nat.le_of_ble_eq_true rfl) rfl ⟨by decide, rfl⟩ v68 rfl (Call.mono h (fun r69 G70 c71 s72 h => ?_))
              refine v_goto (pc := 125) (tgt := 173) (dk dt_X2_goThrough_1 20 rfl) (by decide) ?_
              rw [dJ13] at h
              exact v_less2 (ls' := [some (rv l0), none, none, none, some (iv ((gfd G 2 3 l0) - 1)), some (rv (alAt G (gfd G 2 0 l0) ((gfd G 2 3 l0) - 1))), some (iv 1)]) ⟨rfl, rfl, rfl, rfl, trivial⟩ h
          · replace h := h.2 c39
            refine v_aload_n (pc := 95) (dk dt_X2_goThrough_1 6 rfl) rfl rfl ?_
            refine v_aload (pc := 96) (dk dt_X2_goThrough_1 7 rfl) rfl ?_
            refine v_aload_n (pc := 98) (dk dt_X2_goThrough_1 8 rfl) rfl rfl ?_
            obtain ⟨v73, h⟩ := h
            refine v_getI (pc := 99) (dk dt_X2_goThrough_1 9 rfl) fl_X2_65 v73 (fun _ => ?_)
            obtain ⟨v74, h⟩ := h
            refine v_cvV (c := 2) (As := [rv (alAt G (gfd G 2 0 l0) ((gfd G 2 3 l0) - 1)), iv (gfd G 10 1 l1)]) (stk := []) (pc := 102) (dk dt_X2_goThrough_1 10 rfl) ml_X2_80 rfl rfl (Nat.le_of_ble_eq_true rfl) rfl ⟨by decide, rfl⟩ v74 rfl (Call.mono h (fun r75 G76 c77 s78 h => ?_))
            refine v_goto (pc := 105) (tgt := 173) (dk dt_X2_goThrough_1 11 rfl) (by decide) ?_
            rw [dJ13] at h
            exact v_less2 (ls' := [some (rv l0), none, none, none, some (iv ((gfd G 2 3 l0) - 1)), some (rv (alAt G (gfd G 2 0 l0) ((gfd G 2 3 l0) - 1))), some (iv 1)]) ⟨rfl, rfl, rfl, rfl, trivial⟩ h
        · replace h := h.2 c37
          refine v_aload_n (pc := 76) (dk dt_X2_goThrough 36 rfl) rfl rfl ?_
          refine v_aload_n (pc := 77) (dk dt_X2_goThrough 37 rfl) rfl rfl ?_
          refine v_aload_n (pc := 78) (dk dt_X2_goThrough 38 rfl) rfl rfl ?_
          refine v_iload_n (pc := 79) (dk dt_X2_goThrough 39 rfl) rfl rfl ?_
          obtain ⟨v79, h⟩ := h
          refine v_cvV (c := 2) (As := [rv l1, rv l2, iv l3]) (stk := []) (pc := 80) (dk dt_X2_goThrough_1 0 rfl) ml_X2_76 rfl rfl (Nat.le_of_ble_eq_true rfl) rfl ⟨by decide, rfl⟩ v79 rfl (Call.mono h (fun r80 G81 c82 s83 h => ?_))
          refine v_goto (pc := 83) (tgt := 173) (dk dt_X2_goThrough_1 1 rfl) (by decide) ?_
          rw [dJ13] at h
          exact v_less2 (ls' := [some (rv l0), none, none, none, some (iv ((gfd G 2 3 l0) - 1)), some (rv (alAt G (gfd G 2 0 l0) ((gfd G 2 3 l0) - 1))), some (iv 1)]) ⟨rfl, rfl, rfl, rfl, trivial⟩ h
      · replace h := h.2 c34
        refine v_aload_n (pc := 51) (dk dt_X2_goThrough 25 rfl) rfl rfl ?_
        obtain ⟨v84, h⟩ := h
        refine v_getR (pc := 52) (dk dt_X2_goThrough 26 rfl) fl_X2_28 v84 (fun _ => ?_)
        refine v_aload_n (pc := 55) (dk dt_X2_goThrough 27 rfl) rfl rfl ?_
        obtain ⟨v85, h⟩ := h
        refine v_getI (pc := 56) (dk dt_X2_goThrough 28 rfl) fl_X2_65 v85 (fun _ => ?_)
        refine v_i2l (pc := 59) (dk dt_X2_goThrough 29 rfl) ?_
        obtain ⟨v86, h⟩ := h
        refine v_cvV (c := 3) (As := [jv (gfd G 10 1 l1)]) (stk := []) (pc := 60) (dk dt_X2_goThrough 30 rfl) ml_X2_68 rfl rfl (Nat.le_of_ble_eq_true rfl) rfl ⟨by decide, rfl⟩ v86 rfl (Call.mono h (fun r87 G88 c89 s90 h => ?_))
        refine v_goto (pc := 63) (tgt := 173) (dk dt_X2_goThrough 31 rfl) (by decide) ?_
        rw [dJ13] at h
        exact v_less2 (ls' := [some (rv l0), none, none, none, some (iv ((gfd G 2 3 l0) - 1)), some (rv (alAt G (gfd G 2 0 l0) ((gfd G 2 3 l0) - 1))), some (iv 1)]) ⟨rfl, rfl, rfl, rfl, trivial⟩ h
    · replace h := h.2 c7
      refine v_iconst (pc := 25) (dk dt_X2_goThrough 12 rfl) ⟨by decide, by decide⟩ ?_
      exact v_zret (pc := 26) (dk dt_X2_goThrough 13 rfl) rfl (Or.inl rfl) h
set_option maxRecDepth 20000 in
theorem i_X2_goThrough {E : EE} {l0 l1 l2 l3 : Int} {G : Gt} {c s : Nat} {Q X : Int → Gt → Prop} (h : (gcl G l0 = 3 ∧ i32 ((gfd G 2 3 l0) - 1) ∧ ((((gfd G 2 3 l0) - 1) < 0 → Q 0 G) ∧ (0 ≤ ((gfd G 2 3 l0) - 1) → (gcl G l0 = 3 ∧ gcl G (gfd G 2 0 l0) = 14 ∧ OkP E M_A_size [rv (gfd G 2 0 l0)] G (gfd G 13 2 (gfd G 2 0 l0)) ∧ ((((gfd G 2 3 l0) - 1) < (gfd G 13 2 (gfd G 2 0 l0)) → (gcl G l0 = 3 ∧ gcl G (gfd G 2 0 l0) = 14 ∧ OkP E M_A_get [rv (gfd G 2 0 l0), iv ((gfd G 2 3 l0) - 1)] G (alAt G (gfd G 2 0 l0) ((gfd G 2 3 l0) - 1)) ∧ ((alAt G (gfd G 2 0 l0) ((gfd G 2 3 l0) - 1)) = -1 ∨ gcl G (alAt G (gfd G 2 0 l0) ((gfd G 2 3 l0) - 1)) = 4) ∧ gcl G l1 = 11 ∧ ∀ J13 : Int → Gt → Nat → Nat → Prop, (∀ (x14 : Int) (G15 : Gt) (c16 s17 : Nat), (gcl G15 l0 = 3 ∧ gcl G15 (gfd G15 2 2 l0) = 4 ∧ Call E M_X3_keepInBounds [rv (gfd G15 2 2 l0)] G15 c16 s17 X (fun r20 G21 c22 s23 => gcl G21 l0 = 3 ∧ gcl G21 l0 = 3 ∧ gcl G21 (gfd G21 2 0 l0) = 14 ∧ Call E M_A_set [rv (gfd G21 2 0 l0), iv ((gfd G 2 3 l0) - 1), rv (gfd G21 2 2 l0)] G21 c22 s23 X (fun r27 G28 c29 s30 => gcl G28 l0 = 3 ∧ ∀ G32 : Gt, G32 = (sfd G28 2 2 l0 (alAt G (gfd G 2 0 l0) ((gfd G 2 3 l0) - 1))) → (x14 = 0 ∨ x14 = 1) ∧ Q x14 G32))) → J13 x14 G15 c16 s17) → (((gfd G 10 0 l1) ≠ 0 → (gcl G l1 = 11 ∧ OkP E M_X10_reads [iv (gfd G 10 0 l1)] G (wIn (gfd G 10 0 l1) 1 7) ∧ (((wIn (gfd G 10 0 l1) 1 7) = 0 → (gcl G l1 = 11 ∧ (((gfd G 10 0 l1) ≠ 15 → (gcl G l1 = 11 ∧ OkP E M_X10_joins [iv (gfd G 10 0 l1)] G (wIn (gfd G 10 0 l1) 10 14) ∧ (((wIn (gfd G 10 0 l1) 10 14) ≠ 0 → (i32 (((gfd G 2 3 l0) - 1) + 1) ∧ gcl G l0 = 3 ∧ gcl G (gfd G 2 0 l0) = 14 ∧ OkP E M_A_size [rv (gfd G 2 0 l0)] G (gfd G 13 2 (gfd G 2 0 l0)) ∧ ∀ J47 : Int → Gt → Nat → Nat → Prop, (∀ (x48 : Int) (G49 : Gt) (c50 s51 : Nat), J13 x48 G49 c50 s51 → J47 x48 G49 c50 s51) → ∀ J52 : Gt → Nat → Nat → Prop, (∀ (G53 : Gt) (c54 s55 : Nat), J47 0 G53 c54 s55 → J52 G53 c54 s55) → (((gfd G 13 2 (gfd G 2 0 l0)) ≤ (((gfd G 2 3 l0) - 1) + 1) → J52 G c s) ∧ ((((gfd G 2 3 l0) - 1) + 1) < (gfd G 13 2 (gfd G 2 0 l0)) → (gcl G l0 = 3 ∧ i32 (((gfd G 2 3 l0) - 1) + 1) ∧ gcl G (gfd G 2 0 l0) = 14 ∧ OkP E M_A_get [rv (gfd G 2 0 l0), iv (((gfd G 2 3 l0) - 1) + 1)] G (alAt G (gfd G 2 0 l0) (((gfd G 2 3 l0) - 1) + 1)) ∧ ((alAt G (gfd G 2 0 l0) (((gfd G 2 3 l0) - 1) + 1)) = -1 ∨ gcl G (alAt G (gfd G 2 0 l0) (((gfd G 2 3 l0) - 1) + 1)) = 4) ∧ gcl G l0 = 3 ∧ Call E M_X2_join [rv l0, rv l1, rv (alAt G (gfd G 2 0 l0) ((gfd G 2 3 l0) - 1)), rv (alAt G (gfd G 2 0 l0) (((gfd G 2 3 l0) - 1) + 1))] G c s X (fun r63 G64 c65 s66 => ((r63 = 0 → J52 G64 c65 s66) ∧ (r63 ≠ 0 → J47 1 G64 c65 s66)))))))) ∧ ((wIn (gfd G 10 0 l1) 10 14) = 0 → (gcl G l0 = 3 ∧ Call E M_X2_fold [rv l0, rv (alAt G (gfd G 2 0 l0) ((gfd G 2 3 l0) - 1)), rv l1] G c s X (fun r69 G70 c71 s72 => J13 1 G70 c71 s72)))))) ∧ ((gfd G 10 0 l1) = 15 → (gcl G l1 = 11 ∧ gcl G l0 = 3 ∧ Call E M_X2_takeQuantiles [rv l0, rv (alAt G (gfd G 2 0 l0) ((gfd G 2 3 l0) - 1)), iv (gfd G 10 1 l1)] G c s X (fun r75 G76 c77 s78 => J13 1 G76 c77 s78)))))) ∧ ((wIn (gfd G 10 0 l1) 1 7) ≠ 0 → (gcl G l0 = 3 ∧ Call E M_X2_read [rv l0, rv l1, rv l2, iv l3] G c s X (fun r80 G81 c82 s83 => J13 1 G81 c82 s83)))))) ∧ ((gfd G 10 0 l1) = 0 → (gcl G l0 = 3 ∧ gcl G l1 = 11 ∧ gcl G (gfd G 2 2 l0) = 4 ∧ Call E M_X3_becomeNumber [rv (gfd G 2 2 l0), jv (gfd G 10 1 l1)] G c s X (fun r87 G88 c89 s90 => J13 1 G88 c89 s90)))))) ∧ ((gfd G 13 2 (gfd G 2 0 l0)) ≤ ((gfd G 2 3 l0) - 1) → Q 0 G))))))) : Ok E M_X2_goThrough [rv l0, rv l1, rv l2, iv l3] G c s Q X := Ok.intro (k := 3) rfl rfl (Nat.le_of_ble_eq_true rfl) rfl (b_X2_goThrough_0 h)
set_option maxRecDepth 20000 in
theorem b_X2_read_0 {E : EE} {l0 l1 l2 l3 : Int} {G : Gt} {c s : Nat} {Q X : Int → Gt → Prop} (h : (gcl G l0 = 3 ∧ gcl G (gfd G 2 2 l0) = 4 ∧ Call E M_X3_becomeVector [rv (gfd G 2 2 l0)] G c s X (fun r3 G4 c5 s6 => V E M_X2_read 10 [some (rv l0), some (rv l1), some (rv l2), some (iv l3), some (iv 0), none, none] [] G4 c5 s6 Q X))) : V E M_X2_read 0 [some (rv l0), some (rv l1), some (rv l2), some (iv l3), none, none, none] [] G c s Q X := by
  refine v_aload_n (pc := 0) (dk dt_X2_read 0 rfl) rfl rfl ?_
  obtain ⟨v1, h⟩ := h
  refine v_getR (pc := 1) (dk dt_X2_read 1 rfl) fl_X2_28 v1 (fun _ => ?_)
  obtain ⟨v2, h⟩ := h
  refine v_cvV (c := 3) (As := []) (stk := []) (pc := 4) (dk dt_X2_read 2 rfl) ml_X2_102 rfl rfl (Nat.le_of_ble_eq_true rfl) rfl ⟨by decide, rfl⟩ v2 rfl (Call.mono h (fun r3 G4 c5 s6 h => ?_))
  refine v_iconst (pc := 7) (dk dt_X2_read 3 rfl) ⟨by decide, by decide⟩ ?_
  refine v_istore (pc := 8) (ls' := [some (rv l0), some (rv l1), some (rv l2), some (iv l3), some (iv 0), none, none]) (dk dt_X2_read 4 rfl) (Nat.le_of_ble_eq_true rfl) rfl ?_
  exact h
set_option maxRecDepth 20000 in
theorem i_X2_read {E : EE} {l0 l1 l2 l3 : Int} {G : Gt} {c s : Nat} {Q X : Int → Gt → Prop} (h : (gcl G l0 = 3 ∧ gcl G (gfd G 2 2 l0) = 4 ∧ Call E M_X3_becomeVector [rv (gfd G 2 2 l0)] G c s X (fun r3 G4 c5 s6 => V E M_X2_read 10 [some (rv l0), some (rv l1), some (rv l2), some (iv l3), some (iv 0), none, none] [] G4 c5 s6 Q X))) : Ok E M_X2_read [rv l0, rv l1, rv l2, iv l3] G c s Q X := Ok.intro (k := 3) rfl rfl (Nat.le_of_ble_eq_true rfl) rfl (b_X2_read_0 h)
set_option maxRecDepth 20000 in
theorem b_X2_read_10 {E : EE} {l0 l1 l2 l3 l4 : Int} {G : Gt} {c s : Nat} {Q X : Int → Gt → Prop} (h : (gcl G l2 = 14 ∧ OkP E M_A_size [rv l2] G (gfd G 13 2 l2) ∧ (((gfd G 13 2 l2) ≤ l4 → Q 0 G) ∧ (l4 < (gfd G 13 2 l2) → (gcl G l2 = 14 ∧ OkP E M_A_get [rv l2, iv l4] G (alAt G l2 l4) ∧ ((alAt G l2 l4) = -1 ∨ gcl G (alAt G l2 l4) = 8) ∧ gcl G l1 = 11 ∧ gcl G (alAt G l2 l4) = 8 ∧ gcl G (gfd G 10 3 l1) = 7 ∧ OkP E M_X6_selects [rv (gfd G 10 3 l1), iv (gfd G 7 0 (alAt G l2 l4))] G (slS G (gfd G 10 3 l1) (gfd G 7 0 (alAt G l2 l4))) ∧ (((slS G (gfd G 10 3 l1) (gfd G 7 0 (alAt G l2 l4))) ≠ 0 → (gcl G l1 = 11 ∧ (((gfd G 10 0 l1) ≠ 1 → (gcl G l0 = 3 ∧ gcl G l1 = 11 ∧ i32 (l3 - (gfd G 10 2 l1)) ∧ i32 ((l3 - (gfd G 10 2 l1)) + 1) ∧ gcl G (gfd G 2 1 l0) = 10 ∧ Call E M_X9_gather [rv (gfd G 2 1 l0), rv (alAt G l2 l4), iv ((l3 - (gfd G 10 2 l1)) + 1), iv l3] G c s X (fun r19 G20 c21 s22 => gcl G20 l0 = 3 ∧ gcl G20 l1 = 11 ∧ gcl G20 (gfd G20 2 1 l0) = 10 ∧ Call E M_X9_canTell [rv (gfd G20 2 1 l0), iv (gfd G20 10 0 l1)] G20 c21 s22 X (fun r26 G27 c28 s29 => ((r26 = 0 → (i32 (l4 + 1) ∧ V E M_X2_read 10 [some (rv l0), some (rv l1), some (rv l2), some (iv l3), some (iv (l4 + 1)), none, none] [] G27 c28 s29 Q X)) ∧ (r26 ≠ 0 → (gcl G27 l0 = 3 ∧ gcl G27 (alAt G l2 l4) = 8 ∧ gcl G27 l0 = 3 ∧ gcl G27 l1 = 11 ∧ gcl G27 l1 = 11 ∧ gcl G27 (gfd G27 2 1 l0) = 10 ∧ Call E M_X9_tellOf [rv (gfd G27 2 1 l0), iv (gfd G27 10 0 l1), iv (gfd G27 10 2 l1), iv l3] G27 c28 s29 X (fun r38 G39 c40 s41 => gcl G39 (gfd G27 2 2 l0) = 4 ∧ Call E M_X3_put [rv (gfd G27 2 2 l0), iv (gfd G27 7 0 (alAt G l2 l4)), jv r38] G39 c40 s41 X (fun r43 G44 c45 s46 => i32 (l4 + 1) ∧ V E M_X2_read 10 [some (rv l0), some (rv l1), some (rv l2), some (iv l3), some (iv (l4 + 1)), none, none] [] G44 c45 s46 Q X))))))))) ∧ ((gfd G 10 0 l1) = 1 → (gcl G l1 = 11 ∧ i32 (l3 - (gfd G 10 2 l1)) ∧ gcl G (alAt G l2 l4) = 8 ∧ Call E M_X7_latest [rv (alAt G l2 l4), iv (l3 - (gfd G 10 2 l1))] G c s X (fun r51 G52 c53 s54 => ((r51 = -1 → (i32 (l4 + 1) ∧ V E M_X2_read 10 [some (rv l0), some (rv l1), some (rv l2), some (iv l3), some (iv (l4 + 1)), none, none] [] G52 c53 s54 Q X)) ∧ (0 ≤ r51 → (gcl G52 r51 = 6 ∧ (((gfd G52 5 2 r51) = (-2147483648) → (i32 (l4 + 1) ∧ V E M_X2_read 10 [some (rv l0), some (rv l1), some (rv l2), some (iv l3), some (iv (l4 + 1)), none, none] [] G52 c53 s54 Q X)) ∧ ((gfd G52 5 2 r51) ≠ (-2147483648) → (gcl G52 l0 = 3 ∧ gcl G52 (alAt G l2 l4) = 8 ∧ gcl G52 r51 = 6 ∧ i64 (1000 * (gfd G52 5 2 r51)) ∧ gcl G52 (gfd G52 2 2 l0) = 4 ∧ Call E M_X3_put [rv (gfd G52 2 2 l0), iv (gfd G52 7 0 (alAt G l2 l4)), jv (1000 * (gfd G52 5 2 r51))] G52 c53 s54 X (fun r65 G66 c67 s68 => i32 (l4 + 1) ∧ V E M_X2_read 10 [some (rv l0), some (rv l1), some (rv l2), some (iv l3), some (iv (l4 + 1)), none, none] [] G66 c67 s68 Q X))))))))))))) ∧ ((slS G (gfd G 10 3 l1) (gfd G 7 0 (alAt G l2 l4))) = 0 → (i32 (l4 + 1) ∧ V E M_X2_read 10 [some (rv l0), some (rv l1), some (rv l2), some (iv l3), some (iv (l4 + 1)), none, none] [] G c s Q X)))))))) : V E M_X2_read 10 [some (rv l0), some (rv l1), some (rv l2), some (iv l3), some (iv l4), none, none] [] G c s Q X := by
  refine v_iload (pc := 10) (dk dt_X2_read 5 rfl) rfl ?_
  refine v_aload_n (pc := 12) (dk dt_X2_read 6 rfl) rfl rfl ?_
  obtain ⟨v1, h⟩ := h
  obtain ⟨v2, h⟩ := h
  refine v_cvPI (c := 13) (v := (gfd G 13 2 l2)) (As := []) (stk := [iv l4]) (pc := 13) (dk dt_X2_read 7 rfl) ml_X2_40 rfl rfl (Nat.le_of_ble_eq_true rfl) rfl ⟨by decide, rfl⟩ v1 rfl v2 ?_
  refine v_icmp_ge (pc := 16) (tgt := 175) (dk dt_X2_read 8 rfl) (by decide) (fun c3 => ?_) (fun c3 => ?_)
  · replace h := h.1 c3
    exact v_vret (pc := 175) (dk dt_X2_read_2 1 rfl) rfl h
  · replace h := h.2 c3
    refine v_aload_n (pc := 19) (dk dt_X2_read 9 rfl) rfl rfl ?_
    refine v_iload (pc := 20) (dk dt_X2_read 10 rfl) rfl ?_
    obtain ⟨v4, h⟩ := h
    obtain ⟨v5, h⟩ := h
    refine v_cvPR (c := 13) (v := (alAt G l2 l4)) (As := [iv l4]) (stk := []) (pc := 22) (dk dt_X2_read 11 rfl) ml_X2_44 rfl rfl (Nat.le_of_ble_eq_true rfl) rfl ⟨by decide, rfl⟩ v4 rfl v5 ?_
    obtain ⟨v6, h⟩ := h
    refine v_cast (c := 7) (pc := 25) (dk dt_X2_read 12 rfl) (by decide) cl_X2_105 v6 ?_
    refine v_astore (pc := 28) (ls' := [some (rv l0), some (rv l1), some (rv l2), some (iv l3), some (iv l4), some (rv (alAt G l2 l4)), none]) (dk dt_X2_read 13 rfl) (Nat.le_of_ble_eq_true rfl) rfl ?_
    refine v_aload_n (pc := 30) (dk dt_X2_read 14 rfl) rfl rfl ?_
    obtain ⟨v7, h⟩ := h
    refine v_getR (pc := 31) (dk dt_X2_read 15 rfl) fl_X2_107 v7 (fun _ => ?_)
    refine v_aload (pc := 34) (dk dt_X2_read 16 rfl) rfl ?_
    obtain ⟨v8, h⟩ := h
    refine v_getI (pc := 36) (dk dt_X2_read 17 rfl) fl_X2_111 v8 (fun _ => ?_)
    obtain ⟨v9, h⟩ := h
    obtain ⟨v10, h⟩ := h
    refine v_cvPZ (c := 6) (v := (slS G (gfd G 10 3 l1) (gfd G 7 0 (alAt G l2 l4)))) (As := [iv (gfd G 7 0 (alAt G l2 l4))]) (stk := []) (pc := 39) (dk dt_X2_read 18 rfl) ml_X2_114 rfl rfl (Nat.le_of_ble_eq_true rfl) rfl ⟨by decide, rfl⟩ v9 rfl v10 ?_
    refine v_if_ne (pc := 42) (tgt := 48) (dk dt_X2_read 19 rfl) (by decide) (fun c11 => ?_) (fun c11 => ?_)
    · replace h := h.1 c11
      refine v_aload_n (pc := 48) (dk dt_X2_read 21 rfl) rfl rfl ?_
      obtain ⟨v12, h⟩ := h
      refine v_getI (pc := 49) (dk dt_X2_read 22 rfl) fl_X2_50 v12 (fun _ => ?_)
      refine v_iconst (pc := 52) (dk dt_X2_read 23 rfl) ⟨by decide, by decide⟩ ?_
      refine v_icmp_ne (pc := 53) (tgt := 109) (dk dt_X2_read 24 rfl) (by decide) (fun c13 => ?_) (fun c13 => ?_)
      · replace h := h.1 c13
        refine v_aload_n (pc := 109) (dk dt_X2_read_1 9 rfl) rfl rfl ?_
        obtain ⟨v14, h⟩ := h
        refine v_getR (pc := 110) (dk dt_X2_read_1 10 rfl) fl_X2_21 v14 (fun _ => ?_)
        refine v_aload (pc := 113) (dk dt_X2_read_1 11 rfl) rfl ?_
        refine v_iload_n (pc := 115) (dk dt_X2_read_1 12 rfl) rfl rfl ?_
        refine v_aload_n (pc := 116) (dk dt_X2_read_1 13 rfl) rfl rfl ?_
        obtain ⟨v15, h⟩ := h
        refine v_getI (pc := 117) (dk dt_X2_read_1 14 rfl) fl_X2_119 v15 (fun _ => ?_)
        obtain ⟨v16, h⟩ := h
        refine v_isub (pc := 120) (dk dt_X2_read_1 15 rfl) v16 ?_
        refine v_iconst (pc := 121) (dk dt_X2_read_1 16 rfl) ⟨by decide, by decide⟩ ?_
        obtain ⟨v17, h⟩ := h
        refine v_iadd (pc := 122) (dk dt_X2_read_1 17 rfl) v17 ?_
        refine v_iload_n (pc := 123) (dk dt_X2_read_1 18 rfl) rfl rfl ?_
        obtain ⟨v18, h⟩ := h
        refine v_cvV (c := 9) (As := [rv (alAt G l2 l4), iv ((l3 - (gfd G 10 2 l1)) + 1), iv l3]) (stk := []) (pc := 124) (dk dt_X2_read_1 19 rfl) ml_X2_138 rfl rfl (Nat.le_of_ble_eq_true rfl) rfl ⟨by decide, rfl⟩ v18 rfl (Call.mono h (fun r19 G20 c21 s22 h => ?_))
        refine v_aload_n (pc := 127) (dk dt_X2_read_1 20 rfl) rfl rfl ?_
        obtain ⟨v23, h⟩ := h
        refine v_getR (pc := 128) (dk dt_X2_read_1 21 rfl) fl_X2_21 v23 (fun _ => ?_)
        refine v_aload_n (pc := 131) (dk dt_X2_read_1 22 rfl) rfl rfl ?_
        obtain ⟨v24, h⟩ := h
        refine v_getI (pc := 132) (dk dt_X2_read_1 23 rfl) fl_X2_50 v24 (fun _ => ?_)
        obtain ⟨v25, h⟩ := h
        refine v_cvZ (c := 9) (As := [iv (gfd G20 10 0 l1)]) (stk := []) (pc := 135) (dk dt_X2_read_1 24 rfl) ml_X2_142 rfl rfl (Nat.le_of_ble_eq_true rfl) rfl ⟨by decide, rfl⟩ v25 rfl (Call.mono h (fun r26 G27 c28 s29 h => ?_))
        refine v_if_eq (pc := 138) (tgt := 169) (dk dt_X2_read_1 25 rfl) (by decide) (fun c30 => ?_) (fun c30 => ?_)
        · replace h := h.1 c30
          obtain ⟨v31, h⟩ := h
          refine v_iinc (pc := 169) (ls' := [some (rv l0), some (rv l1), some (rv l2), some (iv l3), some (iv (l4 + 1)), some (rv (alAt G l2 l4)), none]) (dk dt_X2_read_1 39 rfl) (Nat.le_of_ble_eq_true rfl) rfl v31 rfl ?_
          refine v_goto (pc := 172) (tgt := 10) (dk dt_X2_read_2 0 rfl) (by decide) ?_
          exact v_less2 (ls' := [some (rv l0), some (rv l1), some (rv l2), some (iv l3), some (iv (l4 + 1)), none, none]) ⟨rfl, rfl, rfl, rfl, rfl, trivial⟩ h
        · replace h := h.2 c30
          refine v_aload_n (pc := 141) (dk dt_X2_read_1 26 rfl) rfl rfl ?_
          obtain ⟨v32, h⟩ := h
          refine v_getR (pc := 142) (dk dt_X2_read_1 27 rfl) fl_X2_28 v32 (fun _ => ?_)
          refine v_aload (pc := 145) (dk dt_X2_read_1 28 rfl) rfl ?_
          obtain ⟨v33, h⟩ := h
          refine v_getI (pc := 147) (dk dt_X2_read_1 29 rfl) fl_X2_111 v33 (fun _ => ?_)
          refine v_aload_n (pc := 150) (dk dt_X2_read_1 30 rfl) rfl rfl ?_
          obtain ⟨v34, h⟩ := h
          refine v_getR (pc := 151) (dk dt_X2_read_1 31 rfl) fl_X2_21 v34 (fun _ => ?_)
          refine v_aload_n (pc := 154) (dk dt_X2_read_1 32 rfl) rfl rfl ?_
          obtain ⟨v35, h⟩ := h
          refine v_getI (pc := 155) (dk dt_X2_read_1 33 rfl) fl_X2_50 v35 (fun _ => ?_)
          refine v_aload_n (pc := 158) (dk dt_X2_read_1 34 rfl) rfl rfl ?_
          obtain ⟨v36, h⟩ := h
          refine v_getI (pc := 159) (dk dt_X2_read_1 35 rfl) fl_X2_119 v36 (fun _ => ?_)
          refine v_iload_n (pc := 162) (dk dt_X2_read_1 36 rfl) rfl rfl ?_
          obtain ⟨v37, h⟩ := h
          refine v_cvJ (c := 9) (As := [iv (gfd G27 10 0 l1), iv (gfd G27 10 2 l1), iv l3]) (stk := [iv (gfd G27 7 0 (alAt G l2 l4)), rv (gfd G27 2 2 l0)]) (pc := 163) (dk dt_X2_read_1 37 rfl) ml_X2_145 rfl rfl (Nat.le_of_ble_eq_true rfl) rfl ⟨by decide, rfl⟩ v37 rfl (Call.mono h (fun r38 G39 c40 s41 h => ?_))
          obtain ⟨v42, h⟩ := h
          refine v_cvV (c := 3) (As := [iv (gfd G27 7 0 (alAt G l2 l4)), jv r38]) (stk := []) (pc := 166) (dk dt_X2_read_1 38 rfl) ml_X2_134 rfl rfl (Nat.le_of_ble_eq_true rfl) rfl ⟨by decide, rfl⟩ v42 rfl (Call.mono h (fun r43 G44 c45 s46 h => ?_))
          obtain ⟨v47, h⟩ := h
          refine v_iinc (pc := 169) (ls' := [some (rv l0), some (rv l1), some (rv l2), some (iv l3), some (iv (l4 + 1)), some (rv (alAt G l2 l4)), none]) (dk dt_X2_read_1 39 rfl) (Nat.le_of_ble_eq_true rfl) rfl v47 rfl ?_
          refine v_goto (pc := 172) (tgt := 10) (dk dt_X2_read_2 0 rfl) (by decide) ?_
          exact v_less2 (ls' := [some (rv l0), some (rv l1), some (rv l2), some (iv l3), some (iv (l4 + 1)), none, none]) ⟨rfl, rfl, rfl, rfl, rfl, trivial⟩ h
      · replace h := h.2 c13
        refine v_aload (pc := 56) (dk dt_X2_read 25 rfl) rfl ?_
        refine v_iload_n (pc := 58) (dk dt_X2_read 26 rfl) rfl rfl ?_
        refine v_aload_n (pc := 59) (dk dt_X2_read 27 rfl) rfl rfl ?_
        obtain ⟨v48, h⟩ := h
        refine v_getI (pc := 60) (dk dt_X2_read 28 rfl) fl_X2_119 v48 (fun _ => ?_)
        obtain ⟨v49, h⟩ := h
        refine v_isub (pc := 63) (dk dt_X2_read 29 rfl) v49 ?_
        obtain ⟨v50, h⟩ := h
        refine v_cvR (c := 7) (As := [iv (l3 - (gfd G 10 2 l1))]) (stk := []) (pc := 64) (dk dt_X2_read 30 rfl) ml_X2_122 rfl rfl (Nat.le_of_ble_eq_true rfl) rfl ⟨by decide, rfl⟩ v50 rfl (Call.mono h (fun r51 G52 c53 s54 h => ?_))
        refine v_astore (pc := 67) (ls' := [some (rv l0), some (rv l1), some (rv l2), some (iv l3), some (iv l4), some (rv (alAt G l2 l4)), some (rv r51)]) (dk dt_X2_read 31 rfl) (Nat.le_of_ble_eq_true rfl) rfl ?_
        refine v_aload (pc := 69) (dk dt_X2_read 32 rfl) rfl ?_
        refine v_ifnull (pc := 71) (tgt := 169) (dk dt_X2_read 33 rfl) (by decide) (fun c55 => ?_) (fun c55 => ?_)
        · replace h := h.1 c55
          obtain ⟨v56, h⟩ := h
          refine v_iinc (pc := 169) (ls' := [some (rv l0), some (rv l1), some (rv l2), some (iv l3), some (iv (l4 + 1)), some (rv (alAt G l2 l4)), some (rv r51)]) (dk dt_X2_read_1 39 rfl) (Nat.le_of_ble_eq_true rfl) rfl v56 rfl ?_
          refine v_goto (pc := 172) (tgt := 10) (dk dt_X2_read_2 0 rfl) (by decide) ?_
          exact v_less2 (ls' := [some (rv l0), some (rv l1), some (rv l2), some (iv l3), some (iv (l4 + 1)), none, none]) ⟨rfl, rfl, rfl, rfl, rfl, trivial⟩ h
        · replace h := h.2 c55
          refine v_aload (pc := 74) (dk dt_X2_read 34 rfl) rfl ?_
          obtain ⟨v57, h⟩ := h
          refine v_getI (pc := 76) (dk dt_X2_read 35 rfl) fl_X2_126 v57 (fun _ => ?_)
          refine v_ldc (pc := 79) (dk dt_X2_read 36 rfl) co_X2_131 ⟨by decide, by decide⟩ ?_
          refine v_icmp_eq (pc := 81) (tgt := 169) (dk dt_X2_read 37 rfl) (by decide) (fun c58 => ?_) (fun c58 => ?_)
          · replace h := h.1 c58
            obtain ⟨v59, h⟩ := h
            refine v_iinc (pc := 169) (ls' := [some (rv l0), some (rv l1), some (rv l2), some (iv l3), some (iv (l4 + 1)), some (rv (alAt G l2 l4)), some (rv r51)]) (dk dt_X2_read_1 39 rfl) (Nat.le_of_ble_eq_true rfl) rfl v59 rfl ?_
            refine v_goto (pc := 172) (tgt := 10) (dk dt_X2_read_2 0 rfl) (by decide) ?_
            exact v_less2 (ls' := [some (rv l0), some (rv l1), some (rv l2), some (iv l3), some (iv (l4 + 1)), none, none]) ⟨rfl, rfl, rfl, rfl, rfl, trivial⟩ h
          · replace h := h.2 c58
            refine v_aload_n (pc := 84) (dk dt_X2_read 38 rfl) rfl rfl ?_
            obtain ⟨v60, h⟩ := h
            refine v_getR (pc := 85) (dk dt_X2_read 39 rfl) fl_X2_28 v60 (fun _ => ?_)
            refine v_aload (pc := 88) (dk dt_X2_read_1 0 rfl) rfl ?_
            obtain ⟨v61, h⟩ := h
            refine v_getI (pc := 90) (dk dt_X2_read_1 1 rfl) fl_X2_111 v61 (fun _ => ?_)
            refine v_ldc2 (pc := 93) (dk dt_X2_read_1 2 rfl) co_X2_132 ⟨by decide, by decide⟩ ?_
            refine v_aload (pc := 96) (dk dt_X2_read_1 3 rfl) rfl ?_
            obtain ⟨v62, h⟩ := h
            refine v_getI (pc := 98) (dk dt_X2_read_1 4 rfl) fl_X2_126 v62 (fun _ => ?_)
            refine v_i2l (pc := 101) (dk dt_X2_read_1 5 rfl) ?_
            obtain ⟨v63, h⟩ := h
            refine v_lmul (pc := 102) (dk dt_X2_read_1 6 rfl) v63 ?_
            obtain ⟨v64, h⟩ := h
            refine v_cvV (c := 3) (As := [iv (gfd G52 7 0 (alAt G l2 l4)), jv (1000 * (gfd G52 5 2 r51))]) (stk := []) (pc := 103) (dk dt_X2_read_1 7 rfl) ml_X2_134 rfl rfl (Nat.le_of_ble_eq_true rfl) rfl ⟨by decide, rfl⟩ v64 rfl (Call.mono h (fun r65 G66 c67 s68 h => ?_))
            refine v_goto (pc := 106) (tgt := 169) (dk dt_X2_read_1 8 rfl) (by decide) ?_
            obtain ⟨v69, h⟩ := h
            refine v_iinc (pc := 169) (ls' := [some (rv l0), some (rv l1), some (rv l2), some (iv l3), some (iv (l4 + 1)), some (rv (alAt G l2 l4)), some (rv r51)]) (dk dt_X2_read_1 39 rfl) (Nat.le_of_ble_eq_true rfl) rfl v69 rfl ?_
            refine v_goto (pc := 172) (tgt := 10) (dk dt_X2_read_2 0 rfl) (by decide) ?_
            exact v_less2 (ls' := [some (rv l0), some (rv l1), some (rv l2), some (iv l3), some (iv (l4 + 1)), none, none]) ⟨rfl, rfl, rfl, rfl, rfl, trivial⟩ h
    · replace h := h.2 c11
      refine v_goto (pc := 45) (tgt := 169) (dk dt_X2_read 20 rfl) (by decide) ?_
      obtain ⟨v70, h⟩ := h
      refine v_iinc (pc := 169) (ls' := [some (rv l0), some (rv l1), some (rv l2), some (iv l3), some (iv (l4 + 1)), some (rv (alAt G l2 l4)), none]) (dk dt_X2_read_1 39 rfl) (Nat.le_of_ble_eq_true rfl) rfl v70 rfl ?_
      refine v_goto (pc := 172) (tgt := 10) (dk dt_X2_read_2 0 rfl) (by decide) ?_
      exact v_less2 (ls' := [some (rv l0), some (rv l1), some (rv l2), some (iv l3), some (iv (l4 + 1)), none, none]) ⟨rfl, rfl, rfl, rfl, rfl, trivial⟩ h
set_option maxRecDepth 20000 in
theorem b_X2_fold_0 {E : EE} {l0 l1 l2 : Int} {G : Gt} {c s : Nat} {Q X : Int → Gt → Prop} (h : (gcl G l1 = 4 ∧ (((gfd G 3 3 l1) = 0 → (gcl G l0 = 3 ∧ gcl G (gfd G 2 2 l0) = 4 ∧ Call E M_X3_becomeVector [rv (gfd G 2 2 l0)] G c s X (fun r5 G6 c7 s8 => V E M_X2_fold 28 [some (rv l0), some (rv l1), some (rv l2), some (iv 0), none, none] [] G6 c7 s8 Q X))) ∧ ((gfd G 3 3 l1) ≠ 0 → (gcl G l0 = 3 ∧ gcl G l1 = 4 ∧ Call E M_X3_single [rv l1] G c s X (fun r11 G12 c13 s14 => gcl G12 (gfd G 2 2 l0) = 4 ∧ Call E M_X3_becomeNumber [rv (gfd G 2 2 l0), jv r11] G12 c13 s14 X (fun r16 G17 c18 s19 => Q 0 G17))))))) : V E M_X2_fold 0 [some (rv l0), some (rv l1), some (rv l2), none, none, none] [] G c s Q X := by
  refine v_aload_n (pc := 0) (dk dt_X2_fold 0 rfl) rfl rfl ?_
  obtain ⟨v1, h⟩ := h
  refine v_getZ (pc := 1) (dk dt_X2_fold 1 rfl) fl_X2_149 v1 (fun _ => ?_)
  refine v_if_eq (pc := 4) (tgt := 19) (dk dt_X2_fold 2 rfl) (by decide) (fun c2 => ?_) (fun c2 => ?_)
  · replace h := h.1 c2
    refine v_aload_n (pc := 19) (dk dt_X2_fold 9 rfl) rfl rfl ?_
    obtain ⟨v3, h⟩ := h
    refine v_getR (pc := 20) (dk dt_X2_fold 10 rfl) fl_X2_28 v3 (fun _ => ?_)
    obtain ⟨v4, h⟩ := h
    refine v_cvV (c := 3) (As := []) (stk := []) (pc := 23) (dk dt_X2_fold 11 rfl) ml_X2_102 rfl rfl (Nat.le_of_ble_eq_true rfl) rfl ⟨by decide, rfl⟩ v4 rfl (Call.mono h (fun r5 G6 c7 s8 h => ?_))
    refine v_iconst (pc := 26) (dk dt_X2_fold 12 rfl) ⟨by decide, by decide⟩ ?_
    refine v_istore_n (pc := 27) (ls' := [some (rv l0), some (rv l1), some (rv l2), some (iv 0), none, none]) (dk dt_X2_fold 13 rfl) rfl (Nat.le_of_ble_eq_true rfl) rfl ?_
    exact h
  · replace h := h.2 c2
    refine v_aload_n (pc := 7) (dk dt_X2_fold 3 rfl) rfl rfl ?_
    obtain ⟨v9, h⟩ := h
    refine v_getR (pc := 8) (dk dt_X2_fold 4 rfl) fl_X2_28 v9 (fun _ => ?_)
    refine v_aload_n (pc := 11) (dk dt_X2_fold 5 rfl) rfl rfl ?_
    obtain ⟨v10, h⟩ := h
    refine v_cvJ (c := 3) (As := []) (stk := [rv (gfd G 2 2 l0)]) (pc := 12) (dk dt_X2_fold 6 rfl) ml_X2_153 rfl rfl (Nat.le_of_ble_eq_true rfl) rfl ⟨by decide, rfl⟩ v10 rfl (Call.mono h (fun r11 G12 c13 s14 h => ?_))
    obtain ⟨v15, h⟩ := h
    refine v_cvV (c := 3) (As := [jv r11]) (stk := []) (pc := 15) (dk dt_X2_fold 7 rfl) ml_X2_68 rfl rfl (Nat.le_of_ble_eq_true rfl) rfl ⟨by decide, rfl⟩ v15 rfl (Call.mono h (fun r16 G17 c18 s19 h => ?_))
    exact v_vret (pc := 18) (dk dt_X2_fold 8 rfl) rfl h
set_option maxRecDepth 20000 in
theorem i_X2_fold {E : EE} {l0 l1 l2 : Int} {G : Gt} {c s : Nat} {Q X : Int → Gt → Prop} (h : (gcl G l1 = 4 ∧ (((gfd G 3 3 l1) = 0 → (gcl G l0 = 3 ∧ gcl G (gfd G 2 2 l0) = 4 ∧ Call E M_X3_becomeVector [rv (gfd G 2 2 l0)] G c s X (fun r5 G6 c7 s8 => V E M_X2_fold 28 [some (rv l0), some (rv l1), some (rv l2), some (iv 0), none, none] [] G6 c7 s8 Q X))) ∧ ((gfd G 3 3 l1) ≠ 0 → (gcl G l0 = 3 ∧ gcl G l1 = 4 ∧ Call E M_X3_single [rv l1] G c s X (fun r11 G12 c13 s14 => gcl G12 (gfd G 2 2 l0) = 4 ∧ Call E M_X3_becomeNumber [rv (gfd G 2 2 l0), jv r11] G12 c13 s14 X (fun r16 G17 c18 s19 => Q 0 G17))))))) : Ok E M_X2_fold [rv l0, rv l1, rv l2] G c s Q X := Ok.intro (k := 3) rfl rfl (Nat.le_of_ble_eq_true rfl) rfl (b_X2_fold_0 h)
set_option maxRecDepth 20000 in
theorem b_X2_fold_28 {E : EE} {l0 l1 l2 l3 : Int} {G : Gt} {c s : Nat} {Q X : Int → Gt → Prop} (h : (gcl G l1 = 4 ∧ (((gfd G 3 2 l1) ≤ l3 → Q 0 G) ∧ (l3 < (gfd G 3 2 l1) → (gcl G l1 = 4 ∧ gcl G (gfd G 3 0 l1) = 15 ∧ 0 ≤ l3 ∧ l3 < gln G (gfd G 3 0 l1) ∧ gcl G l2 = 11 ∧ OkP E M_X2_only [iv (gel G (gfd G 3 0 l1) l3), iv (gfd G 10 1 l2)] G (wMask (gel G (gfd G 3 0 l1) l3) (gfd G 10 1 l2)) ∧ gcl G l0 = 3 ∧ gcl G (gfd G 2 2 l0) = 4 ∧ Call E M_X3_find [rv (gfd G 2 2 l0), iv (wMask (gel G (gfd G 3 0 l1) l3) (gfd G 10 1 l2))] G c s X (fun r11 G12 c13 s14 => ((r11 ≠ (-1) → (gcl G12 l2 = 11 ∧ (((gfd G12 10 0 l2) ≠ 8 → (gcl G12 l0 = 3 ∧ gcl G12 (gfd G12 2 2 l0) = 4 ∧ gcl G12 l0 = 3 ∧ gcl G12 (gfd G12 2 2 l0) = 4 ∧ gcl G12 (gfd G12 3 1 (gfd G12 2 2 l0)) = 16 ∧ 0 ≤ r11 ∧ r11 < gln G12 (gfd G12 3 1 (gfd G12 2 2 l0)) ∧ gcl G12 l1 = 4 ∧ gcl G12 (gfd G12 3 1 l1) = 16 ∧ 0 ≤ l3 ∧ l3 < gln G12 (gfd G12 3 1 l1) ∧ gcl G12 (gfd G12 3 1 (gfd G12 2 2 l0)) = 16 ∧ 0 ≤ r11 ∧ r11 < gln G12 (gfd G12 3 1 (gfd G12 2 2 l0)) ∧ ∀ G32 : Gt, G32 = (sel G12 (gfd G12 3 1 (gfd G12 2 2 l0)) r11 (max (gel G12 (gfd G12 3 1 (gfd G12 2 2 l0)) r11) (gel G12 (gfd G12 3 1 l1) l3))) → i32 (l3 + 1) ∧ V E M_X2_fold 28 [some (rv l0), some (rv l1), some (rv l2), some (iv (l3 + 1)), none, none] [] G32 c13 s14 Q X)) ∧ ((gfd G12 10 0 l2) = 8 → (gcl G12 l0 = 3 ∧ gcl G12 (gfd G12 2 2 l0) = 4 ∧ gcl G12 (gfd G12 3 1 (gfd G12 2 2 l0)) = 16 ∧ 0 ≤ r11 ∧ r11 < gln G12 (gfd G12 3 1 (gfd G12 2 2 l0)) ∧ gcl G12 l1 = 4 ∧ gcl G12 (gfd G12 3 1 l1) = 16 ∧ 0 ≤ l3 ∧ l3 < gln G12 (gfd G12 3 1 l1) ∧ i64 ((gel G12 (gfd G12 3 1 (gfd G12 2 2 l0)) r11) + (gel G12 (gfd G12 3 1 l1) l3)) ∧ gcl G12 (gfd G12 3 1 (gfd G12 2 2 l0)) = 16 ∧ 0 ≤ r11 ∧ r11 < gln G12 (gfd G12 3 1 (gfd G12 2 2 l0)) ∧ ∀ G47 : Gt, G47 = (sel G12 (gfd G12 3 1 (gfd G12 2 2 l0)) r11 ((gel G12 (gfd G12 3 1 (gfd G12 2 2 l0)) r11) + (gel G12 (gfd G12 3 1 l1) l3))) → i32 (l3 + 1) ∧ V E M_X2_fold 28 [some (rv l0), some (rv l1), some (rv l2), some (iv (l3 + 1)), none, none] [] G47 c13 s14 Q X))))) ∧ (r11 = (-1) → (gcl G12 l0 = 3 ∧ gcl G12 l1 = 4 ∧ gcl G12 (gfd G12 3 1 l1) = 16 ∧ 0 ≤ l3 ∧ l3 < gln G12 (gfd G12 3 1 l1) ∧ gcl G12 (gfd G12 2 2 l0) = 4 ∧ Call E M_X3_put [rv (gfd G12 2 2 l0), iv (wMask (gel G (gfd G 3 0 l1) l3) (gfd G 10 1 l2)), jv (gel G12 (gfd G12 3 1 l1) l3)] G12 c13 s14 X (fun r55 G56 c57 s58 => i32 (l3 + 1) ∧ V E M_X2_fold 28 [some (rv l0), some (rv l1), some (rv l2), some (iv (l3 + 1)), none, none] [] G56 c57 s58 Q X)))))))))) : V E M_X2_fold 28 [some (rv l0), some (rv l1), some (rv l2), some (iv l3), none, none] [] G c s Q X := by
  refine v_iload_n (pc := 28) (dk dt_X2_fold 14 rfl) rfl rfl ?_
  refine v_aload_n (pc := 29) (dk dt_X2_fold 15 rfl) rfl rfl ?_
  obtain ⟨v1, h⟩ := h
  refine v_getI (pc := 30) (dk dt_X2_fold 16 rfl) fl_X2_157 v1 (fun _ => ?_)
  refine v_icmp_ge (pc := 33) (tgt := 152) (dk dt_X2_fold 17 rfl) (by decide) (fun c2 => ?_) (fun c2 => ?_)
  · replace h := h.1 c2
    exact v_vret (pc := 152) (dk dt_X2_fold_1 37 rfl) rfl h
  · replace h := h.2 c2
    refine v_aload_n (pc := 36) (dk dt_X2_fold 18 rfl) rfl rfl ?_
    obtain ⟨v3, h⟩ := h
    refine v_getR (pc := 37) (dk dt_X2_fold 19 rfl) fl_X2_159 v3 (fun _ => ?_)
    refine v_iload_n (pc := 40) (dk dt_X2_fold 20 rfl) rfl rfl ?_
    obtain ⟨v4, h⟩ := h
    obtain ⟨v5, h⟩ := h
    obtain ⟨v6, h⟩ := h
    refine v_iald (pc := 41) (dk dt_X2_fold 21 rfl) (Or.inl v4) v5 v6 (fun _ => ?_)
    refine v_aload_n (pc := 42) (dk dt_X2_fold 22 rfl) rfl rfl ?_
    obtain ⟨v7, h⟩ := h
    refine v_getI (pc := 43) (dk dt_X2_fold 23 rfl) fl_X2_65 v7 (fun _ => ?_)
    obtain ⟨v8, h⟩ := h
    refine v_csPI (v := (wMask (gel G (gfd G 3 0 l1) l3) (gfd G 10 1 l2))) (As := [iv (gel G (gfd G 3 0 l1) l3), iv (gfd G 10 1 l2)]) (stk := []) (pc := 46) (dk dt_X2_fold 24 rfl) ml_X2_162 rfl rfl (Nat.le_of_ble_eq_true rfl) rfl rfl v8 ?_
    refine v_istore (pc := 49) (ls' := [some (rv l0), some (rv l1), some (rv l2), some (iv l3), some (iv (wMask (gel G (gfd G 3 0 l1) l3) (gfd G 10 1 l2))), none]) (dk dt_X2_fold 25 rfl) (Nat.le_of_ble_eq_true rfl) rfl ?_
    refine v_aload_n (pc := 51) (dk dt_X2_fold 26 rfl) rfl rfl ?_
    obtain ⟨v9, h⟩ := h
    refine v_getR (pc := 52) (dk dt_X2_fold 27 rfl) fl_X2_28 v9 (fun _ => ?_)
    refine v_iload (pc := 55) (dk dt_X2_fold 28 rfl) rfl ?_
    obtain ⟨v10, h⟩ := h
    refine v_cvI (c := 3) (As := [iv (wMask (gel G (gfd G 3 0 l1) l3) (gfd G 10 1 l2))]) (stk := []) (pc := 57) (dk dt_X2_fold 29 rfl) ml_X2_166 rfl rfl (Nat.le_of_ble_eq_true rfl) rfl ⟨by decide, rfl⟩ v10 rfl (Call.mono h (fun r11 G12 c13 s14 h => ?_))
    refine v_istore (pc := 60) (ls' := [some (rv l0), some (rv l1), some (rv l2), some (iv l3), some (iv (wMask (gel G (gfd G 3 0 l1) l3) (gfd G 10 1 l2))), some (iv r11)]) (dk dt_X2_fold 30 rfl) (Nat.le_of_ble_eq_true rfl) rfl ?_
    refine v_iload (pc := 62) (dk dt_X2_fold 31 rfl) rfl ?_
    refine v_iconst (pc := 64) (dk dt_X2_fold 32 rfl) ⟨by decide, by decide⟩ ?_
    refine v_icmp_ne (pc := 65) (tgt := 86) (dk dt_X2_fold 33 rfl) (by decide) (fun c15 => ?_) (fun c15 => ?_)
    · replace h := h.1 c15
      refine v_aload_n (pc := 86) (dk dt_X2_fold_1 3 rfl) rfl rfl ?_
      obtain ⟨v16, h⟩ := h
      refine v_getI (pc := 87) (dk dt_X2_fold_1 4 rfl) fl_X2_50 v16 (fun _ => ?_)
      refine v_bipush (pc := 90) (dk dt_X2_fold_1 5 rfl) (by decide) ⟨by decide, by decide⟩ ?_
      refine v_icmp_ne (pc := 92) (tgt := 117) (dk dt_X2_fold_1 6 rfl) (by decide) (fun c17 => ?_) (fun c17 => ?_)
      · replace h := h.1 c17
        refine v_aload_n (pc := 117) (dk dt_X2_fold_1 20 rfl) rfl rfl ?_
        obtain ⟨v18, h⟩ := h
        refine v_getR (pc := 118) (dk dt_X2_fold_1 21 rfl) fl_X2_28 v18 (fun _ => ?_)
        obtain ⟨v19, h⟩ := h
        refine v_getR (pc := 121) (dk dt_X2_fold_1 22 rfl) fl_X2_169 v19 (fun _ => ?_)
        refine v_iload (pc := 124) (dk dt_X2_fold_1 23 rfl) rfl ?_
        refine v_aload_n (pc := 126) (dk dt_X2_fold_1 24 rfl) rfl rfl ?_
        obtain ⟨v20, h⟩ := h
        refine v_getR (pc := 127) (dk dt_X2_fold_1 25 rfl) fl_X2_28 v20 (fun _ => ?_)
        obtain ⟨v21, h⟩ := h
        refine v_getR (pc := 130) (dk dt_X2_fold_1 26 rfl) fl_X2_169 v21 (fun _ => ?_)
        refine v_iload (pc := 133) (dk dt_X2_fold_1 27 rfl) rfl ?_
        obtain ⟨v22, h⟩ := h
        obtain ⟨v23, h⟩ := h
        obtain ⟨v24, h⟩ := h
        refine v_lald (pc := 135) (dk dt_X2_fold_1 28 rfl) v22 v23 v24 (fun _ => ?_)
        refine v_aload_n (pc := 136) (dk dt_X2_fold_1 29 rfl) rfl rfl ?_
        obtain ⟨v25, h⟩ := h
        refine v_getR (pc := 137) (dk dt_X2_fold_1 30 rfl) fl_X2_169 v25 (fun _ => ?_)
        refine v_iload_n (pc := 140) (dk dt_X2_fold_1 31 rfl) rfl rfl ?_
        obtain ⟨v26, h⟩ := h
        obtain ⟨v27, h⟩ := h
        obtain ⟨v28, h⟩ := h
        refine v_lald (pc := 141) (dk dt_X2_fold_1 32 rfl) v26 v27 v28 (fun _ => ?_)
        refine v_lmax (pc := 142) (dk dt_X2_fold_1 33 rfl) mw_X2_173 (Nat.le_of_ble_eq_true rfl) (Nat.le_of_ble_eq_true rfl) (Nat.le_of_ble_eq_true rfl) ?_
        obtain ⟨v29, h⟩ := h
        obtain ⟨v30, h⟩ := h
        obtain ⟨v31, h⟩ := h
        refine v_last (pc := 145) (dk dt_X2_fold_1 34 rfl) v29 v30 v31 ?_
        generalize hG32 : (sel G12 (gfd G12 3 1 (gfd G12 2 2 l0)) r11 (max (gel G12 (gfd G12 3 1 (gfd G12 2 2 l0)) r11) (gel G12 (gfd G12 3 1 l1) l3))) = G32
        replace h := h G32 hG32.symm
        obtain ⟨v33, h⟩ := h
        refine v_iinc (pc := 146) (ls' := [some (rv l0), some (rv l1), some (rv l2), some (iv (l3 + 1)), some (iv (wMask (gel G (gfd G 3 0 l1) l3) (gfd G 10 1 l2))), some (iv r11)]) (dk dt_X2_fold_1 35 rfl) (Nat.le_of_ble_eq_true rfl) rfl v33 rfl ?_
        refine v_goto (pc := 149) (tgt := 28) (dk dt_X2_fold_1 36 rfl) (by decide) ?_
        exact v_less2 (ls' := [some (rv l0), some (rv l1), some (rv l2), some (iv (l3 + 1)), none, none]) ⟨rfl, rfl, rfl, rfl, trivial⟩ h
      · replace h := h.2 c17
        refine v_aload_n (pc := 95) (dk dt_X2_fold_1 7 rfl) rfl rfl ?_
        obtain ⟨v34, h⟩ := h
        refine v_getR (pc := 96) (dk dt_X2_fold_1 8 rfl) fl_X2_28 v34 (fun _ => ?_)
        obtain ⟨v35, h⟩ := h
        refine v_getR (pc := 99) (dk dt_X2_fold_1 9 rfl) fl_X2_169 v35 (fun _ => ?_)
        refine v_iload (pc := 102) (dk dt_X2_fold_1 10 rfl) rfl ?_
        refine v_dup2 (pc := 104) (dk dt_X2_fold_1 11 rfl) (by intro h9; cases h9) (by intro h9; cases h9) ?_
        obtain ⟨v36, h⟩ := h
        obtain ⟨v37, h⟩ := h
        obtain ⟨v38, h⟩ := h
        refine v_lald (pc := 105) (dk dt_X2_fold_1 12 rfl) v36 v37 v38 (fun _ => ?_)
        refine v_aload_n (pc := 106) (dk dt_X2_fold_1 13 rfl) rfl rfl ?_
        obtain ⟨v39, h⟩ := h
        refine v_getR (pc := 107) (dk dt_X2_fold_1 14 rfl) fl_X2_169 v39 (fun _ => ?_)
        refine v_iload_n (pc := 110) (dk dt_X2_fold_1 15 rfl) rfl rfl ?_
        obtain ⟨v40, h⟩ := h
        obtain ⟨v41, h⟩ := h
        obtain ⟨v42, h⟩ := h
        refine v_lald (pc := 111) (dk dt_X2_fold_1 16 rfl) v40 v41 v42 (fun _ => ?_)
        obtain ⟨v43, h⟩ := h
        refine v_ladd (pc := 112) (dk dt_X2_fold_1 17 rfl) v43 ?_
        obtain ⟨v44, h⟩ := h
        obtain ⟨v45, h⟩ := h
        obtain ⟨v46, h⟩ := h
        refine v_last (pc := 113) (dk dt_X2_fold_1 18 rfl) v44 v45 v46 ?_
        generalize hG47 : (sel G12 (gfd G12 3 1 (gfd G12 2 2 l0)) r11 ((gel G12 (gfd G12 3 1 (gfd G12 2 2 l0)) r11) + (gel G12 (gfd G12 3 1 l1) l3))) = G47
        replace h := h G47 hG47.symm
        refine v_goto (pc := 114) (tgt := 146) (dk dt_X2_fold_1 19 rfl) (by decide) ?_
        obtain ⟨v48, h⟩ := h
        refine v_iinc (pc := 146) (ls' := [some (rv l0), some (rv l1), some (rv l2), some (iv (l3 + 1)), some (iv (wMask (gel G (gfd G 3 0 l1) l3) (gfd G 10 1 l2))), some (iv r11)]) (dk dt_X2_fold_1 35 rfl) (Nat.le_of_ble_eq_true rfl) rfl v48 rfl ?_
        refine v_goto (pc := 149) (tgt := 28) (dk dt_X2_fold_1 36 rfl) (by decide) ?_
        exact v_less2 (ls' := [some (rv l0), some (rv l1), some (rv l2), some (iv (l3 + 1)), none, none]) ⟨rfl, rfl, rfl, rfl, trivial⟩ h
    · replace h := h.2 c15
      refine v_aload_n (pc := 68) (dk dt_X2_fold 34 rfl) rfl rfl ?_
      obtain ⟨v49, h⟩ := h
      refine v_getR (pc := 69) (dk dt_X2_fold 35 rfl) fl_X2_28 v49 (fun _ => ?_)
      refine v_iload (pc := 72) (dk dt_X2_fold 36 rfl) rfl ?_
      refine v_aload_n (pc := 74) (dk dt_X2_fold 37 rfl) rfl rfl ?_
      obtain ⟨v50, h⟩ := h
      refine v_getR (pc := 75) (dk dt_X2_fold 38 rfl) fl_X2_169 v50 (fun _ => ?_)
      refine v_iload_n (pc := 78) (dk dt_X2_fold 39 rfl) rfl rfl ?_
      obtain ⟨v51, h⟩ := h
      obtain ⟨v52, h⟩ := h
      obtain ⟨v53, h⟩ := h
      refine v_lald (pc := 79) (dk dt_X2_fold_1 0 rfl) v51 v52 v53 (fun _ => ?_)
      obtain ⟨v54, h⟩ := h
      refine v_cvV (c := 3) (As := [iv (wMask (gel G (gfd G 3 0 l1) l3) (gfd G 10 1 l2)), jv (gel G12 (gfd G12 3 1 l1) l3)]) (stk := []) (pc := 80) (dk dt_X2_fold_1 1 rfl) ml_X2_134 rfl rfl (Nat.le_of_ble_eq_true rfl) rfl ⟨by decide, rfl⟩ v54 rfl (Call.mono h (fun r55 G56 c57 s58 h => ?_))
      refine v_goto (pc := 83) (tgt := 146) (dk dt_X2_fold_1 2 rfl) (by decide) ?_
      obtain ⟨v59, h⟩ := h
      refine v_iinc (pc := 146) (ls' := [some (rv l0), some (rv l1), some (rv l2), some (iv (l3 + 1)), some (iv (wMask (gel G (gfd G 3 0 l1) l3) (gfd G 10 1 l2))), some (iv r11)]) (dk dt_X2_fold_1 35 rfl) (Nat.le_of_ble_eq_true rfl) rfl v59 rfl ?_
      refine v_goto (pc := 149) (tgt := 28) (dk dt_X2_fold_1 36 rfl) (by decide) ?_
      exact v_less2 (ls' := [some (rv l0), some (rv l1), some (rv l2), some (iv (l3 + 1)), none, none]) ⟨rfl, rfl, rfl, rfl, trivial⟩ h
set_option maxRecDepth 20000 in
theorem b_X2_only_0 {E : EE} {l0 l1 : Int} {G : Gt} {c s : Nat} {Q X : Int → Gt → Prop} (h : (i32 (100 * (if (and32 l1 1) = 0 then (6 : Int) else (Int.tdiv l0 100))) ∧ i32 (10 * (if (and32 l1 2) = 0 then (6 : Int) else (Int.tmod (Int.tdiv l0 10) 10))) ∧ i32 ((100 * (if (and32 l1 1) = 0 then (6 : Int) else (Int.tdiv l0 100))) + (10 * (if (and32 l1 2) = 0 then (6 : Int) else (Int.tmod (Int.tdiv l0 10) 10)))) ∧ i32 (((100 * (if (and32 l1 1) = 0 then (6 : Int) else (Int.tdiv l0 100))) + (10 * (if (and32 l1 2) = 0 then (6 : Int) else (Int.tmod (Int.tdiv l0 10) 10)))) + (if (and32 l1 4) = 0 then (6 : Int) else (Int.tmod l0 10))) ∧ Q (((100 * (if (and32 l1 1) = 0 then (6 : Int) else (Int.tdiv l0 100))) + (10 * (if (and32 l1 2) = 0 then (6 : Int) else (Int.tmod (Int.tdiv l0 10) 10)))) + (if (and32 l1 4) = 0 then (6 : Int) else (Int.tmod l0 10))) G)) : V E M_X2_only 0 [some (iv l0), some (iv l1), none, none, none] [] G c s Q X := by
  refine v_iload_n (pc := 0) (dk dt_X2_only 0 rfl) rfl rfl ?_
  refine v_iconst (pc := 1) (dk dt_X2_only 1 rfl) ⟨by decide, by decide⟩ ?_
  refine v_iand (pc := 2) (dk dt_X2_only 2 rfl) ?_
  suffices k8 : V E M_X2_only 15 [some (iv l0), some (iv l1), none, none, none] [iv (if (and32 l1 1) = 0 then (6 : Int) else (Int.tdiv l0 100))] G c s Q X by
    refine v_if_eq (pc := 3) (tgt := 13) (dk dt_X2_only 3 rfl) (by decide) (fun c1 => ?_) (fun c1 => ?_)
    · refine v_bipush (pc := 13) (dk dt_X2_only 8 rfl) (by decide) ⟨by decide, by decide⟩ ?_
      exact v_less2 (ls' := [some (iv l0), some (iv l1), none, none, none]) ⟨rfl, rfl, trivial⟩ (by have hk9 := k8; try simp only [if_pos c1] at hk9 ⊢; exact hk9)
    · refine v_iload_n (pc := 6) (dk dt_X2_only 4 rfl) rfl rfl ?_
      refine v_bipush (pc := 7) (dk dt_X2_only 5 rfl) (by decide) ⟨by decide, by decide⟩ ?_
      refine v_idivP (pc := 9) (dk dt_X2_only 6 rfl) (by decide) ?_
      refine v_goto (pc := 10) (tgt := 15) (dk dt_X2_only 7 rfl) (by decide) ?_
      exact v_less2 (ls' := [some (iv l0), some (iv l1), none, none, none]) ⟨rfl, rfl, trivial⟩ (by have hk9 := k8; try simp only [if_neg c1] at hk9 ⊢; exact hk9)
  refine v_istore_n (pc := 15) (ls' := [some (iv l0), some (iv l1), some (iv (if (and32 l1 1) = 0 then (6 : Int) else (Int.tdiv l0 100))), none, none]) (dk dt_X2_only 9 rfl) rfl (Nat.le_of_ble_eq_true rfl) rfl ?_
  refine v_iload_n (pc := 16) (dk dt_X2_only 10 rfl) rfl rfl ?_
  refine v_iconst (pc := 17) (dk dt_X2_only 11 rfl) ⟨by decide, by decide⟩ ?_
  refine v_iand (pc := 18) (dk dt_X2_only 12 rfl) ?_
  suffices k9 : V E M_X2_only 34 [some (iv l0), some (iv l1), some (iv (if (and32 l1 1) = 0 then (6 : Int) else (Int.tdiv l0 100))), none, none] [iv (if (and32 l1 2) = 0 then (6 : Int) else (Int.tmod (Int.tdiv l0 10) 10))] G c s Q X by
    refine v_if_eq (pc := 19) (tgt := 32) (dk dt_X2_only 13 rfl) (by decide) (fun c2 => ?_) (fun c2 => ?_)
    · refine v_bipush (pc := 32) (dk dt_X2_only 20 rfl) (by decide) ⟨by decide, by decide⟩ ?_
      exact v_less2 (ls' := [some (iv l0), some (iv l1), some (iv (if (and32 l1 1) = 0 then (6 : Int) else (Int.tdiv l0 100))), none, none]) ⟨rfl, rfl, rfl, trivial⟩ (by have hk9 := k9; try simp only [if_pos c2] at hk9 ⊢; exact hk9)
    · refine v_iload_n (pc := 22) (dk dt_X2_only 14 rfl) rfl rfl ?_
      refine v_bipush (pc := 23) (dk dt_X2_only 15 rfl) (by decide) ⟨by decide, by decide⟩ ?_
      refine v_idivP (pc := 25) (dk dt_X2_only 16 rfl) (by decide) ?_
      refine v_bipush (pc := 26) (dk dt_X2_only 17 rfl) (by decide) ⟨by decide, by decide⟩ ?_
      refine v_iremP (pc := 28) (dk dt_X2_only 18 rfl) (by decide) ?_
      refine v_goto (pc := 29) (tgt := 34) (dk dt_X2_only 19 rfl) (by decide) ?_
      exact v_less2 (ls' := [some (iv l0), some (iv l1), some (iv (if (and32 l1 1) = 0 then (6 : Int) else (Int.tdiv l0 100))), none, none]) ⟨rfl, rfl, rfl, trivial⟩ (by have hk9 := k9; try simp only [if_neg c2] at hk9 ⊢; exact hk9)
  refine v_istore_n (pc := 34) (ls' := [some (iv l0), some (iv l1), some (iv (if (and32 l1 1) = 0 then (6 : Int) else (Int.tdiv l0 100))), some (iv (if (and32 l1 2) = 0 then (6 : Int) else (Int.tmod (Int.tdiv l0 10) 10))), none]) (dk dt_X2_only 21 rfl) rfl (Nat.le_of_ble_eq_true rfl) rfl ?_
  refine v_iload_n (pc := 35) (dk dt_X2_only 22 rfl) rfl rfl ?_
  refine v_iconst (pc := 36) (dk dt_X2_only 23 rfl) ⟨by decide, by decide⟩ ?_
  refine v_iand (pc := 37) (dk dt_X2_only 24 rfl) ?_
  suffices k10 : V E M_X2_only 50 [none, none, some (iv (if (and32 l1 1) = 0 then (6 : Int) else (Int.tdiv l0 100))), some (iv (if (and32 l1 2) = 0 then (6 : Int) else (Int.tmod (Int.tdiv l0 10) 10))), none] [iv (if (and32 l1 4) = 0 then (6 : Int) else (Int.tmod l0 10))] G c s Q X by
    refine v_if_eq (pc := 38) (tgt := 48) (dk dt_X2_only 25 rfl) (by decide) (fun c3 => ?_) (fun c3 => ?_)
    · refine v_bipush (pc := 48) (dk dt_X2_only 30 rfl) (by decide) ⟨by decide, by decide⟩ ?_
      exact v_less2 (ls' := [none, none, some (iv (if (and32 l1 1) = 0 then (6 : Int) else (Int.tdiv l0 100))), some (iv (if (and32 l1 2) = 0 then (6 : Int) else (Int.tmod (Int.tdiv l0 10) 10))), none]) ⟨rfl, rfl, trivial⟩ (by have hk9 := k10; try simp only [if_pos c3] at hk9 ⊢; exact hk9)
    · refine v_iload_n (pc := 41) (dk dt_X2_only 26 rfl) rfl rfl ?_
      refine v_bipush (pc := 42) (dk dt_X2_only 27 rfl) (by decide) ⟨by decide, by decide⟩ ?_
      refine v_iremP (pc := 44) (dk dt_X2_only 28 rfl) (by decide) ?_
      refine v_goto (pc := 45) (tgt := 50) (dk dt_X2_only 29 rfl) (by decide) ?_
      exact v_less2 (ls' := [none, none, some (iv (if (and32 l1 1) = 0 then (6 : Int) else (Int.tdiv l0 100))), some (iv (if (and32 l1 2) = 0 then (6 : Int) else (Int.tmod (Int.tdiv l0 10) 10))), none]) ⟨rfl, rfl, trivial⟩ (by have hk9 := k10; try simp only [if_neg c3] at hk9 ⊢; exact hk9)
  refine v_istore (pc := 50) (ls' := [none, none, some (iv (if (and32 l1 1) = 0 then (6 : Int) else (Int.tdiv l0 100))), some (iv (if (and32 l1 2) = 0 then (6 : Int) else (Int.tmod (Int.tdiv l0 10) 10))), some (iv (if (and32 l1 4) = 0 then (6 : Int) else (Int.tmod l0 10)))]) (dk dt_X2_only 31 rfl) (Nat.le_of_ble_eq_true rfl) rfl ?_
  refine v_bipush (pc := 52) (dk dt_X2_only 32 rfl) (by decide) ⟨by decide, by decide⟩ ?_
  refine v_iload_n (pc := 54) (dk dt_X2_only 33 rfl) rfl rfl ?_
  obtain ⟨v4, h⟩ := h
  refine v_imul (pc := 55) (dk dt_X2_only 34 rfl) v4 ?_
  refine v_bipush (pc := 56) (dk dt_X2_only 35 rfl) (by decide) ⟨by decide, by decide⟩ ?_
  refine v_iload_n (pc := 58) (dk dt_X2_only 36 rfl) rfl rfl ?_
  obtain ⟨v5, h⟩ := h
  refine v_imul (pc := 59) (dk dt_X2_only 37 rfl) v5 ?_
  obtain ⟨v6, h⟩ := h
  refine v_iadd (pc := 60) (dk dt_X2_only 38 rfl) v6 ?_
  refine v_iload (pc := 61) (dk dt_X2_only 39 rfl) rfl ?_
  obtain ⟨v7, h⟩ := h
  refine v_iadd (pc := 63) (dk dt_X2_only_1 0 rfl) v7 ?_
  exact v_iret (pc := 64) (dk dt_X2_only_1 1 rfl) rfl h
set_option maxRecDepth 20000 in
theorem i_X2_only {E : EE} {l0 l1 : Int} {G : Gt} {c s : Nat} {Q X : Int → Gt → Prop} (h : (i32 (100 * (if (and32 l1 1) = 0 then (6 : Int) else (Int.tdiv l0 100))) ∧ i32 (10 * (if (and32 l1 2) = 0 then (6 : Int) else (Int.tmod (Int.tdiv l0 10) 10))) ∧ i32 ((100 * (if (and32 l1 1) = 0 then (6 : Int) else (Int.tdiv l0 100))) + (10 * (if (and32 l1 2) = 0 then (6 : Int) else (Int.tmod (Int.tdiv l0 10) 10)))) ∧ i32 (((100 * (if (and32 l1 1) = 0 then (6 : Int) else (Int.tdiv l0 100))) + (10 * (if (and32 l1 2) = 0 then (6 : Int) else (Int.tmod (Int.tdiv l0 10) 10)))) + (if (and32 l1 4) = 0 then (6 : Int) else (Int.tmod l0 10))) ∧ Q (((100 * (if (and32 l1 1) = 0 then (6 : Int) else (Int.tdiv l0 100))) + (10 * (if (and32 l1 2) = 0 then (6 : Int) else (Int.tmod (Int.tdiv l0 10) 10)))) + (if (and32 l1 4) = 0 then (6 : Int) else (Int.tmod l0 10))) G)) : Ok E M_X2_only [iv l0, iv l1] G c s Q X := Ok.intro (k := 3) rfl rfl (Nat.le_of_ble_eq_true rfl) rfl (b_X2_only_0 h)
set_option maxRecDepth 20000 in
theorem b_X2_join_0 {E : EE} {l0 l1 l2 l3 : Int} {G : Gt} {c s : Nat} {Q X : Int → Gt → Prop} (h : (gcl G l2 = 4 ∧ ∀ J2 : Prop, ((gcl G l0 = 3 ∧ gcl G (gfd G 2 2 l0) = 4 ∧ Call E M_X3_becomeVector [rv (gfd G 2 2 l0)] G c s X (fun r5 G6 c7 s8 => gcl G6 l2 = 4 ∧ (((gfd G6 3 3 l2) = 0 → V E M_X2_join 101 [some (rv l0), some (rv l1), some (rv l2), some (rv l3), some (iv 0), none] [] G6 c7 s8 Q X) ∧ ((gfd G6 3 3 l2) ≠ 0 → V E M_X2_join 48 [some (rv l0), some (rv l1), some (rv l2), some (rv l3), some (iv 0), none] [] G6 c7 s8 Q X)))) → J2) → (((gfd G 3 3 l2) = 0 → J2) ∧ ((gfd G 3 3 l2) ≠ 0 → (gcl G l3 = 4 ∧ (((gfd G 3 3 l3) = 0 → J2) ∧ ((gfd G 3 3 l3) ≠ 0 → (gcl G l1 = 11 ∧ gcl G l2 = 4 ∧ Call E M_X3_single [rv l2] G c s X (fun r16 G17 c18 s19 => gcl G17 l3 = 4 ∧ Call E M_X3_single [rv l3] G17 c18 s19 X (fun r21 G22 c23 s24 => gcl G22 l0 = 3 ∧ Call E M_X2_joinNumbers [rv l0, iv (gfd G 10 0 l1), jv r16, jv r21] G22 c23 s24 X (fun r26 G27 c28 s29 => (r26 = 0 ∨ r26 = 1) ∧ Q r26 G27))))))))))) : V E M_X2_join 0 [some (rv l0), some (rv l1), some (rv l2), some (rv l3), none, none] [] G c s Q X := by
  refine v_aload_n (pc := 0) (dk dt_X2_join 0 rfl) rfl rfl ?_
  obtain ⟨v1, h⟩ := h
  refine v_getZ (pc := 1) (dk dt_X2_join 1 rfl) fl_X2_149 v1 (fun _ => ?_)
  obtain ⟨J2, dJ2⟩ : ∃ J9 : Prop, J9 = V E M_X2_join 31 [some (rv l0), some (rv l1), some (rv l2), some (rv l3), none, none] [] G c s Q X := ⟨_, rfl⟩
  have hJ2 : (gcl G l0 = 3 ∧ gcl G (gfd G 2 2 l0) = 4 ∧ Call E M_X3_becomeVector [rv (gfd G 2 2 l0)] G c s X (fun r5 G6 c7 s8 => gcl G6 l2 = 4 ∧ (((gfd G6 3 3 l2) = 0 → V E M_X2_join 101 [some (rv l0), some (rv l1), some (rv l2), some (rv l3), some (iv 0), none] [] G6 c7 s8 Q X) ∧ ((gfd G6 3 3 l2) ≠ 0 → V E M_X2_join 48 [some (rv l0), some (rv l1), some (rv l2), some (rv l3), some (iv 0), none] [] G6 c7 s8 Q X)))) → J2 := by
    intro h
    rw [dJ2]
    refine v_aload_n (pc := 31) (dk dt_X2_join 15 rfl) rfl rfl ?_
    obtain ⟨v3, h⟩ := h
    refine v_getR (pc := 32) (dk dt_X2_join 16 rfl) fl_X2_28 v3 (fun _ => ?_)
    obtain ⟨v4, h⟩ := h
    refine v_cvV (c := 3) (As := []) (stk := []) (pc := 35) (dk dt_X2_join 17 rfl) ml_X2_102 rfl rfl (Nat.le_of_ble_eq_true rfl) rfl ⟨by decide, rfl⟩ v4 rfl (Call.mono h (fun r5 G6 c7 s8 h => ?_))
    refine v_aload_n (pc := 38) (dk dt_X2_join 18 rfl) rfl rfl ?_
    obtain ⟨v9, h⟩ := h
    refine v_getZ (pc := 39) (dk dt_X2_join 19 rfl) fl_X2_149 v9 (fun _ => ?_)
    refine v_if_eq (pc := 42) (tgt := 98) (dk dt_X2_join 20 rfl) (by decide) (fun c10 => ?_) (fun c10 => ?_)
    · replace h := h.1 c10
      refine v_iconst (pc := 98) (dk dt_X2_join_1 9 rfl) ⟨by decide, by decide⟩ ?_
      refine v_istore (pc := 99) (ls' := [some (rv l0), some (rv l1), some (rv l2), some (rv l3), some (iv 0), none]) (dk dt_X2_join_1 10 rfl) (Nat.le_of_ble_eq_true rfl) rfl ?_
      exact h
    · replace h := h.2 c10
      refine v_iconst (pc := 45) (dk dt_X2_join 21 rfl) ⟨by decide, by decide⟩ ?_
      refine v_istore (pc := 46) (ls' := [some (rv l0), some (rv l1), some (rv l2), some (rv l3), some (iv 0), none]) (dk dt_X2_join 22 rfl) (Nat.le_of_ble_eq_true rfl) rfl ?_
      exact h
  replace h := h _ hJ2
  refine v_if_eq (pc := 4) (tgt := 31) (dk dt_X2_join 2 rfl) (by decide) (fun c11 => ?_) (fun c11 => ?_)
  · replace h := h.1 c11
    rw [dJ2] at h
    exact h
  · replace h := h.2 c11
    refine v_aload_n (pc := 7) (dk dt_X2_join 3 rfl) rfl rfl ?_
    obtain ⟨v12, h⟩ := h
    refine v_getZ (pc := 8) (dk dt_X2_join 4 rfl) fl_X2_149 v12 (fun _ => ?_)
    refine v_if_eq (pc := 11) (tgt := 31) (dk dt_X2_join 5 rfl) (by decide) (fun c13 => ?_) (fun c13 => ?_)
    · replace h := h.1 c13
      rw [dJ2] at h
      exact h
    · replace h := h.2 c13
      refine v_aload_n (pc := 14) (dk dt_X2_join 6 rfl) rfl rfl ?_
      refine v_aload_n (pc := 15) (dk dt_X2_join 7 rfl) rfl rfl ?_
      obtain ⟨v14, h⟩ := h
      refine v_getI (pc := 16) (dk dt_X2_join 8 rfl) fl_X2_50 v14 (fun _ => ?_)
      refine v_aload_n (pc := 19) (dk dt_X2_join 9 rfl) rfl rfl ?_
      obtain ⟨v15, h⟩ := h
      refine v_cvJ (c := 3) (As := []) (stk := [iv (gfd G 10 0 l1), rv l0]) (pc := 20) (dk dt_X2_join 10 rfl) ml_X2_153 rfl rfl (Nat.le_of_ble_eq_true rfl) rfl ⟨by decide, rfl⟩ v15 rfl (Call.mono h (fun r16 G17 c18 s19 h => ?_))
      refine v_aload_n (pc := 23) (dk dt_X2_join 11 rfl) rfl rfl ?_
      obtain ⟨v20, h⟩ := h
      refine v_cvJ (c := 3) (As := []) (stk := [jv r16, iv (gfd G 10 0 l1), rv l0]) (pc := 24) (dk dt_X2_join 12 rfl) ml_X2_153 rfl rfl (Nat.le_of_ble_eq_true rfl) rfl ⟨by decide, rfl⟩ v20 rfl (Call.mono h (fun r21 G22 c23 s24 h => ?_))
      obtain ⟨v25, h⟩ := h
      refine v_cvZ (c := 2) (As := [iv (gfd G 10 0 l1), jv r16, jv r21]) (stk := []) (pc := 27) (dk dt_X2_join 13 rfl) ml_X2_179 rfl rfl (Nat.le_of_ble_eq_true rfl) rfl ⟨by decide, rfl⟩ v25 rfl (Call.mono h (fun r26 G27 c28 s29 h => ?_))
      obtain ⟨v30, h⟩ := h
      exact v_zret (pc := 30) (dk dt_X2_join 14 rfl) rfl v30 h
set_option maxRecDepth 20000 in
theorem i_X2_join {E : EE} {l0 l1 l2 l3 : Int} {G : Gt} {c s : Nat} {Q X : Int → Gt → Prop} (h : (gcl G l2 = 4 ∧ ∀ J2 : Prop, ((gcl G l0 = 3 ∧ gcl G (gfd G 2 2 l0) = 4 ∧ Call E M_X3_becomeVector [rv (gfd G 2 2 l0)] G c s X (fun r5 G6 c7 s8 => gcl G6 l2 = 4 ∧ (((gfd G6 3 3 l2) = 0 → V E M_X2_join 101 [some (rv l0), some (rv l1), some (rv l2), some (rv l3), some (iv 0), none] [] G6 c7 s8 Q X) ∧ ((gfd G6 3 3 l2) ≠ 0 → V E M_X2_join 48 [some (rv l0), some (rv l1), some (rv l2), some (rv l3), some (iv 0), none] [] G6 c7 s8 Q X)))) → J2) → (((gfd G 3 3 l2) = 0 → J2) ∧ ((gfd G 3 3 l2) ≠ 0 → (gcl G l3 = 4 ∧ (((gfd G 3 3 l3) = 0 → J2) ∧ ((gfd G 3 3 l3) ≠ 0 → (gcl G l1 = 11 ∧ gcl G l2 = 4 ∧ Call E M_X3_single [rv l2] G c s X (fun r16 G17 c18 s19 => gcl G17 l3 = 4 ∧ Call E M_X3_single [rv l3] G17 c18 s19 X (fun r21 G22 c23 s24 => gcl G22 l0 = 3 ∧ Call E M_X2_joinNumbers [rv l0, iv (gfd G 10 0 l1), jv r16, jv r21] G22 c23 s24 X (fun r26 G27 c28 s29 => (r26 = 0 ∨ r26 = 1) ∧ Q r26 G27))))))))))) : Ok E M_X2_join [rv l0, rv l1, rv l2, rv l3] G c s Q X := Ok.intro (k := 2) rfl rfl (Nat.le_of_ble_eq_true rfl) rfl (b_X2_join_0 h)
set_option maxRecDepth 20000 in
theorem b_X2_join_48 {E : EE} {l0 l1 l2 l3 l4 : Int} {G : Gt} {c s : Nat} {Q X : Int → Gt → Prop} (h : (gcl G l3 = 4 ∧ (((gfd G 3 2 l3) ≤ l4 → Q 1 G) ∧ (l4 < (gfd G 3 2 l3) → (gcl G l1 = 11 ∧ gcl G l2 = 4 ∧ Call E M_X3_single [rv l2] G c s X (fun r5 G6 c7 s8 => gcl G6 l3 = 4 ∧ gcl G6 (gfd G6 3 1 l3) = 16 ∧ 0 ≤ l4 ∧ l4 < gln G6 (gfd G6 3 1 l3) ∧ gcl G6 l3 = 4 ∧ gcl G6 (gfd G6 3 0 l3) = 15 ∧ 0 ≤ l4 ∧ l4 < gln G6 (gfd G6 3 0 l3) ∧ gcl G6 l3 = 4 ∧ gcl G6 (gfd G6 3 1 l3) = 16 ∧ 0 ≤ l4 ∧ l4 < gln G6 (gfd G6 3 1 l3) ∧ gcl G6 l0 = 3 ∧ Call E M_X2_joinValues [rv l0, iv (gfd G 10 0 l1), jv r5, jv (gel G6 (gfd G6 3 1 l3) l4), iv (gel G6 (gfd G6 3 0 l3) l4), jv (gel G6 (gfd G6 3 1 l3) l4)] G6 c7 s8 X (fun r22 G23 c24 s25 => i32 (l4 + 1) ∧ V E M_X2_join 48 [some (rv l0), some (rv l1), some (rv l2), some (rv l3), some (iv (l4 + 1)), none] [] G23 c24 s25 Q X))))))) : V E M_X2_join 48 [some (rv l0), some (rv l1), some (rv l2), some (rv l3), some (iv l4), none] [] G c s Q X := by
  refine v_iload (pc := 48) (dk dt_X2_join 23 rfl) rfl ?_
  refine v_aload_n (pc := 50) (dk dt_X2_join 24 rfl) rfl rfl ?_
  obtain ⟨v1, h⟩ := h
  refine v_getI (pc := 51) (dk dt_X2_join 25 rfl) fl_X2_157 v1 (fun _ => ?_)
  refine v_icmp_ge (pc := 54) (tgt := 96) (dk dt_X2_join 26 rfl) (by decide) (fun c2 => ?_) (fun c2 => ?_)
  · replace h := h.1 c2
    refine v_iconst (pc := 96) (dk dt_X2_join_1 7 rfl) ⟨by decide, by decide⟩ ?_
    exact v_zret (pc := 97) (dk dt_X2_join_1 8 rfl) rfl (Or.inr rfl) h
  · replace h := h.2 c2
    refine v_aload_n (pc := 57) (dk dt_X2_join 27 rfl) rfl rfl ?_
    refine v_aload_n (pc := 58) (dk dt_X2_join 28 rfl) rfl rfl ?_
    obtain ⟨v3, h⟩ := h
    refine v_getI (pc := 59) (dk dt_X2_join 29 rfl) fl_X2_50 v3 (fun _ => ?_)
    refine v_aload_n (pc := 62) (dk dt_X2_join 30 rfl) rfl rfl ?_
    obtain ⟨v4, h⟩ := h
    refine v_cvJ (c := 3) (As := []) (stk := [iv (gfd G 10 0 l1), rv l0]) (pc := 63) (dk dt_X2_join 31 rfl) ml_X2_153 rfl rfl (Nat.le_of_ble_eq_true rfl) rfl ⟨by decide, rfl⟩ v4 rfl (Call.mono h (fun r5 G6 c7 s8 h => ?_))
    refine v_aload_n (pc := 66) (dk dt_X2_join 32 rfl) rfl rfl ?_
    obtain ⟨v9, h⟩ := h
    refine v_getR (pc := 67) (dk dt_X2_join 33 rfl) fl_X2_169 v9 (fun _ => ?_)
    refine v_iload (pc := 70) (dk dt_X2_join 34 rfl) rfl ?_
    obtain ⟨v10, h⟩ := h
    obtain ⟨v11, h⟩ := h
    obtain ⟨v12, h⟩ := h
    refine v_lald (pc := 72) (dk dt_X2_join 35 rfl) v10 v11 v12 (fun _ => ?_)
    refine v_aload_n (pc := 73) (dk dt_X2_join 36 rfl) rfl rfl ?_
    obtain ⟨v13, h⟩ := h
    refine v_getR (pc := 74) (dk dt_X2_join 37 rfl) fl_X2_159 v13 (fun _ => ?_)
    refine v_iload (pc := 77) (dk dt_X2_join 38 rfl) rfl ?_
    obtain ⟨v14, h⟩ := h
    obtain ⟨v15, h⟩ := h
    obtain ⟨v16, h⟩ := h
    refine v_iald (pc := 79) (dk dt_X2_join 39 rfl) (Or.inl v14) v15 v16 (fun _ => ?_)
    refine v_aload_n (pc := 80) (dk dt_X2_join_1 0 rfl) rfl rfl ?_
    obtain ⟨v17, h⟩ := h
    refine v_getR (pc := 81) (dk dt_X2_join_1 1 rfl) fl_X2_169 v17 (fun _ => ?_)
    refine v_iload (pc := 84) (dk dt_X2_join_1 2 rfl) rfl ?_
    obtain ⟨v18, h⟩ := h
    obtain ⟨v19, h⟩ := h
    obtain ⟨v20, h⟩ := h
    refine v_lald (pc := 86) (dk dt_X2_join_1 3 rfl) v18 v19 v20 (fun _ => ?_)
    obtain ⟨v21, h⟩ := h
    refine v_cvV (c := 2) (As := [iv (gfd G 10 0 l1), jv r5, jv (gel G6 (gfd G6 3 1 l3) l4), iv (gel G6 (gfd G6 3 0 l3) l4), jv (gel G6 (gfd G6 3 1 l3) l4)]) (stk := []) (pc := 87) (dk dt_X2_join_1 4 rfl) ml_X2_183 rfl rfl (Nat.le_of_ble_eq_true rfl) rfl ⟨by decide, rfl⟩ v21 rfl (Call.mono h (fun r22 G23 c24 s25 h => ?_))
    obtain ⟨v26, h⟩ := h
    refine v_iinc (pc := 90) (ls' := [some (rv l0), some (rv l1), some (rv l2), some (rv l3), some (iv (l4 + 1)), none]) (dk dt_X2_join_1 5 rfl) (Nat.le_of_ble_eq_true rfl) rfl v26 rfl ?_
    refine v_goto (pc := 93) (tgt := 48) (dk dt_X2_join_1 6 rfl) (by decide) ?_
    exact h
set_option maxRecDepth 20000 in
theorem b_X2_join_101 {E : EE} {l0 l1 l2 l3 l4 : Int} {G : Gt} {c s : Nat} {Q X : Int → Gt → Prop} (h : (gcl G l2 = 4 ∧ (((gfd G 3 2 l2) ≤ l4 → Q 1 G) ∧ (l4 < (gfd G 3 2 l2) → (gcl G l3 = 4 ∧ ∀ J4 : Int → Gt → Nat → Nat → Prop, (∀ (x5 : Int) (G6 : Gt) (c7 s8 : Nat), (gcl G6 l3 = 4 ∧ ((x5 < (gfd G6 3 2 l3) → ((x5 < 0 → (i32 (l4 + 1) ∧ V E M_X2_join 101 [some (rv l0), some (rv l1), some (rv l2), some (rv l3), some (iv (l4 + 1)), none] [] G6 c7 s8 Q X)) ∧ (0 ≤ x5 → (gcl G6 l1 = 11 ∧ gcl G6 l2 = 4 ∧ gcl G6 (gfd G6 3 1 l2) = 16 ∧ 0 ≤ l4 ∧ l4 < gln G6 (gfd G6 3 1 l2) ∧ gcl G6 l3 = 4 ∧ gcl G6 (gfd G6 3 1 l3) = 16 ∧ 0 ≤ x5 ∧ x5 < gln G6 (gfd G6 3 1 l3) ∧ gcl G6 l2 = 4 ∧ gcl G6 (gfd G6 3 0 l2) = 15 ∧ 0 ≤ l4 ∧ l4 < gln G6 (gfd G6 3 0 l2) ∧ gcl G6 l2 = 4 ∧ gcl G6 (gfd G6 3 1 l2) = 16 ∧ 0 ≤ l4 ∧ l4 < gln G6 (gfd G6 3 1 l2) ∧ gcl G6 l0 = 3 ∧ Call E M_X2_joinValues [rv l0, iv (gfd G6 10 0 l1), jv (gel G6 (gfd G6 3 1 l2) l4), jv (gel G6 (gfd G6 3 1 l3) x5), iv (gel G6 (gfd G6 3 0 l2) l4), jv (gel G6 (gfd G6 3 1 l2) l4)] G6 c7 s8 X (fun r31 G32 c33 s34 => i32 (l4 + 1) ∧ V E M_X2_join 101 [some (rv l0), some (rv l1), some (rv l2), some (rv l3), some (iv (l4 + 1)), none] [] G32 c33 s34 Q X))))) ∧ ((gfd G6 3 2 l3) ≤ x5 → Q 0 G6))) → J4 x5 G6 c7 s8) → (((gfd G 3 3 l3) = 0 → (gcl G l2 = 4 ∧ gcl G (gfd G 3 0 l2) = 15 ∧ 0 ≤ l4 ∧ l4 < gln G (gfd G 3 0 l2) ∧ gcl G l1 = 11 ∧ Call E M_X2_findSame [rv l3, iv (gel G (gfd G 3 0 l2) l4), iv (gfd G 10 1 l1)] G c s X (fun r42 G43 c44 s45 => J4 r42 G43 c44 s45))) ∧ ((gfd G 3 3 l3) ≠ 0 → J4 0 G c s))))))) : V E M_X2_join 101 [some (rv l0), some (rv l1), some (rv l2), some (rv l3), some (iv l4), none] [] G c s Q X := by
  refine v_iload (pc := 101) (dk dt_X2_join_1 11 rfl) rfl ?_
  refine v_aload_n (pc := 103) (dk dt_X2_join_1 12 rfl) rfl rfl ?_
  obtain ⟨v1, h⟩ := h
  refine v_getI (pc := 104) (dk dt_X2_join_1 13 rfl) fl_X2_157 v1 (fun _ => ?_)
  refine v_icmp_ge (pc := 107) (tgt := 196) (dk dt_X2_join_1 14 rfl) (by decide) (fun c2 => ?_) (fun c2 => ?_)
  · replace h := h.1 c2
    refine v_iconst (pc := 196) (dk dt_X2_join_2 19 rfl) ⟨by decide, by decide⟩ ?_
    exact v_zret (pc := 197) (dk dt_X2_join_2 20 rfl) rfl (Or.inr rfl) h
  · replace h := h.2 c2
    refine v_aload_n (pc := 110) (dk dt_X2_join_1 15 rfl) rfl rfl ?_
    obtain ⟨v3, h⟩ := h
    refine v_getZ (pc := 111) (dk dt_X2_join_1 16 rfl) fl_X2_149 v3 (fun _ => ?_)
    obtain ⟨J4, dJ4⟩ : ∃ J9 : Int → Gt → Nat → Nat → Prop, J9 = fun x5 G6 c7 s8 => V E M_X2_join 136 [some (rv l0), some (rv l1), some (rv l2), some (rv l3), some (iv l4), none] [iv x5] G6 c7 s8 Q X := ⟨_, rfl⟩
    have hJ4 : ∀ (x5 : Int) (G6 : Gt) (c7 s8 : Nat), (gcl G6 l3 = 4 ∧ ((x5 < (gfd G6 3 2 l3) → ((x5 < 0 → (i32 (l4 + 1) ∧ V E M_X2_join 101 [some (rv l0), some (rv l1), some (rv l2), some (rv l3), some (iv (l4 + 1)), none] [] G6 c7 s8 Q X)) ∧ (0 ≤ x5 → (gcl G6 l1 = 11 ∧ gcl G6 l2 = 4 ∧ gcl G6 (gfd G6 3 1 l2) = 16 ∧ 0 ≤ l4 ∧ l4 < gln G6 (gfd G6 3 1 l2) ∧ gcl G6 l3 = 4 ∧ gcl G6 (gfd G6 3 1 l3) = 16 ∧ 0 ≤ x5 ∧ x5 < gln G6 (gfd G6 3 1 l3) ∧ gcl G6 l2 = 4 ∧ gcl G6 (gfd G6 3 0 l2) = 15 ∧ 0 ≤ l4 ∧ l4 < gln G6 (gfd G6 3 0 l2) ∧ gcl G6 l2 = 4 ∧ gcl G6 (gfd G6 3 1 l2) = 16 ∧ 0 ≤ l4 ∧ l4 < gln G6 (gfd G6 3 1 l2) ∧ gcl G6 l0 = 3 ∧ Call E M_X2_joinValues [rv l0, iv (gfd G6 10 0 l1), jv (gel G6 (gfd G6 3 1 l2) l4), jv (gel G6 (gfd G6 3 1 l3) x5), iv (gel G6 (gfd G6 3 0 l2) l4), jv (gel G6 (gfd G6 3 1 l2) l4)] G6 c7 s8 X (fun r31 G32 c33 s34 => i32 (l4 + 1) ∧ V E M_X2_join 101 [some (rv l0), some (rv l1), some (rv l2), some (rv l3), some (iv (l4 + 1)), none] [] G32 c33 s34 Q X))))) ∧ ((gfd G6 3 2 l3) ≤ x5 → Q 0 G6))) → J4 x5 G6 c7 s8 := by
      intro x5 G6 c7 s8 h
      rw [dJ4]
      refine v_istore (pc := 136) (ls' := [some (rv l0), some (rv l1), some (rv l2), some (rv l3), some (iv l4), some (iv x5)]) (dk dt_X2_join_1 28 rfl) (Nat.le_of_ble_eq_true rfl) rfl ?_
      refine v_iload (pc := 138) (dk dt_X2_join_1 29 rfl) rfl ?_
      refine v_aload_n (pc := 140) (dk dt_X2_join_1 30 rfl) rfl rfl ?_
      obtain ⟨v9, h⟩ := h
      refine v_getI (pc := 141) (dk dt_X2_join_1 31 rfl) fl_X2_157 v9 (fun _ => ?_)
      refine v_icmp_lt (pc := 144) (tgt := 149) (dk dt_X2_join_1 32 rfl) (by decide) (fun c10 => ?_) (fun c10 => ?_)
      · replace h := h.1 c10
        refine v_iload (pc := 149) (dk dt_X2_join_1 35 rfl) rfl ?_
        refine v_if_lt (pc := 151) (tgt := 190) (dk dt_X2_join_1 36 rfl) (by decide) (fun c11 => ?_) (fun c11 => ?_)
        · replace h := h.1 c11
          obtain ⟨v12, h⟩ := h
          refine v_iinc (pc := 190) (ls' := [some (rv l0), some (rv l1), some (rv l2), some (rv l3), some (iv (l4 + 1)), some (iv x5)]) (dk dt_X2_join_2 17 rfl) (Nat.le_of_ble_eq_true rfl) rfl v12 rfl ?_
          refine v_goto (pc := 193) (tgt := 101) (dk dt_X2_join_2 18 rfl) (by decide) ?_
          exact v_less2 (ls' := [some (rv l0), some (rv l1), some (rv l2), some (rv l3), some (iv (l4 + 1)), none]) ⟨rfl, rfl, rfl, rfl, rfl, trivial⟩ h
        · replace h := h.2 c11
          refine v_aload_n (pc := 154) (dk dt_X2_join_1 37 rfl) rfl rfl ?_
          refine v_aload_n (pc := 155) (dk dt_X2_join_1 38 rfl) rfl rfl ?_
          obtain ⟨v13, h⟩ := h
          refine v_getI (pc := 156) (dk dt_X2_join_1 39 rfl) fl_X2_50 v13 (fun _ => ?_)
          refine v_aload_n (pc := 159) (dk dt_X2_join_2 0 rfl) rfl rfl ?_
          obtain ⟨v14, h⟩ := h
          refine v_getR (pc := 160) (dk dt_X2_join_2 1 rfl) fl_X2_169 v14 (fun _ => ?_)
          refine v_iload (pc := 163) (dk dt_X2_join_2 2 rfl) rfl ?_
          obtain ⟨v15, h⟩ := h
          obtain ⟨v16, h⟩ := h
          obtain ⟨v17, h⟩ := h
          refine v_lald (pc := 165) (dk dt_X2_join_2 3 rfl) v15 v16 v17 (fun _ => ?_)
          refine v_aload_n (pc := 166) (dk dt_X2_join_2 4 rfl) rfl rfl ?_
          obtain ⟨v18, h⟩ := h
          refine v_getR (pc := 167) (dk dt_X2_join_2 5 rfl) fl_X2_169 v18 (fun _ => ?_)
          refine v_iload (pc := 170) (dk dt_X2_join_2 6 rfl) rfl ?_
          obtain ⟨v19, h⟩ := h
          obtain ⟨v20, h⟩ := h
          obtain ⟨v21, h⟩ := h
          refine v_lald (pc := 172) (dk dt_X2_join_2 7 rfl) v19 v20 v21 (fun _ => ?_)
          refine v_aload_n (pc := 173) (dk dt_X2_join_2 8 rfl) rfl rfl ?_
          obtain ⟨v22, h⟩ := h
          refine v_getR (pc := 174) (dk dt_X2_join_2 9 rfl) fl_X2_159 v22 (fun _ => ?_)
          refine v_iload (pc := 177) (dk dt_X2_join_2 10 rfl) rfl ?_
          obtain ⟨v23, h⟩ := h
          obtain ⟨v24, h⟩ := h
          obtain ⟨v25, h⟩ := h
          refine v_iald (pc := 179) (dk dt_X2_join_2 11 rfl) (Or.inl v23) v24 v25 (fun _ => ?_)
          refine v_aload_n (pc := 180) (dk dt_X2_join_2 12 rfl) rfl rfl ?_
          obtain ⟨v26, h⟩ := h
          refine v_getR (pc := 181) (dk dt_X2_join_2 13 rfl) fl_X2_169 v26 (fun _ => ?_)
          refine v_iload (pc := 184) (dk dt_X2_join_2 14 rfl) rfl ?_
          obtain ⟨v27, h⟩ := h
          obtain ⟨v28, h⟩ := h
          obtain ⟨v29, h⟩ := h
          refine v_lald (pc := 186) (dk dt_X2_join_2 15 rfl) v27 v28 v29 (fun _ => ?_)
          obtain ⟨v30, h⟩ := h
          refine v_cvV (c := 2) (As := [iv (gfd G6 10 0 l1), jv (gel G6 (gfd G6 3 1 l2) l4), jv (gel G6 (gfd G6 3 1 l3) x5), iv (gel G6 (gfd G6 3 0 l2) l4), jv (gel G6 (gfd G6 3 1 l2) l4)]) (stk := []) (pc := 187) (dk dt_X2_join_2 16 rfl) ml_X2_183 rfl rfl (Nat.le_of_ble_eq_true rfl) rfl ⟨by decide, rfl⟩ v30 rfl (Call.mono h (fun r31 G32 c33 s34 h => ?_))
          obtain ⟨v35, h⟩ := h
          refine v_iinc (pc := 190) (ls' := [some (rv l0), some (rv l1), some (rv l2), some (rv l3), some (iv (l4 + 1)), some (iv x5)]) (dk dt_X2_join_2 17 rfl) (Nat.le_of_ble_eq_true rfl) rfl v35 rfl ?_
          refine v_goto (pc := 193) (tgt := 101) (dk dt_X2_join_2 18 rfl) (by decide) ?_
          exact v_less2 (ls' := [some (rv l0), some (rv l1), some (rv l2), some (rv l3), some (iv (l4 + 1)), none]) ⟨rfl, rfl, rfl, rfl, rfl, trivial⟩ h
      · replace h := h.2 c10
        refine v_iconst (pc := 147) (dk dt_X2_join_1 33 rfl) ⟨by decide, by decide⟩ ?_
        exact v_zret (pc := 148) (dk dt_X2_join_1 34 rfl) rfl (Or.inl rfl) h
    replace h := h _ hJ4
    refine v_if_eq (pc := 114) (tgt := 121) (dk dt_X2_join_1 17 rfl) (by decide) (fun c36 => ?_) (fun c36 => ?_)
    · replace h := h.1 c36
      refine v_aload_n (pc := 121) (dk dt_X2_join_1 20 rfl) rfl rfl ?_
      refine v_aload_n (pc := 122) (dk dt_X2_join_1 21 rfl) rfl rfl ?_
      obtain ⟨v37, h⟩ := h
      refine v_getR (pc := 123) (dk dt_X2_join_1 22 rfl) fl_X2_159 v37 (fun _ => ?_)
      refine v_iload (pc := 126) (dk dt_X2_join_1 23 rfl) rfl ?_
      obtain ⟨v38, h⟩ := h
      obtain ⟨v39, h⟩ := h
      obtain ⟨v40, h⟩ := h
      refine v_iald (pc := 128) (dk dt_X2_join_1 24 rfl) (Or.inl v38) v39 v40 (fun _ => ?_)
      refine v_aload_n (pc := 129) (dk dt_X2_join_1 25 rfl) rfl rfl ?_
      obtain ⟨v41, h⟩ := h
      refine v_getI (pc := 130) (dk dt_X2_join_1 26 rfl) fl_X2_65 v41 (fun _ => ?_)
      refine v_csI (As := [rv l3, iv (gel G (gfd G 3 0 l2) l4), iv (gfd G 10 1 l1)]) (stk := []) (pc := 133) (dk dt_X2_join_1 27 rfl) ml_X2_187 rfl rfl (Nat.le_of_ble_eq_true rfl) rfl rfl (Call.mono h (fun r42 G43 c44 s45 h => ?_))
      rw [dJ4] at h
      exact h
    · replace h := h.2 c36
      refine v_iconst (pc := 117) (dk dt_X2_join_1 18 rfl) ⟨by decide, by decide⟩ ?_
      refine v_goto (pc := 118) (tgt := 136) (dk dt_X2_join_1 19 rfl) (by decide) ?_
      rw [dJ4] at h
      exact h
set_option maxRecDepth 20000 in
theorem b_X2_joinNumbers_0 {E : EE} {l0 l1 l2 l4 : Int} {G : Gt} {c s : Nat} {Q X : Int → Gt → Prop} (h : ((l1 ≠ 14 → (gcl G l0 = 3 ∧ Call E M_X2_reckonValue [iv l1, jv l2, jv l4] G c s X (fun r3 G4 c5 s6 => gcl G4 (gfd G 2 2 l0) = 4 ∧ Call E M_X3_becomeNumber [rv (gfd G 2 2 l0), jv r3] G4 c5 s6 X (fun r8 G9 c10 s11 => ((if l1 = 13 then ((if l4 = 0 then (0 : Int) else 1) : Int) else 1) = 0 ∨ (if l1 = 13 then ((if l4 = 0 then (0 : Int) else 1) : Int) else 1) = 1) ∧ Q (if l1 = 13 then ((if l4 = 0 then (0 : Int) else 1) : Int) else 1) G9)))) ∧ (l1 = 14 → (gcl G l0 = 3 ∧ gcl G (gfd G 2 2 l0) = 4 ∧ Call E M_X3_becomeNumber [rv (gfd G 2 2 l0), jv (if l2 ≤ l4 then (0 : Int) else 1000)] G c s X (fun r18 G19 c20 s21 => Q 1 G19))))) : V E M_X2_joinNumbers 0 [some (rv l0), some (iv l1), some (jv l2), none, some (jv l4), none] [] G c s Q X := by
  refine v_iload_n (pc := 0) (dk dt_X2_joinNumbers 0 rfl) rfl rfl ?_
  refine v_bipush (pc := 1) (dk dt_X2_joinNumbers 1 rfl) (by decide) ⟨by decide, by decide⟩ ?_
  refine v_icmp_ne (pc := 3) (tgt := 29) (dk dt_X2_joinNumbers 2 rfl) (by decide) (fun c1 => ?_) (fun c1 => ?_)
  · replace h := h.1 c1
    refine v_aload_n (pc := 29) (dk dt_X2_joinNumbers 15 rfl) rfl rfl ?_
    obtain ⟨v2, h⟩ := h
    refine v_getR (pc := 30) (dk dt_X2_joinNumbers 16 rfl) fl_X2_28 v2 (fun _ => ?_)
    refine v_iload_n (pc := 33) (dk dt_X2_joinNumbers 17 rfl) rfl rfl ?_
    refine v_lload_n (pc := 34) (dk dt_X2_joinNumbers 18 rfl) rfl rfl ?_
    refine v_lload (pc := 35) (dk dt_X2_joinNumbers 19 rfl) rfl ?_
    refine v_csJ (As := [iv l1, jv l2, jv l4]) (stk := [rv (gfd G 2 2 l0)]) (pc := 37) (dk dt_X2_joinNumbers 20 rfl) ml_X2_191 rfl rfl (Nat.le_of_ble_eq_true rfl) rfl rfl (Call.mono h (fun r3 G4 c5 s6 h => ?_))
    obtain ⟨v7, h⟩ := h
    refine v_cvV (c := 3) (As := [jv r3]) (stk := []) (pc := 40) (dk dt_X2_joinNumbers 21 rfl) ml_X2_68 rfl rfl (Nat.le_of_ble_eq_true rfl) rfl ⟨by decide, rfl⟩ v7 rfl (Call.mono h (fun r8 G9 c10 s11 h => ?_))
    refine v_iload_n (pc := 43) (dk dt_X2_joinNumbers 22 rfl) rfl rfl ?_
    refine v_bipush (pc := 44) (dk dt_X2_joinNumbers 23 rfl) (by decide) ⟨by decide, by decide⟩ ?_
    suffices k22 : V E M_X2_joinNumbers 61 [none, none, none, none, none, none] [iv (if l1 = 13 then ((if l4 = 0 then (0 : Int) else 1) : Int) else 1)] G9 c10 s11 Q X by
      refine v_icmp_ne (pc := 46) (tgt := 56) (dk dt_X2_joinNumbers 24 rfl) (by decide) (fun c12 => ?_) (fun c12 => ?_)
      · refine v_iconst (pc := 56) (dk dt_X2_joinNumbers 29 rfl) ⟨by decide, by decide⟩ ?_
        refine v_goto (pc := 57) (tgt := 61) (dk dt_X2_joinNumbers 30 rfl) (by decide) ?_
        exact v_less2 (ls' := [none, none, none, none, none, none]) trivial (by have hk9 := k22; try simp only [if_neg c12] at hk9 ⊢; exact hk9)
      · refine v_lload (pc := 49) (dk dt_X2_joinNumbers 25 rfl) rfl ?_
        refine v_lconst (x := 0) (pc := 51) (dk dt_X2_joinNumbers 26 rfl) (by decide) ⟨by decide, by decide⟩ ?_
        refine v_lcmp_eq (pc := 52) (tgt := 60) (dk dt_X2_joinNumbers 27 rfl) (dk dt_X2_joinNumbers 28 rfl) (by decide) (fun c13 => ?_) (fun c13 => ?_)
        · refine v_iconst (pc := 60) (dk dt_X2_joinNumbers 31 rfl) ⟨by decide, by decide⟩ ?_
          exact v_less2 (ls' := [none, none, none, none, none, none]) trivial (by have hk9 := k22; try simp only [if_pos c12] at hk9 ⊢; try simp only [if_pos c13] at hk9 ⊢; exact hk9)
        · refine v_iconst (pc := 56) (dk dt_X2_joinNumbers 29 rfl) ⟨by decide, by decide⟩ ?_
          refine v_goto (pc := 57) (tgt := 61) (dk dt_X2_joinNumbers 30 rfl) (by decide) ?_
          exact v_less2 (ls' := [none, none, none, none, none, none]) trivial (by have hk9 := k22; try simp only [if_pos c12] at hk9 ⊢; try simp only [if_neg c13] at hk9 ⊢; exact hk9)
    obtain ⟨v14, h⟩ := h
    exact v_zret (pc := 61) (dk dt_X2_joinNumbers 32 rfl) rfl v14 h
  · replace h := h.2 c1
    refine v_aload_n (pc := 6) (dk dt_X2_joinNumbers 3 rfl) rfl rfl ?_
    obtain ⟨v15, h⟩ := h
    refine v_getR (pc := 7) (dk dt_X2_joinNumbers 4 rfl) fl_X2_28 v15 (fun _ => ?_)
    refine v_lload_n (pc := 10) (dk dt_X2_joinNumbers 5 rfl) rfl rfl ?_
    refine v_lload (pc := 11) (dk dt_X2_joinNumbers 6 rfl) rfl ?_
    suffices k23 : V E M_X2_joinNumbers 24 [none, none, none, none, none, none] [jv (if l2 ≤ l4 then (0 : Int) else 1000), rv (gfd G 2 2 l0)] G c s Q X by
      refine v_lcmp_le (pc := 13) (tgt := 23) (dk dt_X2_joinNumbers 7 rfl) (dk dt_X2_joinNumbers 8 rfl) (by decide) (fun c16 => ?_) (fun c16 => ?_)
      · refine v_lconst (x := 0) (pc := 23) (dk dt_X2_joinNumbers 11 rfl) (by decide) ⟨by decide, by decide⟩ ?_
        exact v_less2 (ls' := [none, none, none, none, none, none]) trivial (by have hk9 := k23; try simp only [if_pos c16] at hk9 ⊢; exact hk9)
      · refine v_ldc2 (pc := 17) (dk dt_X2_joinNumbers 9 rfl) co_X2_132 ⟨by decide, by decide⟩ ?_
        refine v_goto (pc := 20) (tgt := 24) (dk dt_X2_joinNumbers 10 rfl) (by decide) ?_
        exact v_less2 (ls' := [none, none, none, none, none, none]) trivial (by have hk9 := k23; try simp only [if_neg (Int.not_le.mpr c16)] at hk9 ⊢; exact hk9)
    obtain ⟨v17, h⟩ := h
    refine v_cvV (c := 3) (As := [jv (if l2 ≤ l4 then (0 : Int) else 1000)]) (stk := []) (pc := 24) (dk dt_X2_joinNumbers 12 rfl) ml_X2_68 rfl rfl (Nat.le_of_ble_eq_true rfl) rfl ⟨by decide, rfl⟩ v17 rfl (Call.mono h (fun r18 G19 c20 s21 h => ?_))
    refine v_iconst (pc := 27) (dk dt_X2_joinNumbers 13 rfl) ⟨by decide, by decide⟩ ?_
    exact v_zret (pc := 28) (dk dt_X2_joinNumbers 14 rfl) rfl (Or.inr rfl) h
set_option maxRecDepth 20000 in
theorem i_X2_joinNumbers {E : EE} {l0 l1 l2 l4 : Int} {G : Gt} {c s : Nat} {Q X : Int → Gt → Prop} (h : ((l1 ≠ 14 → (gcl G l0 = 3 ∧ Call E M_X2_reckonValue [iv l1, jv l2, jv l4] G c s X (fun r3 G4 c5 s6 => gcl G4 (gfd G 2 2 l0) = 4 ∧ Call E M_X3_becomeNumber [rv (gfd G 2 2 l0), jv r3] G4 c5 s6 X (fun r8 G9 c10 s11 => ((if l1 = 13 then ((if l4 = 0 then (0 : Int) else 1) : Int) else 1) = 0 ∨ (if l1 = 13 then ((if l4 = 0 then (0 : Int) else 1) : Int) else 1) = 1) ∧ Q (if l1 = 13 then ((if l4 = 0 then (0 : Int) else 1) : Int) else 1) G9)))) ∧ (l1 = 14 → (gcl G l0 = 3 ∧ gcl G (gfd G 2 2 l0) = 4 ∧ Call E M_X3_becomeNumber [rv (gfd G 2 2 l0), jv (if l2 ≤ l4 then (0 : Int) else 1000)] G c s X (fun r18 G19 c20 s21 => Q 1 G19))))) : Ok E M_X2_joinNumbers [rv l0, iv l1, jv l2, jv l4] G c s Q X := Ok.intro (k := 0) rfl rfl (Nat.le_of_ble_eq_true rfl) rfl (b_X2_joinNumbers_0 h)
set_option maxRecDepth 20000 in
theorem b_X2_joinValues_0 {E : EE} {l0 l1 l2 l4 l6 l7 : Int} {G : Gt} {c s : Nat} {Q X : Int → Gt → Prop} (h : ((l1 ≠ 14 → (∀ J2 : Prop, ((gcl G l0 = 3 ∧ Call E M_X2_reckonValue [iv l1, jv l2, jv l4] G c s X (fun r4 G5 c6 s7 => gcl G5 (gfd G 2 2 l0) = 4 ∧ Call E M_X3_put [rv (gfd G 2 2 l0), iv l6, jv r4] G5 c6 s7 X (fun r9 G10 c11 s12 => Q 0 G10))) → J2) → ((l1 ≠ 13 → J2) ∧ (l1 = 13 → ((l4 = 0 → Q 0 G) ∧ (l4 ≠ 0 → J2)))))) ∧ (l1 = 14 → ((l2 ≤ l4 → Q 0 G) ∧ (l4 < l2 → (gcl G l0 = 3 ∧ gcl G (gfd G 2 2 l0) = 4 ∧ Call E M_X3_put [rv (gfd G 2 2 l0), iv l6, jv l7] G c s X (fun r18 G19 c20 s21 => Q 0 G19))))))) : V E M_X2_joinValues 0 [some (rv l0), some (iv l1), some (jv l2), none, some (jv l4), none, some (iv l6), some (jv l7), none] [] G c s Q X := by
  refine v_iload_n (pc := 0) (dk dt_X2_joinValues 0 rfl) rfl rfl ?_
  refine v_bipush (pc := 1) (dk dt_X2_joinValues 1 rfl) (by decide) ⟨by decide, by decide⟩ ?_
  refine v_icmp_ne (pc := 3) (tgt := 27) (dk dt_X2_joinValues 2 rfl) (by decide) (fun c1 => ?_) (fun c1 => ?_)
  · replace h := h.1 c1
    refine v_iload_n (pc := 27) (dk dt_X2_joinValues 13 rfl) rfl rfl ?_
    refine v_bipush (pc := 28) (dk dt_X2_joinValues 14 rfl) (by decide) ⟨by decide, by decide⟩ ?_
    obtain ⟨J2, dJ2⟩ : ∃ J9 : Prop, J9 = V E M_X2_joinValues 40 [some (rv l0), some (iv l1), some (jv l2), none, some (jv l4), none, some (iv l6), none, none] [] G c s Q X := ⟨_, rfl⟩
    have hJ2 : (gcl G l0 = 3 ∧ Call E M_X2_reckonValue [iv l1, jv l2, jv l4] G c s X (fun r4 G5 c6 s7 => gcl G5 (gfd G 2 2 l0) = 4 ∧ Call E M_X3_put [rv (gfd G 2 2 l0), iv l6, jv r4] G5 c6 s7 X (fun r9 G10 c11 s12 => Q 0 G10))) → J2 := by
      intro h
      rw [dJ2]
      refine v_aload_n (pc := 40) (dk dt_X2_joinValues 20 rfl) rfl rfl ?_
      obtain ⟨v3, h⟩ := h
      refine v_getR (pc := 41) (dk dt_X2_joinValues 21 rfl) fl_X2_28 v3 (fun _ => ?_)
      refine v_iload (pc := 44) (dk dt_X2_joinValues 22 rfl) rfl ?_
      refine v_iload_n (pc := 46) (dk dt_X2_joinValues 23 rfl) rfl rfl ?_
      refine v_lload_n (pc := 47) (dk dt_X2_joinValues 24 rfl) rfl rfl ?_
      refine v_lload (pc := 48) (dk dt_X2_joinValues 25 rfl) rfl ?_
      refine v_csJ (As := [iv l1, jv l2, jv l4]) (stk := [iv l6, rv (gfd G 2 2 l0)]) (pc := 50) (dk dt_X2_joinValues 26 rfl) ml_X2_191 rfl rfl (Nat.le_of_ble_eq_true rfl) rfl rfl (Call.mono h (fun r4 G5 c6 s7 h => ?_))
      obtain ⟨v8, h⟩ := h
      refine v_cvV (c := 3) (As := [iv l6, jv r4]) (stk := []) (pc := 53) (dk dt_X2_joinValues 27 rfl) ml_X2_134 rfl rfl (Nat.le_of_ble_eq_true rfl) rfl ⟨by decide, rfl⟩ v8 rfl (Call.mono h (fun r9 G10 c11 s12 h => ?_))
      exact v_vret (pc := 56) (dk dt_X2_joinValues 28 rfl) rfl h
    replace h := h _ hJ2
    refine v_icmp_ne (pc := 30) (tgt := 40) (dk dt_X2_joinValues 15 rfl) (by decide) (fun c13 => ?_) (fun c13 => ?_)
    · replace h := h.1 c13
      rw [dJ2] at h
      exact v_less2 (ls' := [some (rv l0), some (iv l1), some (jv l2), none, some (jv l4), none, some (iv l6), none, none]) ⟨rfl, rfl, rfl, rfl, rfl, trivial⟩ h
    · replace h := h.2 c13
      refine v_lload (pc := 33) (dk dt_X2_joinValues 16 rfl) rfl ?_
      refine v_lconst (x := 0) (pc := 35) (dk dt_X2_joinValues 17 rfl) (by decide) ⟨by decide, by decide⟩ ?_
      refine v_lcmp_eq (pc := 36) (tgt := 56) (dk dt_X2_joinValues 18 rfl) (dk dt_X2_joinValues 19 rfl) (by decide) (fun c14 => ?_) (fun c14 => ?_)
      · replace h := h.1 c14
        exact v_vret (pc := 56) (dk dt_X2_joinValues 28 rfl) rfl h
      · replace h := h.2 c14
        rw [dJ2] at h
        exact v_less2 (ls' := [some (rv l0), some (iv l1), some (jv l2), none, some (jv l4), none, some (iv l6), none, none]) ⟨rfl, rfl, rfl, rfl, rfl, trivial⟩ h
  · replace h := h.2 c1
    refine v_lload_n (pc := 6) (dk dt_X2_joinValues 3 rfl) rfl rfl ?_
    refine v_lload (pc := 7) (dk dt_X2_joinValues 4 rfl) rfl ?_
    refine v_lcmp_le (pc := 9) (tgt := 56) (dk dt_X2_joinValues 5 rfl) (dk dt_X2_joinValues 6 rfl) (by decide) (fun c15 => ?_) (fun c15 => ?_)
    · replace h := h.1 c15
      exact v_vret (pc := 56) (dk dt_X2_joinValues 28 rfl) rfl h
    · replace h := h.2 c15
      refine v_aload_n (pc := 13) (dk dt_X2_joinValues 7 rfl) rfl rfl ?_
      obtain ⟨v16, h⟩ := h
      refine v_getR (pc := 14) (dk dt_X2_joinValues 8 rfl) fl_X2_28 v16 (fun _ => ?_)
      refine v_iload (pc := 17) (dk dt_X2_joinValues 9 rfl) rfl ?_
      refine v_lload (pc := 19) (dk dt_X2_joinValues 10 rfl) rfl ?_
      obtain ⟨v17, h⟩ := h
      refine v_cvV (c := 3) (As := [iv l6, jv l7]) (stk := []) (pc := 21) (dk dt_X2_joinValues 11 rfl) ml_X2_134 rfl rfl (Nat.le_of_ble_eq_true rfl) rfl ⟨by decide, rfl⟩ v17 rfl (Call.mono h (fun r18 G19 c20 s21 h => ?_))
      refine v_goto (pc := 24) (tgt := 56) (dk dt_X2_joinValues 12 rfl) (by decide) ?_
      exact v_vret (pc := 56) (dk dt_X2_joinValues 28 rfl) rfl h
set_option maxRecDepth 20000 in
theorem i_X2_joinValues {E : EE} {l0 l1 l2 l4 l6 l7 : Int} {G : Gt} {c s : Nat} {Q X : Int → Gt → Prop} (h : ((l1 ≠ 14 → (∀ J2 : Prop, ((gcl G l0 = 3 ∧ Call E M_X2_reckonValue [iv l1, jv l2, jv l4] G c s X (fun r4 G5 c6 s7 => gcl G5 (gfd G 2 2 l0) = 4 ∧ Call E M_X3_put [rv (gfd G 2 2 l0), iv l6, jv r4] G5 c6 s7 X (fun r9 G10 c11 s12 => Q 0 G10))) → J2) → ((l1 ≠ 13 → J2) ∧ (l1 = 13 → ((l4 = 0 → Q 0 G) ∧ (l4 ≠ 0 → J2)))))) ∧ (l1 = 14 → ((l2 ≤ l4 → Q 0 G) ∧ (l4 < l2 → (gcl G l0 = 3 ∧ gcl G (gfd G 2 2 l0) = 4 ∧ Call E M_X3_put [rv (gfd G 2 2 l0), iv l6, jv l7] G c s X (fun r18 G19 c20 s21 => Q 0 G19))))))) : Ok E M_X2_joinValues [rv l0, iv l1, jv l2, jv l4, iv l6, jv l7] G c s Q X := Ok.intro (k := 0) rfl rfl (Nat.le_of_ble_eq_true rfl) rfl (b_X2_joinValues_0 h)
set_option maxRecDepth 20000 in
theorem b_X2_reckonValue_0 {E : EE} {l0 l1 l3 : Int} {G : Gt} {c s : Nat} {Q X : Int → Gt → Prop} (h : ((l0 = 10 → (i64 (l1 + l3) ∧ Q (l1 + l3) G)) ∧ (l0 = 11 → (i64 (l1 - l3) ∧ Q (l1 - l3) G)) ∧ (l0 = 12 → (Call E M_X2_multiply [jv l1, jv l3] G c s X (fun r3 G4 c5 s6 => Q r3 G4))) ∧ (l0 < 10 ∨ 12 < l0 → ((l3 ≠ 0 → i64 (l1 * 1000)) ∧ (l3 ≠ 0 → l3 ≠ 0) ∧ (l3 ≠ 0 → i64 (Int.tdiv (l1 * 1000) l3)) ∧ Q (if l3 = 0 then (0 : Int) else (Int.tdiv (l1 * 1000) l3)) G)))) : V E M_X2_reckonValue 0 [some (iv l0), some (jv l1), none, some (jv l3), none] [] G c s Q X := by
  refine v_iload_n (pc := 0) (dk dt_X2_reckonValue 0 rfl) rfl rfl ?_
  refine v_tsw2 (pc := 1) [28, 32, 36] 42 (dk dt_X2_reckonValue 1 rfl) (by decide) ⟨rfl, rfl⟩ (by decide) (fun j hj hx => ?_) (fun hx => ?_)
  · have hj2 : j < 3 := hj
    rcases (show j = 0 ∨ j = 1 ∨ j = 2 by omega) with rfl | rfl | rfl
    · replace h := h.1 (by simpa using hx)
      refine v_lload_n (pc := 28) (dk dt_X2_reckonValue 2 rfl) rfl rfl ?_
      refine v_lload_n (pc := 29) (dk dt_X2_reckonValue 3 rfl) rfl rfl ?_
      obtain ⟨v1, h⟩ := h
      refine v_ladd (pc := 30) (dk dt_X2_reckonValue 4 rfl) v1 ?_
      exact v_lret (pc := 31) (dk dt_X2_reckonValue 5 rfl) rfl h
    · replace h := h.2.1 (by simpa using hx)
      refine v_lload_n (pc := 32) (dk dt_X2_reckonValue 6 rfl) rfl rfl ?_
      refine v_lload_n (pc := 33) (dk dt_X2_reckonValue 7 rfl) rfl rfl ?_
      obtain ⟨v2, h⟩ := h
      refine v_lsub (pc := 34) (dk dt_X2_reckonValue 8 rfl) v2 ?_
      exact v_lret (pc := 35) (dk dt_X2_reckonValue 9 rfl) rfl h
    · replace h := h.2.2.1 (by simpa using hx)
      refine v_lload_n (pc := 36) (dk dt_X2_reckonValue 10 rfl) rfl rfl ?_
      refine v_lload_n (pc := 37) (dk dt_X2_reckonValue 11 rfl) rfl rfl ?_
      refine v_csJ (As := [jv l1, jv l3]) (stk := []) (pc := 38) (dk dt_X2_reckonValue 12 rfl) ml_X2_195 rfl rfl (Nat.le_of_ble_eq_true rfl) rfl rfl (Call.mono h (fun r3 G4 c5 s6 h => ?_))
      exact v_lret (pc := 41) (dk dt_X2_reckonValue 13 rfl) rfl h
  · replace h := h.2.2.2 hx
    refine v_lload_n (pc := 42) (dk dt_X2_reckonValue 14 rfl) rfl rfl ?_
    refine v_lconst (x := 0) (pc := 43) (dk dt_X2_reckonValue 15 rfl) (by decide) ⟨by decide, by decide⟩ ?_
    obtain ⟨v8, v9, v10, h⟩ := h
    suffices k11 : V E M_X2_reckonValue 59 [none, none, none, none, none] [jv (if l3 = 0 then (0 : Int) else (Int.tdiv (l1 * 1000) l3))] G c s Q X by
      refine v_lcmp_ne (pc := 44) (tgt := 52) (dk dt_X2_reckonValue 16 rfl) (dk dt_X2_reckonValue 17 rfl) (by decide) (fun c7 => ?_) (fun c7 => ?_)
      · refine v_lload_n (pc := 52) (dk dt_X2_reckonValue 20 rfl) rfl rfl ?_
        refine v_ldc2 (pc := 53) (dk dt_X2_reckonValue 21 rfl) co_X2_132 ⟨by decide, by decide⟩ ?_
        refine v_lmul (pc := 56) (dk dt_X2_reckonValue 22 rfl) (v8 c7) ?_
        refine v_lload_n (pc := 57) (dk dt_X2_reckonValue 23 rfl) rfl rfl ?_
        refine v_ldiv (pc := 58) (dk dt_X2_reckonValue 24 rfl) (v9 c7) (v10 c7) ?_
        exact v_less2 (ls' := [none, none, none, none, none]) trivial (by have hk9 := k11; try simp only [if_neg c7] at hk9 ⊢; exact hk9)
      · refine v_lconst (x := 0) (pc := 48) (dk dt_X2_reckonValue 18 rfl) (by decide) ⟨by decide, by decide⟩ ?_
        refine v_goto (pc := 49) (tgt := 59) (dk dt_X2_reckonValue 19 rfl) (by decide) ?_
        exact v_less2 (ls' := [none, none, none, none, none]) trivial (by have hk9 := k11; try simp only [if_pos c7] at hk9 ⊢; exact hk9)
    exact v_lret (pc := 59) (dk dt_X2_reckonValue 25 rfl) rfl h
set_option maxRecDepth 20000 in
theorem i_X2_reckonValue {E : EE} {l0 l1 l3 : Int} {G : Gt} {c s : Nat} {Q X : Int → Gt → Prop} (h : ((l0 = 10 → (i64 (l1 + l3) ∧ Q (l1 + l3) G)) ∧ (l0 = 11 → (i64 (l1 - l3) ∧ Q (l1 - l3) G)) ∧ (l0 = 12 → (Call E M_X2_multiply [jv l1, jv l3] G c s X (fun r3 G4 c5 s6 => Q r3 G4))) ∧ (l0 < 10 ∨ 12 < l0 → ((l3 ≠ 0 → i64 (l1 * 1000)) ∧ (l3 ≠ 0 → l3 ≠ 0) ∧ (l3 ≠ 0 → i64 (Int.tdiv (l1 * 1000) l3)) ∧ Q (if l3 = 0 then (0 : Int) else (Int.tdiv (l1 * 1000) l3)) G)))) : Ok E M_X2_reckonValue [iv l0, jv l1, jv l3] G c s Q X := Ok.intro (k := 0) rfl rfl (Nat.le_of_ble_eq_true rfl) rfl (b_X2_reckonValue_0 h)
set_option maxRecDepth 20000 in
theorem b_X2_multiply_0 {E : EE} {l0 l2 : Int} {G : Gt} {c s : Nat} {Q X : Int → Gt → Prop} (h : ((l0 < 0 → i64 (-l0)) ∧ (l2 < 0 → i64 (-l2)) ∧ ((Int.tdiv (if 0 ≤ l0 then (l0 : Int) else (-l0)) 1000) = 0 → i64 ((Int.tdiv (if 0 ≤ l0 then (l0 : Int) else (-l0)) 1000) * (if 0 ≤ l2 then (l2 : Int) else (-l2)))) ∧ ((Int.tdiv (if 0 ≤ l0 then (l0 : Int) else (-l0)) 1000) = 0 → i64 ((Int.tmod (if 0 ≤ l0 then (l0 : Int) else (-l0)) 1000) * (if 0 ≤ l2 then (l2 : Int) else (-l2)))) ∧ ((Int.tdiv (if 0 ≤ l0 then (l0 : Int) else (-l0)) 1000) = 0 → i64 (((Int.tdiv (if 0 ≤ l0 then (l0 : Int) else (-l0)) 1000) * (if 0 ≤ l2 then (l2 : Int) else (-l2))) + (Int.tdiv ((Int.tmod (if 0 ≤ l0 then (l0 : Int) else (-l0)) 1000) * (if 0 ≤ l2 then (l2 : Int) else (-l2))) 1000))) ∧ ((Int.tdiv (if 0 ≤ l0 then (l0 : Int) else (-l0)) 1000) ≠ 0 → (Int.tdiv (if 0 ≤ l0 then (l0 : Int) else (-l0)) 1000) ≠ 0) ∧ ((Int.tdiv (if 0 ≤ l0 then (l0 : Int) else (-l0)) 1000) ≠ 0 → i64 (Int.tdiv 100000000000000 (Int.tdiv (if 0 ≤ l0 then (l0 : Int) else (-l0)) 1000))) ∧ ((Int.tdiv (if 0 ≤ l0 then (l0 : Int) else (-l0)) 1000) ≠ 0 → (if 0 ≤ l2 then (l2 : Int) else (-l2)) ≤ (Int.tdiv 100000000000000 (Int.tdiv (if 0 ≤ l0 then (l0 : Int) else (-l0)) 1000)) → i64 ((Int.tdiv (if 0 ≤ l0 then (l0 : Int) else (-l0)) 1000) * (if 0 ≤ l2 then (l2 : Int) else (-l2)))) ∧ ((Int.tdiv (if 0 ≤ l0 then (l0 : Int) else (-l0)) 1000) ≠ 0 → (if 0 ≤ l2 then (l2 : Int) else (-l2)) ≤ (Int.tdiv 100000000000000 (Int.tdiv (if 0 ≤ l0 then (l0 : Int) else (-l0)) 1000)) → i64 ((Int.tmod (if 0 ≤ l0 then (l0 : Int) else (-l0)) 1000) * (if 0 ≤ l2 then (l2 : Int) else (-l2)))) ∧ ((Int.tdiv (if 0 ≤ l0 then (l0 : Int) else (-l0)) 1000) ≠ 0 → (if 0 ≤ l2 then (l2 : Int) else (-l2)) ≤ (Int.tdiv 100000000000000 (Int.tdiv (if 0 ≤ l0 then (l0 : Int) else (-l0)) 1000)) → i64 (((Int.tdiv (if 0 ≤ l0 then (l0 : Int) else (-l0)) 1000) * (if 0 ≤ l2 then (l2 : Int) else (-l2))) + (Int.tdiv ((Int.tmod (if 0 ≤ l0 then (l0 : Int) else (-l0)) 1000) * (if 0 ≤ l2 then (l2 : Int) else (-l2))) 1000))) ∧ ((if 0 ≤ l0 then (0 : Int) else 1) ≠ (if 0 ≤ l2 then (0 : Int) else 1) → i64 (-(if (Int.tdiv (if 0 ≤ l0 then (l0 : Int) else (-l0)) 1000) = 0 then ((((Int.tdiv (if 0 ≤ l0 then (l0 : Int) else (-l0)) 1000) * (if 0 ≤ l2 then (l2 : Int) else (-l2))) + (Int.tdiv ((Int.tmod (if 0 ≤ l0 then (l0 : Int) else (-l0)) 1000) * (if 0 ≤ l2 then (l2 : Int) else (-l2))) 1000)) : Int) else (if (Int.tdiv 100000000000000 (Int.tdiv (if 0 ≤ l0 then (l0 : Int) else (-l0)) 1000)) < (if 0 ≤ l2 then (l2 : Int) else (-l2)) then (100000000000000 : Int) else (((Int.tdiv (if 0 ≤ l0 then (l0 : Int) else (-l0)) 1000) * (if 0 ≤ l2 then (l2 : Int) else (-l2))) + (Int.tdiv ((Int.tmod (if 0 ≤ l0 then (l0 : Int) else (-l0)) 1000) * (if 0 ≤ l2 then (l2 : Int) else (-l2))) 1000)))))) ∧ Q (if (if 0 ≤ l0 then (0 : Int) else 1) = (if 0 ≤ l2 then (0 : Int) else 1) then ((if (Int.tdiv (if 0 ≤ l0 then (l0 : Int) else (-l0)) 1000) = 0 then ((((Int.tdiv (if 0 ≤ l0 then (l0 : Int) else (-l0)) 1000) * (if 0 ≤ l2 then (l2 : Int) else (-l2))) + (Int.tdiv ((Int.tmod (if 0 ≤ l0 then (l0 : Int) else (-l0)) 1000) * (if 0 ≤ l2 then (l2 : Int) else (-l2))) 1000)) : Int) else (if (Int.tdiv 100000000000000 (Int.tdiv (if 0 ≤ l0 then (l0 : Int) else (-l0)) 1000)) < (if 0 ≤ l2 then (l2 : Int) else (-l2)) then (100000000000000 : Int) else (((Int.tdiv (if 0 ≤ l0 then (l0 : Int) else (-l0)) 1000) * (if 0 ≤ l2 then (l2 : Int) else (-l2))) + (Int.tdiv ((Int.tmod (if 0 ≤ l0 then (l0 : Int) else (-l0)) 1000) * (if 0 ≤ l2 then (l2 : Int) else (-l2))) 1000)))) : Int) else (-(if (Int.tdiv (if 0 ≤ l0 then (l0 : Int) else (-l0)) 1000) = 0 then ((((Int.tdiv (if 0 ≤ l0 then (l0 : Int) else (-l0)) 1000) * (if 0 ≤ l2 then (l2 : Int) else (-l2))) + (Int.tdiv ((Int.tmod (if 0 ≤ l0 then (l0 : Int) else (-l0)) 1000) * (if 0 ≤ l2 then (l2 : Int) else (-l2))) 1000)) : Int) else (if (Int.tdiv 100000000000000 (Int.tdiv (if 0 ≤ l0 then (l0 : Int) else (-l0)) 1000)) < (if 0 ≤ l2 then (l2 : Int) else (-l2)) then (100000000000000 : Int) else (((Int.tdiv (if 0 ≤ l0 then (l0 : Int) else (-l0)) 1000) * (if 0 ≤ l2 then (l2 : Int) else (-l2))) + (Int.tdiv ((Int.tmod (if 0 ≤ l0 then (l0 : Int) else (-l0)) 1000) * (if 0 ≤ l2 then (l2 : Int) else (-l2))) 1000)))))) G)) : V E M_X2_multiply 0 [some (jv l0), none, some (jv l2), none, none, none, none, none, none, none, none, none] [] G c s Q X := by
  refine v_lload_n (pc := 0) (dk dt_X2_multiply 0 rfl) rfl rfl ?_
  refine v_lconst (x := 0) (pc := 1) (dk dt_X2_multiply 1 rfl) (by decide) ⟨by decide, by decide⟩ ?_
  obtain ⟨v2, h⟩ := h
  suffices k19 : V E M_X2_multiply 12 [some (jv l0), none, some (jv l2), none, none, none, none, none, none, none, none, none] [jv (if 0 ≤ l0 then (l0 : Int) else (-l0))] G c s Q X by
    refine v_lcmp_ge (pc := 2) (tgt := 11) (dk dt_X2_multiply 2 rfl) (dk dt_X2_multiply 3 rfl) (by decide) (fun c1 => ?_) (fun c1 => ?_)
    · refine v_lload_n (pc := 11) (dk dt_X2_multiply 7 rfl) rfl rfl ?_
      exact v_less2 (ls' := [some (jv l0), none, some (jv l2), none, none, none, none, none, none, none, none, none]) ⟨rfl, rfl, trivial⟩ (by have hk9 := k19; try simp only [if_pos c1] at hk9 ⊢; exact hk9)
    · refine v_lload_n (pc := 6) (dk dt_X2_multiply 4 rfl) rfl rfl ?_
      refine v_lneg (pc := 7) (dk dt_X2_multiply 5 rfl) (v2 c1) ?_
      refine v_goto (pc := 8) (tgt := 12) (dk dt_X2_multiply 6 rfl) (by decide) ?_
      exact v_less2 (ls' := [some (jv l0), none, some (jv l2), none, none, none, none, none, none, none, none, none]) ⟨rfl, rfl, trivial⟩ (by have hk9 := k19; try simp only [if_neg (Int.not_le.mpr c1)] at hk9 ⊢; exact hk9)
  refine v_lstore (pc := 12) (ls' := [some (jv l0), none, some (jv l2), none, some (jv (if 0 ≤ l0 then (l0 : Int) else (-l0))), none, none, none, none, none, none, none]) (dk dt_X2_multiply 8 rfl) (Nat.le_of_ble_eq_true rfl) rfl ?_
  refine v_lload_n (pc := 14) (dk dt_X2_multiply 9 rfl) rfl rfl ?_
  refine v_lconst (x := 0) (pc := 15) (dk dt_X2_multiply 10 rfl) (by decide) ⟨by decide, by decide⟩ ?_
  obtain ⟨v4, h⟩ := h
  suffices k20 : V E M_X2_multiply 26 [some (jv l0), none, some (jv l2), none, some (jv (if 0 ≤ l0 then (l0 : Int) else (-l0))), none, none, none, none, none, none, none] [jv (if 0 ≤ l2 then (l2 : Int) else (-l2))] G c s Q X by
    refine v_lcmp_ge (pc := 16) (tgt := 25) (dk dt_X2_multiply 11 rfl) (dk dt_X2_multiply 12 rfl) (by decide) (fun c3 => ?_) (fun c3 => ?_)
    · refine v_lload_n (pc := 25) (dk dt_X2_multiply 16 rfl) rfl rfl ?_
      exact v_less2 (ls' := [some (jv l0), none, some (jv l2), none, some (jv (if 0 ≤ l0 then (l0 : Int) else (-l0))), none, none, none, none, none, none, none]) ⟨rfl, rfl, rfl, trivial⟩ (by have hk9 := k20; try simp only [if_pos c3] at hk9 ⊢; exact hk9)
    · refine v_lload_n (pc := 20) (dk dt_X2_multiply 13 rfl) rfl rfl ?_
      refine v_lneg (pc := 21) (dk dt_X2_multiply 14 rfl) (v4 c3) ?_
      refine v_goto (pc := 22) (tgt := 26) (dk dt_X2_multiply 15 rfl) (by decide) ?_
      exact v_less2 (ls' := [some (jv l0), none, some (jv l2), none, some (jv (if 0 ≤ l0 then (l0 : Int) else (-l0))), none, none, none, none, none, none, none]) ⟨rfl, rfl, rfl, trivial⟩ (by have hk9 := k20; try simp only [if_neg (Int.not_le.mpr c3)] at hk9 ⊢; exact hk9)
  refine v_lstore (pc := 26) (ls' := [some (jv l0), none, some (jv l2), none, some (jv (if 0 ≤ l0 then (l0 : Int) else (-l0))), none, some (jv (if 0 ≤ l2 then (l2 : Int) else (-l2))), none, none, none, none, none]) (dk dt_X2_multiply 17 rfl) (Nat.le_of_ble_eq_true rfl) rfl ?_
  refine v_lload (pc := 28) (dk dt_X2_multiply 18 rfl) rfl ?_
  refine v_ldc2 (pc := 30) (dk dt_X2_multiply 19 rfl) co_X2_132 ⟨by decide, by decide⟩ ?_
  refine v_ldivP (pc := 33) (dk dt_X2_multiply 20 rfl) (by decide) ?_
  refine v_lstore (pc := 34) (ls' := [some (jv l0), none, some (jv l2), none, some (jv (if 0 ≤ l0 then (l0 : Int) else (-l0))), none, some (jv (if 0 ≤ l2 then (l2 : Int) else (-l2))), none, some (jv (Int.tdiv (if 0 ≤ l0 then (l0 : Int) else (-l0)) 1000)), none, none, none]) (dk dt_X2_multiply 21 rfl) (Nat.le_of_ble_eq_true rfl) rfl ?_
  refine v_ldc2 (pc := 36) (dk dt_X2_multiply 22 rfl) co_X2_198 ⟨by decide, by decide⟩ ?_
  refine v_lstore (pc := 39) (ls' := [some (jv l0), none, some (jv l2), none, some (jv (if 0 ≤ l0 then (l0 : Int) else (-l0))), none, some (jv (if 0 ≤ l2 then (l2 : Int) else (-l2))), none, some (jv (Int.tdiv (if 0 ≤ l0 then (l0 : Int) else (-l0)) 1000)), none, some (jv 100000000000000), none]) (dk dt_X2_multiply 23 rfl) (Nat.le_of_ble_eq_true rfl) rfl ?_
  refine v_lload (pc := 41) (dk dt_X2_multiply 24 rfl) rfl ?_
  refine v_lconst (x := 0) (pc := 43) (dk dt_X2_multiply 25 rfl) (by decide) ⟨by decide, by decide⟩ ?_
  obtain ⟨v6, v7, v8, v9, v10, v12, v13, v14, h⟩ := h
  suffices k21 : V E M_X2_multiply 81 [some (jv l0), none, some (jv l2), none, none, none, none, none, none, none, some (jv (if (Int.tdiv (if 0 ≤ l0 then (l0 : Int) else (-l0)) 1000) = 0 then ((((Int.tdiv (if 0 ≤ l0 then (l0 : Int) else (-l0)) 1000) * (if 0 ≤ l2 then (l2 : Int) else (-l2))) + (Int.tdiv ((Int.tmod (if 0 ≤ l0 then (l0 : Int) else (-l0)) 1000) * (if 0 ≤ l2 then (l2 : Int) else (-l2))) 1000)) : Int) else (if (Int.tdiv 100000000000000 (Int.tdiv (if 0 ≤ l0 then (l0 : Int) else (-l0)) 1000)) < (if 0 ≤ l2 then (l2 : Int) else (-l2)) then (100000000000000 : Int) else (((Int.tdiv (if 0 ≤ l0 then (l0 : Int) else (-l0)) 1000) * (if 0 ≤ l2 then (l2 : Int) else (-l2))) + (Int.tdiv ((Int.tmod (if 0 ≤ l0 then (l0 : Int) else (-l0)) 1000) * (if 0 ≤ l2 then (l2 : Int) else (-l2))) 1000))))), none] [] G c s Q X by
    refine v_lcmp_eq (pc := 44) (tgt := 60) (dk dt_X2_multiply 26 rfl) (dk dt_X2_multiply 27 rfl) (by decide) (fun c5 => ?_) (fun c5 => ?_)
    · refine v_lload (pc := 60) (dk dt_X2_multiply 34 rfl) rfl ?_
      refine v_lload (pc := 62) (dk dt_X2_multiply 35 rfl) rfl ?_
      refine v_lmul (pc := 64) (dk dt_X2_multiply 36 rfl) (v6 c5) ?_
      refine v_lload (pc := 65) (dk dt_X2_multiply 37 rfl) rfl ?_
      refine v_ldc2 (pc := 67) (dk dt_X2_multiply 38 rfl) co_X2_132 ⟨by decide, by decide⟩ ?_
      refine v_lremP (pc := 70) (dk dt_X2_multiply 39 rfl) (by decide) ?_
      refine v_lload (pc := 71) (dk dt_X2_multiply_1 0 rfl) rfl ?_
      refine v_lmul (pc := 73) (dk dt_X2_multiply_1 1 rfl) (v7 c5) ?_
      refine v_ldc2 (pc := 74) (dk dt_X2_multiply_1 2 rfl) co_X2_132 ⟨by decide, by decide⟩ ?_
      refine v_ldivP (pc := 77) (dk dt_X2_multiply_1 3 rfl) (by decide) ?_
      refine v_ladd (pc := 78) (dk dt_X2_multiply_1 4 rfl) (v8 c5) ?_
      refine v_lstore (pc := 79) (ls' := [some (jv l0), none, some (jv l2), none, some (jv (if 0 ≤ l0 then (l0 : Int) else (-l0))), none, some (jv (if 0 ≤ l2 then (l2 : Int) else (-l2))), none, some (jv (Int.tdiv (if 0 ≤ l0 then (l0 : Int) else (-l0)) 1000)), none, some (jv (((Int.tdiv (if 0 ≤ l0 then (l0 : Int) else (-l0)) 1000) * (if 0 ≤ l2 then (l2 : Int) else (-l2))) + (Int.tdiv ((Int.tmod (if 0 ≤ l0 then (l0 : Int) else (-l0)) 1000) * (if 0 ≤ l2 then (l2 : Int) else (-l2))) 1000))), none]) (dk dt_X2_multiply_1 5 rfl) (Nat.le_of_ble_eq_true rfl) rfl ?_
      exact v_less2 (ls' := [some (jv l0), none, some (jv l2), none, none, none, none, none, none, none, some (jv (((Int.tdiv (if 0 ≤ l0 then (l0 : Int) else (-l0)) 1000) * (if 0 ≤ l2 then (l2 : Int) else (-l2))) + (Int.tdiv ((Int.tmod (if 0 ≤ l0 then (l0 : Int) else (-l0)) 1000) * (if 0 ≤ l2 then (l2 : Int) else (-l2))) 1000))), none]) ⟨rfl, rfl, rfl, trivial⟩ (by have hk9 := k21; try simp only [if_pos c5] at hk9 ⊢; exact hk9)
    · refine v_lload (pc := 48) (dk dt_X2_multiply 28 rfl) rfl ?_
      refine v_ldc2 (pc := 50) (dk dt_X2_multiply 29 rfl) co_X2_198 ⟨by decide, by decide⟩ ?_
      refine v_lload (pc := 53) (dk dt_X2_multiply 30 rfl) rfl ?_
      refine v_ldiv (pc := 55) (dk dt_X2_multiply 31 rfl) (v9 c5) (v10 c5) ?_
      refine v_lcmp_gt (pc := 56) (tgt := 81) (dk dt_X2_multiply 32 rfl) (dk dt_X2_multiply 33 rfl) (by decide) (fun c11 => ?_) (fun c11 => ?_)
      · exact v_less2 (ls' := [some (jv l0), none, some (jv l2), none, none, none, none, none, none, none, some (jv 100000000000000), none]) ⟨rfl, rfl, rfl, trivial⟩ (by have hk9 := k21; try simp only [if_neg c5] at hk9 ⊢; try simp only [if_pos c11] at hk9 ⊢; exact hk9)
      · refine v_lload (pc := 60) (dk dt_X2_multiply 34 rfl) rfl ?_
        refine v_lload (pc := 62) (dk dt_X2_multiply 35 rfl) rfl ?_
        refine v_lmul (pc := 64) (dk dt_X2_multiply 36 rfl) (v12 c5 c11) ?_
        refine v_lload (pc := 65) (dk dt_X2_multiply 37 rfl) rfl ?_
        refine v_ldc2 (pc := 67) (dk dt_X2_multiply 38 rfl) co_X2_132 ⟨by decide, by decide⟩ ?_
        refine v_lremP (pc := 70) (dk dt_X2_multiply 39 rfl) (by decide) ?_
        refine v_lload (pc := 71) (dk dt_X2_multiply_1 0 rfl) rfl ?_
        refine v_lmul (pc := 73) (dk dt_X2_multiply_1 1 rfl) (v13 c5 c11) ?_
        refine v_ldc2 (pc := 74) (dk dt_X2_multiply_1 2 rfl) co_X2_132 ⟨by decide, by decide⟩ ?_
        refine v_ldivP (pc := 77) (dk dt_X2_multiply_1 3 rfl) (by decide) ?_
        refine v_ladd (pc := 78) (dk dt_X2_multiply_1 4 rfl) (v14 c5 c11) ?_
        refine v_lstore (pc := 79) (ls' := [some (jv l0), none, some (jv l2), none, some (jv (if 0 ≤ l0 then (l0 : Int) else (-l0))), none, some (jv (if 0 ≤ l2 then (l2 : Int) else (-l2))), none, some (jv (Int.tdiv (if 0 ≤ l0 then (l0 : Int) else (-l0)) 1000)), none, some (jv (((Int.tdiv (if 0 ≤ l0 then (l0 : Int) else (-l0)) 1000) * (if 0 ≤ l2 then (l2 : Int) else (-l2))) + (Int.tdiv ((Int.tmod (if 0 ≤ l0 then (l0 : Int) else (-l0)) 1000) * (if 0 ≤ l2 then (l2 : Int) else (-l2))) 1000))), none]) (dk dt_X2_multiply_1 5 rfl) (Nat.le_of_ble_eq_true rfl) rfl ?_
        exact v_less2 (ls' := [some (jv l0), none, some (jv l2), none, none, none, none, none, none, none, some (jv (((Int.tdiv (if 0 ≤ l0 then (l0 : Int) else (-l0)) 1000) * (if 0 ≤ l2 then (l2 : Int) else (-l2))) + (Int.tdiv ((Int.tmod (if 0 ≤ l0 then (l0 : Int) else (-l0)) 1000) * (if 0 ≤ l2 then (l2 : Int) else (-l2))) 1000))), none]) ⟨rfl, rfl, rfl, trivial⟩ (by have hk9 := k21; try simp only [if_neg c5] at hk9 ⊢; try simp only [if_neg (Int.not_lt.mpr c11)] at hk9 ⊢; exact hk9)
  refine v_lload_n (pc := 81) (dk dt_X2_multiply_1 6 rfl) rfl rfl ?_
  refine v_lconst (x := 0) (pc := 82) (dk dt_X2_multiply_1 7 rfl) (by decide) ⟨by decide, by decide⟩ ?_
  suffices k22 : V E M_X2_multiply 92 [none, none, some (jv l2), none, none, none, none, none, none, none, some (jv (if (Int.tdiv (if 0 ≤ l0 then (l0 : Int) else (-l0)) 1000) = 0 then ((((Int.tdiv (if 0 ≤ l0 then (l0 : Int) else (-l0)) 1000) * (if 0 ≤ l2 then (l2 : Int) else (-l2))) + (Int.tdiv ((Int.tmod (if 0 ≤ l0 then (l0 : Int) else (-l0)) 1000) * (if 0 ≤ l2 then (l2 : Int) else (-l2))) 1000)) : Int) else (if (Int.tdiv 100000000000000 (Int.tdiv (if 0 ≤ l0 then (l0 : Int) else (-l0)) 1000)) < (if 0 ≤ l2 then (l2 : Int) else (-l2)) then (100000000000000 : Int) else (((Int.tdiv (if 0 ≤ l0 then (l0 : Int) else (-l0)) 1000) * (if 0 ≤ l2 then (l2 : Int) else (-l2))) + (Int.tdiv ((Int.tmod (if 0 ≤ l0 then (l0 : Int) else (-l0)) 1000) * (if 0 ≤ l2 then (l2 : Int) else (-l2))) 1000))))), none] [iv (if 0 ≤ l0 then (0 : Int) else 1)] G c s Q X by
    refine v_lcmp_ge (pc := 83) (tgt := 91) (dk dt_X2_multiply_1 8 rfl) (dk dt_X2_multiply_1 9 rfl) (by decide) (fun c15 => ?_) (fun c15 => ?_)
    · refine v_iconst (pc := 91) (dk dt_X2_multiply_1 12 rfl) ⟨by decide, by decide⟩ ?_
      exact v_less2 (ls' := [none, none, some (jv l2), none, none, none, none, none, none, none, some (jv (if (Int.tdiv (if 0 ≤ l0 then (l0 : Int) else (-l0)) 1000) = 0 then ((((Int.tdiv (if 0 ≤ l0 then (l0 : Int) else (-l0)) 1000) * (if 0 ≤ l2 then (l2 : Int) else (-l2))) + (Int.tdiv ((Int.tmod (if 0 ≤ l0 then (l0 : Int) else (-l0)) 1000) * (if 0 ≤ l2 then (l2 : Int) else (-l2))) 1000)) : Int) else (if (Int.tdiv 100000000000000 (Int.tdiv (if 0 ≤ l0 then (l0 : Int) else (-l0)) 1000)) < (if 0 ≤ l2 then (l2 : Int) else (-l2)) then (100000000000000 : Int) else (((Int.tdiv (if 0 ≤ l0 then (l0 : Int) else (-l0)) 1000) * (if 0 ≤ l2 then (l2 : Int) else (-l2))) + (Int.tdiv ((Int.tmod (if 0 ≤ l0 then (l0 : Int) else (-l0)) 1000) * (if 0 ≤ l2 then (l2 : Int) else (-l2))) 1000))))), none]) ⟨rfl, rfl, trivial⟩ (by have hk9 := k22; try simp only [if_pos c15] at hk9 ⊢; exact hk9)
    · refine v_iconst (pc := 87) (dk dt_X2_multiply_1 10 rfl) ⟨by decide, by decide⟩ ?_
      refine v_goto (pc := 88) (tgt := 92) (dk dt_X2_multiply_1 11 rfl) (by decide) ?_
      exact v_less2 (ls' := [none, none, some (jv l2), none, none, none, none, none, none, none, some (jv (if (Int.tdiv (if 0 ≤ l0 then (l0 : Int) else (-l0)) 1000) = 0 then ((((Int.tdiv (if 0 ≤ l0 then (l0 : Int) else (-l0)) 1000) * (if 0 ≤ l2 then (l2 : Int) else (-l2))) + (Int.tdiv ((Int.tmod (if 0 ≤ l0 then (l0 : Int) else (-l0)) 1000) * (if 0 ≤ l2 then (l2 : Int) else (-l2))) 1000)) : Int) else (if (Int.tdiv 100000000000000 (Int.tdiv (if 0 ≤ l0 then (l0 : Int) else (-l0)) 1000)) < (if 0 ≤ l2 then (l2 : Int) else (-l2)) then (100000000000000 : Int) else (((Int.tdiv (if 0 ≤ l0 then (l0 : Int) else (-l0)) 1000) * (if 0 ≤ l2 then (l2 : Int) else (-l2))) + (Int.tdiv ((Int.tmod (if 0 ≤ l0 then (l0 : Int) else (-l0)) 1000) * (if 0 ≤ l2 then (l2 : Int) else (-l2))) 1000))))), none]) ⟨rfl, rfl, trivial⟩ (by have hk9 := k22; try simp only [if_neg (Int.not_le.mpr c15)] at hk9 ⊢; exact hk9)
  refine v_lload_n (pc := 92) (dk dt_X2_multiply_1 13 rfl) rfl rfl ?_
  refine v_lconst (x := 0) (pc := 93) (dk dt_X2_multiply_1 14 rfl) (by decide) ⟨by decide, by decide⟩ ?_
  suffices k23 : V E M_X2_multiply 103 [none, none, none, none, none, none, none, none, none, none, some (jv (if (Int.tdiv (if 0 ≤ l0 then (l0 : Int) else (-l0)) 1000) = 0 then ((((Int.tdiv (if 0 ≤ l0 then (l0 : Int) else (-l0)) 1000) * (if 0 ≤ l2 then (l2 : Int) else (-l2))) + (Int.tdiv ((Int.tmod (if 0 ≤ l0 then (l0 : Int) else (-l0)) 1000) * (if 0 ≤ l2 then (l2 : Int) else (-l2))) 1000)) : Int) else (if (Int.tdiv 100000000000000 (Int.tdiv (if 0 ≤ l0 then (l0 : Int) else (-l0)) 1000)) < (if 0 ≤ l2 then (l2 : Int) else (-l2)) then (100000000000000 : Int) else (((Int.tdiv (if 0 ≤ l0 then (l0 : Int) else (-l0)) 1000) * (if 0 ≤ l2 then (l2 : Int) else (-l2))) + (Int.tdiv ((Int.tmod (if 0 ≤ l0 then (l0 : Int) else (-l0)) 1000) * (if 0 ≤ l2 then (l2 : Int) else (-l2))) 1000))))), none] [iv (if 0 ≤ l2 then (0 : Int) else 1), iv (if 0 ≤ l0 then (0 : Int) else 1)] G c s Q X by
    refine v_lcmp_ge (pc := 94) (tgt := 102) (dk dt_X2_multiply_1 15 rfl) (dk dt_X2_multiply_1 16 rfl) (by decide) (fun c16 => ?_) (fun c16 => ?_)
    · refine v_iconst (pc := 102) (dk dt_X2_multiply_1 19 rfl) ⟨by decide, by decide⟩ ?_
      exact v_less2 (ls' := [none, none, none, none, none, none, none, none, none, none, some (jv (if (Int.tdiv (if 0 ≤ l0 then (l0 : Int) else (-l0)) 1000) = 0 then ((((Int.tdiv (if 0 ≤ l0 then (l0 : Int) else (-l0)) 1000) * (if 0 ≤ l2 then (l2 : Int) else (-l2))) + (Int.tdiv ((Int.tmod (if 0 ≤ l0 then (l0 : Int) else (-l0)) 1000) * (if 0 ≤ l2 then (l2 : Int) else (-l2))) 1000)) : Int) else (if (Int.tdiv 100000000000000 (Int.tdiv (if 0 ≤ l0 then (l0 : Int) else (-l0)) 1000)) < (if 0 ≤ l2 then (l2 : Int) else (-l2)) then (100000000000000 : Int) else (((Int.tdiv (if 0 ≤ l0 then (l0 : Int) else (-l0)) 1000) * (if 0 ≤ l2 then (l2 : Int) else (-l2))) + (Int.tdiv ((Int.tmod (if 0 ≤ l0 then (l0 : Int) else (-l0)) 1000) * (if 0 ≤ l2 then (l2 : Int) else (-l2))) 1000))))), none]) ⟨rfl, trivial⟩ (by have hk9 := k23; try simp only [if_pos c16] at hk9 ⊢; exact hk9)
    · refine v_iconst (pc := 98) (dk dt_X2_multiply_1 17 rfl) ⟨by decide, by decide⟩ ?_
      refine v_goto (pc := 99) (tgt := 103) (dk dt_X2_multiply_1 18 rfl) (by decide) ?_
      exact v_less2 (ls' := [none, none, none, none, none, none, none, none, none, none, some (jv (if (Int.tdiv (if 0 ≤ l0 then (l0 : Int) else (-l0)) 1000) = 0 then ((((Int.tdiv (if 0 ≤ l0 then (l0 : Int) else (-l0)) 1000) * (if 0 ≤ l2 then (l2 : Int) else (-l2))) + (Int.tdiv ((Int.tmod (if 0 ≤ l0 then (l0 : Int) else (-l0)) 1000) * (if 0 ≤ l2 then (l2 : Int) else (-l2))) 1000)) : Int) else (if (Int.tdiv 100000000000000 (Int.tdiv (if 0 ≤ l0 then (l0 : Int) else (-l0)) 1000)) < (if 0 ≤ l2 then (l2 : Int) else (-l2)) then (100000000000000 : Int) else (((Int.tdiv (if 0 ≤ l0 then (l0 : Int) else (-l0)) 1000) * (if 0 ≤ l2 then (l2 : Int) else (-l2))) + (Int.tdiv ((Int.tmod (if 0 ≤ l0 then (l0 : Int) else (-l0)) 1000) * (if 0 ≤ l2 then (l2 : Int) else (-l2))) 1000))))), none]) ⟨rfl, trivial⟩ (by have hk9 := k23; try simp only [if_neg (Int.not_le.mpr c16)] at hk9 ⊢; exact hk9)
  obtain ⟨v18, h⟩ := h
  suffices k24 : V E M_X2_multiply 114 [none, none, none, none, none, none, none, none, none, none, none, none] [jv (if (if 0 ≤ l0 then (0 : Int) else 1) = (if 0 ≤ l2 then (0 : Int) else 1) then ((if (Int.tdiv (if 0 ≤ l0 then (l0 : Int) else (-l0)) 1000) = 0 then ((((Int.tdiv (if 0 ≤ l0 then (l0 : Int) else (-l0)) 1000) * (if 0 ≤ l2 then (l2 : Int) else (-l2))) + (Int.tdiv ((Int.tmod (if 0 ≤ l0 then (l0 : Int) else (-l0)) 1000) * (if 0 ≤ l2 then (l2 : Int) else (-l2))) 1000)) : Int) else (if (Int.tdiv 100000000000000 (Int.tdiv (if 0 ≤ l0 then (l0 : Int) else (-l0)) 1000)) < (if 0 ≤ l2 then (l2 : Int) else (-l2)) then (100000000000000 : Int) else (((Int.tdiv (if 0 ≤ l0 then (l0 : Int) else (-l0)) 1000) * (if 0 ≤ l2 then (l2 : Int) else (-l2))) + (Int.tdiv ((Int.tmod (if 0 ≤ l0 then (l0 : Int) else (-l0)) 1000) * (if 0 ≤ l2 then (l2 : Int) else (-l2))) 1000)))) : Int) else (-(if (Int.tdiv (if 0 ≤ l0 then (l0 : Int) else (-l0)) 1000) = 0 then ((((Int.tdiv (if 0 ≤ l0 then (l0 : Int) else (-l0)) 1000) * (if 0 ≤ l2 then (l2 : Int) else (-l2))) + (Int.tdiv ((Int.tmod (if 0 ≤ l0 then (l0 : Int) else (-l0)) 1000) * (if 0 ≤ l2 then (l2 : Int) else (-l2))) 1000)) : Int) else (if (Int.tdiv 100000000000000 (Int.tdiv (if 0 ≤ l0 then (l0 : Int) else (-l0)) 1000)) < (if 0 ≤ l2 then (l2 : Int) else (-l2)) then (100000000000000 : Int) else (((Int.tdiv (if 0 ≤ l0 then (l0 : Int) else (-l0)) 1000) * (if 0 ≤ l2 then (l2 : Int) else (-l2))) + (Int.tdiv ((Int.tmod (if 0 ≤ l0 then (l0 : Int) else (-l0)) 1000) * (if 0 ≤ l2 then (l2 : Int) else (-l2))) 1000))))))] G c s Q X by
    refine v_icmp_ne (pc := 103) (tgt := 111) (dk dt_X2_multiply_1 20 rfl) (by decide) (fun c17 => ?_) (fun c17 => ?_)
    · refine v_lload (pc := 111) (dk dt_X2_multiply_1 23 rfl) rfl ?_
      refine v_lneg (pc := 113) (dk dt_X2_multiply_1 24 rfl) (v18 c17) ?_
      exact v_less2 (ls' := [none, none, none, none, none, none, none, none, none, none, none, none]) trivial (by have hk9 := k24; try simp only [if_neg c17] at hk9 ⊢; exact hk9)
    · refine v_lload (pc := 106) (dk dt_X2_multiply_1 21 rfl) rfl ?_
      refine v_goto (pc := 108) (tgt := 114) (dk dt_X2_multiply_1 22 rfl) (by decide) ?_
      exact v_less2 (ls' := [none, none, none, none, none, none, none, none, none, none, none, none]) trivial (by have hk9 := k24; try simp only [if_pos c17] at hk9 ⊢; exact hk9)
  exact v_lret (pc := 114) (dk dt_X2_multiply_1 25 rfl) rfl h
set_option maxRecDepth 20000 in
theorem i_X2_multiply {E : EE} {l0 l2 : Int} {G : Gt} {c s : Nat} {Q X : Int → Gt → Prop} (h : ((l0 < 0 → i64 (-l0)) ∧ (l2 < 0 → i64 (-l2)) ∧ ((Int.tdiv (if 0 ≤ l0 then (l0 : Int) else (-l0)) 1000) = 0 → i64 ((Int.tdiv (if 0 ≤ l0 then (l0 : Int) else (-l0)) 1000) * (if 0 ≤ l2 then (l2 : Int) else (-l2)))) ∧ ((Int.tdiv (if 0 ≤ l0 then (l0 : Int) else (-l0)) 1000) = 0 → i64 ((Int.tmod (if 0 ≤ l0 then (l0 : Int) else (-l0)) 1000) * (if 0 ≤ l2 then (l2 : Int) else (-l2)))) ∧ ((Int.tdiv (if 0 ≤ l0 then (l0 : Int) else (-l0)) 1000) = 0 → i64 (((Int.tdiv (if 0 ≤ l0 then (l0 : Int) else (-l0)) 1000) * (if 0 ≤ l2 then (l2 : Int) else (-l2))) + (Int.tdiv ((Int.tmod (if 0 ≤ l0 then (l0 : Int) else (-l0)) 1000) * (if 0 ≤ l2 then (l2 : Int) else (-l2))) 1000))) ∧ ((Int.tdiv (if 0 ≤ l0 then (l0 : Int) else (-l0)) 1000) ≠ 0 → (Int.tdiv (if 0 ≤ l0 then (l0 : Int) else (-l0)) 1000) ≠ 0) ∧ ((Int.tdiv (if 0 ≤ l0 then (l0 : Int) else (-l0)) 1000) ≠ 0 → i64 (Int.tdiv 100000000000000 (Int.tdiv (if 0 ≤ l0 then (l0 : Int) else (-l0)) 1000))) ∧ ((Int.tdiv (if 0 ≤ l0 then (l0 : Int) else (-l0)) 1000) ≠ 0 → (if 0 ≤ l2 then (l2 : Int) else (-l2)) ≤ (Int.tdiv 100000000000000 (Int.tdiv (if 0 ≤ l0 then (l0 : Int) else (-l0)) 1000)) → i64 ((Int.tdiv (if 0 ≤ l0 then (l0 : Int) else (-l0)) 1000) * (if 0 ≤ l2 then (l2 : Int) else (-l2)))) ∧ ((Int.tdiv (if 0 ≤ l0 then (l0 : Int) else (-l0)) 1000) ≠ 0 → (if 0 ≤ l2 then (l2 : Int) else (-l2)) ≤ (Int.tdiv 100000000000000 (Int.tdiv (if 0 ≤ l0 then (l0 : Int) else (-l0)) 1000)) → i64 ((Int.tmod (if 0 ≤ l0 then (l0 : Int) else (-l0)) 1000) * (if 0 ≤ l2 then (l2 : Int) else (-l2)))) ∧ ((Int.tdiv (if 0 ≤ l0 then (l0 : Int) else (-l0)) 1000) ≠ 0 → (if 0 ≤ l2 then (l2 : Int) else (-l2)) ≤ (Int.tdiv 100000000000000 (Int.tdiv (if 0 ≤ l0 then (l0 : Int) else (-l0)) 1000)) → i64 (((Int.tdiv (if 0 ≤ l0 then (l0 : Int) else (-l0)) 1000) * (if 0 ≤ l2 then (l2 : Int) else (-l2))) + (Int.tdiv ((Int.tmod (if 0 ≤ l0 then (l0 : Int) else (-l0)) 1000) * (if 0 ≤ l2 then (l2 : Int) else (-l2))) 1000))) ∧ ((if 0 ≤ l0 then (0 : Int) else 1) ≠ (if 0 ≤ l2 then (0 : Int) else 1) → i64 (-(if (Int.tdiv (if 0 ≤ l0 then (l0 : Int) else (-l0)) 1000) = 0 then ((((Int.tdiv (if 0 ≤ l0 then (l0 : Int) else (-l0)) 1000) * (if 0 ≤ l2 then (l2 : Int) else (-l2))) + (Int.tdiv ((Int.tmod (if 0 ≤ l0 then (l0 : Int) else (-l0)) 1000) * (if 0 ≤ l2 then (l2 : Int) else (-l2))) 1000)) : Int) else (if (Int.tdiv 100000000000000 (Int.tdiv (if 0 ≤ l0 then (l0 : Int) else (-l0)) 1000)) < (if 0 ≤ l2 then (l2 : Int) else (-l2)) then (100000000000000 : Int) else (((Int.tdiv (if 0 ≤ l0 then (l0 : Int) else (-l0)) 1000) * (if 0 ≤ l2 then (l2 : Int) else (-l2))) + (Int.tdiv ((Int.tmod (if 0 ≤ l0 then (l0 : Int) else (-l0)) 1000) * (if 0 ≤ l2 then (l2 : Int) else (-l2))) 1000)))))) ∧ Q (if (if 0 ≤ l0 then (0 : Int) else 1) = (if 0 ≤ l2 then (0 : Int) else 1) then ((if (Int.tdiv (if 0 ≤ l0 then (l0 : Int) else (-l0)) 1000) = 0 then ((((Int.tdiv (if 0 ≤ l0 then (l0 : Int) else (-l0)) 1000) * (if 0 ≤ l2 then (l2 : Int) else (-l2))) + (Int.tdiv ((Int.tmod (if 0 ≤ l0 then (l0 : Int) else (-l0)) 1000) * (if 0 ≤ l2 then (l2 : Int) else (-l2))) 1000)) : Int) else (if (Int.tdiv 100000000000000 (Int.tdiv (if 0 ≤ l0 then (l0 : Int) else (-l0)) 1000)) < (if 0 ≤ l2 then (l2 : Int) else (-l2)) then (100000000000000 : Int) else (((Int.tdiv (if 0 ≤ l0 then (l0 : Int) else (-l0)) 1000) * (if 0 ≤ l2 then (l2 : Int) else (-l2))) + (Int.tdiv ((Int.tmod (if 0 ≤ l0 then (l0 : Int) else (-l0)) 1000) * (if 0 ≤ l2 then (l2 : Int) else (-l2))) 1000)))) : Int) else (-(if (Int.tdiv (if 0 ≤ l0 then (l0 : Int) else (-l0)) 1000) = 0 then ((((Int.tdiv (if 0 ≤ l0 then (l0 : Int) else (-l0)) 1000) * (if 0 ≤ l2 then (l2 : Int) else (-l2))) + (Int.tdiv ((Int.tmod (if 0 ≤ l0 then (l0 : Int) else (-l0)) 1000) * (if 0 ≤ l2 then (l2 : Int) else (-l2))) 1000)) : Int) else (if (Int.tdiv 100000000000000 (Int.tdiv (if 0 ≤ l0 then (l0 : Int) else (-l0)) 1000)) < (if 0 ≤ l2 then (l2 : Int) else (-l2)) then (100000000000000 : Int) else (((Int.tdiv (if 0 ≤ l0 then (l0 : Int) else (-l0)) 1000) * (if 0 ≤ l2 then (l2 : Int) else (-l2))) + (Int.tdiv ((Int.tmod (if 0 ≤ l0 then (l0 : Int) else (-l0)) 1000) * (if 0 ≤ l2 then (l2 : Int) else (-l2))) 1000)))))) G)) : Ok E M_X2_multiply [jv l0, jv l2] G c s Q X := Ok.intro (k := 8) rfl rfl (Nat.le_of_ble_eq_true rfl) rfl (b_X2_multiply_0 h)
set_option maxRecDepth 20000 in
theorem b_X2_findSame_0 {E : EE} {l0 l1 l2 : Int} {G : Gt} {c s : Nat} {Q X : Int → Gt → Prop} (h : (OkP E M_X2_only [iv l1, iv l2] G (wMask l1 l2) ∧ V E M_X2_findSame 12 [some (rv l0), none, some (iv l2), some (iv (wMask l1 l2)), some (iv (-1)), some (iv 0)] [] G c s Q X)) : V E M_X2_findSame 0 [some (rv l0), some (iv l1), some (iv l2), none, none, none] [] G c s Q X := by
  refine v_iload_n (pc := 0) (dk dt_X2_findSame 0 rfl) rfl rfl ?_
  refine v_iload_n (pc := 1) (dk dt_X2_findSame 1 rfl) rfl rfl ?_
  obtain ⟨v1, h⟩ := h
  refine v_csPI (v := (wMask l1 l2)) (As := [iv l1, iv l2]) (stk := []) (pc := 2) (dk dt_X2_findSame 2 rfl) ml_X2_162 rfl rfl (Nat.le_of_ble_eq_true rfl) rfl rfl v1 ?_
  refine v_istore_n (pc := 5) (ls' := [some (rv l0), some (iv l1), some (iv l2), some (iv (wMask l1 l2)), none, none]) (dk dt_X2_findSame 3 rfl) rfl (Nat.le_of_ble_eq_true rfl) rfl ?_
  refine v_iconst (pc := 6) (dk dt_X2_findSame 4 rfl) ⟨by decide, by decide⟩ ?_
  refine v_istore (pc := 7) (ls' := [some (rv l0), some (iv l1), some (iv l2), some (iv (wMask l1 l2)), some (iv (-1)), none]) (dk dt_X2_findSame 5 rfl) (Nat.le_of_ble_eq_true rfl) rfl ?_
  refine v_iconst (pc := 9) (dk dt_X2_findSame 6 rfl) ⟨by decide, by decide⟩ ?_
  refine v_istore (pc := 10) (ls' := [some (rv l0), some (iv l1), some (iv l2), some (iv (wMask l1 l2)), some (iv (-1)), some (iv 0)]) (dk dt_X2_findSame 7 rfl) (Nat.le_of_ble_eq_true rfl) rfl ?_
  exact v_less2 (ls' := [some (rv l0), none, some (iv l2), some (iv (wMask l1 l2)), some (iv (-1)), some (iv 0)]) ⟨rfl, rfl, rfl, rfl, rfl, trivial⟩ h
set_option maxRecDepth 20000 in
theorem i_X2_findSame {E : EE} {l0 l1 l2 : Int} {G : Gt} {c s : Nat} {Q X : Int → Gt → Prop} (h : (OkP E M_X2_only [iv l1, iv l2] G (wMask l1 l2) ∧ V E M_X2_findSame 12 [some (rv l0), none, some (iv l2), some (iv (wMask l1 l2)), some (iv (-1)), some (iv 0)] [] G c s Q X)) : Ok E M_X2_findSame [rv l0, iv l1, iv l2] G c s Q X := Ok.intro (k := 3) rfl rfl (Nat.le_of_ble_eq_true rfl) rfl (b_X2_findSame_0 h)
set_option maxRecDepth 20000 in
theorem b_X2_findSame_12 {E : EE} {l0 l2 l3 l4 l5 : Int} {G : Gt} {c s : Nat} {Q X : Int → Gt → Prop} (h : (gcl G l0 = 4 ∧ (((gfd G 3 2 l0) ≤ l5 → Q l4 G) ∧ (l5 < (gfd G 3 2 l0) → (gcl G l0 = 4 ∧ gcl G (gfd G 3 0 l0) = 15 ∧ 0 ≤ l5 ∧ l5 < gln G (gfd G 3 0 l0) ∧ OkP E M_X2_only [iv (gel G (gfd G 3 0 l0) l5), iv l2] G (wMask (gel G (gfd G 3 0 l0) l5) l2) ∧ (((wMask (gel G (gfd G 3 0 l0) l5) l2) ≠ l3 → (i32 (l5 + 1) ∧ V E M_X2_findSame 12 [some (rv l0), none, some (iv l2), some (iv l3), some (iv l4), some (iv (l5 + 1))] [] G c s Q X)) ∧ ((wMask (gel G (gfd G 3 0 l0) l5) l2) = l3 → ((l4 = (-1) → (i32 (l5 + 1) ∧ V E M_X2_findSame 12 [some (rv l0), none, some (iv l2), some (iv l3), some (iv l5), some (iv (l5 + 1))] [] G c s Q X)) ∧ (l4 ≠ (-1) → (gcl G l0 = 4 ∧ Q (gfd G 3 2 l0) G)))))))))) : V E M_X2_findSame 12 [some (rv l0), none, some (iv l2), some (iv l3), some (iv l4), some (iv l5)] [] G c s Q X := by
  refine v_iload (pc := 12) (dk dt_X2_findSame 8 rfl) rfl ?_
  refine v_aload_n (pc := 14) (dk dt_X2_findSame 9 rfl) rfl rfl ?_
  obtain ⟨v1, h⟩ := h
  refine v_getI (pc := 15) (dk dt_X2_findSame 10 rfl) fl_X2_157 v1 (fun _ => ?_)
  refine v_icmp_ge (pc := 18) (tgt := 57) (dk dt_X2_findSame 11 rfl) (by decide) (fun c2 => ?_) (fun c2 => ?_)
  · replace h := h.1 c2
    refine v_iload (pc := 57) (dk dt_X2_findSame 30 rfl) rfl ?_
    exact v_iret (pc := 59) (dk dt_X2_findSame 31 rfl) rfl h
  · replace h := h.2 c2
    refine v_aload_n (pc := 21) (dk dt_X2_findSame 12 rfl) rfl rfl ?_
    obtain ⟨v3, h⟩ := h
    refine v_getR (pc := 22) (dk dt_X2_findSame 13 rfl) fl_X2_159 v3 (fun _ => ?_)
    refine v_iload (pc := 25) (dk dt_X2_findSame 14 rfl) rfl ?_
    obtain ⟨v4, h⟩ := h
    obtain ⟨v5, h⟩ := h
    obtain ⟨v6, h⟩ := h
    refine v_iald (pc := 27) (dk dt_X2_findSame 15 rfl) (Or.inl v4) v5 v6 (fun _ => ?_)
    refine v_iload_n (pc := 28) (dk dt_X2_findSame 16 rfl) rfl rfl ?_
    obtain ⟨v7, h⟩ := h
    refine v_csPI (v := (wMask (gel G (gfd G 3 0 l0) l5) l2)) (As := [iv (gel G (gfd G 3 0 l0) l5), iv l2]) (stk := []) (pc := 29) (dk dt_X2_findSame 17 rfl) ml_X2_162 rfl rfl (Nat.le_of_ble_eq_true rfl) rfl rfl v7 ?_
    refine v_iload_n (pc := 32) (dk dt_X2_findSame 18 rfl) rfl rfl ?_
    refine v_icmp_ne (pc := 33) (tgt := 51) (dk dt_X2_findSame 19 rfl) (by decide) (fun c8 => ?_) (fun c8 => ?_)
    · replace h := h.1 c8
      obtain ⟨v9, h⟩ := h
      refine v_iinc (pc := 51) (ls' := [some (rv l0), none, some (iv l2), some (iv l3), some (iv l4), some (iv (l5 + 1))]) (dk dt_X2_findSame 28 rfl) (Nat.le_of_ble_eq_true rfl) rfl v9 rfl ?_
      refine v_goto (pc := 54) (tgt := 12) (dk dt_X2_findSame 29 rfl) (by decide) ?_
      exact h
    · replace h := h.2 c8
      refine v_iload (pc := 36) (dk dt_X2_findSame 20 rfl) rfl ?_
      refine v_iconst (pc := 38) (dk dt_X2_findSame 21 rfl) ⟨by decide, by decide⟩ ?_
      refine v_icmp_eq (pc := 39) (tgt := 47) (dk dt_X2_findSame 22 rfl) (by decide) (fun c10 => ?_) (fun c10 => ?_)
      · replace h := h.1 c10
        refine v_iload (pc := 47) (dk dt_X2_findSame 26 rfl) rfl ?_
        refine v_istore (pc := 49) (ls' := [some (rv l0), none, some (iv l2), some (iv l3), some (iv l5), some (iv l5)]) (dk dt_X2_findSame 27 rfl) (Nat.le_of_ble_eq_true rfl) rfl ?_
        obtain ⟨v11, h⟩ := h
        refine v_iinc (pc := 51) (ls' := [some (rv l0), none, some (iv l2), some (iv l3), some (iv l5), some (iv (l5 + 1))]) (dk dt_X2_findSame 28 rfl) (Nat.le_of_ble_eq_true rfl) rfl v11 rfl ?_
        refine v_goto (pc := 54) (tgt := 12) (dk dt_X2_findSame 29 rfl) (by decide) ?_
        exact h
      · replace h := h.2 c10
        refine v_aload_n (pc := 42) (dk dt_X2_findSame 23 rfl) rfl rfl ?_
        obtain ⟨v12, h⟩ := h
        refine v_getI (pc := 43) (dk dt_X2_findSame 24 rfl) fl_X2_157 v12 (fun _ => ?_)
        exact v_iret (pc := 46) (dk dt_X2_findSame 25 rfl) rfl h
set_option maxRecDepth 20000 in
theorem b_X2_takeQuantiles_0 {E : EE} {l0 l1 l2 : Int} {G : Gt} {c s : Nat} {Q X : Int → Gt → Prop} (h : (gcl G l0 = 3 ∧ gcl G (gfd G 2 2 l0) = 4 ∧ Call E M_X3_becomeVector [rv (gfd G 2 2 l0)] G c s X (fun r3 G4 c5 s6 => V E M_X2_takeQuantiles 9 [some (rv l0), some (rv l1), some (iv l2), some (iv 0), none, none] [] G4 c5 s6 Q X))) : V E M_X2_takeQuantiles 0 [some (rv l0), some (rv l1), some (iv l2), none, none, none] [] G c s Q X := by
  refine v_aload_n (pc := 0) (dk dt_X2_takeQuantiles 0 rfl) rfl rfl ?_
  obtain ⟨v1, h⟩ := h
  refine v_getR (pc := 1) (dk dt_X2_takeQuantiles 1 rfl) fl_X2_28 v1 (fun _ => ?_)
  obtain ⟨v2, h⟩ := h
  refine v_cvV (c := 3) (As := []) (stk := []) (pc := 4) (dk dt_X2_takeQuantiles 2 rfl) ml_X2_102 rfl rfl (Nat.le_of_ble_eq_true rfl) rfl ⟨by decide, rfl⟩ v2 rfl (Call.mono h (fun r3 G4 c5 s6 h => ?_))
  refine v_iconst (pc := 7) (dk dt_X2_takeQuantiles 3 rfl) ⟨by decide, by decide⟩ ?_
  refine v_istore_n (pc := 8) (ls' := [some (rv l0), some (rv l1), some (iv l2), some (iv 0), none, none]) (dk dt_X2_takeQuantiles 4 rfl) rfl (Nat.le_of_ble_eq_true rfl) rfl ?_
  exact h
set_option maxRecDepth 20000 in
theorem i_X2_takeQuantiles {E : EE} {l0 l1 l2 : Int} {G : Gt} {c s : Nat} {Q X : Int → Gt → Prop} (h : (gcl G l0 = 3 ∧ gcl G (gfd G 2 2 l0) = 4 ∧ Call E M_X3_becomeVector [rv (gfd G 2 2 l0)] G c s X (fun r3 G4 c5 s6 => V E M_X2_takeQuantiles 9 [some (rv l0), some (rv l1), some (iv l2), some (iv 0), none, none] [] G4 c5 s6 Q X))) : Ok E M_X2_takeQuantiles [rv l0, rv l1, iv l2] G c s Q X := Ok.intro (k := 3) rfl rfl (Nat.le_of_ble_eq_true rfl) rfl (b_X2_takeQuantiles_0 h)
set_option maxRecDepth 20000 in
theorem b_X2_takeQuantiles_9 {E : EE} {l0 l1 l2 l3 : Int} {G : Gt} {c s : Nat} {Q X : Int → Gt → Prop} (h : (gcl G l1 = 4 ∧ (((gfd G 3 2 l1) ≤ l3 → Q 0 G) ∧ (l3 < (gfd G 3 2 l1) → (i32 (l3 + 1) ∧ V E M_X2_takeQuantiles 22 [some (rv l0), some (rv l1), some (iv l2), some (iv l3), some (iv (l3 + 1)), none] [] G c s Q X))))) : V E M_X2_takeQuantiles 9 [some (rv l0), some (rv l1), some (iv l2), some (iv l3), none, none] [] G c s Q X := by
  refine v_iload_n (pc := 9) (dk dt_X2_takeQuantiles 5 rfl) rfl rfl ?_
  refine v_aload_n (pc := 10) (dk dt_X2_takeQuantiles 6 rfl) rfl rfl ?_
  obtain ⟨v1, h⟩ := h
  refine v_getI (pc := 11) (dk dt_X2_takeQuantiles 7 rfl) fl_X2_157 v1 (fun _ => ?_)
  refine v_icmp_ge (pc := 14) (tgt := 109) (dk dt_X2_takeQuantiles 8 rfl) (by decide) (fun c2 => ?_) (fun c2 => ?_)
  · replace h := h.1 c2
    exact v_vret (pc := 109) (dk dt_X2_takeQuantiles_1 20 rfl) rfl h
  · replace h := h.2 c2
    refine v_iload_n (pc := 17) (dk dt_X2_takeQuantiles 9 rfl) rfl rfl ?_
    refine v_iconst (pc := 18) (dk dt_X2_takeQuantiles 10 rfl) ⟨by decide, by decide⟩ ?_
    obtain ⟨v3, h⟩ := h
    refine v_iadd (pc := 19) (dk dt_X2_takeQuantiles 11 rfl) v3 ?_
    refine v_istore (pc := 20) (ls' := [some (rv l0), some (rv l1), some (iv l2), some (iv l3), some (iv (l3 + 1)), none]) (dk dt_X2_takeQuantiles 12 rfl) (Nat.le_of_ble_eq_true rfl) rfl ?_
    exact h
set_option maxRecDepth 20000 in
theorem b_X2_takeQuantiles_22 {E : EE} {l0 l1 l2 l3 l4 : Int} {G : Gt} {c s : Nat} {Q X : Int → Gt → Prop} (h : (gcl G l1 = 4 ∧ ∀ J2 : Prop, ((gcl G l1 = 4 ∧ i32 (l4 - 1) ∧ gcl G (gfd G 3 0 l1) = 15 ∧ 0 ≤ (l4 - 1) ∧ (l4 - 1) < gln G (gfd G 3 0 l1) ∧ ((Int.tmod (gel G (gfd G 3 0 l1) (l4 - 1)) 10) = 6 → i32 (l4 - 1)) ∧ gcl G l1 = 4 ∧ (((gfd G 3 3 l1) ≠ 0 → V E M_X2_takeQuantiles 9 [some (rv l0), some (rv l1), some (iv l2), some (iv l4), none, none] [] G c s Q X) ∧ ((gfd G 3 3 l1) = 0 → (gcl G l0 = 3 ∧ Call E M_X2_takeQuantile [rv l0, rv l1, iv l3, iv (if (Int.tmod (gel G (gfd G 3 0 l1) (l4 - 1)) 10) = 6 then ((l4 - 1) : Int) else l4), iv l2] G c s X (fun r13 G14 c15 s16 => V E M_X2_takeQuantiles 9 [some (rv l0), some (rv l1), some (iv l2), some (iv l4), none, none] [] G14 c15 s16 Q X))))) → J2) → (((gfd G 3 2 l1) ≤ l4 → J2) ∧ (l4 < (gfd G 3 2 l1) → (gcl G l1 = 4 ∧ gcl G (gfd G 3 0 l1) = 15 ∧ 0 ≤ l4 ∧ l4 < gln G (gfd G 3 0 l1) ∧ gcl G l1 = 4 ∧ gcl G (gfd G 3 0 l1) = 15 ∧ 0 ≤ l3 ∧ l3 < gln G (gfd G 3 0 l1) ∧ (((Int.tdiv (gel G (gfd G 3 0 l1) l4) 10) ≠ (Int.tdiv (gel G (gfd G 3 0 l1) l3) 10) → J2) ∧ ((Int.tdiv (gel G (gfd G 3 0 l1) l4) 10) = (Int.tdiv (gel G (gfd G 3 0 l1) l3) 10) → (i32 (l4 + 1) ∧ V E M_X2_takeQuantiles 22 [some (rv l0), some (rv l1), some (iv l2), some (iv l3), some (iv (l4 + 1)), none] [] G c s Q X)))))))) : V E M_X2_takeQuantiles 22 [some (rv l0), some (rv l1), some (iv l2), some (iv l3), some (iv l4), none] [] G c s Q X := by
  refine v_iload (pc := 22) (dk dt_X2_takeQuantiles 13 rfl) rfl ?_
  refine v_aload_n (pc := 24) (dk dt_X2_takeQuantiles 14 rfl) rfl rfl ?_
  obtain ⟨v1, h⟩ := h
  refine v_getI (pc := 25) (dk dt_X2_takeQuantiles 15 rfl) fl_X2_157 v1 (fun _ => ?_)
  obtain ⟨J2, dJ2⟩ : ∃ J9 : Prop, J9 = V E M_X2_takeQuantiles 59 [some (rv l0), some (rv l1), some (iv l2), some (iv l3), some (iv l4), none] [] G c s Q X := ⟨_, rfl⟩
  have hJ2 : (gcl G l1 = 4 ∧ i32 (l4 - 1) ∧ gcl G (gfd G 3 0 l1) = 15 ∧ 0 ≤ (l4 - 1) ∧ (l4 - 1) < gln G (gfd G 3 0 l1) ∧ ((Int.tmod (gel G (gfd G 3 0 l1) (l4 - 1)) 10) = 6 → i32 (l4 - 1)) ∧ gcl G l1 = 4 ∧ (((gfd G 3 3 l1) ≠ 0 → V E M_X2_takeQuantiles 9 [some (rv l0), some (rv l1), some (iv l2), some (iv l4), none, none] [] G c s Q X) ∧ ((gfd G 3 3 l1) = 0 → (gcl G l0 = 3 ∧ Call E M_X2_takeQuantile [rv l0, rv l1, iv l3, iv (if (Int.tmod (gel G (gfd G 3 0 l1) (l4 - 1)) 10) = 6 then ((l4 - 1) : Int) else l4), iv l2] G c s X (fun r13 G14 c15 s16 => V E M_X2_takeQuantiles 9 [some (rv l0), some (rv l1), some (iv l2), some (iv l4), none, none] [] G14 c15 s16 Q X))))) → J2 := by
    intro h
    rw [dJ2]
    refine v_aload_n (pc := 59) (dk dt_X2_takeQuantiles 32 rfl) rfl rfl ?_
    obtain ⟨v3, h⟩ := h
    refine v_getR (pc := 60) (dk dt_X2_takeQuantiles 33 rfl) fl_X2_159 v3 (fun _ => ?_)
    refine v_iload (pc := 63) (dk dt_X2_takeQuantiles 34 rfl) rfl ?_
    refine v_iconst (pc := 65) (dk dt_X2_takeQuantiles 35 rfl) ⟨by decide, by decide⟩ ?_
    obtain ⟨v4, h⟩ := h
    refine v_isub (pc := 66) (dk dt_X2_takeQuantiles 36 rfl) v4 ?_
    obtain ⟨v5, h⟩ := h
    obtain ⟨v6, h⟩ := h
    obtain ⟨v7, h⟩ := h
    refine v_iald (pc := 67) (dk dt_X2_takeQuantiles 37 rfl) (Or.inl v5) v6 v7 (fun _ => ?_)
    refine v_bipush (pc := 68) (dk dt_X2_takeQuantiles 38 rfl) (by decide) ⟨by decide, by decide⟩ ?_
    refine v_iremP (pc := 70) (dk dt_X2_takeQuantiles 39 rfl) (by decide) ?_
    refine v_bipush (pc := 71) (dk dt_X2_takeQuantiles_1 0 rfl) (by decide) ⟨by decide, by decide⟩ ?_
    obtain ⟨v9, h⟩ := h
    suffices k28 : V E M_X2_takeQuantiles 85 [some (rv l0), some (rv l1), some (iv l2), some (iv l3), some (iv l4), none] [iv (if (Int.tmod (gel G (gfd G 3 0 l1) (l4 - 1)) 10) = 6 then ((l4 - 1) : Int) else l4)] G c s Q X by
      refine v_icmp_ne (pc := 73) (tgt := 83) (dk dt_X2_takeQuantiles_1 1 rfl) (by decide) (fun c8 => ?_) (fun c8 => ?_)
      · refine v_iload (pc := 83) (dk dt_X2_takeQuantiles_1 6 rfl) rfl ?_
        exact v_less2 (ls' := [some (rv l0), some (rv l1), some (iv l2), some (iv l3), some (iv l4), none]) ⟨rfl, rfl, rfl, rfl, rfl, trivial⟩ (by have hk9 := k28; try simp only [if_neg c8] at hk9 ⊢; exact hk9)
      · refine v_iload (pc := 76) (dk dt_X2_takeQuantiles_1 2 rfl) rfl ?_
        refine v_iconst (pc := 78) (dk dt_X2_takeQuantiles_1 3 rfl) ⟨by decide, by decide⟩ ?_
        refine v_isub (pc := 79) (dk dt_X2_takeQuantiles_1 4 rfl) (v9 c8) ?_
        refine v_goto (pc := 80) (tgt := 85) (dk dt_X2_takeQuantiles_1 5 rfl) (by decide) ?_
        exact v_less2 (ls' := [some (rv l0), some (rv l1), some (iv l2), some (iv l3), some (iv l4), none]) ⟨rfl, rfl, rfl, rfl, rfl, trivial⟩ (by have hk9 := k28; try simp only [if_pos c8] at hk9 ⊢; exact hk9)
    refine v_istore (pc := 85) (ls' := [some (rv l0), some (rv l1), some (iv l2), some (iv l3), some (iv l4), some (iv (if (Int.tmod (gel G (gfd G 3 0 l1) (l4 - 1)) 10) = 6 then ((l4 - 1) : Int) else l4))]) (dk dt_X2_takeQuantiles_1 7 rfl) (Nat.le_of_ble_eq_true rfl) rfl ?_
    refine v_aload_n (pc := 87) (dk dt_X2_takeQuantiles_1 8 rfl) rfl rfl ?_
    obtain ⟨v10, h⟩ := h
    refine v_getZ (pc := 88) (dk dt_X2_takeQuantiles_1 9 rfl) fl_X2_149 v10 (fun _ => ?_)
    refine v_if_ne (pc := 91) (tgt := 103) (dk dt_X2_takeQuantiles_1 10 rfl) (by decide) (fun c11 => ?_) (fun c11 => ?_)
    · replace h := h.1 c11
      refine v_iload (pc := 103) (dk dt_X2_takeQuantiles_1 17 rfl) rfl ?_
      refine v_istore_n (pc := 105) (ls' := [some (rv l0), some (rv l1), some (iv l2), some (iv l4), some (iv l4), some (iv (if (Int.tmod (gel G (gfd G 3 0 l1) (l4 - 1)) 10) = 6 then ((l4 - 1) : Int) else l4))]) (dk dt_X2_takeQuantiles_1 18 rfl) rfl (Nat.le_of_ble_eq_true rfl) rfl ?_
      refine v_goto (pc := 106) (tgt := 9) (dk dt_X2_takeQuantiles_1 19 rfl) (by decide) ?_
      exact v_less2 (ls' := [some (rv l0), some (rv l1), some (iv l2), some (iv l4), none, none]) ⟨rfl, rfl, rfl, rfl, trivial⟩ h
    · replace h := h.2 c11
      refine v_aload_n (pc := 94) (dk dt_X2_takeQuantiles_1 11 rfl) rfl rfl ?_
      refine v_aload_n (pc := 95) (dk dt_X2_takeQuantiles_1 12 rfl) rfl rfl ?_
      refine v_iload_n (pc := 96) (dk dt_X2_takeQuantiles_1 13 rfl) rfl rfl ?_
      refine v_iload (pc := 97) (dk dt_X2_takeQuantiles_1 14 rfl) rfl ?_
      refine v_iload_n (pc := 99) (dk dt_X2_takeQuantiles_1 15 rfl) rfl rfl ?_
      obtain ⟨v12, h⟩ := h
      refine v_cvV (c := 2) (As := [rv l1, iv l3, iv (if (Int.tmod (gel G (gfd G 3 0 l1) (l4 - 1)) 10) = 6 then ((l4 - 1) : Int) else l4), iv l2]) (stk := []) (pc := 100) (dk dt_X2_takeQuantiles_1 16 rfl) ml_X2_200 rfl rfl (Nat.le_of_ble_eq_true rfl) rfl ⟨by decide, rfl⟩ v12 rfl (Call.mono h (fun r13 G14 c15 s16 h => ?_))
      refine v_iload (pc := 103) (dk dt_X2_takeQuantiles_1 17 rfl) rfl ?_
      refine v_istore_n (pc := 105) (ls' := [some (rv l0), some (rv l1), some (iv l2), some (iv l4), some (iv l4), some (iv (if (Int.tmod (gel G (gfd G 3 0 l1) (l4 - 1)) 10) = 6 then ((l4 - 1) : Int) else l4))]) (dk dt_X2_takeQuantiles_1 18 rfl) rfl (Nat.le_of_ble_eq_true rfl) rfl ?_
      refine v_goto (pc := 106) (tgt := 9) (dk dt_X2_takeQuantiles_1 19 rfl) (by decide) ?_
      exact v_less2 (ls' := [some (rv l0), some (rv l1), some (iv l2), some (iv l4), none, none]) ⟨rfl, rfl, rfl, rfl, trivial⟩ h
  replace h := h _ hJ2
  refine v_icmp_ge (pc := 28) (tgt := 59) (dk dt_X2_takeQuantiles 16 rfl) (by decide) (fun c17 => ?_) (fun c17 => ?_)
  · replace h := h.1 c17
    rw [dJ2] at h
    exact h
  · replace h := h.2 c17
    refine v_aload_n (pc := 31) (dk dt_X2_takeQuantiles 17 rfl) rfl rfl ?_
    obtain ⟨v18, h⟩ := h
    refine v_getR (pc := 32) (dk dt_X2_takeQuantiles 18 rfl) fl_X2_159 v18 (fun _ => ?_)
    refine v_iload (pc := 35) (dk dt_X2_takeQuantiles 19 rfl) rfl ?_
    obtain ⟨v19, h⟩ := h
    obtain ⟨v20, h⟩ := h
    obtain ⟨v21, h⟩ := h
    refine v_iald (pc := 37) (dk dt_X2_takeQuantiles 20 rfl) (Or.inl v19) v20 v21 (fun _ => ?_)
    refine v_bipush (pc := 38) (dk dt_X2_takeQuantiles 21 rfl) (by decide) ⟨by decide, by decide⟩ ?_
    refine v_idivP (pc := 40) (dk dt_X2_takeQuantiles 22 rfl) (by decide) ?_
    refine v_aload_n (pc := 41) (dk dt_X2_takeQuantiles 23 rfl) rfl rfl ?_
    obtain ⟨v22, h⟩ := h
    refine v_getR (pc := 42) (dk dt_X2_takeQuantiles 24 rfl) fl_X2_159 v22 (fun _ => ?_)
    refine v_iload_n (pc := 45) (dk dt_X2_takeQuantiles 25 rfl) rfl rfl ?_
    obtain ⟨v23, h⟩ := h
    obtain ⟨v24, h⟩ := h
    obtain ⟨v25, h⟩ := h
    refine v_iald (pc := 46) (dk dt_X2_takeQuantiles 26 rfl) (Or.inl v23) v24 v25 (fun _ => ?_)
    refine v_bipush (pc := 47) (dk dt_X2_takeQuantiles 27 rfl) (by decide) ⟨by decide, by decide⟩ ?_
    refine v_idivP (pc := 49) (dk dt_X2_takeQuantiles 28 rfl) (by decide) ?_
    refine v_icmp_ne (pc := 50) (tgt := 59) (dk dt_X2_takeQuantiles 29 rfl) (by decide) (fun c26 => ?_) (fun c26 => ?_)
    · replace h := h.1 c26
      rw [dJ2] at h
      exact h
    · replace h := h.2 c26
      obtain ⟨v27, h⟩ := h
      refine v_iinc (pc := 53) (ls' := [some (rv l0), some (rv l1), some (iv l2), some (iv l3), some (iv (l4 + 1)), none]) (dk dt_X2_takeQuantiles 30 rfl) (Nat.le_of_ble_eq_true rfl) rfl v27 rfl ?_
      refine v_goto (pc := 56) (tgt := 22) (dk dt_X2_takeQuantiles 31 rfl) (by decide) ?_
      exact h
set_option maxRecDepth 20000 in
theorem b_X2_takeQuantile_0 {E : EE} {l0 l1 l2 l3 l4 : Int} {G : Gt} {c s : Nat} {Q X : Int → Gt → Prop} (h : V E M_X2_takeQuantile 6 [some (rv l0), some (rv l1), some (iv l2), some (iv l3), some (iv l4), some (jv 0), none, some (iv l2), none, none, none, none, none, none, none, none, none, none] [] G c s Q X) : V E M_X2_takeQuantile 0 [some (rv l0), some (rv l1), some (iv l2), some (iv l3), some (iv l4), none, none, none, none, none, none, none, none, none, none, none, none, none] [] G c s Q X := by
  refine v_lconst (x := 0) (pc := 0) (dk dt_X2_takeQuantile 0 rfl) (by decide) ⟨by decide, by decide⟩ ?_
  refine v_lstore (pc := 1) (ls' := [some (rv l0), some (rv l1), some (iv l2), some (iv l3), some (iv l4), some (jv 0), none, none, none, none, none, none, none, none, none, none, none, none]) (dk dt_X2_takeQuantile 1 rfl) (Nat.le_of_ble_eq_true rfl) rfl ?_
  refine v_iload_n (pc := 3) (dk dt_X2_takeQuantile 2 rfl) rfl rfl ?_
  refine v_istore (pc := 4) (ls' := [some (rv l0), some (rv l1), some (iv l2), some (iv l3), some (iv l4), some (jv 0), none, some (iv l2), none, none, none, none, none, none, none, none, none, none]) (dk dt_X2_takeQuantile 3 rfl) (Nat.le_of_ble_eq_true rfl) rfl ?_
  exact h
set_option maxRecDepth 20000 in
theorem i_X2_takeQuantile {E : EE} {l0 l1 l2 l3 l4 : Int} {G : Gt} {c s : Nat} {Q X : Int → Gt → Prop} (h : V E M_X2_takeQuantile 6 [some (rv l0), some (rv l1), some (iv l2), some (iv l3), some (iv l4), some (jv 0), none, some (iv l2), none, none, none, none, none, none, none, none, none, none] [] G c s Q X) : Ok E M_X2_takeQuantile [rv l0, rv l1, iv l2, iv l3, iv l4] G c s Q X := Ok.intro (k := 13) rfl rfl (Nat.le_of_ble_eq_true rfl) rfl (b_X2_takeQuantile_0 h)
set_option maxRecDepth 20000 in
theorem b_X2_takeQuantile_6 {E : EE} {l0 l1 l2 l3 l4 l5 l7 : Int} {G : Gt} {c s : Nat} {Q X : Int → Gt → Prop} (h : ((l3 ≤ l7 → ((0 < l5 → (i64 (l4 * l5) ∧ V E M_X2_takeQuantile 55 [some (rv l0), some (rv l1), some (iv l2), some (iv l3), none, none, none, some (jv (Int.tdiv (l4 * l5) 1000)), none, some (iv l2), none, none, none, none, none, none, none, none] [] G c s Q X)) ∧ (l5 ≤ 0 → Q 0 G))) ∧ (l7 < l3 → (gcl G l1 = 4 ∧ gcl G (gfd G 3 1 l1) = 16 ∧ 0 ≤ l7 ∧ l7 < gln G (gfd G 3 1 l1) ∧ i32 (l7 + 1) ∧ V E M_X2_takeQuantile 6 [some (rv l0), some (rv l1), some (iv l2), some (iv l3), some (iv l4), some (jv (max l5 (gel G (gfd G 3 1 l1) l7))), none, some (iv (l7 + 1)), none, none, none, none, none, none, none, none, none, none] [] G c s Q X)))) : V E M_X2_takeQuantile 6 [some (rv l0), some (rv l1), some (iv l2), some (iv l3), some (iv l4), some (jv l5), none, some (iv l7), none, none, none, none, none, none, none, none, none, none] [] G c s Q X := by
  refine v_iload (pc := 6) (dk dt_X2_takeQuantile 4 rfl) rfl ?_
  refine v_iload_n (pc := 8) (dk dt_X2_takeQuantile 5 rfl) rfl rfl ?_
  refine v_icmp_ge (pc := 9) (tgt := 32) (dk dt_X2_takeQuantile 6 rfl) (by decide) (fun c1 => ?_) (fun c1 => ?_)
  · replace h := h.1 c1
    refine v_lload (pc := 32) (dk dt_X2_takeQuantile 16 rfl) rfl ?_
    refine v_lconst (x := 0) (pc := 34) (dk dt_X2_takeQuantile 17 rfl) (by decide) ⟨by decide, by decide⟩ ?_
    refine v_lcmp_gt (pc := 35) (tgt := 40) (dk dt_X2_takeQuantile 18 rfl) (dk dt_X2_takeQuantile 19 rfl) (by decide) (fun c2 => ?_) (fun c2 => ?_)
    · replace h := h.1 c2
      refine v_iload (pc := 40) (dk dt_X2_takeQuantile 21 rfl) rfl ?_
      refine v_i2l (pc := 42) (dk dt_X2_takeQuantile 22 rfl) ?_
      refine v_lload (pc := 43) (dk dt_X2_takeQuantile 23 rfl) rfl ?_
      obtain ⟨v3, h⟩ := h
      refine v_lmul (pc := 45) (dk dt_X2_takeQuantile 24 rfl) v3 ?_
      refine v_ldc2 (pc := 46) (dk dt_X2_takeQuantile 25 rfl) co_X2_132 ⟨by decide, by decide⟩ ?_
      refine v_ldivP (pc := 49) (dk dt_X2_takeQuantile 26 rfl) (by decide) ?_
      refine v_lstore (pc := 50) (ls' := [some (rv l0), some (rv l1), some (iv l2), some (iv l3), some (iv l4), some (jv l5), none, some (jv (Int.tdiv (l4 * l5) 1000)), none, none, none, none, none, none, none, none, none, none]) (dk dt_X2_takeQuantile 27 rfl) (Nat.le_of_ble_eq_true rfl) rfl ?_
      refine v_iload_n (pc := 52) (dk dt_X2_takeQuantile 28 rfl) rfl rfl ?_
      refine v_istore (pc := 53) (ls' := [some (rv l0), some (rv l1), some (iv l2), some (iv l3), some (iv l4), some (jv l5), none, some (jv (Int.tdiv (l4 * l5) 1000)), none, some (iv l2), none, none, none, none, none, none, none, none]) (dk dt_X2_takeQuantile 29 rfl) (Nat.le_of_ble_eq_true rfl) rfl ?_
      exact v_less2 (ls' := [some (rv l0), some (rv l1), some (iv l2), some (iv l3), none, none, none, some (jv (Int.tdiv (l4 * l5) 1000)), none, some (iv l2), none, none, none, none, none, none, none, none]) ⟨rfl, rfl, rfl, rfl, rfl, rfl, trivial⟩ h
    · replace h := h.2 c2
      exact v_vret (pc := 39) (dk dt_X2_takeQuantile 20 rfl) rfl h
  · replace h := h.2 c1
    refine v_lload (pc := 12) (dk dt_X2_takeQuantile 7 rfl) rfl ?_
    refine v_aload_n (pc := 14) (dk dt_X2_takeQuantile 8 rfl) rfl rfl ?_
    obtain ⟨v4, h⟩ := h
    refine v_getR (pc := 15) (dk dt_X2_takeQuantile 9 rfl) fl_X2_169 v4 (fun _ => ?_)
    refine v_iload (pc := 18) (dk dt_X2_takeQuantile 10 rfl) rfl ?_
    obtain ⟨v5, h⟩ := h
    obtain ⟨v6, h⟩ := h
    obtain ⟨v7, h⟩ := h
    refine v_lald (pc := 20) (dk dt_X2_takeQuantile 11 rfl) v5 v6 v7 (fun _ => ?_)
    refine v_lmax (pc := 21) (dk dt_X2_takeQuantile 12 rfl) mw_X2_173 (Nat.le_of_ble_eq_true rfl) (Nat.le_of_ble_eq_true rfl) (Nat.le_of_ble_eq_true rfl) ?_
    refine v_lstore (pc := 24) (ls' := [some (rv l0), some (rv l1), some (iv l2), some (iv l3), some (iv l4), some (jv (max l5 (gel G (gfd G 3 1 l1) l7))), none, some (iv l7), none, none, none, none, none, none, none, none, none, none]) (dk dt_X2_takeQuantile 13 rfl) (Nat.le_of_ble_eq_true rfl) rfl ?_
    obtain ⟨v8, h⟩ := h
    refine v_iinc (pc := 26) (ls' := [some (rv l0), some (rv l1), some (iv l2), some (iv l3), some (iv l4), some (jv (max l5 (gel G (gfd G 3 1 l1) l7))), none, some (iv (l7 + 1)), none, none, none, none, none, none, none, none, none, none]) (dk dt_X2_takeQuantile 14 rfl) (Nat.le_of_ble_eq_true rfl) rfl v8 rfl ?_
    refine v_goto (pc := 29) (tgt := 6) (dk dt_X2_takeQuantile 15 rfl) (by decide) ?_
    exact h
set_option maxRecDepth 20000 in
theorem b_X2_takeQuantile_55 {E : EE} {l0 l1 l2 l3 l7 l9 : Int} {G : Gt} {c s : Nat} {Q X : Int → Gt → Prop} (h : (i32 (l3 - 1) ∧ ∀ J2 : Prop, ((gcl G l1 = 4 ∧ gcl G (gfd G 3 0 l1) = 15 ∧ 0 ≤ l2 ∧ l2 < gln G (gfd G 3 0 l1) ∧ i32 ((Int.tdiv (gel G (gfd G 3 0 l1) l2) 10) * 10) ∧ i32 (((Int.tdiv (gel G (gfd G 3 0 l1) l2) 10) * 10) + 6) ∧ (l2 < l9 → gcl G l1 = 4) ∧ (l2 < l9 → i32 (l9 - 1)) ∧ (l2 < l9 → gcl G (gfd G 3 1 l1) = 16) ∧ (l2 < l9 → 0 ≤ (l9 - 1)) ∧ (l2 < l9 → (l9 - 1) < gln G (gfd G 3 1 l1)) ∧ (l2 < l9 → gcl G l1 = 4) ∧ (l2 < l9 → i32 (l9 - 1)) ∧ (l2 < l9 → gcl G (gfd G 3 0 l1) = 15) ∧ (l2 < l9 → 0 ≤ (l9 - 1)) ∧ (l2 < l9 → (l9 - 1) < gln G (gfd G 3 0 l1)) ∧ (l2 < l9 → OkP E M_X2_boundOf [iv (Int.tmod (gel G (gfd G 3 0 l1) (l9 - 1)) 10)] G (wBound (Int.tmod (gel G (gfd G 3 0 l1) (l9 - 1)) 10))) ∧ gcl G l1 = 4 ∧ gcl G (gfd G 3 1 l1) = 16 ∧ 0 ≤ l9 ∧ l9 < gln G (gfd G 3 1 l1) ∧ i64 ((gel G (gfd G 3 1 l1) l9) - (if l9 ≤ l2 then (0 : Int) else (gel G (gfd G 3 1 l1) (l9 - 1)))) ∧ gcl G l1 = 4 ∧ gcl G (gfd G 3 0 l1) = 15 ∧ 0 ≤ l9 ∧ l9 < gln G (gfd G 3 0 l1) ∧ 15 ≤ gcl G (eB E) ∧ ((Int.tmod (gel G (gfd G 3 0 l1) l9) 10) < (gln G (eB E)) → 0 < ((gel G (gfd G 3 1 l1) l9) - (if l9 ≤ l2 then (0 : Int) else (gel G (gfd G 3 1 l1) (l9 - 1)))) → OkP E M_X2_boundOf [iv (Int.tmod (gel G (gfd G 3 0 l1) l9) 10)] G (wBound (Int.tmod (gel G (gfd G 3 0 l1) l9) 10))) ∧ ((Int.tmod (gel G (gfd G 3 0 l1) l9) 10) < (gln G (eB E)) → 0 < ((gel G (gfd G 3 1 l1) l9) - (if l9 ≤ l2 then (0 : Int) else (gel G (gfd G 3 1 l1) (l9 - 1)))) → i64 ((wBound (Int.tmod (gel G (gfd G 3 0 l1) l9) 10)) - (if l9 ≤ l2 then (0 : Int) else (wBound (Int.tmod (gel G (gfd G 3 0 l1) (l9 - 1)) 10))))) ∧ ((Int.tmod (gel G (gfd G 3 0 l1) l9) 10) < (gln G (eB E)) → 0 < ((gel G (gfd G 3 1 l1) l9) - (if l9 ≤ l2 then (0 : Int) else (gel G (gfd G 3 1 l1) (l9 - 1)))) → i64 (l7 - (if l9 ≤ l2 then (0 : Int) else (gel G (gfd G 3 1 l1) (l9 - 1))))) ∧ ((Int.tmod (gel G (gfd G 3 0 l1) l9) 10) < (gln G (eB E)) → 0 < ((gel G (gfd G 3 1 l1) l9) - (if l9 ≤ l2 then (0 : Int) else (gel G (gfd G 3 1 l1) (l9 - 1)))) → i64 (((wBound (Int.tmod (gel G (gfd G 3 0 l1) l9) 10)) - (if l9 ≤ l2 then (0 : Int) else (wBound (Int.tmod (gel G (gfd G 3 0 l1) (l9 - 1)) 10)))) * (l7 - (if l9 ≤ l2 then (0 : Int) else (gel G (gfd G 3 1 l1) (l9 - 1)))))) ∧ ((Int.tmod (gel G (gfd G 3 0 l1) l9) 10) < (gln G (eB E)) → 0 < ((gel G (gfd G 3 1 l1) l9) - (if l9 ≤ l2 then (0 : Int) else (gel G (gfd G 3 1 l1) (l9 - 1)))) → ((gel G (gfd G 3 1 l1) l9) - (if l9 ≤ l2 then (0 : Int) else (gel G (gfd G 3 1 l1) (l9 - 1)))) ≠ 0) ∧ ((Int.tmod (gel G (gfd G 3 0 l1) l9) 10) < (gln G (eB E)) → 0 < ((gel G (gfd G 3 1 l1) l9) - (if l9 ≤ l2 then (0 : Int) else (gel G (gfd G 3 1 l1) (l9 - 1)))) → i64 (Int.tdiv (((wBound (Int.tmod (gel G (gfd G 3 0 l1) l9) 10)) - (if l9 ≤ l2 then (0 : Int) else (wBound (Int.tmod (gel G (gfd G 3 0 l1) (l9 - 1)) 10)))) * (l7 - (if l9 ≤ l2 then (0 : Int) else (gel G (gfd G 3 1 l1) (l9 - 1))))) ((gel G (gfd G 3 1 l1) l9) - (if l9 ≤ l2 then (0 : Int) else (gel G (gfd G 3 1 l1) (l9 - 1)))))) ∧ ((Int.tmod (gel G (gfd G 3 0 l1) l9) 10) < (gln G (eB E)) → 0 < ((gel G (gfd G 3 1 l1) l9) - (if l9 ≤ l2 then (0 : Int) else (gel G (gfd G 3 1 l1) (l9 - 1)))) → i64 ((if l9 ≤ l2 then (0 : Int) else (wBound (Int.tmod (gel G (gfd G 3 0 l1) (l9 - 1)) 10))) + (Int.tdiv (((wBound (Int.tmod (gel G (gfd G 3 0 l1) l9) 10)) - (if l9 ≤ l2 then (0 : Int) else (wBound (Int.tmod (gel G (gfd G 3 0 l1) (l9 - 1)) 10)))) * (l7 - (if l9 ≤ l2 then (0 : Int) else (gel G (gfd G 3 1 l1) (l9 - 1))))) ((gel G (gfd G 3 1 l1) l9) - (if l9 ≤ l2 then (0 : Int) else (gel G (gfd G 3 1 l1) (l9 - 1))))))) ∧ gcl G l0 = 3 ∧ gcl G (gfd G 2 2 l0) = 4 ∧ Call E M_X3_put [rv (gfd G 2 2 l0), iv (((Int.tdiv (gel G (gfd G 3 0 l1) l2) 10) * 10) + 6), jv (if (gln G (eB E)) ≤ (Int.tmod (gel G (gfd G 3 0 l1) l9) 10) then ((if l9 ≤ l2 then (0 : Int) else (wBound (Int.tmod (gel G (gfd G 3 0 l1) (l9 - 1)) 10))) : Int) else (if ((gel G (gfd G 3 1 l1) l9) - (if l9 ≤ l2 then (0 : Int) else (gel G (gfd G 3 1 l1) (l9 - 1)))) ≤ 0 then ((if l9 ≤ l2 then (0 : Int) else (wBound (Int.tmod (gel G (gfd G 3 0 l1) (l9 - 1)) 10))) : Int) else ((if l9 ≤ l2 then (0 : Int) else (wBound (Int.tmod (gel G (gfd G 3 0 l1) (l9 - 1)) 10))) + (Int.tdiv (((wBound (Int.tmod (gel G (gfd G 3 0 l1) l9) 10)) - (if l9 ≤ l2 then (0 : Int) else (wBound (Int.tmod (gel G (gfd G 3 0 l1) (l9 - 1)) 10)))) * (l7 - (if l9 ≤ l2 then (0 : Int) else (gel G (gfd G 3 1 l1) (l9 - 1))))) ((gel G (gfd G 3 1 l1) l9) - (if l9 ≤ l2 then (0 : Int) else (gel G (gfd G 3 1 l1) (l9 - 1))))))))] G c s X (fun r43 G44 c45 s46 => Q 0 G44)) → J2) → (((l3 - 1) ≤ l9 → J2) ∧ (l9 < (l3 - 1) → (gcl G l1 = 4 ∧ gcl G (gfd G 3 1 l1) = 16 ∧ 0 ≤ l9 ∧ l9 < gln G (gfd G 3 1 l1) ∧ ((l7 ≤ (gel G (gfd G 3 1 l1) l9) → J2) ∧ ((gel G (gfd G 3 1 l1) l9) < l7 → (i32 (l9 + 1) ∧ V E M_X2_takeQuantile 55 [some (rv l0), some (rv l1), some (iv l2), some (iv l3), none, none, none, some (jv l7), none, some (iv (l9 + 1)), none, none, none, none, none, none, none, none] [] G c s Q X)))))))) : V E M_X2_takeQuantile 55 [some (rv l0), some (rv l1), some (iv l2), some (iv l3), none, none, none, some (jv l7), none, some (iv l9), none, none, none, none, none, none, none, none] [] G c s Q X := by
  refine v_iload (pc := 55) (dk dt_X2_takeQuantile 30 rfl) rfl ?_
  refine v_iload_n (pc := 57) (dk dt_X2_takeQuantile 31 rfl) rfl rfl ?_
  refine v_iconst (pc := 58) (dk dt_X2_takeQuantile 32 rfl) ⟨by decide, by decide⟩ ?_
  obtain ⟨v1, h⟩ := h
  refine v_isub (pc := 59) (dk dt_X2_takeQuantile 33 rfl) v1 ?_
  obtain ⟨J2, dJ2⟩ : ∃ J9 : Prop, J9 = V E M_X2_takeQuantile 82 [some (rv l0), some (rv l1), some (iv l2), none, none, none, none, some (jv l7), none, some (iv l9), none, none, none, none, none, none, none, none] [] G c s Q X := ⟨_, rfl⟩
  have hJ2 : (gcl G l1 = 4 ∧ gcl G (gfd G 3 0 l1) = 15 ∧ 0 ≤ l2 ∧ l2 < gln G (gfd G 3 0 l1) ∧ i32 ((Int.tdiv (gel G (gfd G 3 0 l1) l2) 10) * 10) ∧ i32 (((Int.tdiv (gel G (gfd G 3 0 l1) l2) 10) * 10) + 6) ∧ (l2 < l9 → gcl G l1 = 4) ∧ (l2 < l9 → i32 (l9 - 1)) ∧ (l2 < l9 → gcl G (gfd G 3 1 l1) = 16) ∧ (l2 < l9 → 0 ≤ (l9 - 1)) ∧ (l2 < l9 → (l9 - 1) < gln G (gfd G 3 1 l1)) ∧ (l2 < l9 → gcl G l1 = 4) ∧ (l2 < l9 → i32 (l9 - 1)) ∧ (l2 < l9 → gcl G (gfd G 3 0 l1) = 15) ∧ (l2 < l9 → 0 ≤ (l9 - 1)) ∧ (l2 < l9 → (l9 - 1) < gln G (gfd G 3 0 l1)) ∧ (l2 < l9 → OkP E M_X2_boundOf [iv (Int.tmod (gel G (gfd G 3 0 l1) (l9 - 1)) 10)] G (wBound (Int.tmod (gel G (gfd G 3 0 l1) (l9 - 1)) 10))) ∧ gcl G l1 = 4 ∧ gcl G (gfd G 3 1 l1) = 16 ∧ 0 ≤ l9 ∧ l9 < gln G (gfd G 3 1 l1) ∧ i64 ((gel G (gfd G 3 1 l1) l9) - (if l9 ≤ l2 then (0 : Int) else (gel G (gfd G 3 1 l1) (l9 - 1)))) ∧ gcl G l1 = 4 ∧ gcl G (gfd G 3 0 l1) = 15 ∧ 0 ≤ l9 ∧ l9 < gln G (gfd G 3 0 l1) ∧ 15 ≤ gcl G (eB E) ∧ ((Int.tmod (gel G (gfd G 3 0 l1) l9) 10) < (gln G (eB E)) → 0 < ((gel G (gfd G 3 1 l1) l9) - (if l9 ≤ l2 then (0 : Int) else (gel G (gfd G 3 1 l1) (l9 - 1)))) → OkP E M_X2_boundOf [iv (Int.tmod (gel G (gfd G 3 0 l1) l9) 10)] G (wBound (Int.tmod (gel G (gfd G 3 0 l1) l9) 10))) ∧ ((Int.tmod (gel G (gfd G 3 0 l1) l9) 10) < (gln G (eB E)) → 0 < ((gel G (gfd G 3 1 l1) l9) - (if l9 ≤ l2 then (0 : Int) else (gel G (gfd G 3 1 l1) (l9 - 1)))) → i64 ((wBound (Int.tmod (gel G (gfd G 3 0 l1) l9) 10)) - (if l9 ≤ l2 then (0 : Int) else (wBound (Int.tmod (gel G (gfd G 3 0 l1) (l9 - 1)) 10))))) ∧ ((Int.tmod (gel G (gfd G 3 0 l1) l9) 10) < (gln G (eB E)) → 0 < ((gel G (gfd G 3 1 l1) l9) - (if l9 ≤ l2 then (0 : Int) else (gel G (gfd G 3 1 l1) (l9 - 1)))) → i64 (l7 - (if l9 ≤ l2 then (0 : Int) else (gel G (gfd G 3 1 l1) (l9 - 1))))) ∧ ((Int.tmod (gel G (gfd G 3 0 l1) l9) 10) < (gln G (eB E)) → 0 < ((gel G (gfd G 3 1 l1) l9) - (if l9 ≤ l2 then (0 : Int) else (gel G (gfd G 3 1 l1) (l9 - 1)))) → i64 (((wBound (Int.tmod (gel G (gfd G 3 0 l1) l9) 10)) - (if l9 ≤ l2 then (0 : Int) else (wBound (Int.tmod (gel G (gfd G 3 0 l1) (l9 - 1)) 10)))) * (l7 - (if l9 ≤ l2 then (0 : Int) else (gel G (gfd G 3 1 l1) (l9 - 1)))))) ∧ ((Int.tmod (gel G (gfd G 3 0 l1) l9) 10) < (gln G (eB E)) → 0 < ((gel G (gfd G 3 1 l1) l9) - (if l9 ≤ l2 then (0 : Int) else (gel G (gfd G 3 1 l1) (l9 - 1)))) → ((gel G (gfd G 3 1 l1) l9) - (if l9 ≤ l2 then (0 : Int) else (gel G (gfd G 3 1 l1) (l9 - 1)))) ≠ 0) ∧ ((Int.tmod (gel G (gfd G 3 0 l1) l9) 10) < (gln G (eB E)) → 0 < ((gel G (gfd G 3 1 l1) l9) - (if l9 ≤ l2 then (0 : Int) else (gel G (gfd G 3 1 l1) (l9 - 1)))) → i64 (Int.tdiv (((wBound (Int.tmod (gel G (gfd G 3 0 l1) l9) 10)) - (if l9 ≤ l2 then (0 : Int) else (wBound (Int.tmod (gel G (gfd G 3 0 l1) (l9 - 1)) 10)))) * (l7 - (if l9 ≤ l2 then (0 : Int) else (gel G (gfd G 3 1 l1) (l9 - 1))))) ((gel G (gfd G 3 1 l1) l9) - (if l9 ≤ l2 then (0 : Int) else (gel G (gfd G 3 1 l1) (l9 - 1)))))) ∧ ((Int.tmod (gel G (gfd G 3 0 l1) l9) 10) < (gln G (eB E)) → 0 < ((gel G (gfd G 3 1 l1) l9) - (if l9 ≤ l2 then (0 : Int) else (gel G (gfd G 3 1 l1) (l9 - 1)))) → i64 ((if l9 ≤ l2 then (0 : Int) else (wBound (Int.tmod (gel G (gfd G 3 0 l1) (l9 - 1)) 10))) + (Int.tdiv (((wBound (Int.tmod (gel G (gfd G 3 0 l1) l9) 10)) - (if l9 ≤ l2 then (0 : Int) else (wBound (Int.tmod (gel G (gfd G 3 0 l1) (l9 - 1)) 10)))) * (l7 - (if l9 ≤ l2 then (0 : Int) else (gel G (gfd G 3 1 l1) (l9 - 1))))) ((gel G (gfd G 3 1 l1) l9) - (if l9 ≤ l2 then (0 : Int) else (gel G (gfd G 3 1 l1) (l9 - 1))))))) ∧ gcl G l0 = 3 ∧ gcl G (gfd G 2 2 l0) = 4 ∧ Call E M_X3_put [rv (gfd G 2 2 l0), iv (((Int.tdiv (gel G (gfd G 3 0 l1) l2) 10) * 10) + 6), jv (if (gln G (eB E)) ≤ (Int.tmod (gel G (gfd G 3 0 l1) l9) 10) then ((if l9 ≤ l2 then (0 : Int) else (wBound (Int.tmod (gel G (gfd G 3 0 l1) (l9 - 1)) 10))) : Int) else (if ((gel G (gfd G 3 1 l1) l9) - (if l9 ≤ l2 then (0 : Int) else (gel G (gfd G 3 1 l1) (l9 - 1)))) ≤ 0 then ((if l9 ≤ l2 then (0 : Int) else (wBound (Int.tmod (gel G (gfd G 3 0 l1) (l9 - 1)) 10))) : Int) else ((if l9 ≤ l2 then (0 : Int) else (wBound (Int.tmod (gel G (gfd G 3 0 l1) (l9 - 1)) 10))) + (Int.tdiv (((wBound (Int.tmod (gel G (gfd G 3 0 l1) l9) 10)) - (if l9 ≤ l2 then (0 : Int) else (wBound (Int.tmod (gel G (gfd G 3 0 l1) (l9 - 1)) 10)))) * (l7 - (if l9 ≤ l2 then (0 : Int) else (gel G (gfd G 3 1 l1) (l9 - 1))))) ((gel G (gfd G 3 1 l1) l9) - (if l9 ≤ l2 then (0 : Int) else (gel G (gfd G 3 1 l1) (l9 - 1))))))))] G c s X (fun r43 G44 c45 s46 => Q 0 G44)) → J2 := by
    intro h
    rw [dJ2]
    refine v_aload_n (pc := 82) (dk dt_X2_takeQuantile_1 4 rfl) rfl rfl ?_
    obtain ⟨v3, h⟩ := h
    refine v_getR (pc := 83) (dk dt_X2_takeQuantile_1 5 rfl) fl_X2_159 v3 (fun _ => ?_)
    refine v_iload_n (pc := 86) (dk dt_X2_takeQuantile_1 6 rfl) rfl rfl ?_
    obtain ⟨v4, h⟩ := h
    obtain ⟨v5, h⟩ := h
    obtain ⟨v6, h⟩ := h
    refine v_iald (pc := 87) (dk dt_X2_takeQuantile_1 7 rfl) (Or.inl v4) v5 v6 (fun _ => ?_)
    refine v_bipush (pc := 88) (dk dt_X2_takeQuantile_1 8 rfl) (by decide) ⟨by decide, by decide⟩ ?_
    refine v_idivP (pc := 90) (dk dt_X2_takeQuantile_1 9 rfl) (by decide) ?_
    refine v_bipush (pc := 91) (dk dt_X2_takeQuantile_1 10 rfl) (by decide) ⟨by decide, by decide⟩ ?_
    obtain ⟨v7, h⟩ := h
    refine v_imul (pc := 93) (dk dt_X2_takeQuantile_1 11 rfl) v7 ?_
    refine v_bipush (pc := 94) (dk dt_X2_takeQuantile_1 12 rfl) (by decide) ⟨by decide, by decide⟩ ?_
    obtain ⟨v8, h⟩ := h
    refine v_iadd (pc := 96) (dk dt_X2_takeQuantile_1 13 rfl) v8 ?_
    refine v_istore (pc := 97) (ls' := [some (rv l0), some (rv l1), some (iv l2), none, none, none, none, some (jv l7), none, some (iv l9), some (iv (((Int.tdiv (gel G (gfd G 3 0 l1) l2) 10) * 10) + 6)), none, none, none, none, none, none, none]) (dk dt_X2_takeQuantile_1 14 rfl) (Nat.le_of_ble_eq_true rfl) rfl ?_
    refine v_iload (pc := 99) (dk dt_X2_takeQuantile_1 15 rfl) rfl ?_
    refine v_iload_n (pc := 101) (dk dt_X2_takeQuantile_1 16 rfl) rfl rfl ?_
    obtain ⟨v10, v11, v12, v13, v14, h⟩ := h
    suffices k54 : V E M_X2_takeQuantile 118 [some (rv l0), some (rv l1), some (iv l2), none, none, none, none, some (jv l7), none, some (iv l9), some (iv (((Int.tdiv (gel G (gfd G 3 0 l1) l2) 10) * 10) + 6)), none, none, none, none, none, none, none] [jv (if l9 ≤ l2 then (0 : Int) else (gel G (gfd G 3 1 l1) (l9 - 1)))] G c s Q X by
      refine v_icmp_le (pc := 102) (tgt := 117) (dk dt_X2_takeQuantile_1 17 rfl) (by decide) (fun c9 => ?_) (fun c9 => ?_)
      · refine v_lconst (x := 0) (pc := 117) (dk dt_X2_takeQuantile_1 25 rfl) (by decide) ⟨by decide, by decide⟩ ?_
        exact v_less2 (ls' := [some (rv l0), some (rv l1), some (iv l2), none, none, none, none, some (jv l7), none, some (iv l9), some (iv (((Int.tdiv (gel G (gfd G 3 0 l1) l2) 10) * 10) + 6)), none, none, none, none, none, none, none]) ⟨rfl, rfl, rfl, rfl, rfl, rfl, trivial⟩ (by have hk9 := k54; try simp only [if_pos c9] at hk9 ⊢; exact hk9)
      · refine v_aload_n (pc := 105) (dk dt_X2_takeQuantile_1 18 rfl) rfl rfl ?_
        refine v_getR (pc := 106) (dk dt_X2_takeQuantile_1 19 rfl) fl_X2_169 (v10 c9) (fun _ => ?_)
        refine v_iload (pc := 109) (dk dt_X2_takeQuantile_1 20 rfl) rfl ?_
        refine v_iconst (pc := 111) (dk dt_X2_takeQuantile_1 21 rfl) ⟨by decide, by decide⟩ ?_
        refine v_isub (pc := 112) (dk dt_X2_takeQuantile_1 22 rfl) (v11 c9) ?_
        refine v_lald (pc := 113) (dk dt_X2_takeQuantile_1 23 rfl) (v12 c9) (v13 c9) (v14 c9) (fun _ => ?_)
        refine v_goto (pc := 114) (tgt := 118) (dk dt_X2_takeQuantile_1 24 rfl) (by decide) ?_
        exact v_less2 (ls' := [some (rv l0), some (rv l1), some (iv l2), none, none, none, none, some (jv l7), none, some (iv l9), some (iv (((Int.tdiv (gel G (gfd G 3 0 l1) l2) 10) * 10) + 6)), none, none, none, none, none, none, none]) ⟨rfl, rfl, rfl, rfl, rfl, rfl, trivial⟩ (by have hk9 := k54; try simp only [if_neg (Int.not_le.mpr c9)] at hk9 ⊢; exact hk9)
    refine v_lstore (pc := 118) (ls' := [some (rv l0), some (rv l1), some (iv l2), none, none, none, none, some (jv l7), none, some (iv l9), some (iv (((Int.tdiv (gel G (gfd G 3 0 l1) l2) 10) * 10) + 6)), some (jv (if l9 ≤ l2 then (0 : Int) else (gel G (gfd G 3 1 l1) (l9 - 1)))), none, none, none, none, none, none]) (dk dt_X2_takeQuantile_1 26 rfl) (Nat.le_of_ble_eq_true rfl) rfl ?_
    refine v_iload (pc := 120) (dk dt_X2_takeQuantile_1 27 rfl) rfl ?_
    refine v_iload_n (pc := 122) (dk dt_X2_takeQuantile_1 28 rfl) rfl rfl ?_
    obtain ⟨v16, v17, v18, v19, v20, v21, h⟩ := h
    suffices k55 : V E M_X2_takeQuantile 145 [some (rv l0), some (rv l1), none, none, none, none, none, some (jv l7), none, some (iv l9), some (iv (((Int.tdiv (gel G (gfd G 3 0 l1) l2) 10) * 10) + 6)), some (jv (if l9 ≤ l2 then (0 : Int) else (gel G (gfd G 3 1 l1) (l9 - 1)))), none, none, none, none, none, none] [jv (if l9 ≤ l2 then (0 : Int) else (wBound (Int.tmod (gel G (gfd G 3 0 l1) (l9 - 1)) 10)))] G c s Q X by
      refine v_icmp_le (pc := 123) (tgt := 144) (dk dt_X2_takeQuantile_1 29 rfl) (by decide) (fun c15 => ?_) (fun c15 => ?_)
      · refine v_lconst (x := 0) (pc := 144) (dk dt_X2_takeQuantile_2 0 rfl) (by decide) ⟨by decide, by decide⟩ ?_
        exact v_less2 (ls' := [some (rv l0), some (rv l1), none, none, none, none, none, some (jv l7), none, some (iv l9), some (iv (((Int.tdiv (gel G (gfd G 3 0 l1) l2) 10) * 10) + 6)), some (jv (if l9 ≤ l2 then (0 : Int) else (gel G (gfd G 3 1 l1) (l9 - 1)))), none, none, none, none, none, none]) ⟨rfl, rfl, rfl, rfl, rfl, rfl, trivial⟩ (by have hk9 := k55; try simp only [if_pos c15] at hk9 ⊢; exact hk9)
      · refine v_aload_n (pc := 126) (dk dt_X2_takeQuantile_1 30 rfl) rfl rfl ?_
        refine v_getR (pc := 127) (dk dt_X2_takeQuantile_1 31 rfl) fl_X2_159 (v16 c15) (fun _ => ?_)
        refine v_iload (pc := 130) (dk dt_X2_takeQuantile_1 32 rfl) rfl ?_
        refine v_iconst (pc := 132) (dk dt_X2_takeQuantile_1 33 rfl) ⟨by decide, by decide⟩ ?_
        refine v_isub (pc := 133) (dk dt_X2_takeQuantile_1 34 rfl) (v17 c15) ?_
        refine v_iald (pc := 134) (dk dt_X2_takeQuantile_1 35 rfl) (Or.inl (v18 c15)) (v19 c15) (v20 c15) (fun _ => ?_)
        refine v_bipush (pc := 135) (dk dt_X2_takeQuantile_1 36 rfl) (by decide) ⟨by decide, by decide⟩ ?_
        refine v_iremP (pc := 137) (dk dt_X2_takeQuantile_1 37 rfl) (by decide) ?_
        refine v_csPJ (v := (wBound (Int.tmod (gel G (gfd G 3 0 l1) (l9 - 1)) 10))) (As := [iv (Int.tmod (gel G (gfd G 3 0 l1) (l9 - 1)) 10)]) (stk := []) (pc := 138) (dk dt_X2_takeQuantile_1 38 rfl) ml_X2_204 rfl rfl (Nat.le_of_ble_eq_true rfl) rfl rfl (v21 c15) ?_
        refine v_goto (pc := 141) (tgt := 145) (dk dt_X2_takeQuantile_1 39 rfl) (by decide) ?_
        exact v_less2 (ls' := [some (rv l0), some (rv l1), none, none, none, none, none, some (jv l7), none, some (iv l9), some (iv (((Int.tdiv (gel G (gfd G 3 0 l1) l2) 10) * 10) + 6)), some (jv (if l9 ≤ l2 then (0 : Int) else (gel G (gfd G 3 1 l1) (l9 - 1)))), none, none, none, none, none, none]) ⟨rfl, rfl, rfl, rfl, rfl, rfl, trivial⟩ (by have hk9 := k55; try simp only [if_neg (Int.not_le.mpr c15)] at hk9 ⊢; exact hk9)
    refine v_lstore (pc := 145) (ls' := [some (rv l0), some (rv l1), none, none, none, none, none, some (jv l7), none, some (iv l9), some (iv (((Int.tdiv (gel G (gfd G 3 0 l1) l2) 10) * 10) + 6)), some (jv (if l9 ≤ l2 then (0 : Int) else (gel G (gfd G 3 1 l1) (l9 - 1)))), none, some (jv (if l9 ≤ l2 then (0 : Int) else (wBound (Int.tmod (gel G (gfd G 3 0 l1) (l9 - 1)) 10)))), none, none, none, none]) (dk dt_X2_takeQuantile_2 1 rfl) (Nat.le_of_ble_eq_true rfl) rfl ?_
    refine v_aload_n (pc := 147) (dk dt_X2_takeQuantile_2 2 rfl) rfl rfl ?_
    obtain ⟨v22, h⟩ := h
    refine v_getR (pc := 148) (dk dt_X2_takeQuantile_2 3 rfl) fl_X2_169 v22 (fun _ => ?_)
    refine v_iload (pc := 151) (dk dt_X2_takeQuantile_2 4 rfl) rfl ?_
    obtain ⟨v23, h⟩ := h
    obtain ⟨v24, h⟩ := h
    obtain ⟨v25, h⟩ := h
    refine v_lald (pc := 153) (dk dt_X2_takeQuantile_2 5 rfl) v23 v24 v25 (fun _ => ?_)
    refine v_lload (pc := 154) (dk dt_X2_takeQuantile_2 6 rfl) rfl ?_
    obtain ⟨v26, h⟩ := h
    refine v_lsub (pc := 156) (dk dt_X2_takeQuantile_2 7 rfl) v26 ?_
    refine v_lstore (pc := 157) (ls' := [some (rv l0), some (rv l1), none, none, none, none, none, some (jv l7), none, some (iv l9), some (iv (((Int.tdiv (gel G (gfd G 3 0 l1) l2) 10) * 10) + 6)), some (jv (if l9 ≤ l2 then (0 : Int) else (gel G (gfd G 3 1 l1) (l9 - 1)))), none, some (jv (if l9 ≤ l2 then (0 : Int) else (wBound (Int.tmod (gel G (gfd G 3 0 l1) (l9 - 1)) 10)))), none, some (jv ((gel G (gfd G 3 1 l1) l9) - (if l9 ≤ l2 then (0 : Int) else (gel G (gfd G 3 1 l1) (l9 - 1))))), none, none]) (dk dt_X2_takeQuantile_2 8 rfl) (Nat.le_of_ble_eq_true rfl) rfl ?_
    refine v_aload_n (pc := 159) (dk dt_X2_takeQuantile_2 9 rfl) rfl rfl ?_
    obtain ⟨v27, h⟩ := h
    refine v_getR (pc := 160) (dk dt_X2_takeQuantile_2 10 rfl) fl_X2_159 v27 (fun _ => ?_)
    refine v_iload (pc := 163) (dk dt_X2_takeQuantile_2 11 rfl) rfl ?_
    obtain ⟨v28, h⟩ := h
    obtain ⟨v29, h⟩ := h
    obtain ⟨v30, h⟩ := h
    refine v_iald (pc := 165) (dk dt_X2_takeQuantile_2 12 rfl) (Or.inl v28) v29 v30 (fun _ => ?_)
    refine v_bipush (pc := 166) (dk dt_X2_takeQuantile_2 13 rfl) (by decide) ⟨by decide, by decide⟩ ?_
    refine v_iremP (pc := 168) (dk dt_X2_takeQuantile_2 14 rfl) (by decide) ?_
    refine v_istore (pc := 169) (ls' := [some (rv l0), some (rv l1), none, none, none, none, none, some (jv l7), none, some (iv l9), some (iv (((Int.tdiv (gel G (gfd G 3 0 l1) l2) 10) * 10) + 6)), some (jv (if l9 ≤ l2 then (0 : Int) else (gel G (gfd G 3 1 l1) (l9 - 1)))), none, some (jv (if l9 ≤ l2 then (0 : Int) else (wBound (Int.tmod (gel G (gfd G 3 0 l1) (l9 - 1)) 10)))), none, some (jv ((gel G (gfd G 3 1 l1) l9) - (if l9 ≤ l2 then (0 : Int) else (gel G (gfd G 3 1 l1) (l9 - 1))))), none, some (iv (Int.tmod (gel G (gfd G 3 0 l1) l9) 10))]) (dk dt_X2_takeQuantile_2 15 rfl) (Nat.le_of_ble_eq_true rfl) rfl ?_
    refine v_iload (pc := 171) (dk dt_X2_takeQuantile_2 16 rfl) rfl ?_
    refine v_getsB (pc := 173) (dk dt_X2_takeQuantile_2 17 rfl) fs_X2_208 (fun _ _ _ => ?_)
    obtain ⟨v31, h⟩ := h
    refine v_alen (pc := 176) (dk dt_X2_takeQuantile_2 18 rfl) v31 (fun _ => ?_)
    obtain ⟨v34, v35, v36, v37, v38, v39, v40, h⟩ := h
    suffices k56 : V E M_X2_takeQuantile 209 [some (rv l0), none, none, none, none, none, none, none, none, none, some (iv (((Int.tdiv (gel G (gfd G 3 0 l1) l2) 10) * 10) + 6)), none, none, some (jv (if (gln G (eB E)) ≤ (Int.tmod (gel G (gfd G 3 0 l1) l9) 10) then ((if l9 ≤ l2 then (0 : Int) else (wBound (Int.tmod (gel G (gfd G 3 0 l1) (l9 - 1)) 10))) : Int) else (if ((gel G (gfd G 3 1 l1) l9) - (if l9 ≤ l2 then (0 : Int) else (gel G (gfd G 3 1 l1) (l9 - 1)))) ≤ 0 then ((if l9 ≤ l2 then (0 : Int) else (wBound (Int.tmod (gel G (gfd G 3 0 l1) (l9 - 1)) 10))) : Int) else ((if l9 ≤ l2 then (0 : Int) else (wBound (Int.tmod (gel G (gfd G 3 0 l1) (l9 - 1)) 10))) + (Int.tdiv (((wBound (Int.tmod (gel G (gfd G 3 0 l1) l9) 10)) - (if l9 ≤ l2 then (0 : Int) else (wBound (Int.tmod (gel G (gfd G 3 0 l1) (l9 - 1)) 10)))) * (l7 - (if l9 ≤ l2 then (0 : Int) else (gel G (gfd G 3 1 l1) (l9 - 1))))) ((gel G (gfd G 3 1 l1) l9) - (if l9 ≤ l2 then (0 : Int) else (gel G (gfd G 3 1 l1) (l9 - 1))))))))), none, none, none, none] [] G c s Q X by
      refine v_icmp_ge (pc := 177) (tgt := 209) (dk dt_X2_takeQuantile_2 19 rfl) (by decide) (fun c32 => ?_) (fun c32 => ?_)
      · exact v_less2 (ls' := [some (rv l0), none, none, none, none, none, none, none, none, none, some (iv (((Int.tdiv (gel G (gfd G 3 0 l1) l2) 10) * 10) + 6)), none, none, some (jv (if l9 ≤ l2 then (0 : Int) else (wBound (Int.tmod (gel G (gfd G 3 0 l1) (l9 - 1)) 10)))), none, none, none, none]) ⟨rfl, rfl, rfl, trivial⟩ (by have hk9 := k56; try simp only [if_pos c32] at hk9 ⊢; exact hk9)
      · refine v_lload (pc := 180) (dk dt_X2_takeQuantile_2 20 rfl) rfl ?_
        refine v_lconst (x := 0) (pc := 182) (dk dt_X2_takeQuantile_2 21 rfl) (by decide) ⟨by decide, by decide⟩ ?_
        refine v_lcmp_le (pc := 183) (tgt := 209) (dk dt_X2_takeQuantile_2 22 rfl) (dk dt_X2_takeQuantile_2 23 rfl) (by decide) (fun c33 => ?_) (fun c33 => ?_)
        · exact v_less2 (ls' := [some (rv l0), none, none, none, none, none, none, none, none, none, some (iv (((Int.tdiv (gel G (gfd G 3 0 l1) l2) 10) * 10) + 6)), none, none, some (jv (if l9 ≤ l2 then (0 : Int) else (wBound (Int.tmod (gel G (gfd G 3 0 l1) (l9 - 1)) 10)))), none, none, none, none]) ⟨rfl, rfl, rfl, trivial⟩ (by have hk9 := k56; try simp only [if_neg (Int.not_le.mpr c32)] at hk9 ⊢; try simp only [if_pos c33] at hk9 ⊢; exact hk9)
        · refine v_lload (pc := 187) (dk dt_X2_takeQuantile_2 24 rfl) rfl ?_
          refine v_iload (pc := 189) (dk dt_X2_takeQuantile_2 25 rfl) rfl ?_
          refine v_csPJ (v := (wBound (Int.tmod (gel G (gfd G 3 0 l1) l9) 10))) (As := [iv (Int.tmod (gel G (gfd G 3 0 l1) l9) 10)]) (stk := [jv (if l9 ≤ l2 then (0 : Int) else (wBound (Int.tmod (gel G (gfd G 3 0 l1) (l9 - 1)) 10)))]) (pc := 191) (dk dt_X2_takeQuantile_2 26 rfl) ml_X2_204 rfl rfl (Nat.le_of_ble_eq_true rfl) rfl rfl (v34 c32 c33) ?_
          refine v_lload (pc := 194) (dk dt_X2_takeQuantile_2 27 rfl) rfl ?_
          refine v_lsub (pc := 196) (dk dt_X2_takeQuantile_2 28 rfl) (v35 c32 c33) ?_
          refine v_lload (pc := 197) (dk dt_X2_takeQuantile_2 29 rfl) rfl ?_
          refine v_lload (pc := 199) (dk dt_X2_takeQuantile_2 30 rfl) rfl ?_
          refine v_lsub (pc := 201) (dk dt_X2_takeQuantile_2 31 rfl) (v36 c32 c33) ?_
          refine v_lmul (pc := 202) (dk dt_X2_takeQuantile_2 32 rfl) (v37 c32 c33) ?_
          refine v_lload (pc := 203) (dk dt_X2_takeQuantile_2 33 rfl) rfl ?_
          refine v_ldiv (pc := 205) (dk dt_X2_takeQuantile_2 34 rfl) (v38 c32 c33) (v39 c32 c33) ?_
          refine v_ladd (pc := 206) (dk dt_X2_takeQuantile_2 35 rfl) (v40 c32 c33) ?_
          refine v_lstore (pc := 207) (ls' := [some (rv l0), some (rv l1), none, none, none, none, none, some (jv l7), none, some (iv l9), some (iv (((Int.tdiv (gel G (gfd G 3 0 l1) l2) 10) * 10) + 6)), some (jv (if l9 ≤ l2 then (0 : Int) else (gel G (gfd G 3 1 l1) (l9 - 1)))), none, some (jv ((if l9 ≤ l2 then (0 : Int) else (wBound (Int.tmod (gel G (gfd G 3 0 l1) (l9 - 1)) 10))) + (Int.tdiv (((wBound (Int.tmod (gel G (gfd G 3 0 l1) l9) 10)) - (if l9 ≤ l2 then (0 : Int) else (wBound (Int.tmod (gel G (gfd G 3 0 l1) (l9 - 1)) 10)))) * (l7 - (if l9 ≤ l2 then (0 : Int) else (gel G (gfd G 3 1 l1) (l9 - 1))))) ((gel G (gfd G 3 1 l1) l9) - (if l9 ≤ l2 then (0 : Int) else (gel G (gfd G 3 1 l1) (l9 - 1))))))), none, some (jv ((gel G (gfd G 3 1 l1) l9) - (if l9 ≤ l2 then (0 : Int) else (gel G (gfd G 3 1 l1) (l9 - 1))))), none, some (iv (Int.tmod (gel G (gfd G 3 0 l1) l9) 10))]) (dk dt_X2_takeQuantile_2 36 rfl) (Nat.le_of_ble_eq_true rfl) rfl ?_
          exact v_less2 (ls' := [some (rv l0), none, none, none, none, none, none, none, none, none, some (iv (((Int.tdiv (gel G (gfd G 3 0 l1) l2) 10) * 10) + 6)), none, none, some (jv ((if l9 ≤ l2 then (0 : Int) else (wBound (Int.tmod (gel G (gfd G 3 0 l1) (l9 - 1)) 10))) + (Int.tdiv (((wBound (Int.tmod (gel G (gfd G 3 0 l1) l9) 10)) - (if l9 ≤ l2 then (0 : Int) else (wBound (Int.tmod (gel G (gfd G 3 0 l1) (l9 - 1)) 10)))) * (l7 - (if l9 ≤ l2 then (0 : Int) else (gel G (gfd G 3 1 l1) (l9 - 1))))) ((gel G (gfd G 3 1 l1) l9) - (if l9 ≤ l2 then (0 : Int) else (gel G (gfd G 3 1 l1) (l9 - 1))))))), none, none, none, none]) ⟨rfl, rfl, rfl, trivial⟩ (by have hk9 := k56; try simp only [if_neg (Int.not_le.mpr c32)] at hk9 ⊢; try simp only [if_neg (Int.not_le.mpr c33)] at hk9 ⊢; exact hk9)
    refine v_aload_n (pc := 209) (dk dt_X2_takeQuantile_2 37 rfl) rfl rfl ?_
    obtain ⟨v41, h⟩ := h
    refine v_getR (pc := 210) (dk dt_X2_takeQuantile_2 38 rfl) fl_X2_28 v41 (fun _ => ?_)
    refine v_iload (pc := 213) (dk dt_X2_takeQuantile_2 39 rfl) rfl ?_
    refine v_lload (pc := 215) (dk dt_X2_takeQuantile_3 0 rfl) rfl ?_
    obtain ⟨v42, h⟩ := h
    refine v_cvV (c := 3) (As := [iv (((Int.tdiv (gel G (gfd G 3 0 l1) l2) 10) * 10) + 6), jv (if (gln G (eB E)) ≤ (Int.tmod (gel G (gfd G 3 0 l1) l9) 10) then ((if l9 ≤ l2 then (0 : Int) else (wBound (Int.tmod (gel G (gfd G 3 0 l1) (l9 - 1)) 10))) : Int) else (if ((gel G (gfd G 3 1 l1) l9) - (if l9 ≤ l2 then (0 : Int) else (gel G (gfd G 3 1 l1) (l9 - 1)))) ≤ 0 then ((if l9 ≤ l2 then (0 : Int) else (wBound (Int.tmod (gel G (gfd G 3 0 l1) (l9 - 1)) 10))) : Int) else ((if l9 ≤ l2 then (0 : Int) else (wBound (Int.tmod (gel G (gfd G 3 0 l1) (l9 - 1)) 10))) + (Int.tdiv (((wBound (Int.tmod (gel G (gfd G 3 0 l1) l9) 10)) - (if l9 ≤ l2 then (0 : Int) else (wBound (Int.tmod (gel G (gfd G 3 0 l1) (l9 - 1)) 10)))) * (l7 - (if l9 ≤ l2 then (0 : Int) else (gel G (gfd G 3 1 l1) (l9 - 1))))) ((gel G (gfd G 3 1 l1) l9) - (if l9 ≤ l2 then (0 : Int) else (gel G (gfd G 3 1 l1) (l9 - 1))))))))]) (stk := []) (pc := 217) (dk dt_X2_takeQuantile_3 1 rfl) ml_X2_134 rfl rfl (Nat.le_of_ble_eq_true rfl) rfl ⟨by decide, rfl⟩ v42 rfl (Call.mono h (fun r43 G44 c45 s46 h => ?_))
    exact v_vret (pc := 220) (dk dt_X2_takeQuantile_3 2 rfl) rfl h
  replace h := h _ hJ2
  refine v_icmp_ge (pc := 60) (tgt := 82) (dk dt_X2_takeQuantile 34 rfl) (by decide) (fun c47 => ?_) (fun c47 => ?_)
  · replace h := h.1 c47
    rw [dJ2] at h
    exact v_less2 (ls' := [some (rv l0), some (rv l1), some (iv l2), none, none, none, none, some (jv l7), none, some (iv l9), none, none, none, none, none, none, none, none]) ⟨rfl, rfl, rfl, rfl, rfl, trivial⟩ h
  · replace h := h.2 c47
    refine v_aload_n (pc := 63) (dk dt_X2_takeQuantile 35 rfl) rfl rfl ?_
    obtain ⟨v48, h⟩ := h
    refine v_getR (pc := 64) (dk dt_X2_takeQuantile 36 rfl) fl_X2_169 v48 (fun _ => ?_)
    refine v_iload (pc := 67) (dk dt_X2_takeQuantile 37 rfl) rfl ?_
    obtain ⟨v49, h⟩ := h
    obtain ⟨v50, h⟩ := h
    obtain ⟨v51, h⟩ := h
    refine v_lald (pc := 69) (dk dt_X2_takeQuantile 38 rfl) v49 v50 v51 (fun _ => ?_)
    refine v_lload (pc := 70) (dk dt_X2_takeQuantile 39 rfl) rfl ?_
    refine v_lcmp_ge (pc := 72) (tgt := 82) (dk dt_X2_takeQuantile_1 0 rfl) (dk dt_X2_takeQuantile_1 1 rfl) (by decide) (fun c52 => ?_) (fun c52 => ?_)
    · replace h := h.1 c52
      rw [dJ2] at h
      exact v_less2 (ls' := [some (rv l0), some (rv l1), some (iv l2), none, none, none, none, some (jv l7), none, some (iv l9), none, none, none, none, none, none, none, none]) ⟨rfl, rfl, rfl, rfl, rfl, trivial⟩ h
    · replace h := h.2 c52
      obtain ⟨v53, h⟩ := h
      refine v_iinc (pc := 76) (ls' := [some (rv l0), some (rv l1), some (iv l2), some (iv l3), none, none, none, some (jv l7), none, some (iv (l9 + 1)), none, none, none, none, none, none, none, none]) (dk dt_X2_takeQuantile_1 2 rfl) (Nat.le_of_ble_eq_true rfl) rfl v53 rfl ?_
      refine v_goto (pc := 79) (tgt := 55) (dk dt_X2_takeQuantile_1 3 rfl) (by decide) ?_
      exact h
set_option maxRecDepth 20000 in
theorem b_X2_boundOf_0 {E : EE} {l0 : Int} {G : Gt} {c s : Nat} {Q X : Int → Gt → Prop} (h : ((0 ≤ l0 → 15 ≤ gcl G (eB E)) ∧ (0 ≤ l0 → l0 < (gln G (eB E)) → gcl G (eB E) = 15 ∨ gcl G (eB E) = 19) ∧ (0 ≤ l0 → l0 < (gln G (eB E)) → 0 ≤ l0) ∧ (0 ≤ l0 → l0 < (gln G (eB E)) → l0 < gln G (eB E)) ∧ Q (if l0 < 0 then (0 : Int) else (if (gln G (eB E)) ≤ l0 then (0 : Int) else (gel G (eB E) l0))) G)) : V E M_X2_boundOf 0 [some (iv l0)] [] G c s Q X := by
  refine v_iload_n (pc := 0) (dk dt_X2_boundOf 0 rfl) rfl rfl ?_
  obtain ⟨v2, v4, v5, v6, h⟩ := h
  suffices k7 : V E M_X2_boundOf 22 [none] [jv (if l0 < 0 then (0 : Int) else (if (gln G (eB E)) ≤ l0 then (0 : Int) else (gel G (eB E) l0)))] G c s Q X by
    refine v_if_lt (pc := 1) (tgt := 21) (dk dt_X2_boundOf 1 rfl) (by decide) (fun c1 => ?_) (fun c1 => ?_)
    · refine v_lconst (x := 0) (pc := 21) (dk dt_X2_boundOf 11 rfl) (by decide) ⟨by decide, by decide⟩ ?_
      exact v_less2 (ls' := [none]) trivial (by have hk9 := k7; try simp only [if_pos c1] at hk9 ⊢; exact hk9)
    · refine v_iload_n (pc := 4) (dk dt_X2_boundOf 2 rfl) rfl rfl ?_
      refine v_getsB (pc := 5) (dk dt_X2_boundOf 3 rfl) fs_X2_208 (fun _ _ _ => ?_)
      refine v_alen (pc := 8) (dk dt_X2_boundOf 4 rfl) (v2 c1) (fun _ => ?_)
      refine v_icmp_ge (pc := 9) (tgt := 21) (dk dt_X2_boundOf 5 rfl) (by decide) (fun c3 => ?_) (fun c3 => ?_)
      · refine v_lconst (x := 0) (pc := 21) (dk dt_X2_boundOf 11 rfl) (by decide) ⟨by decide, by decide⟩ ?_
        exact v_less2 (ls' := [none]) trivial (by have hk9 := k7; try simp only [if_neg (Int.not_lt.mpr c1)] at hk9 ⊢; try simp only [if_pos c3] at hk9 ⊢; exact hk9)
      · refine v_getsB (pc := 12) (dk dt_X2_boundOf 6 rfl) fs_X2_208 (fun _ _ _ => ?_)
        refine v_iload_n (pc := 15) (dk dt_X2_boundOf 7 rfl) rfl rfl ?_
        refine v_iald (pc := 16) (dk dt_X2_boundOf 8 rfl) (v4 c1 c3) (v5 c1 c3) (v6 c1 c3) (fun _ => ?_)
        refine v_i2l (pc := 17) (dk dt_X2_boundOf 9 rfl) ?_
        refine v_goto (pc := 18) (tgt := 22) (dk dt_X2_boundOf 10 rfl) (by decide) ?_
        exact v_less2 (ls' := [none]) trivial (by have hk9 := k7; try simp only [if_neg (Int.not_lt.mpr c1)] at hk9 ⊢; try simp only [if_neg (Int.not_le.mpr c3)] at hk9 ⊢; exact hk9)
  exact v_lret (pc := 22) (dk dt_X2_boundOf 12 rfl) rfl h
set_option maxRecDepth 20000 in
theorem i_X2_boundOf {E : EE} {l0 : Int} {G : Gt} {c s : Nat} {Q X : Int → Gt → Prop} (h : ((0 ≤ l0 → 15 ≤ gcl G (eB E)) ∧ (0 ≤ l0 → l0 < (gln G (eB E)) → gcl G (eB E) = 15 ∨ gcl G (eB E) = 19) ∧ (0 ≤ l0 → l0 < (gln G (eB E)) → 0 ≤ l0) ∧ (0 ≤ l0 → l0 < (gln G (eB E)) → l0 < gln G (eB E)) ∧ Q (if l0 < 0 then (0 : Int) else (if (gln G (eB E)) ≤ l0 then (0 : Int) else (gel G (eB E) l0))) G)) : Ok E M_X2_boundOf [iv l0] G c s Q X := Ok.intro (k := 0) rfl rfl (Nat.le_of_ble_eq_true rfl) rfl (b_X2_boundOf_0 h)
