set_option maxRecDepth 20000 in
theorem b_X7_init_0 {E : EE} {l0 l1 : Int} {G : Gt} {c s : Nat} {Q X : Int → Gt → Prop} (h : (0 ≤ l0 ∧ 1 ≤ c ∧ 3 ≤ s ∧ ∀ q4 : Int, gcl G q4 = 0 → (eb E : Int) ≤ q4 → ∀ G5 : Gt, G5 = (newo G q4 13) → 0 ≤ q4 ∧ Call E M_A_init [rv q4] G5 (c - 1) (s - 3) X (fun r7 G8 c9 s10 => gcl G8 l0 = 8 ∧ ∀ G12 : Gt, G12 = (sfd G8 7 1 l0 q4) → 1 ≤ c9 ∧ (60 : Int).toNat ≤ s10 ∧ ∀ q13 : Int, gcl G12 q13 = 0 → (eb E : Int) ≤ q13 → ∀ G16 : Gt, G16 = (newa G12 q13 15 60) → gcl G16 l0 = 8 ∧ ∀ G18 : Gt, G18 = (sfd G16 7 2 l0 q13) → 1 ≤ (c9 - 1) ∧ (60 : Int).toNat ≤ (s10 - (60 : Int).toNat) ∧ ∀ q19 : Int, gcl G18 q19 = 0 → (eb E : Int) ≤ q19 → ∀ G22 : Gt, G22 = (newa G18 q19 15 60) → gcl G22 l0 = 8 ∧ ∀ G24 : Gt, G24 = (sfd G22 7 3 l0 q19) → gcl G24 l0 = 8 ∧ ∀ G26 : Gt, G26 = (sfd G24 7 4 l0 0) → gcl G26 l0 = 8 ∧ ∀ G28 : Gt, G28 = (sfd G26 7 0 l0 l1) → Q 0 G28))) : V E M_X7_init 0 [some (rv l0), some (iv l1)] [] G c s Q X := by
  refine v_aload_n (pc := 0) (dk dt_X7_init 0 rfl) rfl rfl ?_
  obtain ⟨v1, h⟩ := h
  refine v_objInit (pc := 1) (dk dt_X7_init 1 rfl) mw_X7_3 (Nat.le_of_ble_eq_true rfl) (Nat.le_of_ble_eq_true rfl) (Nat.le_of_ble_eq_true rfl) v1 ?_
  refine v_aload_n (pc := 4) (dk dt_X7_init 2 rfl) rfl rfl ?_
  obtain ⟨v2, h⟩ := h
  obtain ⟨v3, h⟩ := h
  refine v_new (pc := 5) (dk dt_X7_init 3 rfl) nl_X7_9 v2 v3 (fun q4 hq4 gq4 => ?_)
  replace h := h q4 hq4 gq4
  generalize hG5 : (newo G q4 13) = G5
  replace h := h G5 hG5.symm
  refine v_dup (pc := 8) (dk dt_X7_init 4 rfl) (by intro h9; cases h9) ?_
  obtain ⟨v6, h⟩ := h
  refine v_ciV (As := []) (stk := [rv q4, rv l0]) (pc := 9) (dk dt_X7_init 5 rfl) ml_X7_11 rfl rfl (Nat.le_of_ble_eq_true rfl) rfl v6 (Call.mono h (fun r7 G8 c9 s10 h => ?_))
  obtain ⟨v11, h⟩ := h
  refine v_putR (pc := 12) (dk dt_X7_init 6 rfl) fl_X7_12 (Or.inr ⟨rfl, rfl⟩) v11 ?_
  generalize hG12 : (sfd G8 7 1 l0 q4) = G12
  replace h := h G12 hG12.symm
  refine v_aload_n (pc := 15) (dk dt_X7_init 7 rfl) rfl rfl ?_
  refine v_bipush (pc := 16) (dk dt_X7_init 8 rfl) (by decide) ⟨by decide, by decide⟩ ?_
  obtain ⟨v14, h⟩ := h
  obtain ⟨v15, h⟩ := h
  refine v_newa (t := 15) (i := 0) (ty := .int) (pc := 18) (dk dt_X7_init 9 rfl) ac_int rfl (Or.inl ⟨rfl, rfl, rfl⟩) (by decide) (by decide) v14 v15 (fun q13 hq13 gq13 => ?_)
  replace h := h q13 hq13 gq13
  generalize hG16 : (newa G12 q13 15 60) = G16
  replace h := h G16 hG16.symm
  obtain ⟨v17, h⟩ := h
  refine v_putR (pc := 20) (dk dt_X7_init 10 rfl) fl_X7_18 (Or.inr ⟨rfl, rfl⟩) v17 ?_
  generalize hG18 : (sfd G16 7 2 l0 q13) = G18
  replace h := h G18 hG18.symm
  refine v_aload_n (pc := 23) (dk dt_X7_init 11 rfl) rfl rfl ?_
  refine v_bipush (pc := 24) (dk dt_X7_init 12 rfl) (by decide) ⟨by decide, by decide⟩ ?_
  obtain ⟨v20, h⟩ := h
  obtain ⟨v21, h⟩ := h
  refine v_newa (t := 15) (i := 0) (ty := .int) (pc := 26) (dk dt_X7_init 13 rfl) ac_int rfl (Or.inl ⟨rfl, rfl, rfl⟩) (by decide) (by decide) v20 v21 (fun q19 hq19 gq19 => ?_)
  replace h := h q19 hq19 gq19
  generalize hG22 : (newa G18 q19 15 60) = G22
  replace h := h G22 hG22.symm
  obtain ⟨v23, h⟩ := h
  refine v_putR (pc := 28) (dk dt_X7_init 14 rfl) fl_X7_22 (Or.inr ⟨rfl, rfl⟩) v23 ?_
  generalize hG24 : (sfd G22 7 3 l0 q19) = G24
  replace h := h G24 hG24.symm
  refine v_aload_n (pc := 31) (dk dt_X7_init 15 rfl) rfl rfl ?_
  refine v_iconst (pc := 32) (dk dt_X7_init 16 rfl) ⟨by decide, by decide⟩ ?_
  obtain ⟨v25, h⟩ := h
  refine v_putI (pc := 33) (dk dt_X7_init 17 rfl) fl_X7_25 (Or.inl rfl) v25 ?_
  generalize hG26 : (sfd G24 7 4 l0 0) = G26
  replace h := h G26 hG26.symm
  refine v_aload_n (pc := 36) (dk dt_X7_init 18 rfl) rfl rfl ?_
  refine v_iload_n (pc := 37) (dk dt_X7_init 19 rfl) rfl rfl ?_
  obtain ⟨v27, h⟩ := h
  refine v_putI (pc := 38) (dk dt_X7_init 20 rfl) fl_X7_29 (Or.inr ⟨rfl, rfl⟩) v27 ?_
  generalize hG28 : (sfd G26 7 0 l0 l1) = G28
  replace h := h G28 hG28.symm
  exact v_vret (pc := 41) (dk dt_X7_init 21 rfl) rfl h
set_option maxRecDepth 20000 in
theorem i_X7_init {E : EE} {l0 l1 : Int} {G : Gt} {c s : Nat} {Q X : Int → Gt → Prop} (h : (0 ≤ l0 ∧ 1 ≤ c ∧ 3 ≤ s ∧ ∀ q4 : Int, gcl G q4 = 0 → (eb E : Int) ≤ q4 → ∀ G5 : Gt, G5 = (newo G q4 13) → 0 ≤ q4 ∧ Call E M_A_init [rv q4] G5 (c - 1) (s - 3) X (fun r7 G8 c9 s10 => gcl G8 l0 = 8 ∧ ∀ G12 : Gt, G12 = (sfd G8 7 1 l0 q4) → 1 ≤ c9 ∧ (60 : Int).toNat ≤ s10 ∧ ∀ q13 : Int, gcl G12 q13 = 0 → (eb E : Int) ≤ q13 → ∀ G16 : Gt, G16 = (newa G12 q13 15 60) → gcl G16 l0 = 8 ∧ ∀ G18 : Gt, G18 = (sfd G16 7 2 l0 q13) → 1 ≤ (c9 - 1) ∧ (60 : Int).toNat ≤ (s10 - (60 : Int).toNat) ∧ ∀ q19 : Int, gcl G18 q19 = 0 → (eb E : Int) ≤ q19 → ∀ G22 : Gt, G22 = (newa G18 q19 15 60) → gcl G22 l0 = 8 ∧ ∀ G24 : Gt, G24 = (sfd G22 7 3 l0 q19) → gcl G24 l0 = 8 ∧ ∀ G26 : Gt, G26 = (sfd G24 7 4 l0 0) → gcl G26 l0 = 8 ∧ ∀ G28 : Gt, G28 = (sfd G26 7 0 l0 l1) → Q 0 G28))) : Ok E M_X7_init [rv l0, iv l1] G c s Q X := Ok.intro (k := 0) rfl rfl (Nat.le_of_ble_eq_true rfl) rfl (b_X7_init_0 h)
set_option maxRecDepth 20000 in
theorem b_X7_countAhead_0 {E : EE} {l0 l1 : Int} {G : Gt} {c s : Nat} {Q X : Int → Gt → Prop} (h : (gcl G l0 = 8 ∧ gcl G (gfd G 7 1 l0) = 14 ∧ OkP E M_A_size [rv (gfd G 7 1 l0)] G (gfd G 13 2 (gfd G 7 1 l0)) ∧ V E M_X7_countAhead 8 [some (rv l0), some (iv l1), some (iv (gfd G 13 2 (gfd G 7 1 l0)))] [] G c s Q X)) : V E M_X7_countAhead 0 [some (rv l0), some (iv l1), none] [] G c s Q X := by
  refine v_aload_n (pc := 0) (dk dt_X7_countAhead 0 rfl) rfl rfl ?_
  obtain ⟨v1, h⟩ := h
  refine v_getR (pc := 1) (dk dt_X7_countAhead 1 rfl) fl_X7_12 v1 (fun _ => ?_)
  obtain ⟨v2, h⟩ := h
  obtain ⟨v3, h⟩ := h
  refine v_cvPI (c := 13) (v := (gfd G 13 2 (gfd G 7 1 l0))) (As := []) (stk := []) (pc := 4) (dk dt_X7_countAhead 2 rfl) ml_X7_32 rfl rfl (Nat.le_of_ble_eq_true rfl) rfl ⟨by decide, rfl⟩ v2 rfl v3 ?_
  refine v_istore_n (pc := 7) (ls' := [some (rv l0), some (iv l1), some (iv (gfd G 13 2 (gfd G 7 1 l0)))]) (dk dt_X7_countAhead 3 rfl) rfl (Nat.le_of_ble_eq_true rfl) rfl ?_
  exact h
set_option maxRecDepth 20000 in
theorem i_X7_countAhead {E : EE} {l0 l1 : Int} {G : Gt} {c s : Nat} {Q X : Int → Gt → Prop} (h : (gcl G l0 = 8 ∧ gcl G (gfd G 7 1 l0) = 14 ∧ OkP E M_A_size [rv (gfd G 7 1 l0)] G (gfd G 13 2 (gfd G 7 1 l0)) ∧ V E M_X7_countAhead 8 [some (rv l0), some (iv l1), some (iv (gfd G 13 2 (gfd G 7 1 l0)))] [] G c s Q X)) : Ok E M_X7_countAhead [rv l0, iv l1] G c s Q X := Ok.intro (k := 1) rfl rfl (Nat.le_of_ble_eq_true rfl) rfl (b_X7_countAhead_0 h)
set_option maxRecDepth 20000 in
theorem b_X7_countAhead_8 {E : EE} {l0 l1 l2 : Int} {G : Gt} {c s : Nat} {Q X : Int → Gt → Prop} (h : ((l2 ≤ 0 → Q l2 G) ∧ (0 < l2 → (gcl G l0 = 8 ∧ i32 (l2 - 1) ∧ gcl G (gfd G 7 1 l0) = 14 ∧ OkP E M_A_get [rv (gfd G 7 1 l0), iv (l2 - 1)] G (alAt G (gfd G 7 1 l0) (l2 - 1)) ∧ ((alAt G (gfd G 7 1 l0) (l2 - 1)) = -1 ∨ gcl G (alAt G (gfd G 7 1 l0) (l2 - 1)) = 6) ∧ gcl G (alAt G (gfd G 7 1 l0) (l2 - 1)) = 6 ∧ (((gfd G 5 1 (alAt G (gfd G 7 1 l0) (l2 - 1))) < l1 → Q l2 G) ∧ (l1 ≤ (gfd G 5 1 (alAt G (gfd G 7 1 l0) (l2 - 1))) → (i32 (l2 + (-1)) ∧ V E M_X7_countAhead 8 [some (rv l0), some (iv l1), some (iv (l2 + (-1)))] [] G c s Q X))))))) : V E M_X7_countAhead 8 [some (rv l0), some (iv l1), some (iv l2)] [] G c s Q X := by
  refine v_iload_n (pc := 8) (dk dt_X7_countAhead 4 rfl) rfl rfl ?_
  refine v_if_le (pc := 9) (tgt := 38) (dk dt_X7_countAhead 5 rfl) (by decide) (fun c1 => ?_) (fun c1 => ?_)
  · replace h := h.1 c1
    refine v_iload_n (pc := 38) (dk dt_X7_countAhead 18 rfl) rfl rfl ?_
    exact v_iret (pc := 39) (dk dt_X7_countAhead 19 rfl) rfl h
  · replace h := h.2 c1
    refine v_aload_n (pc := 12) (dk dt_X7_countAhead 6 rfl) rfl rfl ?_
    obtain ⟨v2, h⟩ := h
    refine v_getR (pc := 13) (dk dt_X7_countAhead 7 rfl) fl_X7_12 v2 (fun _ => ?_)
    refine v_iload_n (pc := 16) (dk dt_X7_countAhead 8 rfl) rfl rfl ?_
    refine v_iconst (pc := 17) (dk dt_X7_countAhead 9 rfl) ⟨by decide, by decide⟩ ?_
    obtain ⟨v3, h⟩ := h
    refine v_isub (pc := 18) (dk dt_X7_countAhead 10 rfl) v3 ?_
    obtain ⟨v4, h⟩ := h
    obtain ⟨v5, h⟩ := h
    refine v_cvPR (c := 13) (v := (alAt G (gfd G 7 1 l0) (l2 - 1))) (As := [iv (l2 - 1)]) (stk := []) (pc := 19) (dk dt_X7_countAhead 11 rfl) ml_X7_36 rfl rfl (Nat.le_of_ble_eq_true rfl) rfl ⟨by decide, rfl⟩ v4 rfl v5 ?_
    obtain ⟨v6, h⟩ := h
    refine v_cast (c := 5) (pc := 22) (dk dt_X7_countAhead 12 rfl) (by decide) cl_X7_40 v6 ?_
    obtain ⟨v7, h⟩ := h
    refine v_getI (pc := 25) (dk dt_X7_countAhead 13 rfl) fl_X7_42 v7 (fun _ => ?_)
    refine v_iload_n (pc := 28) (dk dt_X7_countAhead 14 rfl) rfl rfl ?_
    refine v_icmp_lt (pc := 29) (tgt := 38) (dk dt_X7_countAhead 15 rfl) (by decide) (fun c8 => ?_) (fun c8 => ?_)
    · replace h := h.1 c8
      refine v_iload_n (pc := 38) (dk dt_X7_countAhead 18 rfl) rfl rfl ?_
      exact v_iret (pc := 39) (dk dt_X7_countAhead 19 rfl) rfl h
    · replace h := h.2 c8
      obtain ⟨v9, h⟩ := h
      refine v_iinc (pc := 32) (ls' := [some (rv l0), some (iv l1), some (iv (l2 + (-1)))]) (dk dt_X7_countAhead 16 rfl) (Nat.le_of_ble_eq_true rfl) rfl v9 rfl ?_
      refine v_goto (pc := 35) (tgt := 8) (dk dt_X7_countAhead 17 rfl) (by decide) ?_
      exact h
set_option maxRecDepth 20000 in
theorem b_X7_show_0 {E : EE} {l0 l1 : Int} {G : Gt} {c s : Nat} {Q X : Int → Gt → Prop} (h : (gcl G l0 = 8 ∧ gcl G l1 = 6 ∧ gcl G l0 = 8 ∧ Call E M_X7_countAhead [rv l0, iv (gfd G 5 1 l1)] G c s X (fun r4 G5 c6 s7 => gcl G5 (gfd G 7 1 l0) = 14 ∧ Call E M_A_addAt [rv (gfd G 7 1 l0), iv r4, rv l1] G5 c6 s7 X (fun r9 G10 c11 s12 => Q 0 G10)))) : V E M_X7_show 0 [some (rv l0), some (rv l1)] [] G c s Q X := by
  refine v_aload_n (pc := 0) (dk dt_X7_show 0 rfl) rfl rfl ?_
  obtain ⟨v1, h⟩ := h
  refine v_getR (pc := 1) (dk dt_X7_show 1 rfl) fl_X7_12 v1 (fun _ => ?_)
  refine v_aload_n (pc := 4) (dk dt_X7_show 2 rfl) rfl rfl ?_
  refine v_aload_n (pc := 5) (dk dt_X7_show 3 rfl) rfl rfl ?_
  obtain ⟨v2, h⟩ := h
  refine v_getI (pc := 6) (dk dt_X7_show 4 rfl) fl_X7_42 v2 (fun _ => ?_)
  obtain ⟨v3, h⟩ := h
  refine v_cvI (c := 7) (As := [iv (gfd G 5 1 l1)]) (stk := [rv (gfd G 7 1 l0)]) (pc := 9) (dk dt_X7_show 5 rfl) ml_X7_45 rfl rfl (Nat.le_of_ble_eq_true rfl) rfl ⟨by decide, rfl⟩ v3 rfl (Call.mono h (fun r4 G5 c6 s7 h => ?_))
  refine v_aload_n (pc := 12) (dk dt_X7_show 6 rfl) rfl rfl ?_
  obtain ⟨v8, h⟩ := h
  refine v_cvV (c := 13) (As := [iv r4, rv l1]) (stk := []) (pc := 13) (dk dt_X7_show 7 rfl) ml_X7_49 rfl rfl (Nat.le_of_ble_eq_true rfl) rfl ⟨by decide, rfl⟩ v8 rfl (Call.mono h (fun r9 G10 c11 s12 h => ?_))
  exact v_vret (pc := 16) (dk dt_X7_show 8 rfl) rfl h
set_option maxRecDepth 20000 in
theorem i_X7_show {E : EE} {l0 l1 : Int} {G : Gt} {c s : Nat} {Q X : Int → Gt → Prop} (h : (gcl G l0 = 8 ∧ gcl G l1 = 6 ∧ gcl G l0 = 8 ∧ Call E M_X7_countAhead [rv l0, iv (gfd G 5 1 l1)] G c s X (fun r4 G5 c6 s7 => gcl G5 (gfd G 7 1 l0) = 14 ∧ Call E M_A_addAt [rv (gfd G 7 1 l0), iv r4, rv l1] G5 c6 s7 X (fun r9 G10 c11 s12 => Q 0 G10)))) : Ok E M_X7_show [rv l0, rv l1] G c s Q X := Ok.intro (k := 0) rfl rfl (Nat.le_of_ble_eq_true rfl) rfl (b_X7_show_0 h)
set_option maxRecDepth 20000 in
theorem b_X7_forget_0 {E : EE} {l0 l1 : Int} {G : Gt} {c s : Nat} {Q X : Int → Gt → Prop} (h : (gcl G l1 = 6 ∧ gcl G l0 = 8 ∧ Call E M_X7_countAhead [rv l0, iv (gfd G 5 1 l1)] G c s X (fun r3 G4 c5 s6 => gcl G4 l0 = 8 ∧ gcl G4 (gfd G4 7 1 l0) = 14 ∧ OkP E M_A_size [rv (gfd G4 7 1 l0)] G4 (gfd G4 13 2 (gfd G4 7 1 l0)) ∧ (((gfd G4 13 2 (gfd G4 7 1 l0)) ≤ r3 → Q 0 G4) ∧ (r3 < (gfd G4 13 2 (gfd G4 7 1 l0)) → (gcl G4 l0 = 8 ∧ gcl G4 (gfd G4 7 1 l0) = 14 ∧ OkP E M_A_get [rv (gfd G4 7 1 l0), iv r3] G4 (alAt G4 (gfd G4 7 1 l0) r3) ∧ (((alAt G4 (gfd G4 7 1 l0) r3) ≠ l1 → Q 0 G4) ∧ ((alAt G4 (gfd G4 7 1 l0) r3) = l1 → (gcl G4 l0 = 8 ∧ gcl G4 (gfd G4 7 1 l0) = 14 ∧ Call E M_A_remove [rv (gfd G4 7 1 l0), iv r3] G4 c5 s6 X (fun r17 G18 c19 s20 => Q 0 G18)))))))))) : V E M_X7_forget 0 [some (rv l0), some (rv l1), none] [] G c s Q X := by
  refine v_aload_n (pc := 0) (dk dt_X7_forget 0 rfl) rfl rfl ?_
  refine v_aload_n (pc := 1) (dk dt_X7_forget 1 rfl) rfl rfl ?_
  obtain ⟨v1, h⟩ := h
  refine v_getI (pc := 2) (dk dt_X7_forget 2 rfl) fl_X7_42 v1 (fun _ => ?_)
  obtain ⟨v2, h⟩ := h
  refine v_cvI (c := 7) (As := [iv (gfd G 5 1 l1)]) (stk := []) (pc := 5) (dk dt_X7_forget 3 rfl) ml_X7_45 rfl rfl (Nat.le_of_ble_eq_true rfl) rfl ⟨by decide, rfl⟩ v2 rfl (Call.mono h (fun r3 G4 c5 s6 h => ?_))
  refine v_istore_n (pc := 8) (ls' := [some (rv l0), some (rv l1), some (iv r3)]) (dk dt_X7_forget 4 rfl) rfl (Nat.le_of_ble_eq_true rfl) rfl ?_
  refine v_iload_n (pc := 9) (dk dt_X7_forget 5 rfl) rfl rfl ?_
  refine v_aload_n (pc := 10) (dk dt_X7_forget 6 rfl) rfl rfl ?_
  obtain ⟨v7, h⟩ := h
  refine v_getR (pc := 11) (dk dt_X7_forget 7 rfl) fl_X7_12 v7 (fun _ => ?_)
  obtain ⟨v8, h⟩ := h
  obtain ⟨v9, h⟩ := h
  refine v_cvPI (c := 13) (v := (gfd G4 13 2 (gfd G4 7 1 l0))) (As := []) (stk := [iv r3]) (pc := 14) (dk dt_X7_forget 8 rfl) ml_X7_32 rfl rfl (Nat.le_of_ble_eq_true rfl) rfl ⟨by decide, rfl⟩ v8 rfl v9 ?_
  refine v_icmp_ge (pc := 17) (tgt := 41) (dk dt_X7_forget 9 rfl) (by decide) (fun c10 => ?_) (fun c10 => ?_)
  · replace h := h.1 c10
    exact v_vret (pc := 41) (dk dt_X7_forget 21 rfl) rfl h
  · replace h := h.2 c10
    refine v_aload_n (pc := 20) (dk dt_X7_forget 10 rfl) rfl rfl ?_
    obtain ⟨v11, h⟩ := h
    refine v_getR (pc := 21) (dk dt_X7_forget 11 rfl) fl_X7_12 v11 (fun _ => ?_)
    refine v_iload_n (pc := 24) (dk dt_X7_forget 12 rfl) rfl rfl ?_
    obtain ⟨v12, h⟩ := h
    obtain ⟨v13, h⟩ := h
    refine v_cvPR (c := 13) (v := (alAt G4 (gfd G4 7 1 l0) r3)) (As := [iv r3]) (stk := []) (pc := 25) (dk dt_X7_forget 13 rfl) ml_X7_36 rfl rfl (Nat.le_of_ble_eq_true rfl) rfl ⟨by decide, rfl⟩ v12 rfl v13 ?_
    refine v_aload_n (pc := 28) (dk dt_X7_forget 14 rfl) rfl rfl ?_
    refine v_acmp_ne (pc := 29) (tgt := 41) (dk dt_X7_forget 15 rfl) (by decide) (fun c14 => ?_) (fun c14 => ?_)
    · replace h := h.1 c14
      exact v_vret (pc := 41) (dk dt_X7_forget 21 rfl) rfl h
    · replace h := h.2 c14
      refine v_aload_n (pc := 32) (dk dt_X7_forget 16 rfl) rfl rfl ?_
      obtain ⟨v15, h⟩ := h
      refine v_getR (pc := 33) (dk dt_X7_forget 17 rfl) fl_X7_12 v15 (fun _ => ?_)
      refine v_iload_n (pc := 36) (dk dt_X7_forget 18 rfl) rfl rfl ?_
      obtain ⟨v16, h⟩ := h
      refine v_cvR (c := 13) (As := [iv r3]) (stk := []) (pc := 37) (dk dt_X7_forget 19 rfl) ml_X7_53 rfl rfl (Nat.le_of_ble_eq_true rfl) rfl ⟨by decide, rfl⟩ v16 rfl (Call.mono h (fun r17 G18 c19 s20 h => ?_))
      refine v_pop (pc := 40) (dk dt_X7_forget 20 rfl) (by intro h9; cases h9) ?_
      exact v_vret (pc := 41) (dk dt_X7_forget 21 rfl) rfl h
set_option maxRecDepth 20000 in
theorem i_X7_forget {E : EE} {l0 l1 : Int} {G : Gt} {c s : Nat} {Q X : Int → Gt → Prop} (h : (gcl G l1 = 6 ∧ gcl G l0 = 8 ∧ Call E M_X7_countAhead [rv l0, iv (gfd G 5 1 l1)] G c s X (fun r3 G4 c5 s6 => gcl G4 l0 = 8 ∧ gcl G4 (gfd G4 7 1 l0) = 14 ∧ OkP E M_A_size [rv (gfd G4 7 1 l0)] G4 (gfd G4 13 2 (gfd G4 7 1 l0)) ∧ (((gfd G4 13 2 (gfd G4 7 1 l0)) ≤ r3 → Q 0 G4) ∧ (r3 < (gfd G4 13 2 (gfd G4 7 1 l0)) → (gcl G4 l0 = 8 ∧ gcl G4 (gfd G4 7 1 l0) = 14 ∧ OkP E M_A_get [rv (gfd G4 7 1 l0), iv r3] G4 (alAt G4 (gfd G4 7 1 l0) r3) ∧ (((alAt G4 (gfd G4 7 1 l0) r3) ≠ l1 → Q 0 G4) ∧ ((alAt G4 (gfd G4 7 1 l0) r3) = l1 → (gcl G4 l0 = 8 ∧ gcl G4 (gfd G4 7 1 l0) = 14 ∧ Call E M_A_remove [rv (gfd G4 7 1 l0), iv r3] G4 c5 s6 X (fun r17 G18 c19 s20 => Q 0 G18)))))))))) : Ok E M_X7_forget [rv l0, rv l1] G c s Q X := Ok.intro (k := 1) rfl rfl (Nat.le_of_ble_eq_true rfl) rfl (b_X7_forget_0 h)
set_option maxRecDepth 20000 in
theorem b_X7_forgetAheadOf_0 {E : EE} {l0 l1 : Int} {G : Gt} {c s : Nat} {Q X : Int → Gt → Prop} (h : (gcl G l0 = 8 ∧ Call E M_X7_countAhead [rv l0, iv l1] G c s X (fun r2 G3 c4 s5 => i32 (r2 - 1) ∧ V E M_X7_forgetAheadOf 8 [some (rv l0), none, some (iv (r2 - 1))] [] G3 c4 s5 Q X))) : V E M_X7_forgetAheadOf 0 [some (rv l0), some (iv l1), none] [] G c s Q X := by
  refine v_aload_n (pc := 0) (dk dt_X7_forgetAheadOf 0 rfl) rfl rfl ?_
  refine v_iload_n (pc := 1) (dk dt_X7_forgetAheadOf 1 rfl) rfl rfl ?_
  obtain ⟨v1, h⟩ := h
  refine v_cvI (c := 7) (As := [iv l1]) (stk := []) (pc := 2) (dk dt_X7_forgetAheadOf 2 rfl) ml_X7_45 rfl rfl (Nat.le_of_ble_eq_true rfl) rfl ⟨by decide, rfl⟩ v1 rfl (Call.mono h (fun r2 G3 c4 s5 h => ?_))
  refine v_iconst (pc := 5) (dk dt_X7_forgetAheadOf 3 rfl) ⟨by decide, by decide⟩ ?_
  obtain ⟨v6, h⟩ := h
  refine v_isub (pc := 6) (dk dt_X7_forgetAheadOf 4 rfl) v6 ?_
  refine v_istore_n (pc := 7) (ls' := [some (rv l0), some (iv l1), some (iv (r2 - 1))]) (dk dt_X7_forgetAheadOf 5 rfl) rfl (Nat.le_of_ble_eq_true rfl) rfl ?_
  exact v_less2 (ls' := [some (rv l0), none, some (iv (r2 - 1))]) ⟨rfl, rfl, trivial⟩ h
set_option maxRecDepth 20000 in
theorem i_X7_forgetAheadOf {E : EE} {l0 l1 : Int} {G : Gt} {c s : Nat} {Q X : Int → Gt → Prop} (h : (gcl G l0 = 8 ∧ Call E M_X7_countAhead [rv l0, iv l1] G c s X (fun r2 G3 c4 s5 => i32 (r2 - 1) ∧ V E M_X7_forgetAheadOf 8 [some (rv l0), none, some (iv (r2 - 1))] [] G3 c4 s5 Q X))) : Ok E M_X7_forgetAheadOf [rv l0, iv l1] G c s Q X := Ok.intro (k := 1) rfl rfl (Nat.le_of_ble_eq_true rfl) rfl (b_X7_forgetAheadOf_0 h)
set_option maxRecDepth 20000 in
theorem b_X7_forgetAheadOf_8 {E : EE} {l0 l2 : Int} {G : Gt} {c s : Nat} {Q X : Int → Gt → Prop} (h : ((l2 < 0 → Q 0 G) ∧ (0 ≤ l2 → (gcl G l0 = 8 ∧ gcl G (gfd G 7 1 l0) = 14 ∧ Call E M_A_remove [rv (gfd G 7 1 l0), iv l2] G c s X (fun r4 G5 c6 s7 => i32 (l2 + (-1)) ∧ V E M_X7_forgetAheadOf 8 [some (rv l0), none, some (iv (l2 + (-1)))] [] G5 c6 s7 Q X))))) : V E M_X7_forgetAheadOf 8 [some (rv l0), none, some (iv l2)] [] G c s Q X := by
  refine v_iload_n (pc := 8) (dk dt_X7_forgetAheadOf 6 rfl) rfl rfl ?_
  refine v_if_lt (pc := 9) (tgt := 27) (dk dt_X7_forgetAheadOf 7 rfl) (by decide) (fun c1 => ?_) (fun c1 => ?_)
  · replace h := h.1 c1
    exact v_vret (pc := 27) (dk dt_X7_forgetAheadOf 15 rfl) rfl h
  · replace h := h.2 c1
    refine v_aload_n (pc := 12) (dk dt_X7_forgetAheadOf 8 rfl) rfl rfl ?_
    obtain ⟨v2, h⟩ := h
    refine v_getR (pc := 13) (dk dt_X7_forgetAheadOf 9 rfl) fl_X7_12 v2 (fun _ => ?_)
    refine v_iload_n (pc := 16) (dk dt_X7_forgetAheadOf 10 rfl) rfl rfl ?_
    obtain ⟨v3, h⟩ := h
    refine v_cvR (c := 13) (As := [iv l2]) (stk := []) (pc := 17) (dk dt_X7_forgetAheadOf 11 rfl) ml_X7_53 rfl rfl (Nat.le_of_ble_eq_true rfl) rfl ⟨by decide, rfl⟩ v3 rfl (Call.mono h (fun r4 G5 c6 s7 h => ?_))
    refine v_pop (pc := 20) (dk dt_X7_forgetAheadOf 12 rfl) (by intro h9; cases h9) ?_
    obtain ⟨v8, h⟩ := h
    refine v_iinc (pc := 21) (ls' := [some (rv l0), none, some (iv (l2 + (-1)))]) (dk dt_X7_forgetAheadOf 13 rfl) (Nat.le_of_ble_eq_true rfl) rfl v8 rfl ?_
    refine v_goto (pc := 24) (tgt := 8) (dk dt_X7_forgetAheadOf 14 rfl) (by decide) ?_
    exact h
set_option maxRecDepth 20000 in
theorem b_X7_judge_0 {E : EE} {l0 l1 l2 : Int} {G : Gt} {c s : Nat} {Q X : Int → Gt → Prop} (h : (gcl G l0 = 8 ∧ Call E M_X7_countAhead [rv l0, iv l1] G c s X (fun r2 G3 c4 s5 => gcl G3 l0 = 8 ∧ gcl G3 (gfd G3 7 1 l0) = 14 ∧ OkP E M_A_size [rv (gfd G3 7 1 l0)] G3 (gfd G3 13 2 (gfd G3 7 1 l0)) ∧ ∀ J9 : Prop, ((gcl G3 l0 = 8 ∧ gcl G3 (gfd G3 7 1 l0) = 14 ∧ OkP E M_A_size [rv (gfd G3 7 1 l0)] G3 (gfd G3 13 2 (gfd G3 7 1 l0)) ∧ i32 ((gfd G3 13 2 (gfd G3 7 1 l0)) - 1) ∧ ((((gfd G3 13 2 (gfd G3 7 1 l0)) - 1) < 0 → Q 0 G3) ∧ (0 ≤ ((gfd G3 13 2 (gfd G3 7 1 l0)) - 1) → (gcl G3 l0 = 8 ∧ gcl G3 (gfd G3 7 1 l0) = 14 ∧ OkP E M_A_get [rv (gfd G3 7 1 l0), iv ((gfd G3 13 2 (gfd G3 7 1 l0)) - 1)] G3 (alAt G3 (gfd G3 7 1 l0) ((gfd G3 13 2 (gfd G3 7 1 l0)) - 1)) ∧ ((alAt G3 (gfd G3 7 1 l0) ((gfd G3 13 2 (gfd G3 7 1 l0)) - 1)) = -1 ∨ gcl G3 (alAt G3 (gfd G3 7 1 l0) ((gfd G3 13 2 (gfd G3 7 1 l0)) - 1)) = 6) ∧ gcl G3 (alAt G3 (gfd G3 7 1 l0) ((gfd G3 13 2 (gfd G3 7 1 l0)) - 1)) = 6 ∧ i32 ((gfd G3 5 1 (alAt G3 (gfd G3 7 1 l0) ((gfd G3 13 2 (gfd G3 7 1 l0)) - 1))) - l1) ∧ ((((gfd G3 5 1 (alAt G3 (gfd G3 7 1 l0) ((gfd G3 13 2 (gfd G3 7 1 l0)) - 1))) - l1) ≤ 100 → Q 0 G3) ∧ (100 < ((gfd G3 5 1 (alAt G3 (gfd G3 7 1 l0) ((gfd G3 13 2 (gfd G3 7 1 l0)) - 1))) - l1) → Q 4 G3)))))) → J9) → (((gfd G3 13 2 (gfd G3 7 1 l0)) ≤ r2 → J9) ∧ (r2 < (gfd G3 13 2 (gfd G3 7 1 l0)) → (gcl G3 l0 = 8 ∧ gcl G3 (gfd G3 7 1 l0) = 14 ∧ OkP E M_A_get [rv (gfd G3 7 1 l0), iv r2] G3 (alAt G3 (gfd G3 7 1 l0) r2) ∧ ((alAt G3 (gfd G3 7 1 l0) r2) = -1 ∨ gcl G3 (alAt G3 (gfd G3 7 1 l0) r2) = 6) ∧ gcl G3 (alAt G3 (gfd G3 7 1 l0) r2) = 6 ∧ (((gfd G3 5 1 (alAt G3 (gfd G3 7 1 l0) r2)) ≠ l1 → J9) ∧ ((gfd G3 5 1 (alAt G3 (gfd G3 7 1 l0) r2)) = l1 → (gcl G3 l0 = 8 ∧ gcl G3 (gfd G3 7 1 l0) = 14 ∧ OkP E M_A_get [rv (gfd G3 7 1 l0), iv r2] G3 (alAt G3 (gfd G3 7 1 l0) r2) ∧ ((alAt G3 (gfd G3 7 1 l0) r2) = -1 ∨ gcl G3 (alAt G3 (gfd G3 7 1 l0) r2) = 6) ∧ gcl G3 (alAt G3 (gfd G3 7 1 l0) r2) = 6 ∧ Q (if (gfd G3 5 2 (alAt G3 (gfd G3 7 1 l0) r2)) = l2 then (2 : Int) else 3) G3))))))))) : V E M_X7_judge 0 [some (rv l0), some (iv l1), some (iv l2), none, none] [] G c s Q X := by
  refine v_aload_n (pc := 0) (dk dt_X7_judge 0 rfl) rfl rfl ?_
  refine v_iload_n (pc := 1) (dk dt_X7_judge 1 rfl) rfl rfl ?_
  obtain ⟨v1, h⟩ := h
  refine v_cvI (c := 7) (As := [iv l1]) (stk := []) (pc := 2) (dk dt_X7_judge 2 rfl) ml_X7_45 rfl rfl (Nat.le_of_ble_eq_true rfl) rfl ⟨by decide, rfl⟩ v1 rfl (Call.mono h (fun r2 G3 c4 s5 h => ?_))
  refine v_istore_n (pc := 5) (ls' := [some (rv l0), some (iv l1), some (iv l2), some (iv r2), none]) (dk dt_X7_judge 3 rfl) rfl (Nat.le_of_ble_eq_true rfl) rfl ?_
  refine v_iload_n (pc := 6) (dk dt_X7_judge 4 rfl) rfl rfl ?_
  refine v_aload_n (pc := 7) (dk dt_X7_judge 5 rfl) rfl rfl ?_
  obtain ⟨v6, h⟩ := h
  refine v_getR (pc := 8) (dk dt_X7_judge 6 rfl) fl_X7_12 v6 (fun _ => ?_)
  obtain ⟨v7, h⟩ := h
  obtain ⟨v8, h⟩ := h
  refine v_cvPI (c := 13) (v := (gfd G3 13 2 (gfd G3 7 1 l0))) (As := []) (stk := [iv r2]) (pc := 11) (dk dt_X7_judge 7 rfl) ml_X7_32 rfl rfl (Nat.le_of_ble_eq_true rfl) rfl ⟨by decide, rfl⟩ v7 rfl v8 ?_
  obtain ⟨J9, dJ9⟩ : ∃ J9 : Prop, J9 = V E M_X7_judge 59 [some (rv l0), some (iv l1), none, none, none] [] G3 c4 s5 Q X := ⟨_, rfl⟩
  have hJ9 : (gcl G3 l0 = 8 ∧ gcl G3 (gfd G3 7 1 l0) = 14 ∧ OkP E M_A_size [rv (gfd G3 7 1 l0)] G3 (gfd G3 13 2 (gfd G3 7 1 l0)) ∧ i32 ((gfd G3 13 2 (gfd G3 7 1 l0)) - 1) ∧ ((((gfd G3 13 2 (gfd G3 7 1 l0)) - 1) < 0 → Q 0 G3) ∧ (0 ≤ ((gfd G3 13 2 (gfd G3 7 1 l0)) - 1) → (gcl G3 l0 = 8 ∧ gcl G3 (gfd G3 7 1 l0) = 14 ∧ OkP E M_A_get [rv (gfd G3 7 1 l0), iv ((gfd G3 13 2 (gfd G3 7 1 l0)) - 1)] G3 (alAt G3 (gfd G3 7 1 l0) ((gfd G3 13 2 (gfd G3 7 1 l0)) - 1)) ∧ ((alAt G3 (gfd G3 7 1 l0) ((gfd G3 13 2 (gfd G3 7 1 l0)) - 1)) = -1 ∨ gcl G3 (alAt G3 (gfd G3 7 1 l0) ((gfd G3 13 2 (gfd G3 7 1 l0)) - 1)) = 6) ∧ gcl G3 (alAt G3 (gfd G3 7 1 l0) ((gfd G3 13 2 (gfd G3 7 1 l0)) - 1)) = 6 ∧ i32 ((gfd G3 5 1 (alAt G3 (gfd G3 7 1 l0) ((gfd G3 13 2 (gfd G3 7 1 l0)) - 1))) - l1) ∧ ((((gfd G3 5 1 (alAt G3 (gfd G3 7 1 l0) ((gfd G3 13 2 (gfd G3 7 1 l0)) - 1))) - l1) ≤ 100 → Q 0 G3) ∧ (100 < ((gfd G3 5 1 (alAt G3 (gfd G3 7 1 l0) ((gfd G3 13 2 (gfd G3 7 1 l0)) - 1))) - l1) → Q 4 G3)))))) → J9 := by
    intro h
    rw [dJ9]
    refine v_aload_n (pc := 59) (dk dt_X7_judge 29 rfl) rfl rfl ?_
    obtain ⟨v10, h⟩ := h
    refine v_getR (pc := 60) (dk dt_X7_judge 30 rfl) fl_X7_12 v10 (fun _ => ?_)
    obtain ⟨v11, h⟩ := h
    obtain ⟨v12, h⟩ := h
    refine v_cvPI (c := 13) (v := (gfd G3 13 2 (gfd G3 7 1 l0))) (As := []) (stk := []) (pc := 63) (dk dt_X7_judge 31 rfl) ml_X7_32 rfl rfl (Nat.le_of_ble_eq_true rfl) rfl ⟨by decide, rfl⟩ v11 rfl v12 ?_
    refine v_iconst (pc := 66) (dk dt_X7_judge 32 rfl) ⟨by decide, by decide⟩ ?_
    obtain ⟨v13, h⟩ := h
    refine v_isub (pc := 67) (dk dt_X7_judge 33 rfl) v13 ?_
    refine v_istore (pc := 68) (ls' := [some (rv l0), some (iv l1), none, none, some (iv ((gfd G3 13 2 (gfd G3 7 1 l0)) - 1))]) (dk dt_X7_judge 34 rfl) (Nat.le_of_ble_eq_true rfl) rfl ?_
    refine v_iload (pc := 70) (dk dt_X7_judge 35 rfl) rfl ?_
    refine v_if_lt (pc := 72) (tgt := 99) (dk dt_X7_judge 36 rfl) (by decide) (fun c14 => ?_) (fun c14 => ?_)
    · replace h := h.1 c14
      refine v_iconst (pc := 99) (dk dt_X7_judge_1 9 rfl) ⟨by decide, by decide⟩ ?_
      exact v_iret (pc := 100) (dk dt_X7_judge_1 10 rfl) rfl h
    · replace h := h.2 c14
      refine v_aload_n (pc := 75) (dk dt_X7_judge 37 rfl) rfl rfl ?_
      obtain ⟨v15, h⟩ := h
      refine v_getR (pc := 76) (dk dt_X7_judge 38 rfl) fl_X7_12 v15 (fun _ => ?_)
      refine v_iload (pc := 79) (dk dt_X7_judge 39 rfl) rfl ?_
      obtain ⟨v16, h⟩ := h
      obtain ⟨v17, h⟩ := h
      refine v_cvPR (c := 13) (v := (alAt G3 (gfd G3 7 1 l0) ((gfd G3 13 2 (gfd G3 7 1 l0)) - 1))) (As := [iv ((gfd G3 13 2 (gfd G3 7 1 l0)) - 1)]) (stk := []) (pc := 81) (dk dt_X7_judge_1 0 rfl) ml_X7_36 rfl rfl (Nat.le_of_ble_eq_true rfl) rfl ⟨by decide, rfl⟩ v16 rfl v17 ?_
      obtain ⟨v18, h⟩ := h
      refine v_cast (c := 5) (pc := 84) (dk dt_X7_judge_1 1 rfl) (by decide) cl_X7_40 v18 ?_
      obtain ⟨v19, h⟩ := h
      refine v_getI (pc := 87) (dk dt_X7_judge_1 2 rfl) fl_X7_42 v19 (fun _ => ?_)
      refine v_iload_n (pc := 90) (dk dt_X7_judge_1 3 rfl) rfl rfl ?_
      obtain ⟨v20, h⟩ := h
      refine v_isub (pc := 91) (dk dt_X7_judge_1 4 rfl) v20 ?_
      refine v_bipush (pc := 92) (dk dt_X7_judge_1 5 rfl) (by decide) ⟨by decide, by decide⟩ ?_
      refine v_icmp_le (pc := 94) (tgt := 99) (dk dt_X7_judge_1 6 rfl) (by decide) (fun c21 => ?_) (fun c21 => ?_)
      · replace h := h.1 c21
        refine v_iconst (pc := 99) (dk dt_X7_judge_1 9 rfl) ⟨by decide, by decide⟩ ?_
        exact v_iret (pc := 100) (dk dt_X7_judge_1 10 rfl) rfl h
      · replace h := h.2 c21
        refine v_iconst (pc := 97) (dk dt_X7_judge_1 7 rfl) ⟨by decide, by decide⟩ ?_
        exact v_iret (pc := 98) (dk dt_X7_judge_1 8 rfl) rfl h
  replace h := h _ hJ9
  refine v_icmp_ge (pc := 14) (tgt := 59) (dk dt_X7_judge 8 rfl) (by decide) (fun c22 => ?_) (fun c22 => ?_)
  · replace h := h.1 c22
    rw [dJ9] at h
    exact v_less2 (ls' := [some (rv l0), some (iv l1), none, none, none]) ⟨rfl, rfl, trivial⟩ h
  · replace h := h.2 c22
    refine v_aload_n (pc := 17) (dk dt_X7_judge 9 rfl) rfl rfl ?_
    obtain ⟨v23, h⟩ := h
    refine v_getR (pc := 18) (dk dt_X7_judge 10 rfl) fl_X7_12 v23 (fun _ => ?_)
    refine v_iload_n (pc := 21) (dk dt_X7_judge 11 rfl) rfl rfl ?_
    obtain ⟨v24, h⟩ := h
    obtain ⟨v25, h⟩ := h
    refine v_cvPR (c := 13) (v := (alAt G3 (gfd G3 7 1 l0) r2)) (As := [iv r2]) (stk := []) (pc := 22) (dk dt_X7_judge 12 rfl) ml_X7_36 rfl rfl (Nat.le_of_ble_eq_true rfl) rfl ⟨by decide, rfl⟩ v24 rfl v25 ?_
    obtain ⟨v26, h⟩ := h
    refine v_cast (c := 5) (pc := 25) (dk dt_X7_judge 13 rfl) (by decide) cl_X7_40 v26 ?_
    obtain ⟨v27, h⟩ := h
    refine v_getI (pc := 28) (dk dt_X7_judge 14 rfl) fl_X7_42 v27 (fun _ => ?_)
    refine v_iload_n (pc := 31) (dk dt_X7_judge 15 rfl) rfl rfl ?_
    refine v_icmp_ne (pc := 32) (tgt := 59) (dk dt_X7_judge 16 rfl) (by decide) (fun c28 => ?_) (fun c28 => ?_)
    · replace h := h.1 c28
      rw [dJ9] at h
      exact v_less2 (ls' := [some (rv l0), some (iv l1), none, none, none]) ⟨rfl, rfl, trivial⟩ h
    · replace h := h.2 c28
      refine v_aload_n (pc := 35) (dk dt_X7_judge 17 rfl) rfl rfl ?_
      obtain ⟨v29, h⟩ := h
      refine v_getR (pc := 36) (dk dt_X7_judge 18 rfl) fl_X7_12 v29 (fun _ => ?_)
      refine v_iload_n (pc := 39) (dk dt_X7_judge 19 rfl) rfl rfl ?_
      obtain ⟨v30, h⟩ := h
      obtain ⟨v31, h⟩ := h
      refine v_cvPR (c := 13) (v := (alAt G3 (gfd G3 7 1 l0) r2)) (As := [iv r2]) (stk := []) (pc := 40) (dk dt_X7_judge 20 rfl) ml_X7_36 rfl rfl (Nat.le_of_ble_eq_true rfl) rfl ⟨by decide, rfl⟩ v30 rfl v31 ?_
      obtain ⟨v32, h⟩ := h
      refine v_cast (c := 5) (pc := 43) (dk dt_X7_judge 21 rfl) (by decide) cl_X7_40 v32 ?_
      obtain ⟨v33, h⟩ := h
      refine v_getI (pc := 46) (dk dt_X7_judge 22 rfl) fl_X7_56 v33 (fun _ => ?_)
      refine v_iload_n (pc := 49) (dk dt_X7_judge 23 rfl) rfl rfl ?_
      suffices k35 : V E M_X7_judge 58 [none, none, none, none, none] [iv (if (gfd G3 5 2 (alAt G3 (gfd G3 7 1 l0) r2)) = l2 then (2 : Int) else 3)] G3 c4 s5 Q X by
        refine v_icmp_ne (pc := 50) (tgt := 57) (dk dt_X7_judge 24 rfl) (by decide) (fun c34 => ?_) (fun c34 => ?_)
        · refine v_iconst (pc := 57) (dk dt_X7_judge 27 rfl) ⟨by decide, by decide⟩ ?_
          exact v_less2 (ls' := [none, none, none, none, none]) trivial (by have hk9 := k35; try simp only [if_neg c34] at hk9 ⊢; exact hk9)
        · refine v_iconst (pc := 53) (dk dt_X7_judge 25 rfl) ⟨by decide, by decide⟩ ?_
          refine v_goto (pc := 54) (tgt := 58) (dk dt_X7_judge 26 rfl) (by decide) ?_
          exact v_less2 (ls' := [none, none, none, none, none]) trivial (by have hk9 := k35; try simp only [if_pos c34] at hk9 ⊢; exact hk9)
      exact v_iret (pc := 58) (dk dt_X7_judge 28 rfl) rfl h
set_option maxRecDepth 20000 in
theorem i_X7_judge {E : EE} {l0 l1 l2 : Int} {G : Gt} {c s : Nat} {Q X : Int → Gt → Prop} (h : (gcl G l0 = 8 ∧ Call E M_X7_countAhead [rv l0, iv l1] G c s X (fun r2 G3 c4 s5 => gcl G3 l0 = 8 ∧ gcl G3 (gfd G3 7 1 l0) = 14 ∧ OkP E M_A_size [rv (gfd G3 7 1 l0)] G3 (gfd G3 13 2 (gfd G3 7 1 l0)) ∧ ∀ J9 : Prop, ((gcl G3 l0 = 8 ∧ gcl G3 (gfd G3 7 1 l0) = 14 ∧ OkP E M_A_size [rv (gfd G3 7 1 l0)] G3 (gfd G3 13 2 (gfd G3 7 1 l0)) ∧ i32 ((gfd G3 13 2 (gfd G3 7 1 l0)) - 1) ∧ ((((gfd G3 13 2 (gfd G3 7 1 l0)) - 1) < 0 → Q 0 G3) ∧ (0 ≤ ((gfd G3 13 2 (gfd G3 7 1 l0)) - 1) → (gcl G3 l0 = 8 ∧ gcl G3 (gfd G3 7 1 l0) = 14 ∧ OkP E M_A_get [rv (gfd G3 7 1 l0), iv ((gfd G3 13 2 (gfd G3 7 1 l0)) - 1)] G3 (alAt G3 (gfd G3 7 1 l0) ((gfd G3 13 2 (gfd G3 7 1 l0)) - 1)) ∧ ((alAt G3 (gfd G3 7 1 l0) ((gfd G3 13 2 (gfd G3 7 1 l0)) - 1)) = -1 ∨ gcl G3 (alAt G3 (gfd G3 7 1 l0) ((gfd G3 13 2 (gfd G3 7 1 l0)) - 1)) = 6) ∧ gcl G3 (alAt G3 (gfd G3 7 1 l0) ((gfd G3 13 2 (gfd G3 7 1 l0)) - 1)) = 6 ∧ i32 ((gfd G3 5 1 (alAt G3 (gfd G3 7 1 l0) ((gfd G3 13 2 (gfd G3 7 1 l0)) - 1))) - l1) ∧ ((((gfd G3 5 1 (alAt G3 (gfd G3 7 1 l0) ((gfd G3 13 2 (gfd G3 7 1 l0)) - 1))) - l1) ≤ 100 → Q 0 G3) ∧ (100 < ((gfd G3 5 1 (alAt G3 (gfd G3 7 1 l0) ((gfd G3 13 2 (gfd G3 7 1 l0)) - 1))) - l1) → Q 4 G3)))))) → J9) → (((gfd G3 13 2 (gfd G3 7 1 l0)) ≤ r2 → J9) ∧ (r2 < (gfd G3 13 2 (gfd G3 7 1 l0)) → (gcl G3 l0 = 8 ∧ gcl G3 (gfd G3 7 1 l0) = 14 ∧ OkP E M_A_get [rv (gfd G3 7 1 l0), iv r2] G3 (alAt G3 (gfd G3 7 1 l0) r2) ∧ ((alAt G3 (gfd G3 7 1 l0) r2) = -1 ∨ gcl G3 (alAt G3 (gfd G3 7 1 l0) r2) = 6) ∧ gcl G3 (alAt G3 (gfd G3 7 1 l0) r2) = 6 ∧ (((gfd G3 5 1 (alAt G3 (gfd G3 7 1 l0) r2)) ≠ l1 → J9) ∧ ((gfd G3 5 1 (alAt G3 (gfd G3 7 1 l0) r2)) = l1 → (gcl G3 l0 = 8 ∧ gcl G3 (gfd G3 7 1 l0) = 14 ∧ OkP E M_A_get [rv (gfd G3 7 1 l0), iv r2] G3 (alAt G3 (gfd G3 7 1 l0) r2) ∧ ((alAt G3 (gfd G3 7 1 l0) r2) = -1 ∨ gcl G3 (alAt G3 (gfd G3 7 1 l0) r2) = 6) ∧ gcl G3 (alAt G3 (gfd G3 7 1 l0) r2) = 6 ∧ Q (if (gfd G3 5 2 (alAt G3 (gfd G3 7 1 l0) r2)) = l2 then (2 : Int) else 3) G3))))))))) : Ok E M_X7_judge [rv l0, iv l1, iv l2] G c s Q X := Ok.intro (k := 2) rfl rfl (Nat.le_of_ble_eq_true rfl) rfl (b_X7_judge_0 h)
set_option maxRecDepth 20000 in
theorem b_X7_latest_0 {E : EE} {l0 l1 : Int} {G : Gt} {c s : Nat} {Q X : Int → Gt → Prop} (h : (i32 (l1 + 1) ∧ gcl G l0 = 8 ∧ Call E M_X7_countAhead [rv l0, iv (l1 + 1)] G c s X (fun r3 G4 c5 s6 => i32 (r3 - 1) ∧ (((r3 - 1) < 0 → Q (-1) G4) ∧ (0 ≤ (r3 - 1) → (gcl G4 l0 = 8 ∧ gcl G4 (gfd G4 7 1 l0) = 14 ∧ OkP E M_A_get [rv (gfd G4 7 1 l0), iv (r3 - 1)] G4 (alAt G4 (gfd G4 7 1 l0) (r3 - 1)) ∧ ((alAt G4 (gfd G4 7 1 l0) (r3 - 1)) = -1 ∨ gcl G4 (alAt G4 (gfd G4 7 1 l0) (r3 - 1)) = 6) ∧ gcl G4 (alAt G4 (gfd G4 7 1 l0) (r3 - 1)) = 6 ∧ i32 (l1 - (gfd G4 5 1 (alAt G4 (gfd G4 7 1 l0) (r3 - 1)))) ∧ (((l1 - (gfd G4 5 1 (alAt G4 (gfd G4 7 1 l0) (r3 - 1)))) ≤ 50 → (gcl G4 l0 = 8 ∧ gcl G4 (gfd G4 7 1 l0) = 14 ∧ OkP E M_A_get [rv (gfd G4 7 1 l0), iv (r3 - 1)] G4 (alAt G4 (gfd G4 7 1 l0) (r3 - 1)) ∧ ((alAt G4 (gfd G4 7 1 l0) (r3 - 1)) = -1 ∨ gcl G4 (alAt G4 (gfd G4 7 1 l0) (r3 - 1)) = 6) ∧ Q (alAt G4 (gfd G4 7 1 l0) (r3 - 1)) G4)) ∧ (50 < (l1 - (gfd G4 5 1 (alAt G4 (gfd G4 7 1 l0) (r3 - 1)))) → Q (-1) G4)))))))) : V E M_X7_latest 0 [some (rv l0), some (iv l1), none] [] G c s Q X := by
  refine v_aload_n (pc := 0) (dk dt_X7_latest 0 rfl) rfl rfl ?_
  refine v_iload_n (pc := 1) (dk dt_X7_latest 1 rfl) rfl rfl ?_
  refine v_iconst (pc := 2) (dk dt_X7_latest 2 rfl) ⟨by decide, by decide⟩ ?_
  obtain ⟨v1, h⟩ := h
  refine v_iadd (pc := 3) (dk dt_X7_latest 3 rfl) v1 ?_
  obtain ⟨v2, h⟩ := h
  refine v_cvI (c := 7) (As := [iv (l1 + 1)]) (stk := []) (pc := 4) (dk dt_X7_latest 4 rfl) ml_X7_45 rfl rfl (Nat.le_of_ble_eq_true rfl) rfl ⟨by decide, rfl⟩ v2 rfl (Call.mono h (fun r3 G4 c5 s6 h => ?_))
  refine v_iconst (pc := 7) (dk dt_X7_latest 5 rfl) ⟨by decide, by decide⟩ ?_
  obtain ⟨v7, h⟩ := h
  refine v_isub (pc := 8) (dk dt_X7_latest 6 rfl) v7 ?_
  refine v_istore_n (pc := 9) (ls' := [some (rv l0), some (iv l1), some (iv (r3 - 1))]) (dk dt_X7_latest 7 rfl) rfl (Nat.le_of_ble_eq_true rfl) rfl ?_
  refine v_iload_n (pc := 10) (dk dt_X7_latest 8 rfl) rfl rfl ?_
  refine v_if_lt (pc := 11) (tgt := 35) (dk dt_X7_latest 9 rfl) (by decide) (fun c8 => ?_) (fun c8 => ?_)
  · replace h := h.1 c8
    refine v_null (pc := 35) (dk dt_X7_latest 20 rfl) ?_
    exact v_aret (pc := 36) (dk dt_X7_latest 21 rfl) rfl (by first | exact Or.inl ⟨_, rfl⟩ | exact Or.inr ⟨_, rfl⟩) h
  · replace h := h.2 c8
    refine v_iload_n (pc := 14) (dk dt_X7_latest 10 rfl) rfl rfl ?_
    refine v_aload_n (pc := 15) (dk dt_X7_latest 11 rfl) rfl rfl ?_
    obtain ⟨v9, h⟩ := h
    refine v_getR (pc := 16) (dk dt_X7_latest 12 rfl) fl_X7_12 v9 (fun _ => ?_)
    refine v_iload_n (pc := 19) (dk dt_X7_latest 13 rfl) rfl rfl ?_
    obtain ⟨v10, h⟩ := h
    obtain ⟨v11, h⟩ := h
    refine v_cvPR (c := 13) (v := (alAt G4 (gfd G4 7 1 l0) (r3 - 1))) (As := [iv (r3 - 1)]) (stk := [iv l1]) (pc := 20) (dk dt_X7_latest 14 rfl) ml_X7_36 rfl rfl (Nat.le_of_ble_eq_true rfl) rfl ⟨by decide, rfl⟩ v10 rfl v11 ?_
    obtain ⟨v12, h⟩ := h
    refine v_cast (c := 5) (pc := 23) (dk dt_X7_latest 15 rfl) (by decide) cl_X7_40 v12 ?_
    obtain ⟨v13, h⟩ := h
    refine v_getI (pc := 26) (dk dt_X7_latest 16 rfl) fl_X7_42 v13 (fun _ => ?_)
    obtain ⟨v14, h⟩ := h
    refine v_isub (pc := 29) (dk dt_X7_latest 17 rfl) v14 ?_
    refine v_bipush (pc := 30) (dk dt_X7_latest 18 rfl) (by decide) ⟨by decide, by decide⟩ ?_
    refine v_icmp_le (pc := 32) (tgt := 37) (dk dt_X7_latest 19 rfl) (by decide) (fun c15 => ?_) (fun c15 => ?_)
    · replace h := h.1 c15
      refine v_aload_n (pc := 37) (dk dt_X7_latest 22 rfl) rfl rfl ?_
      obtain ⟨v16, h⟩ := h
      refine v_getR (pc := 38) (dk dt_X7_latest 23 rfl) fl_X7_12 v16 (fun _ => ?_)
      refine v_iload_n (pc := 41) (dk dt_X7_latest 24 rfl) rfl rfl ?_
      obtain ⟨v17, h⟩ := h
      obtain ⟨v18, h⟩ := h
      refine v_cvPR (c := 13) (v := (alAt G4 (gfd G4 7 1 l0) (r3 - 1))) (As := [iv (r3 - 1)]) (stk := []) (pc := 42) (dk dt_X7_latest 25 rfl) ml_X7_36 rfl rfl (Nat.le_of_ble_eq_true rfl) rfl ⟨by decide, rfl⟩ v17 rfl v18 ?_
      obtain ⟨v19, h⟩ := h
      refine v_cast (c := 5) (pc := 45) (dk dt_X7_latest 26 rfl) (by decide) cl_X7_40 v19 ?_
      exact v_aret (pc := 48) (dk dt_X7_latest 27 rfl) rfl (by first | exact Or.inl ⟨_, rfl⟩ | exact Or.inr ⟨_, rfl⟩) h
    · replace h := h.2 c15
      refine v_null (pc := 35) (dk dt_X7_latest 20 rfl) ?_
      exact v_aret (pc := 36) (dk dt_X7_latest 21 rfl) rfl (by first | exact Or.inl ⟨_, rfl⟩ | exact Or.inr ⟨_, rfl⟩) h
set_option maxRecDepth 20000 in
theorem i_X7_latest {E : EE} {l0 l1 : Int} {G : Gt} {c s : Nat} {Q X : Int → Gt → Prop} (h : (i32 (l1 + 1) ∧ gcl G l0 = 8 ∧ Call E M_X7_countAhead [rv l0, iv (l1 + 1)] G c s X (fun r3 G4 c5 s6 => i32 (r3 - 1) ∧ (((r3 - 1) < 0 → Q (-1) G4) ∧ (0 ≤ (r3 - 1) → (gcl G4 l0 = 8 ∧ gcl G4 (gfd G4 7 1 l0) = 14 ∧ OkP E M_A_get [rv (gfd G4 7 1 l0), iv (r3 - 1)] G4 (alAt G4 (gfd G4 7 1 l0) (r3 - 1)) ∧ ((alAt G4 (gfd G4 7 1 l0) (r3 - 1)) = -1 ∨ gcl G4 (alAt G4 (gfd G4 7 1 l0) (r3 - 1)) = 6) ∧ gcl G4 (alAt G4 (gfd G4 7 1 l0) (r3 - 1)) = 6 ∧ i32 (l1 - (gfd G4 5 1 (alAt G4 (gfd G4 7 1 l0) (r3 - 1)))) ∧ (((l1 - (gfd G4 5 1 (alAt G4 (gfd G4 7 1 l0) (r3 - 1)))) ≤ 50 → (gcl G4 l0 = 8 ∧ gcl G4 (gfd G4 7 1 l0) = 14 ∧ OkP E M_A_get [rv (gfd G4 7 1 l0), iv (r3 - 1)] G4 (alAt G4 (gfd G4 7 1 l0) (r3 - 1)) ∧ ((alAt G4 (gfd G4 7 1 l0) (r3 - 1)) = -1 ∨ gcl G4 (alAt G4 (gfd G4 7 1 l0) (r3 - 1)) = 6) ∧ Q (alAt G4 (gfd G4 7 1 l0) (r3 - 1)) G4)) ∧ (50 < (l1 - (gfd G4 5 1 (alAt G4 (gfd G4 7 1 l0) (r3 - 1)))) → Q (-1) G4)))))))) : Ok E M_X7_latest [rv l0, iv l1] G c s Q X := Ok.intro (k := 1) rfl rfl (Nat.le_of_ble_eq_true rfl) rfl (b_X7_latest_0 h)
set_option maxRecDepth 20000 in
theorem b_X7_packBlocks_0 {E : EE} {l0 : Int} {G : Gt} {c s : Nat} {Q X : Int → Gt → Prop} (h : (gcl G l0 = 8 ∧ ∀ G2 : Gt, G2 = (sfd G 7 4 l0 0) → V E M_X7_packBlocks 9 [some (rv l0), some (iv 0), some (iv 0), none, none, none, none] [] G2 c s Q X)) : V E M_X7_packBlocks 0 [some (rv l0), none, none, none, none, none, none] [] G c s Q X := by
  refine v_aload_n (pc := 0) (dk dt_X7_packBlocks 0 rfl) rfl rfl ?_
  refine v_iconst (pc := 1) (dk dt_X7_packBlocks 1 rfl) ⟨by decide, by decide⟩ ?_
  obtain ⟨v1, h⟩ := h
  refine v_putI (pc := 2) (dk dt_X7_packBlocks 2 rfl) fl_X7_25 (Or.inl rfl) v1 ?_
  generalize hG2 : (sfd G 7 4 l0 0) = G2
  replace h := h G2 hG2.symm
  refine v_iconst (pc := 5) (dk dt_X7_packBlocks 3 rfl) ⟨by decide, by decide⟩ ?_
  refine v_istore_n (pc := 6) (ls' := [some (rv l0), some (iv 0), none, none, none, none, none]) (dk dt_X7_packBlocks 4 rfl) rfl (Nat.le_of_ble_eq_true rfl) rfl ?_
  refine v_iconst (pc := 7) (dk dt_X7_packBlocks 5 rfl) ⟨by decide, by decide⟩ ?_
  refine v_istore_n (pc := 8) (ls' := [some (rv l0), some (iv 0), some (iv 0), none, none, none, none]) (dk dt_X7_packBlocks 6 rfl) rfl (Nat.le_of_ble_eq_true rfl) rfl ?_
  exact h
set_option maxRecDepth 20000 in
theorem i_X7_packBlocks {E : EE} {l0 : Int} {G : Gt} {c s : Nat} {Q X : Int → Gt → Prop} (h : (gcl G l0 = 8 ∧ ∀ G2 : Gt, G2 = (sfd G 7 4 l0 0) → V E M_X7_packBlocks 9 [some (rv l0), some (iv 0), some (iv 0), none, none, none, none] [] G2 c s Q X)) : Ok E M_X7_packBlocks [rv l0] G c s Q X := Ok.intro (k := 6) rfl rfl (Nat.le_of_ble_eq_true rfl) rfl (b_X7_packBlocks_0 h)
set_option maxRecDepth 20000 in
theorem b_X7_packBlocks_9 {E : EE} {l0 l1 l2 : Int} {G : Gt} {c s : Nat} {Q X : Int → Gt → Prop} (h : (gcl G l0 = 8 ∧ gcl G (gfd G 7 1 l0) = 14 ∧ OkP E M_A_size [rv (gfd G 7 1 l0)] G (gfd G 13 2 (gfd G 7 1 l0)) ∧ (((gfd G 13 2 (gfd G 7 1 l0)) ≤ l2 → (gcl G l0 = 8 ∧ Q (gfd G 7 4 l0) G)) ∧ (l2 < (gfd G 13 2 (gfd G 7 1 l0)) → (gcl G l0 = 8 ∧ gcl G (gfd G 7 1 l0) = 14 ∧ OkP E M_A_get [rv (gfd G 7 1 l0), iv l2] G (alAt G (gfd G 7 1 l0) l2) ∧ ((alAt G (gfd G 7 1 l0) l2) = -1 ∨ gcl G (alAt G (gfd G 7 1 l0) l2) = 6) ∧ gcl G (alAt G (gfd G 7 1 l0) l2) = 6 ∧ ((l2 = 0 → (gcl G l0 = 8 ∧ Call E M_X7_openBlock [rv l0, iv (Int.tdiv (gfd G 5 1 (alAt G (gfd G 7 1 l0) l2)) 100)] G c s X (fun r13 G14 c15 s16 => i32 (l2 + 1) ∧ V E M_X7_packBlocks 9 [some (rv l0), some (iv 0), some (iv (l2 + 1)), none, none, none, none] [] G14 c15 s16 Q X))) ∧ (l2 ≠ 0 → (gcl G l0 = 8 ∧ i32 (l2 - 1) ∧ gcl G (gfd G 7 1 l0) = 14 ∧ OkP E M_A_get [rv (gfd G 7 1 l0), iv (l2 - 1)] G (alAt G (gfd G 7 1 l0) (l2 - 1)) ∧ ((alAt G (gfd G 7 1 l0) (l2 - 1)) = -1 ∨ gcl G (alAt G (gfd G 7 1 l0) (l2 - 1)) = 6) ∧ gcl G (alAt G (gfd G 7 1 l0) (l2 - 1)) = 6 ∧ (((Int.tdiv (gfd G 5 1 (alAt G (gfd G 7 1 l0) (l2 - 1))) 100) = (Int.tdiv (gfd G 5 1 (alAt G (gfd G 7 1 l0) l2)) 100) → (gcl G l0 = 8 ∧ i32 (l2 - 1) ∧ gcl G (gfd G 7 1 l0) = 14 ∧ OkP E M_A_get [rv (gfd G 7 1 l0), iv (l2 - 1)] G (alAt G (gfd G 7 1 l0) (l2 - 1)) ∧ ((alAt G (gfd G 7 1 l0) (l2 - 1)) = -1 ∨ gcl G (alAt G (gfd G 7 1 l0) (l2 - 1)) = 6) ∧ gcl G (alAt G (gfd G 7 1 l0) l2) = 6 ∧ gcl G (alAt G (gfd G 7 1 l0) (l2 - 1)) = 6 ∧ i32 ((gfd G 5 1 (alAt G (gfd G 7 1 l0) l2)) - (gfd G 5 1 (alAt G (gfd G 7 1 l0) (l2 - 1)))) ∧ i32 (((gfd G 5 1 (alAt G (gfd G 7 1 l0) l2)) - (gfd G 5 1 (alAt G (gfd G 7 1 l0) (l2 - 1)))) - l1) ∧ Call E M_X7_bitsOfTime [iv (((gfd G 5 1 (alAt G (gfd G 7 1 l0) l2)) - (gfd G 5 1 (alAt G (gfd G 7 1 l0) (l2 - 1)))) - l1)] G c s X (fun r34 G35 c36 s37 => gcl G35 (alAt G (gfd G 7 1 l0) l2) = 6 ∧ gcl G35 (alAt G (gfd G 7 1 l0) (l2 - 1)) = 6 ∧ Call E M_X7_bitsOfValue [iv (xor32 (gfd G35 5 2 (alAt G (gfd G 7 1 l0) l2)) (gfd G35 5 2 (alAt G (gfd G 7 1 l0) (l2 - 1))))] G35 c36 s37 X (fun r40 G41 c42 s43 => i32 (r34 + r40) ∧ gcl G41 l0 = 8 ∧ Call E M_X7_growBlock [rv l0, iv (r34 + r40)] G41 c42 s43 X (fun r46 G47 c48 s49 => i32 (l2 + 1) ∧ V E M_X7_packBlocks 9 [some (rv l0), some (iv ((gfd G 5 1 (alAt G (gfd G 7 1 l0) l2)) - (gfd G 5 1 (alAt G (gfd G 7 1 l0) (l2 - 1))))), some (iv (l2 + 1)), none, none, none, none] [] G47 c48 s49 Q X))))) ∧ ((Int.tdiv (gfd G 5 1 (alAt G (gfd G 7 1 l0) (l2 - 1))) 100) ≠ (Int.tdiv (gfd G 5 1 (alAt G (gfd G 7 1 l0) l2)) 100) → (gcl G l0 = 8 ∧ Call E M_X7_openBlock [rv l0, iv (Int.tdiv (gfd G 5 1 (alAt G (gfd G 7 1 l0) l2)) 100)] G c s X (fun r52 G53 c54 s55 => i32 (l2 + 1) ∧ V E M_X7_packBlocks 9 [some (rv l0), some (iv 0), some (iv (l2 + 1)), none, none, none, none] [] G53 c54 s55 Q X)))))))))))) : V E M_X7_packBlocks 9 [some (rv l0), some (iv l1), some (iv l2), none, none, none, none] [] G c s Q X := by
  refine v_iload_n (pc := 9) (dk dt_X7_packBlocks 7 rfl) rfl rfl ?_
  refine v_aload_n (pc := 10) (dk dt_X7_packBlocks 8 rfl) rfl rfl ?_
  obtain ⟨v1, h⟩ := h
  refine v_getR (pc := 11) (dk dt_X7_packBlocks 9 rfl) fl_X7_12 v1 (fun _ => ?_)
  obtain ⟨v2, h⟩ := h
  obtain ⟨v3, h⟩ := h
  refine v_cvPI (c := 13) (v := (gfd G 13 2 (gfd G 7 1 l0))) (As := []) (stk := [iv l2]) (pc := 14) (dk dt_X7_packBlocks 10 rfl) ml_X7_32 rfl rfl (Nat.le_of_ble_eq_true rfl) rfl ⟨by decide, rfl⟩ v2 rfl v3 ?_
  refine v_icmp_ge (pc := 17) (tgt := 141) (dk dt_X7_packBlocks 11 rfl) (by decide) (fun c4 => ?_) (fun c4 => ?_)
  · replace h := h.1 c4
    refine v_aload_n (pc := 141) (dk dt_X7_packBlocks_1 34 rfl) rfl rfl ?_
    obtain ⟨v5, h⟩ := h
    refine v_getI (pc := 142) (dk dt_X7_packBlocks_1 35 rfl) fl_X7_25 v5 (fun _ => ?_)
    exact v_iret (pc := 145) (dk dt_X7_packBlocks_1 36 rfl) rfl h
  · replace h := h.2 c4
    refine v_aload_n (pc := 20) (dk dt_X7_packBlocks 12 rfl) rfl rfl ?_
    obtain ⟨v6, h⟩ := h
    refine v_getR (pc := 21) (dk dt_X7_packBlocks 13 rfl) fl_X7_12 v6 (fun _ => ?_)
    refine v_iload_n (pc := 24) (dk dt_X7_packBlocks 14 rfl) rfl rfl ?_
    obtain ⟨v7, h⟩ := h
    obtain ⟨v8, h⟩ := h
    refine v_cvPR (c := 13) (v := (alAt G (gfd G 7 1 l0) l2)) (As := [iv l2]) (stk := []) (pc := 25) (dk dt_X7_packBlocks 15 rfl) ml_X7_36 rfl rfl (Nat.le_of_ble_eq_true rfl) rfl ⟨by decide, rfl⟩ v7 rfl v8 ?_
    obtain ⟨v9, h⟩ := h
    refine v_cast (c := 5) (pc := 28) (dk dt_X7_packBlocks 16 rfl) (by decide) cl_X7_40 v9 ?_
    refine v_astore_n (pc := 31) (ls' := [some (rv l0), some (iv l1), some (iv l2), some (rv (alAt G (gfd G 7 1 l0) l2)), none, none, none]) (dk dt_X7_packBlocks 17 rfl) rfl (Nat.le_of_ble_eq_true rfl) rfl ?_
    refine v_aload_n (pc := 32) (dk dt_X7_packBlocks 18 rfl) rfl rfl ?_
    obtain ⟨v10, h⟩ := h
    refine v_getI (pc := 33) (dk dt_X7_packBlocks 19 rfl) fl_X7_42 v10 (fun _ => ?_)
    refine v_bipush (pc := 36) (dk dt_X7_packBlocks 20 rfl) (by decide) ⟨by decide, by decide⟩ ?_
    refine v_idivP (pc := 38) (dk dt_X7_packBlocks 21 rfl) (by decide) ?_
    refine v_istore (pc := 39) (ls' := [some (rv l0), some (iv l1), some (iv l2), some (rv (alAt G (gfd G 7 1 l0) l2)), some (iv (Int.tdiv (gfd G 5 1 (alAt G (gfd G 7 1 l0) l2)) 100)), none, none]) (dk dt_X7_packBlocks 22 rfl) (Nat.le_of_ble_eq_true rfl) rfl ?_
    refine v_iload_n (pc := 41) (dk dt_X7_packBlocks 23 rfl) rfl rfl ?_
    refine v_if_eq (pc := 42) (tgt := 69) (dk dt_X7_packBlocks 24 rfl) (by decide) (fun c11 => ?_) (fun c11 => ?_)
    · replace h := h.1 c11
      refine v_aload_n (pc := 69) (dk dt_X7_packBlocks 37 rfl) rfl rfl ?_
      refine v_iload (pc := 70) (dk dt_X7_packBlocks 38 rfl) rfl ?_
      obtain ⟨v12, h⟩ := h
      refine v_cvV (c := 7) (As := [iv (Int.tdiv (gfd G 5 1 (alAt G (gfd G 7 1 l0) l2)) 100)]) (stk := []) (pc := 72) (dk dt_X7_packBlocks 39 rfl) ml_X7_59 rfl rfl (Nat.le_of_ble_eq_true rfl) rfl ⟨by decide, rfl⟩ v12 rfl (Call.mono h (fun r13 G14 c15 s16 h => ?_))
      refine v_iconst (pc := 75) (dk dt_X7_packBlocks_1 0 rfl) ⟨by decide, by decide⟩ ?_
      refine v_istore_n (pc := 76) (ls' := [some (rv l0), some (iv 0), some (iv l2), some (rv (alAt G (gfd G 7 1 l0) l2)), some (iv (Int.tdiv (gfd G 5 1 (alAt G (gfd G 7 1 l0) l2)) 100)), none, none]) (dk dt_X7_packBlocks_1 1 rfl) rfl (Nat.le_of_ble_eq_true rfl) rfl ?_
      refine v_goto (pc := 77) (tgt := 135) (dk dt_X7_packBlocks_1 2 rfl) (by decide) ?_
      obtain ⟨v17, h⟩ := h
      refine v_iinc (pc := 135) (ls' := [some (rv l0), some (iv 0), some (iv (l2 + 1)), some (rv (alAt G (gfd G 7 1 l0) l2)), some (iv (Int.tdiv (gfd G 5 1 (alAt G (gfd G 7 1 l0) l2)) 100)), none, none]) (dk dt_X7_packBlocks_1 32 rfl) (Nat.le_of_ble_eq_true rfl) rfl v17 rfl ?_
      refine v_goto (pc := 138) (tgt := 9) (dk dt_X7_packBlocks_1 33 rfl) (by decide) ?_
      exact v_less2 (ls' := [some (rv l0), some (iv 0), some (iv (l2 + 1)), none, none, none, none]) ⟨rfl, rfl, rfl, trivial⟩ h
    · replace h := h.2 c11
      refine v_aload_n (pc := 45) (dk dt_X7_packBlocks 25 rfl) rfl rfl ?_
      obtain ⟨v18, h⟩ := h
      refine v_getR (pc := 46) (dk dt_X7_packBlocks 26 rfl) fl_X7_12 v18 (fun _ => ?_)
      refine v_iload_n (pc := 49) (dk dt_X7_packBlocks 27 rfl) rfl rfl ?_
      refine v_iconst (pc := 50) (dk dt_X7_packBlocks 28 rfl) ⟨by decide, by decide⟩ ?_
      obtain ⟨v19, h⟩ := h
      refine v_isub (pc := 51) (dk dt_X7_packBlocks 29 rfl) v19 ?_
      obtain ⟨v20, h⟩ := h
      obtain ⟨v21, h⟩ := h
      refine v_cvPR (c := 13) (v := (alAt G (gfd G 7 1 l0) (l2 - 1))) (As := [iv (l2 - 1)]) (stk := []) (pc := 52) (dk dt_X7_packBlocks 30 rfl) ml_X7_36 rfl rfl (Nat.le_of_ble_eq_true rfl) rfl ⟨by decide, rfl⟩ v20 rfl v21 ?_
      obtain ⟨v22, h⟩ := h
      refine v_cast (c := 5) (pc := 55) (dk dt_X7_packBlocks 31 rfl) (by decide) cl_X7_40 v22 ?_
      obtain ⟨v23, h⟩ := h
      refine v_getI (pc := 58) (dk dt_X7_packBlocks 32 rfl) fl_X7_42 v23 (fun _ => ?_)
      refine v_bipush (pc := 61) (dk dt_X7_packBlocks 33 rfl) (by decide) ⟨by decide, by decide⟩ ?_
      refine v_idivP (pc := 63) (dk dt_X7_packBlocks 34 rfl) (by decide) ?_
      refine v_iload (pc := 64) (dk dt_X7_packBlocks 35 rfl) rfl ?_
      refine v_icmp_eq (pc := 66) (tgt := 80) (dk dt_X7_packBlocks 36 rfl) (by decide) (fun c24 => ?_) (fun c24 => ?_)
      · replace h := h.1 c24
        refine v_aload_n (pc := 80) (dk dt_X7_packBlocks_1 3 rfl) rfl rfl ?_
        obtain ⟨v25, h⟩ := h
        refine v_getR (pc := 81) (dk dt_X7_packBlocks_1 4 rfl) fl_X7_12 v25 (fun _ => ?_)
        refine v_iload_n (pc := 84) (dk dt_X7_packBlocks_1 5 rfl) rfl rfl ?_
        refine v_iconst (pc := 85) (dk dt_X7_packBlocks_1 6 rfl) ⟨by decide, by decide⟩ ?_
        obtain ⟨v26, h⟩ := h
        refine v_isub (pc := 86) (dk dt_X7_packBlocks_1 7 rfl) v26 ?_
        obtain ⟨v27, h⟩ := h
        obtain ⟨v28, h⟩ := h
        refine v_cvPR (c := 13) (v := (alAt G (gfd G 7 1 l0) (l2 - 1))) (As := [iv (l2 - 1)]) (stk := []) (pc := 87) (dk dt_X7_packBlocks_1 8 rfl) ml_X7_36 rfl rfl (Nat.le_of_ble_eq_true rfl) rfl ⟨by decide, rfl⟩ v27 rfl v28 ?_
        obtain ⟨v29, h⟩ := h
        refine v_cast (c := 5) (pc := 90) (dk dt_X7_packBlocks_1 9 rfl) (by decide) cl_X7_40 v29 ?_
        refine v_astore (pc := 93) (ls' := [some (rv l0), some (iv l1), some (iv l2), some (rv (alAt G (gfd G 7 1 l0) l2)), some (iv (Int.tdiv (gfd G 5 1 (alAt G (gfd G 7 1 l0) l2)) 100)), some (rv (alAt G (gfd G 7 1 l0) (l2 - 1))), none]) (dk dt_X7_packBlocks_1 10 rfl) (Nat.le_of_ble_eq_true rfl) rfl ?_
        refine v_aload_n (pc := 95) (dk dt_X7_packBlocks_1 11 rfl) rfl rfl ?_
        obtain ⟨v30, h⟩ := h
        refine v_getI (pc := 96) (dk dt_X7_packBlocks_1 12 rfl) fl_X7_42 v30 (fun _ => ?_)
        refine v_aload (pc := 99) (dk dt_X7_packBlocks_1 13 rfl) rfl ?_
        obtain ⟨v31, h⟩ := h
        refine v_getI (pc := 101) (dk dt_X7_packBlocks_1 14 rfl) fl_X7_42 v31 (fun _ => ?_)
        obtain ⟨v32, h⟩ := h
        refine v_isub (pc := 104) (dk dt_X7_packBlocks_1 15 rfl) v32 ?_
        refine v_istore (pc := 105) (ls' := [some (rv l0), some (iv l1), some (iv l2), some (rv (alAt G (gfd G 7 1 l0) l2)), some (iv (Int.tdiv (gfd G 5 1 (alAt G (gfd G 7 1 l0) l2)) 100)), some (rv (alAt G (gfd G 7 1 l0) (l2 - 1))), some (iv ((gfd G 5 1 (alAt G (gfd G 7 1 l0) l2)) - (gfd G 5 1 (alAt G (gfd G 7 1 l0) (l2 - 1)))))]) (dk dt_X7_packBlocks_1 16 rfl) (Nat.le_of_ble_eq_true rfl) rfl ?_
        refine v_aload_n (pc := 107) (dk dt_X7_packBlocks_1 17 rfl) rfl rfl ?_
        refine v_iload (pc := 108) (dk dt_X7_packBlocks_1 18 rfl) rfl ?_
        refine v_iload_n (pc := 110) (dk dt_X7_packBlocks_1 19 rfl) rfl rfl ?_
        obtain ⟨v33, h⟩ := h
        refine v_isub (pc := 111) (dk dt_X7_packBlocks_1 20 rfl) v33 ?_
        refine v_csI (As := [iv (((gfd G 5 1 (alAt G (gfd G 7 1 l0) l2)) - (gfd G 5 1 (alAt G (gfd G 7 1 l0) (l2 - 1)))) - l1)]) (stk := [rv l0]) (pc := 112) (dk dt_X7_packBlocks_1 21 rfl) ml_X7_63 rfl rfl (Nat.le_of_ble_eq_true rfl) rfl rfl (Call.mono h (fun r34 G35 c36 s37 h => ?_))
        refine v_aload_n (pc := 115) (dk dt_X7_packBlocks_1 22 rfl) rfl rfl ?_
        obtain ⟨v38, h⟩ := h
        refine v_getI (pc := 116) (dk dt_X7_packBlocks_1 23 rfl) fl_X7_56 v38 (fun _ => ?_)
        refine v_aload (pc := 119) (dk dt_X7_packBlocks_1 24 rfl) rfl ?_
        obtain ⟨v39, h⟩ := h
        refine v_getI (pc := 121) (dk dt_X7_packBlocks_1 25 rfl) fl_X7_56 v39 (fun _ => ?_)
        refine v_ixor (pc := 124) (dk dt_X7_packBlocks_1 26 rfl) ?_
        refine v_csI (As := [iv (xor32 (gfd G35 5 2 (alAt G (gfd G 7 1 l0) l2)) (gfd G35 5 2 (alAt G (gfd G 7 1 l0) (l2 - 1))))]) (stk := [iv r34, rv l0]) (pc := 125) (dk dt_X7_packBlocks_1 27 rfl) ml_X7_66 rfl rfl (Nat.le_of_ble_eq_true rfl) rfl rfl (Call.mono h (fun r40 G41 c42 s43 h => ?_))
        obtain ⟨v44, h⟩ := h
        refine v_iadd (pc := 128) (dk dt_X7_packBlocks_1 28 rfl) v44 ?_
        obtain ⟨v45, h⟩ := h
        refine v_cvV (c := 7) (As := [iv (r34 + r40)]) (stk := []) (pc := 129) (dk dt_X7_packBlocks_1 29 rfl) ml_X7_69 rfl rfl (Nat.le_of_ble_eq_true rfl) rfl ⟨by decide, rfl⟩ v45 rfl (Call.mono h (fun r46 G47 c48 s49 h => ?_))
        refine v_iload (pc := 132) (dk dt_X7_packBlocks_1 30 rfl) rfl ?_
        refine v_istore_n (pc := 134) (ls' := [some (rv l0), some (iv ((gfd G 5 1 (alAt G (gfd G 7 1 l0) l2)) - (gfd G 5 1 (alAt G (gfd G 7 1 l0) (l2 - 1))))), some (iv l2), some (rv (alAt G (gfd G 7 1 l0) l2)), some (iv (Int.tdiv (gfd G 5 1 (alAt G (gfd G 7 1 l0) l2)) 100)), some (rv (alAt G (gfd G 7 1 l0) (l2 - 1))), some (iv ((gfd G 5 1 (alAt G (gfd G 7 1 l0) l2)) - (gfd G 5 1 (alAt G (gfd G 7 1 l0) (l2 - 1)))))]) (dk dt_X7_packBlocks_1 31 rfl) rfl (Nat.le_of_ble_eq_true rfl) rfl ?_
        obtain ⟨v50, h⟩ := h
        refine v_iinc (pc := 135) (ls' := [some (rv l0), some (iv ((gfd G 5 1 (alAt G (gfd G 7 1 l0) l2)) - (gfd G 5 1 (alAt G (gfd G 7 1 l0) (l2 - 1))))), some (iv (l2 + 1)), some (rv (alAt G (gfd G 7 1 l0) l2)), some (iv (Int.tdiv (gfd G 5 1 (alAt G (gfd G 7 1 l0) l2)) 100)), some (rv (alAt G (gfd G 7 1 l0) (l2 - 1))), some (iv ((gfd G 5 1 (alAt G (gfd G 7 1 l0) l2)) - (gfd G 5 1 (alAt G (gfd G 7 1 l0) (l2 - 1)))))]) (dk dt_X7_packBlocks_1 32 rfl) (Nat.le_of_ble_eq_true rfl) rfl v50 rfl ?_
        refine v_goto (pc := 138) (tgt := 9) (dk dt_X7_packBlocks_1 33 rfl) (by decide) ?_
        exact v_less2 (ls' := [some (rv l0), some (iv ((gfd G 5 1 (alAt G (gfd G 7 1 l0) l2)) - (gfd G 5 1 (alAt G (gfd G 7 1 l0) (l2 - 1))))), some (iv (l2 + 1)), none, none, none, none]) ⟨rfl, rfl, rfl, trivial⟩ h
      · replace h := h.2 c24
        refine v_aload_n (pc := 69) (dk dt_X7_packBlocks 37 rfl) rfl rfl ?_
        refine v_iload (pc := 70) (dk dt_X7_packBlocks 38 rfl) rfl ?_
        obtain ⟨v51, h⟩ := h
        refine v_cvV (c := 7) (As := [iv (Int.tdiv (gfd G 5 1 (alAt G (gfd G 7 1 l0) l2)) 100)]) (stk := []) (pc := 72) (dk dt_X7_packBlocks 39 rfl) ml_X7_59 rfl rfl (Nat.le_of_ble_eq_true rfl) rfl ⟨by decide, rfl⟩ v51 rfl (Call.mono h (fun r52 G53 c54 s55 h => ?_))
        refine v_iconst (pc := 75) (dk dt_X7_packBlocks_1 0 rfl) ⟨by decide, by decide⟩ ?_
        refine v_istore_n (pc := 76) (ls' := [some (rv l0), some (iv 0), some (iv l2), some (rv (alAt G (gfd G 7 1 l0) l2)), some (iv (Int.tdiv (gfd G 5 1 (alAt G (gfd G 7 1 l0) l2)) 100)), none, none]) (dk dt_X7_packBlocks_1 1 rfl) rfl (Nat.le_of_ble_eq_true rfl) rfl ?_
        refine v_goto (pc := 77) (tgt := 135) (dk dt_X7_packBlocks_1 2 rfl) (by decide) ?_
        obtain ⟨v56, h⟩ := h
        refine v_iinc (pc := 135) (ls' := [some (rv l0), some (iv 0), some (iv (l2 + 1)), some (rv (alAt G (gfd G 7 1 l0) l2)), some (iv (Int.tdiv (gfd G 5 1 (alAt G (gfd G 7 1 l0) l2)) 100)), none, none]) (dk dt_X7_packBlocks_1 32 rfl) (Nat.le_of_ble_eq_true rfl) rfl v56 rfl ?_
        refine v_goto (pc := 138) (tgt := 9) (dk dt_X7_packBlocks_1 33 rfl) (by decide) ?_
        exact v_less2 (ls' := [some (rv l0), some (iv 0), some (iv (l2 + 1)), none, none, none, none]) ⟨rfl, rfl, rfl, trivial⟩ h
set_option maxRecDepth 20000 in
theorem b_X7_openBlock_0 {E : EE} {l0 l1 : Int} {G : Gt} {c s : Nat} {Q X : Int → Gt → Prop} (h : (gcl G l0 = 8 ∧ gcl G l0 = 8 ∧ 15 ≤ gcl G (gfd G 7 2 l0) ∧ (((gln G (gfd G 7 2 l0)) ≤ (gfd G 7 4 l0) → Q 0 G) ∧ ((gfd G 7 4 l0) < (gln G (gfd G 7 2 l0)) → (gcl G l0 = 8 ∧ gcl G l0 = 8 ∧ 15 ≤ gcl G (gfd G 7 3 l0) ∧ (((gln G (gfd G 7 3 l0)) ≤ (gfd G 7 4 l0) → Q 0 G) ∧ ((gfd G 7 4 l0) < (gln G (gfd G 7 3 l0)) → (gcl G l0 = 8 ∧ gcl G l0 = 8 ∧ gcl G (gfd G 7 2 l0) = 15 ∧ 0 ≤ (gfd G 7 4 l0) ∧ (gfd G 7 4 l0) < gln G (gfd G 7 2 l0) ∧ ∀ G14 : Gt, G14 = (sel G (gfd G 7 2 l0) (gfd G 7 4 l0) l1) → gcl G14 l0 = 8 ∧ gcl G14 l0 = 8 ∧ gcl G14 (gfd G14 7 3 l0) = 15 ∧ 0 ≤ (gfd G14 7 4 l0) ∧ (gfd G14 7 4 l0) < gln G14 (gfd G14 7 3 l0) ∧ ∀ G20 : Gt, G20 = (sel G14 (gfd G14 7 3 l0) (gfd G14 7 4 l0) 64) → gcl G20 l0 = 8 ∧ i32 ((gfd G20 7 4 l0) + 1) ∧ gcl G20 l0 = 8 ∧ ∀ G24 : Gt, G24 = (sfd G20 7 4 l0 ((gfd G20 7 4 l0) + 1)) → Q 0 G24)))))))) : V E M_X7_openBlock 0 [some (rv l0), some (iv l1)] [] G c s Q X := by
  refine v_aload_n (pc := 0) (dk dt_X7_openBlock 0 rfl) rfl rfl ?_
  obtain ⟨v1, h⟩ := h
  refine v_getI (pc := 1) (dk dt_X7_openBlock 1 rfl) fl_X7_25 v1 (fun _ => ?_)
  refine v_aload_n (pc := 4) (dk dt_X7_openBlock 2 rfl) rfl rfl ?_
  obtain ⟨v2, h⟩ := h
  refine v_getR (pc := 5) (dk dt_X7_openBlock 3 rfl) fl_X7_18 v2 (fun _ => ?_)
  obtain ⟨v3, h⟩ := h
  refine v_alen (pc := 8) (dk dt_X7_openBlock 4 rfl) v3 (fun _ => ?_)
  refine v_icmp_ge (pc := 9) (tgt := 55) (dk dt_X7_openBlock 5 rfl) (by decide) (fun c4 => ?_) (fun c4 => ?_)
  · replace h := h.1 c4
    exact v_vret (pc := 55) (dk dt_X7_openBlock 30 rfl) rfl h
  · replace h := h.2 c4
    refine v_aload_n (pc := 12) (dk dt_X7_openBlock 6 rfl) rfl rfl ?_
    obtain ⟨v5, h⟩ := h
    refine v_getI (pc := 13) (dk dt_X7_openBlock 7 rfl) fl_X7_25 v5 (fun _ => ?_)
    refine v_aload_n (pc := 16) (dk dt_X7_openBlock 8 rfl) rfl rfl ?_
    obtain ⟨v6, h⟩ := h
    refine v_getR (pc := 17) (dk dt_X7_openBlock 9 rfl) fl_X7_22 v6 (fun _ => ?_)
    obtain ⟨v7, h⟩ := h
    refine v_alen (pc := 20) (dk dt_X7_openBlock 10 rfl) v7 (fun _ => ?_)
    refine v_icmp_ge (pc := 21) (tgt := 55) (dk dt_X7_openBlock 11 rfl) (by decide) (fun c8 => ?_) (fun c8 => ?_)
    · replace h := h.1 c8
      exact v_vret (pc := 55) (dk dt_X7_openBlock 30 rfl) rfl h
    · replace h := h.2 c8
      refine v_aload_n (pc := 24) (dk dt_X7_openBlock 12 rfl) rfl rfl ?_
      obtain ⟨v9, h⟩ := h
      refine v_getR (pc := 25) (dk dt_X7_openBlock 13 rfl) fl_X7_18 v9 (fun _ => ?_)
      refine v_aload_n (pc := 28) (dk dt_X7_openBlock 14 rfl) rfl rfl ?_
      obtain ⟨v10, h⟩ := h
      refine v_getI (pc := 29) (dk dt_X7_openBlock 15 rfl) fl_X7_25 v10 (fun _ => ?_)
      refine v_iload_n (pc := 32) (dk dt_X7_openBlock 16 rfl) rfl rfl ?_
      obtain ⟨v11, h⟩ := h
      obtain ⟨v12, h⟩ := h
      obtain ⟨v13, h⟩ := h
      refine v_iast (pc := 33) (dk dt_X7_openBlock 17 rfl) v11 v12 v13 ?_
      generalize hG14 : (sel G (gfd G 7 2 l0) (gfd G 7 4 l0) l1) = G14
      replace h := h G14 hG14.symm
      refine v_aload_n (pc := 34) (dk dt_X7_openBlock 18 rfl) rfl rfl ?_
      obtain ⟨v15, h⟩ := h
      refine v_getR (pc := 35) (dk dt_X7_openBlock 19 rfl) fl_X7_22 v15 (fun _ => ?_)
      refine v_aload_n (pc := 38) (dk dt_X7_openBlock 20 rfl) rfl rfl ?_
      obtain ⟨v16, h⟩ := h
      refine v_getI (pc := 39) (dk dt_X7_openBlock 21 rfl) fl_X7_25 v16 (fun _ => ?_)
      refine v_bipush (pc := 42) (dk dt_X7_openBlock 22 rfl) (by decide) ⟨by decide, by decide⟩ ?_
      obtain ⟨v17, h⟩ := h
      obtain ⟨v18, h⟩ := h
      obtain ⟨v19, h⟩ := h
      refine v_iast (pc := 44) (dk dt_X7_openBlock 23 rfl) v17 v18 v19 ?_
      generalize hG20 : (sel G14 (gfd G14 7 3 l0) (gfd G14 7 4 l0) 64) = G20
      replace h := h G20 hG20.symm
      refine v_aload_n (pc := 45) (dk dt_X7_openBlock 24 rfl) rfl rfl ?_
      refine v_dup (pc := 46) (dk dt_X7_openBlock 25 rfl) (by intro h9; cases h9) ?_
      obtain ⟨v21, h⟩ := h
      refine v_getI (pc := 47) (dk dt_X7_openBlock 26 rfl) fl_X7_25 v21 (fun _ => ?_)
      refine v_iconst (pc := 50) (dk dt_X7_openBlock 27 rfl) ⟨by decide, by decide⟩ ?_
      obtain ⟨v22, h⟩ := h
      refine v_iadd (pc := 51) (dk dt_X7_openBlock 28 rfl) v22 ?_
      obtain ⟨v23, h⟩ := h
      refine v_putI (pc := 52) (dk dt_X7_openBlock 29 rfl) fl_X7_25 (Or.inl rfl) v23 ?_
      generalize hG24 : (sfd G20 7 4 l0 ((gfd G20 7 4 l0) + 1)) = G24
      replace h := h G24 hG24.symm
      exact v_vret (pc := 55) (dk dt_X7_openBlock 30 rfl) rfl h
set_option maxRecDepth 20000 in
theorem i_X7_openBlock {E : EE} {l0 l1 : Int} {G : Gt} {c s : Nat} {Q X : Int → Gt → Prop} (h : (gcl G l0 = 8 ∧ gcl G l0 = 8 ∧ 15 ≤ gcl G (gfd G 7 2 l0) ∧ (((gln G (gfd G 7 2 l0)) ≤ (gfd G 7 4 l0) → Q 0 G) ∧ ((gfd G 7 4 l0) < (gln G (gfd G 7 2 l0)) → (gcl G l0 = 8 ∧ gcl G l0 = 8 ∧ 15 ≤ gcl G (gfd G 7 3 l0) ∧ (((gln G (gfd G 7 3 l0)) ≤ (gfd G 7 4 l0) → Q 0 G) ∧ ((gfd G 7 4 l0) < (gln G (gfd G 7 3 l0)) → (gcl G l0 = 8 ∧ gcl G l0 = 8 ∧ gcl G (gfd G 7 2 l0) = 15 ∧ 0 ≤ (gfd G 7 4 l0) ∧ (gfd G 7 4 l0) < gln G (gfd G 7 2 l0) ∧ ∀ G14 : Gt, G14 = (sel G (gfd G 7 2 l0) (gfd G 7 4 l0) l1) → gcl G14 l0 = 8 ∧ gcl G14 l0 = 8 ∧ gcl G14 (gfd G14 7 3 l0) = 15 ∧ 0 ≤ (gfd G14 7 4 l0) ∧ (gfd G14 7 4 l0) < gln G14 (gfd G14 7 3 l0) ∧ ∀ G20 : Gt, G20 = (sel G14 (gfd G14 7 3 l0) (gfd G14 7 4 l0) 64) → gcl G20 l0 = 8 ∧ i32 ((gfd G20 7 4 l0) + 1) ∧ gcl G20 l0 = 8 ∧ ∀ G24 : Gt, G24 = (sfd G20 7 4 l0 ((gfd G20 7 4 l0) + 1)) → Q 0 G24)))))))) : Ok E M_X7_openBlock [rv l0, iv l1] G c s Q X := Ok.intro (k := 0) rfl rfl (Nat.le_of_ble_eq_true rfl) rfl (b_X7_openBlock_0 h)
set_option maxRecDepth 20000 in
theorem b_X7_growBlock_0 {E : EE} {l0 l1 : Int} {G : Gt} {c s : Nat} {Q X : Int → Gt → Prop} (h : (gcl G l0 = 8 ∧ (((gfd G 7 4 l0) ≤ 0 → Q 0 G) ∧ (0 < (gfd G 7 4 l0) → (gcl G l0 = 8 ∧ gcl G l0 = 8 ∧ 15 ≤ gcl G (gfd G 7 3 l0) ∧ (((gln G (gfd G 7 3 l0)) < (gfd G 7 4 l0) → Q 0 G) ∧ ((gfd G 7 4 l0) ≤ (gln G (gfd G 7 3 l0)) → (gcl G l0 = 8 ∧ gcl G l0 = 8 ∧ i32 ((gfd G 7 4 l0) - 1) ∧ gcl G (gfd G 7 3 l0) = 15 ∧ 0 ≤ ((gfd G 7 4 l0) - 1) ∧ ((gfd G 7 4 l0) - 1) < gln G (gfd G 7 3 l0) ∧ i32 ((gel G (gfd G 7 3 l0) ((gfd G 7 4 l0) - 1)) + l1) ∧ gcl G (gfd G 7 3 l0) = 15 ∧ 0 ≤ ((gfd G 7 4 l0) - 1) ∧ ((gfd G 7 4 l0) - 1) < gln G (gfd G 7 3 l0) ∧ ∀ G17 : Gt, G17 = (sel G (gfd G 7 3 l0) ((gfd G 7 4 l0) - 1) ((gel G (gfd G 7 3 l0) ((gfd G 7 4 l0) - 1)) + l1)) → Q 0 G17)))))))) : V E M_X7_growBlock 0 [some (rv l0), some (iv l1)] [] G c s Q X := by
  refine v_aload_n (pc := 0) (dk dt_X7_growBlock 0 rfl) rfl rfl ?_
  obtain ⟨v1, h⟩ := h
  refine v_getI (pc := 1) (dk dt_X7_growBlock 1 rfl) fl_X7_25 v1 (fun _ => ?_)
  refine v_if_le (pc := 4) (tgt := 34) (dk dt_X7_growBlock 2 rfl) (by decide) (fun c2 => ?_) (fun c2 => ?_)
  · replace h := h.1 c2
    exact v_vret (pc := 34) (dk dt_X7_growBlock 20 rfl) rfl h
  · replace h := h.2 c2
    refine v_aload_n (pc := 7) (dk dt_X7_growBlock 3 rfl) rfl rfl ?_
    obtain ⟨v3, h⟩ := h
    refine v_getI (pc := 8) (dk dt_X7_growBlock 4 rfl) fl_X7_25 v3 (fun _ => ?_)
    refine v_aload_n (pc := 11) (dk dt_X7_growBlock 5 rfl) rfl rfl ?_
    obtain ⟨v4, h⟩ := h
    refine v_getR (pc := 12) (dk dt_X7_growBlock 6 rfl) fl_X7_22 v4 (fun _ => ?_)
    obtain ⟨v5, h⟩ := h
    refine v_alen (pc := 15) (dk dt_X7_growBlock 7 rfl) v5 (fun _ => ?_)
    refine v_icmp_gt (pc := 16) (tgt := 34) (dk dt_X7_growBlock 8 rfl) (by decide) (fun c6 => ?_) (fun c6 => ?_)
    · replace h := h.1 c6
      exact v_vret (pc := 34) (dk dt_X7_growBlock 20 rfl) rfl h
    · replace h := h.2 c6
      refine v_aload_n (pc := 19) (dk dt_X7_growBlock 9 rfl) rfl rfl ?_
      obtain ⟨v7, h⟩ := h
      refine v_getR (pc := 20) (dk dt_X7_growBlock 10 rfl) fl_X7_22 v7 (fun _ => ?_)
      refine v_aload_n (pc := 23) (dk dt_X7_growBlock 11 rfl) rfl rfl ?_
      obtain ⟨v8, h⟩ := h
      refine v_getI (pc := 24) (dk dt_X7_growBlock 12 rfl) fl_X7_25 v8 (fun _ => ?_)
      refine v_iconst (pc := 27) (dk dt_X7_growBlock 13 rfl) ⟨by decide, by decide⟩ ?_
      obtain ⟨v9, h⟩ := h
      refine v_isub (pc := 28) (dk dt_X7_growBlock 14 rfl) v9 ?_
      refine v_dup2 (pc := 29) (dk dt_X7_growBlock 15 rfl) (by intro h9; cases h9) (by intro h9; cases h9) ?_
      obtain ⟨v10, h⟩ := h
      obtain ⟨v11, h⟩ := h
      obtain ⟨v12, h⟩ := h
      refine v_iald (pc := 30) (dk dt_X7_growBlock 16 rfl) (Or.inl v10) v11 v12 (fun _ => ?_)
      refine v_iload_n (pc := 31) (dk dt_X7_growBlock 17 rfl) rfl rfl ?_
      obtain ⟨v13, h⟩ := h
      refine v_iadd (pc := 32) (dk dt_X7_growBlock 18 rfl) v13 ?_
      obtain ⟨v14, h⟩ := h
      obtain ⟨v15, h⟩ := h
      obtain ⟨v16, h⟩ := h
      refine v_iast (pc := 33) (dk dt_X7_growBlock 19 rfl) v14 v15 v16 ?_
      generalize hG17 : (sel G (gfd G 7 3 l0) ((gfd G 7 4 l0) - 1) ((gel G (gfd G 7 3 l0) ((gfd G 7 4 l0) - 1)) + l1)) = G17
      replace h := h G17 hG17.symm
      exact v_vret (pc := 34) (dk dt_X7_growBlock 20 rfl) rfl h
set_option maxRecDepth 20000 in
theorem i_X7_growBlock {E : EE} {l0 l1 : Int} {G : Gt} {c s : Nat} {Q X : Int → Gt → Prop} (h : (gcl G l0 = 8 ∧ (((gfd G 7 4 l0) ≤ 0 → Q 0 G) ∧ (0 < (gfd G 7 4 l0) → (gcl G l0 = 8 ∧ gcl G l0 = 8 ∧ 15 ≤ gcl G (gfd G 7 3 l0) ∧ (((gln G (gfd G 7 3 l0)) < (gfd G 7 4 l0) → Q 0 G) ∧ ((gfd G 7 4 l0) ≤ (gln G (gfd G 7 3 l0)) → (gcl G l0 = 8 ∧ gcl G l0 = 8 ∧ i32 ((gfd G 7 4 l0) - 1) ∧ gcl G (gfd G 7 3 l0) = 15 ∧ 0 ≤ ((gfd G 7 4 l0) - 1) ∧ ((gfd G 7 4 l0) - 1) < gln G (gfd G 7 3 l0) ∧ i32 ((gel G (gfd G 7 3 l0) ((gfd G 7 4 l0) - 1)) + l1) ∧ gcl G (gfd G 7 3 l0) = 15 ∧ 0 ≤ ((gfd G 7 4 l0) - 1) ∧ ((gfd G 7 4 l0) - 1) < gln G (gfd G 7 3 l0) ∧ ∀ G17 : Gt, G17 = (sel G (gfd G 7 3 l0) ((gfd G 7 4 l0) - 1) ((gel G (gfd G 7 3 l0) ((gfd G 7 4 l0) - 1)) + l1)) → Q 0 G17)))))))) : Ok E M_X7_growBlock [rv l0, iv l1] G c s Q X := Ok.intro (k := 0) rfl rfl (Nat.le_of_ble_eq_true rfl) rfl (b_X7_growBlock_0 h)
set_option maxRecDepth 20000 in
theorem b_X7_bitsOfTime_0 {E : EE} {l0 : Int} {G : Gt} {c s : Nat} {Q X : Int → Gt → Prop} (h : ((l0 ≠ 0 → (OkP E M_X11_isWithin [iv l0, iv (-63), iv 64] G (wIn l0 (-63) 64) ∧ (((wIn l0 (-63) 64) = 0 → (OkP E M_X11_isWithin [iv l0, iv (-255), iv 256] G (wIn l0 (-255) 256) ∧ Q (if (wIn l0 (-255) 256) = 0 then (36 : Int) else 12) G)) ∧ ((wIn l0 (-63) 64) ≠ 0 → Q 9 G)))) ∧ (l0 = 0 → Q 1 G))) : V E M_X7_bitsOfTime 0 [some (iv l0)] [] G c s Q X := by
  refine v_iload_n (pc := 0) (dk dt_X7_bitsOfTime 0 rfl) rfl rfl ?_
  refine v_if_ne (pc := 1) (tgt := 6) (dk dt_X7_bitsOfTime 1 rfl) (by decide) (fun c1 => ?_) (fun c1 => ?_)
  · replace h := h.1 c1
    refine v_iload_n (pc := 6) (dk dt_X7_bitsOfTime 4 rfl) rfl rfl ?_
    refine v_bipush (pc := 7) (dk dt_X7_bitsOfTime 5 rfl) (by decide) ⟨by decide, by decide⟩ ?_
    refine v_bipush (pc := 9) (dk dt_X7_bitsOfTime 6 rfl) (by decide) ⟨by decide, by decide⟩ ?_
    obtain ⟨v2, h⟩ := h
    refine v_csNPZ (v := (wIn l0 (-63) 64)) (As := [iv l0, iv (-63), iv 64]) (stk := []) (pc := 11) (dk dt_X7_bitsOfTime 7 rfl) ml_X7_72 sw_X11_isWithin rfl rfl (Nat.le_of_ble_eq_true rfl) rfl rfl v2 ?_
    refine v_if_eq (pc := 14) (tgt := 20) (dk dt_X7_bitsOfTime 8 rfl) (by decide) (fun c3 => ?_) (fun c3 => ?_)
    · replace h := h.1 c3
      refine v_iload_n (pc := 20) (dk dt_X7_bitsOfTime 11 rfl) rfl rfl ?_
      refine v_sipush (pc := 21) (dk dt_X7_bitsOfTime 12 rfl) (by decide) ⟨by decide, by decide⟩ ?_
      refine v_sipush (pc := 24) (dk dt_X7_bitsOfTime 13 rfl) (by decide) ⟨by decide, by decide⟩ ?_
      obtain ⟨v4, h⟩ := h
      refine v_csNPZ (v := (wIn l0 (-255) 256)) (As := [iv l0, iv (-255), iv 256]) (stk := []) (pc := 27) (dk dt_X7_bitsOfTime 14 rfl) ml_X7_72 sw_X11_isWithin rfl rfl (Nat.le_of_ble_eq_true rfl) rfl rfl v4 ?_
      suffices k6 : V E M_X7_bitsOfTime 40 [none] [iv (if (wIn l0 (-255) 256) = 0 then (36 : Int) else 12)] G c s Q X by
        refine v_if_eq (pc := 30) (tgt := 38) (dk dt_X7_bitsOfTime 15 rfl) (by decide) (fun c5 => ?_) (fun c5 => ?_)
        · refine v_bipush (pc := 38) (dk dt_X7_bitsOfTime 18 rfl) (by decide) ⟨by decide, by decide⟩ ?_
          exact v_less2 (ls' := [none]) trivial (by have hk9 := k6; try simp only [if_pos c5] at hk9 ⊢; exact hk9)
        · refine v_bipush (pc := 33) (dk dt_X7_bitsOfTime 16 rfl) (by decide) ⟨by decide, by decide⟩ ?_
          refine v_goto (pc := 35) (tgt := 40) (dk dt_X7_bitsOfTime 17 rfl) (by decide) ?_
          exact v_less2 (ls' := [none]) trivial (by have hk9 := k6; try simp only [if_neg c5] at hk9 ⊢; exact hk9)
      exact v_iret (pc := 40) (dk dt_X7_bitsOfTime 19 rfl) rfl h
    · replace h := h.2 c3
      refine v_bipush (pc := 17) (dk dt_X7_bitsOfTime 9 rfl) (by decide) ⟨by decide, by decide⟩ ?_
      exact v_iret (pc := 19) (dk dt_X7_bitsOfTime 10 rfl) rfl h
  · replace h := h.2 c1
    refine v_iconst (pc := 4) (dk dt_X7_bitsOfTime 2 rfl) ⟨by decide, by decide⟩ ?_
    exact v_iret (pc := 5) (dk dt_X7_bitsOfTime 3 rfl) rfl h
set_option maxRecDepth 20000 in
theorem i_X7_bitsOfTime {E : EE} {l0 : Int} {G : Gt} {c s : Nat} {Q X : Int → Gt → Prop} (h : ((l0 ≠ 0 → (OkP E M_X11_isWithin [iv l0, iv (-63), iv 64] G (wIn l0 (-63) 64) ∧ (((wIn l0 (-63) 64) = 0 → (OkP E M_X11_isWithin [iv l0, iv (-255), iv 256] G (wIn l0 (-255) 256) ∧ Q (if (wIn l0 (-255) 256) = 0 then (36 : Int) else 12) G)) ∧ ((wIn l0 (-63) 64) ≠ 0 → Q 9 G)))) ∧ (l0 = 0 → Q 1 G))) : Ok E M_X7_bitsOfTime [iv l0] G c s Q X := Ok.intro (k := 0) rfl rfl (Nat.le_of_ble_eq_true rfl) rfl (b_X7_bitsOfTime_0 h)
set_option maxRecDepth 20000 in
theorem b_X7_bitsOfValue_0 {E : EE} {l0 : Int} {G : Gt} {c s : Nat} {Q X : Int → Gt → Prop} (h : ((l0 ≠ 0 → V E M_X7_bitsOfValue 9 [some (iv l0), some (iv 31), none] [] G c s Q X) ∧ (l0 = 0 → Q 1 G))) : V E M_X7_bitsOfValue 0 [some (iv l0), none, none] [] G c s Q X := by
  refine v_iload_n (pc := 0) (dk dt_X7_bitsOfValue 0 rfl) rfl rfl ?_
  refine v_if_ne (pc := 1) (tgt := 6) (dk dt_X7_bitsOfValue 1 rfl) (by decide) (fun c1 => ?_) (fun c1 => ?_)
  · replace h := h.1 c1
    refine v_bipush (pc := 6) (dk dt_X7_bitsOfValue 4 rfl) (by decide) ⟨by decide, by decide⟩ ?_
    refine v_istore_n (pc := 8) (ls' := [some (iv l0), some (iv 31), none]) (dk dt_X7_bitsOfValue 5 rfl) rfl (Nat.le_of_ble_eq_true rfl) rfl ?_
    exact h
  · replace h := h.2 c1
    refine v_iconst (pc := 4) (dk dt_X7_bitsOfValue 2 rfl) ⟨by decide, by decide⟩ ?_
    exact v_iret (pc := 5) (dk dt_X7_bitsOfValue 3 rfl) rfl h
set_option maxRecDepth 20000 in
theorem i_X7_bitsOfValue {E : EE} {l0 : Int} {G : Gt} {c s : Nat} {Q X : Int → Gt → Prop} (h : ((l0 ≠ 0 → V E M_X7_bitsOfValue 9 [some (iv l0), some (iv 31), none] [] G c s Q X) ∧ (l0 = 0 → Q 1 G))) : Ok E M_X7_bitsOfValue [iv l0] G c s Q X := Ok.intro (k := 2) rfl rfl (Nat.le_of_ble_eq_true rfl) rfl (b_X7_bitsOfValue_0 h)
set_option maxRecDepth 20000 in
theorem b_X7_bitsOfValue_9 {E : EE} {l0 l1 : Int} {G : Gt} {c s : Nat} {Q X : Int → Gt → Prop} (h : ((l1 ≤ 0 → V E M_X7_bitsOfValue 29 [some (iv l0), some (iv l1), some (iv 0)] [] G c s Q X) ∧ (0 < l1 → (((and32 (ushr32 l0 l1) 1) ≠ 0 → V E M_X7_bitsOfValue 29 [some (iv l0), some (iv l1), some (iv 0)] [] G c s Q X) ∧ ((and32 (ushr32 l0 l1) 1) = 0 → (i32 (l1 + (-1)) ∧ V E M_X7_bitsOfValue 9 [some (iv l0), some (iv (l1 + (-1))), none] [] G c s Q X)))))) : V E M_X7_bitsOfValue 9 [some (iv l0), some (iv l1), none] [] G c s Q X := by
  refine v_iload_n (pc := 9) (dk dt_X7_bitsOfValue 6 rfl) rfl rfl ?_
  refine v_if_le (pc := 10) (tgt := 27) (dk dt_X7_bitsOfValue 7 rfl) (by decide) (fun c1 => ?_) (fun c1 => ?_)
  · replace h := h.1 c1
    refine v_iconst (pc := 27) (dk dt_X7_bitsOfValue 16 rfl) ⟨by decide, by decide⟩ ?_
    refine v_istore_n (pc := 28) (ls' := [some (iv l0), some (iv l1), some (iv 0)]) (dk dt_X7_bitsOfValue 17 rfl) rfl (Nat.le_of_ble_eq_true rfl) rfl ?_
    exact h
  · replace h := h.2 c1
    refine v_iload_n (pc := 13) (dk dt_X7_bitsOfValue 8 rfl) rfl rfl ?_
    refine v_iload_n (pc := 14) (dk dt_X7_bitsOfValue 9 rfl) rfl rfl ?_
    refine v_iushr (pc := 15) (dk dt_X7_bitsOfValue 10 rfl) ?_
    refine v_iconst (pc := 16) (dk dt_X7_bitsOfValue 11 rfl) ⟨by decide, by decide⟩ ?_
    refine v_iand (pc := 17) (dk dt_X7_bitsOfValue 12 rfl) ?_
    refine v_if_ne (pc := 18) (tgt := 27) (dk dt_X7_bitsOfValue 13 rfl) (by decide) (fun c2 => ?_) (fun c2 => ?_)
    · replace h := h.1 c2
      refine v_iconst (pc := 27) (dk dt_X7_bitsOfValue 16 rfl) ⟨by decide, by decide⟩ ?_
      refine v_istore_n (pc := 28) (ls' := [some (iv l0), some (iv l1), some (iv 0)]) (dk dt_X7_bitsOfValue 17 rfl) rfl (Nat.le_of_ble_eq_true rfl) rfl ?_
      exact h
    · replace h := h.2 c2
      obtain ⟨v3, h⟩ := h
      refine v_iinc (pc := 21) (ls' := [some (iv l0), some (iv (l1 + (-1))), none]) (dk dt_X7_bitsOfValue 14 rfl) (Nat.le_of_ble_eq_true rfl) rfl v3 rfl ?_
      refine v_goto (pc := 24) (tgt := 9) (dk dt_X7_bitsOfValue 15 rfl) (by decide) ?_
      exact h
set_option maxRecDepth 20000 in
theorem b_X7_bitsOfValue_29 {E : EE} {l0 l1 l2 : Int} {G : Gt} {c s : Nat} {Q X : Int → Gt → Prop} (h : ((l1 ≤ l2 → (i32 (12 + l1) ∧ i32 ((12 + l1) - l2) ∧ i32 (((12 + l1) - l2) + 1) ∧ Q (((12 + l1) - l2) + 1) G)) ∧ (l2 < l1 → (((and32 (ushr32 l0 l2) 1) ≠ 0 → (i32 (12 + l1) ∧ i32 ((12 + l1) - l2) ∧ i32 (((12 + l1) - l2) + 1) ∧ Q (((12 + l1) - l2) + 1) G)) ∧ ((and32 (ushr32 l0 l2) 1) = 0 → (i32 (l2 + 1) ∧ V E M_X7_bitsOfValue 29 [some (iv l0), some (iv l1), some (iv (l2 + 1))] [] G c s Q X)))))) : V E M_X7_bitsOfValue 29 [some (iv l0), some (iv l1), some (iv l2)] [] G c s Q X := by
  refine v_iload_n (pc := 29) (dk dt_X7_bitsOfValue 18 rfl) rfl rfl ?_
  refine v_iload_n (pc := 30) (dk dt_X7_bitsOfValue 19 rfl) rfl rfl ?_
  refine v_icmp_ge (pc := 31) (tgt := 48) (dk dt_X7_bitsOfValue 20 rfl) (by decide) (fun c1 => ?_) (fun c1 => ?_)
  · replace h := h.1 c1
    refine v_bipush (pc := 48) (dk dt_X7_bitsOfValue 29 rfl) (by decide) ⟨by decide, by decide⟩ ?_
    refine v_iload_n (pc := 50) (dk dt_X7_bitsOfValue 30 rfl) rfl rfl ?_
    obtain ⟨v2, h⟩ := h
    refine v_iadd (pc := 51) (dk dt_X7_bitsOfValue 31 rfl) v2 ?_
    refine v_iload_n (pc := 52) (dk dt_X7_bitsOfValue 32 rfl) rfl rfl ?_
    obtain ⟨v3, h⟩ := h
    refine v_isub (pc := 53) (dk dt_X7_bitsOfValue 33 rfl) v3 ?_
    refine v_iconst (pc := 54) (dk dt_X7_bitsOfValue 34 rfl) ⟨by decide, by decide⟩ ?_
    obtain ⟨v4, h⟩ := h
    refine v_iadd (pc := 55) (dk dt_X7_bitsOfValue 35 rfl) v4 ?_
    exact v_iret (pc := 56) (dk dt_X7_bitsOfValue 36 rfl) rfl h
  · replace h := h.2 c1
    refine v_iload_n (pc := 34) (dk dt_X7_bitsOfValue 21 rfl) rfl rfl ?_
    refine v_iload_n (pc := 35) (dk dt_X7_bitsOfValue 22 rfl) rfl rfl ?_
    refine v_iushr (pc := 36) (dk dt_X7_bitsOfValue 23 rfl) ?_
    refine v_iconst (pc := 37) (dk dt_X7_bitsOfValue 24 rfl) ⟨by decide, by decide⟩ ?_
    refine v_iand (pc := 38) (dk dt_X7_bitsOfValue 25 rfl) ?_
    refine v_if_ne (pc := 39) (tgt := 48) (dk dt_X7_bitsOfValue 26 rfl) (by decide) (fun c5 => ?_) (fun c5 => ?_)
    · replace h := h.1 c5
      refine v_bipush (pc := 48) (dk dt_X7_bitsOfValue 29 rfl) (by decide) ⟨by decide, by decide⟩ ?_
      refine v_iload_n (pc := 50) (dk dt_X7_bitsOfValue 30 rfl) rfl rfl ?_
      obtain ⟨v6, h⟩ := h
      refine v_iadd (pc := 51) (dk dt_X7_bitsOfValue 31 rfl) v6 ?_
      refine v_iload_n (pc := 52) (dk dt_X7_bitsOfValue 32 rfl) rfl rfl ?_
      obtain ⟨v7, h⟩ := h
      refine v_isub (pc := 53) (dk dt_X7_bitsOfValue 33 rfl) v7 ?_
      refine v_iconst (pc := 54) (dk dt_X7_bitsOfValue 34 rfl) ⟨by decide, by decide⟩ ?_
      obtain ⟨v8, h⟩ := h
      refine v_iadd (pc := 55) (dk dt_X7_bitsOfValue 35 rfl) v8 ?_
      exact v_iret (pc := 56) (dk dt_X7_bitsOfValue 36 rfl) rfl h
    · replace h := h.2 c5
      obtain ⟨v9, h⟩ := h
      refine v_iinc (pc := 42) (ls' := [some (iv l0), some (iv l1), some (iv (l2 + 1))]) (dk dt_X7_bitsOfValue 27 rfl) (Nat.le_of_ble_eq_true rfl) rfl v9 rfl ?_
      refine v_goto (pc := 45) (tgt := 29) (dk dt_X7_bitsOfValue 28 rfl) (by decide) ?_
      exact h
set_option maxRecDepth 20000 in
theorem b_X7_bitsOfBlock_0 {E : EE} {l0 l1 : Int} {G : Gt} {c s : Nat} {Q X : Int → Gt → Prop} (h : V E M_X7_bitsOfBlock 2 [some (rv l0), some (iv l1), some (iv 0)] [] G c s Q X) : V E M_X7_bitsOfBlock 0 [some (rv l0), some (iv l1), none] [] G c s Q X := by
  refine v_iconst (pc := 0) (dk dt_X7_bitsOfBlock 0 rfl) ⟨by decide, by decide⟩ ?_
  refine v_istore_n (pc := 1) (ls' := [some (rv l0), some (iv l1), some (iv 0)]) (dk dt_X7_bitsOfBlock 1 rfl) rfl (Nat.le_of_ble_eq_true rfl) rfl ?_
  exact h
set_option maxRecDepth 20000 in
theorem i_X7_bitsOfBlock {E : EE} {l0 l1 : Int} {G : Gt} {c s : Nat} {Q X : Int → Gt → Prop} (h : V E M_X7_bitsOfBlock 2 [some (rv l0), some (iv l1), some (iv 0)] [] G c s Q X) : Ok E M_X7_bitsOfBlock [rv l0, iv l1] G c s Q X := Ok.intro (k := 1) rfl rfl (Nat.le_of_ble_eq_true rfl) rfl (b_X7_bitsOfBlock_0 h)
set_option maxRecDepth 20000 in
theorem b_X7_bitsOfBlock_2 {E : EE} {l0 l1 l2 : Int} {G : Gt} {c s : Nat} {Q X : Int → Gt → Prop} (h : (gcl G l0 = 8 ∧ (((gfd G 7 4 l0) ≤ l2 → Q (-1) G) ∧ (l2 < (gfd G 7 4 l0) → (gcl G l0 = 8 ∧ 15 ≤ gcl G (gfd G 7 2 l0) ∧ (((gln G (gfd G 7 2 l0)) ≤ l2 → Q (-1) G) ∧ (l2 < (gln G (gfd G 7 2 l0)) → (gcl G l0 = 8 ∧ 15 ≤ gcl G (gfd G 7 3 l0) ∧ (((gln G (gfd G 7 3 l0)) ≤ l2 → Q (-1) G) ∧ (l2 < (gln G (gfd G 7 3 l0)) → (gcl G l0 = 8 ∧ gcl G (gfd G 7 2 l0) = 15 ∧ 0 ≤ l2 ∧ l2 < gln G (gfd G 7 2 l0) ∧ (((gel G (gfd G 7 2 l0) l2) ≠ l1 → (i32 (l2 + 1) ∧ V E M_X7_bitsOfBlock 2 [some (rv l0), some (iv l1), some (iv (l2 + 1))] [] G c s Q X)) ∧ ((gel G (gfd G 7 2 l0) l2) = l1 → (gcl G l0 = 8 ∧ gcl G (gfd G 7 3 l0) = 15 ∧ 0 ≤ l2 ∧ l2 < gln G (gfd G 7 3 l0) ∧ Q (gel G (gfd G 7 3 l0) l2) G)))))))))))))) : V E M_X7_bitsOfBlock 2 [some (rv l0), some (iv l1), some (iv l2)] [] G c s Q X := by
  refine v_iload_n (pc := 2) (dk dt_X7_bitsOfBlock 2 rfl) rfl rfl ?_
  refine v_aload_n (pc := 3) (dk dt_X7_bitsOfBlock 3 rfl) rfl rfl ?_
  obtain ⟨v1, h⟩ := h
  refine v_getI (pc := 4) (dk dt_X7_bitsOfBlock 4 rfl) fl_X7_25 v1 (fun _ => ?_)
  refine v_icmp_ge (pc := 7) (tgt := 51) (dk dt_X7_bitsOfBlock 5 rfl) (by decide) (fun c2 => ?_) (fun c2 => ?_)
  · replace h := h.1 c2
    refine v_iconst (pc := 51) (dk dt_X7_bitsOfBlock 29 rfl) ⟨by decide, by decide⟩ ?_
    exact v_iret (pc := 52) (dk dt_X7_bitsOfBlock 30 rfl) rfl h
  · replace h := h.2 c2
    refine v_iload_n (pc := 10) (dk dt_X7_bitsOfBlock 6 rfl) rfl rfl ?_
    refine v_aload_n (pc := 11) (dk dt_X7_bitsOfBlock 7 rfl) rfl rfl ?_
    obtain ⟨v3, h⟩ := h
    refine v_getR (pc := 12) (dk dt_X7_bitsOfBlock 8 rfl) fl_X7_18 v3 (fun _ => ?_)
    obtain ⟨v4, h⟩ := h
    refine v_alen (pc := 15) (dk dt_X7_bitsOfBlock 9 rfl) v4 (fun _ => ?_)
    refine v_icmp_ge (pc := 16) (tgt := 51) (dk dt_X7_bitsOfBlock 10 rfl) (by decide) (fun c5 => ?_) (fun c5 => ?_)
    · replace h := h.1 c5
      refine v_iconst (pc := 51) (dk dt_X7_bitsOfBlock 29 rfl) ⟨by decide, by decide⟩ ?_
      exact v_iret (pc := 52) (dk dt_X7_bitsOfBlock 30 rfl) rfl h
    · replace h := h.2 c5
      refine v_iload_n (pc := 19) (dk dt_X7_bitsOfBlock 11 rfl) rfl rfl ?_
      refine v_aload_n (pc := 20) (dk dt_X7_bitsOfBlock 12 rfl) rfl rfl ?_
      obtain ⟨v6, h⟩ := h
      refine v_getR (pc := 21) (dk dt_X7_bitsOfBlock 13 rfl) fl_X7_22 v6 (fun _ => ?_)
      obtain ⟨v7, h⟩ := h
      refine v_alen (pc := 24) (dk dt_X7_bitsOfBlock 14 rfl) v7 (fun _ => ?_)
      refine v_icmp_ge (pc := 25) (tgt := 51) (dk dt_X7_bitsOfBlock 15 rfl) (by decide) (fun c8 => ?_) (fun c8 => ?_)
      · replace h := h.1 c8
        refine v_iconst (pc := 51) (dk dt_X7_bitsOfBlock 29 rfl) ⟨by decide, by decide⟩ ?_
        exact v_iret (pc := 52) (dk dt_X7_bitsOfBlock 30 rfl) rfl h
      · replace h := h.2 c8
        refine v_aload_n (pc := 28) (dk dt_X7_bitsOfBlock 16 rfl) rfl rfl ?_
        obtain ⟨v9, h⟩ := h
        refine v_getR (pc := 29) (dk dt_X7_bitsOfBlock 17 rfl) fl_X7_18 v9 (fun _ => ?_)
        refine v_iload_n (pc := 32) (dk dt_X7_bitsOfBlock 18 rfl) rfl rfl ?_
        obtain ⟨v10, h⟩ := h
        obtain ⟨v11, h⟩ := h
        obtain ⟨v12, h⟩ := h
        refine v_iald (pc := 33) (dk dt_X7_bitsOfBlock 19 rfl) (Or.inl v10) v11 v12 (fun _ => ?_)
        refine v_iload_n (pc := 34) (dk dt_X7_bitsOfBlock 20 rfl) rfl rfl ?_
        refine v_icmp_ne (pc := 35) (tgt := 45) (dk dt_X7_bitsOfBlock 21 rfl) (by decide) (fun c13 => ?_) (fun c13 => ?_)
        · replace h := h.1 c13
          obtain ⟨v14, h⟩ := h
          refine v_iinc (pc := 45) (ls' := [some (rv l0), some (iv l1), some (iv (l2 + 1))]) (dk dt_X7_bitsOfBlock 27 rfl) (Nat.le_of_ble_eq_true rfl) rfl v14 rfl ?_
          refine v_goto (pc := 48) (tgt := 2) (dk dt_X7_bitsOfBlock 28 rfl) (by decide) ?_
          exact h
        · replace h := h.2 c13
          refine v_aload_n (pc := 38) (dk dt_X7_bitsOfBlock 22 rfl) rfl rfl ?_
          obtain ⟨v15, h⟩ := h
          refine v_getR (pc := 39) (dk dt_X7_bitsOfBlock 23 rfl) fl_X7_22 v15 (fun _ => ?_)
          refine v_iload_n (pc := 42) (dk dt_X7_bitsOfBlock 24 rfl) rfl rfl ?_
          obtain ⟨v16, h⟩ := h
          obtain ⟨v17, h⟩ := h
          obtain ⟨v18, h⟩ := h
          refine v_iald (pc := 43) (dk dt_X7_bitsOfBlock 25 rfl) (Or.inl v16) v17 v18 (fun _ => ?_)
          exact v_iret (pc := 44) (dk dt_X7_bitsOfBlock 26 rfl) rfl h
set_option maxRecDepth 20000 in
theorem b_X8_init_0 {E : EE} {l0 : Int} {G : Gt} {c s : Nat} {Q X : Int → Gt → Prop} (h : (0 ≤ l0 ∧ 1 ≤ c ∧ 3 ≤ s ∧ ∀ q4 : Int, gcl G q4 = 0 → (eb E : Int) ≤ q4 → ∀ G5 : Gt, G5 = (newo G q4 13) → 0 ≤ q4 ∧ Call E M_A_init [rv q4] G5 (c - 1) (s - 3) X (fun r7 G8 c9 s10 => gcl G8 l0 = 9 ∧ ∀ G12 : Gt, G12 = (sfd G8 8 0 l0 q4) → 1 ≤ c9 ∧ 3 ≤ s10 ∧ ∀ q15 : Int, gcl G12 q15 = 0 → (eb E : Int) ≤ q15 → ∀ G16 : Gt, G16 = (newo G12 q15 13) → 0 ≤ q15 ∧ Call E M_A_init [rv q15] G16 (c9 - 1) (s10 - 3) X (fun r18 G19 c20 s21 => gcl G19 l0 = 9 ∧ ∀ G23 : Gt, G23 = (sfd G19 8 1 l0 q15) → gcl G23 l0 = 9 ∧ ∀ G25 : Gt, G25 = (sfd G23 8 2 l0 0) → gcl G25 l0 = 9 ∧ ∀ G27 : Gt, G27 = (sfd G25 8 3 l0 0) → Q 0 G27)))) : V E M_X8_init 0 [some (rv l0)] [] G c s Q X := by
  refine v_aload_n (pc := 0) (dk dt_X8_init 0 rfl) rfl rfl ?_
  obtain ⟨v1, h⟩ := h
  refine v_objInit (pc := 1) (dk dt_X8_init 1 rfl) mw_X8_3 (Nat.le_of_ble_eq_true rfl) (Nat.le_of_ble_eq_true rfl) (Nat.le_of_ble_eq_true rfl) v1 ?_
  refine v_aload_n (pc := 4) (dk dt_X8_init 2 rfl) rfl rfl ?_
  obtain ⟨v2, h⟩ := h
  obtain ⟨v3, h⟩ := h
  refine v_new (pc := 5) (dk dt_X8_init 3 rfl) nl_X8_9 v2 v3 (fun q4 hq4 gq4 => ?_)
  replace h := h q4 hq4 gq4
  generalize hG5 : (newo G q4 13) = G5
  replace h := h G5 hG5.symm
  refine v_dup (pc := 8) (dk dt_X8_init 4 rfl) (by intro h9; cases h9) ?_
  obtain ⟨v6, h⟩ := h
  refine v_ciV (As := []) (stk := [rv q4, rv l0]) (pc := 9) (dk dt_X8_init 5 rfl) ml_X8_11 rfl rfl (Nat.le_of_ble_eq_true rfl) rfl v6 (Call.mono h (fun r7 G8 c9 s10 h => ?_))
  obtain ⟨v11, h⟩ := h
  refine v_putR (pc := 12) (dk dt_X8_init 6 rfl) fl_X8_12 (Or.inr ⟨rfl, rfl⟩) v11 ?_
  generalize hG12 : (sfd G8 8 0 l0 q4) = G12
  replace h := h G12 hG12.symm
  refine v_aload_n (pc := 15) (dk dt_X8_init 7 rfl) rfl rfl ?_
  obtain ⟨v13, h⟩ := h
  obtain ⟨v14, h⟩ := h
  refine v_new (pc := 16) (dk dt_X8_init 8 rfl) nl_X8_9 v13 v14 (fun q15 hq15 gq15 => ?_)
  replace h := h q15 hq15 gq15
  generalize hG16 : (newo G12 q15 13) = G16
  replace h := h G16 hG16.symm
  refine v_dup (pc := 19) (dk dt_X8_init 9 rfl) (by intro h9; cases h9) ?_
  obtain ⟨v17, h⟩ := h
  refine v_ciV (As := []) (stk := [rv q15, rv l0]) (pc := 20) (dk dt_X8_init 10 rfl) ml_X8_11 rfl rfl (Nat.le_of_ble_eq_true rfl) rfl v17 (Call.mono h (fun r18 G19 c20 s21 h => ?_))
  obtain ⟨v22, h⟩ := h
  refine v_putR (pc := 23) (dk dt_X8_init 11 rfl) fl_X8_18 (Or.inr ⟨rfl, rfl⟩) v22 ?_
  generalize hG23 : (sfd G19 8 1 l0 q15) = G23
  replace h := h G23 hG23.symm
  refine v_aload_n (pc := 26) (dk dt_X8_init 12 rfl) rfl rfl ?_
  refine v_iconst (pc := 27) (dk dt_X8_init 13 rfl) ⟨by decide, by decide⟩ ?_
  obtain ⟨v24, h⟩ := h
  refine v_putZ (pc := 28) (dk dt_X8_init 14 rfl) fl_X8_21 (Or.inl rfl) v24 (Or.inl rfl) ?_
  generalize hG25 : (sfd G23 8 2 l0 0) = G25
  replace h := h G25 hG25.symm
  refine v_aload_n (pc := 31) (dk dt_X8_init 15 rfl) rfl rfl ?_
  refine v_iconst (pc := 32) (dk dt_X8_init 16 rfl) ⟨by decide, by decide⟩ ?_
  obtain ⟨v26, h⟩ := h
  refine v_putI (pc := 33) (dk dt_X8_init 17 rfl) fl_X8_25 (Or.inl rfl) v26 ?_
  generalize hG27 : (sfd G25 8 3 l0 0) = G27
  replace h := h G27 hG27.symm
  exact v_vret (pc := 36) (dk dt_X8_init 18 rfl) rfl h
set_option maxRecDepth 20000 in
theorem i_X8_init {E : EE} {l0 : Int} {G : Gt} {c s : Nat} {Q X : Int → Gt → Prop} (h : (0 ≤ l0 ∧ 1 ≤ c ∧ 3 ≤ s ∧ ∀ q4 : Int, gcl G q4 = 0 → (eb E : Int) ≤ q4 → ∀ G5 : Gt, G5 = (newo G q4 13) → 0 ≤ q4 ∧ Call E M_A_init [rv q4] G5 (c - 1) (s - 3) X (fun r7 G8 c9 s10 => gcl G8 l0 = 9 ∧ ∀ G12 : Gt, G12 = (sfd G8 8 0 l0 q4) → 1 ≤ c9 ∧ 3 ≤ s10 ∧ ∀ q15 : Int, gcl G12 q15 = 0 → (eb E : Int) ≤ q15 → ∀ G16 : Gt, G16 = (newo G12 q15 13) → 0 ≤ q15 ∧ Call E M_A_init [rv q15] G16 (c9 - 1) (s10 - 3) X (fun r18 G19 c20 s21 => gcl G19 l0 = 9 ∧ ∀ G23 : Gt, G23 = (sfd G19 8 1 l0 q15) → gcl G23 l0 = 9 ∧ ∀ G25 : Gt, G25 = (sfd G23 8 2 l0 0) → gcl G25 l0 = 9 ∧ ∀ G27 : Gt, G27 = (sfd G25 8 3 l0 0) → Q 0 G27)))) : Ok E M_X8_init [rv l0] G c s Q X := Ok.intro (k := 0) rfl rfl (Nat.le_of_ble_eq_true rfl) rfl (b_X8_init_0 h)
set_option maxRecDepth 20000 in
theorem b_X8_take_0 {E : EE} {l0 l1 l2 l3 : Int} {G : Gt} {c s : Nat} {Q X : Int → Gt → Prop} (h : (gcl G l0 = 9 ∧ Call E M_X8_find [rv l0, iv l1] G c s X (fun r2 G3 c4 s5 => ∀ J6 : Prop, ((∀ J7 : Int → Gt → Nat → Nat → Prop, (∀ (x8 : Int) (G9 : Gt) (c10 s11 : Nat), ((x8 = 0 → (gcl G9 l0 = 9 ∧ Call E M_X8_countSeen [rv l0, iv (Int.tdiv l1 100)] G9 c10 s11 X (fun r14 G15 c16 s17 => ((r14 < 60 → (∀ J19 : Int → Gt → Nat → Nat → Prop, (∀ (x20 : Int) (G21 : Gt) (c22 s23 : Nat), (1 ≤ c22 ∧ 6 ≤ s23 ∧ ∀ q26 : Int, gcl G21 q26 = 0 → (eb E : Int) ≤ q26 → ∀ G27 : Gt, G27 = (newo G21 q26 5) → gcl G27 l0 = 9 ∧ gcl G27 l0 = 9 ∧ 0 ≤ q26 ∧ Call E M_X5_init [rv q26, rv x20, iv l2, iv l3, iv (gfd G27 8 3 l0), iv (if (gfd G27 8 2 l0) = 0 then (1 : Int) else 0)] G27 (c22 - 1) (s23 - 6) X (fun r32 G33 c34 s35 => gcl G33 l0 = 9 ∧ i32 ((gfd G33 8 3 l0) + 1) ∧ gcl G33 l0 = 9 ∧ ∀ G39 : Gt, G39 = (sfd G33 8 3 l0 ((gfd G33 8 3 l0) + 1)) → gcl G39 x20 = 8 ∧ Call E M_X7_show [rv x20, rv q26] G39 c34 s35 X (fun r41 G42 c43 s44 => gcl G42 l0 = 9 ∧ 1 ≤ c43 ∧ 2 ≤ s44 ∧ ∀ q48 : Int, gcl G42 q48 = 0 → (eb E : Int) ≤ q48 → ∀ G49 : Gt, G49 = (newo G42 q48 1) → 0 ≤ q48 ∧ Call E M_X1_init [rv q48, rv q26, iv 0] G49 (c43 - 1) (s44 - 2) X (fun r51 G52 c53 s54 => gcl G52 (gfd G42 8 1 l0) = 14 ∧ Call E M_A_add [rv (gfd G42 8 1 l0), rv q48] G52 c53 s54 X (fun r56 G57 c58 s59 => Q 0 G57))))) → J19 x20 G21 c22 s23) → ((0 ≤ r2 → J19 r2 G15 c16 s17) ∧ (r2 = -1 → (1 ≤ c16 ∧ 5 ≤ s17 ∧ ∀ q63 : Int, gcl G15 q63 = 0 → (eb E : Int) ≤ q63 → ∀ G64 : Gt, G64 = (newo G15 q63 7) → 0 ≤ q63 ∧ Call E M_X7_init [rv q63, iv l1] G64 (c16 - 1) (s17 - 5) X (fun r66 G67 c68 s69 => gcl G67 l0 = 9 ∧ gcl G67 (gfd G67 8 0 l0) = 14 ∧ Call E M_A_add [rv (gfd G67 8 0 l0), rv q63] G67 c68 s69 X (fun r72 G73 c74 s75 => J19 q63 G73 c74 s75))))))) ∧ (60 ≤ r14 → Q 5 G15))))) ∧ (x8 ≠ 0 → Q x8 G9)) → J7 x8 G9 c10 s11) → ((0 ≤ r2 → (gcl G3 r2 = 8 ∧ Call E M_X7_judge [rv r2, iv l2, iv l3] G3 c4 s5 X (fun r78 G79 c80 s81 => J7 r78 G79 c80 s81))) ∧ (r2 = -1 → J7 0 G3 c4 s5))) → J6) → ((0 ≤ r2 → J6) ∧ (r2 = -1 → (gcl G3 l0 = 9 ∧ gcl G3 (gfd G3 8 0 l0) = 14 ∧ OkP E M_A_size [rv (gfd G3 8 0 l0)] G3 (gfd G3 13 2 (gfd G3 8 0 l0)) ∧ (((gfd G3 13 2 (gfd G3 8 0 l0)) < 12 → J6) ∧ (12 ≤ (gfd G3 13 2 (gfd G3 8 0 l0)) → Q 1 G3)))))))) : V E M_X8_take 0 [some (rv l0), some (iv l1), some (iv l2), some (iv l3), none, none, none] [] G c s Q X := by
  refine v_aload_n (pc := 0) (dk dt_X8_take 0 rfl) rfl rfl ?_
  refine v_iload_n (pc := 1) (dk dt_X8_take 1 rfl) rfl rfl ?_
  obtain ⟨v1, h⟩ := h
  refine v_cvR (c := 8) (As := [iv l1]) (stk := []) (pc := 2) (dk dt_X8_take 2 rfl) ml_X8_29 rfl rfl (Nat.le_of_ble_eq_true rfl) rfl ⟨by decide, rfl⟩ v1 rfl (Call.mono h (fun r2 G3 c4 s5 h => ?_))
  refine v_astore (pc := 5) (ls' := [some (rv l0), some (iv l1), some (iv l2), some (iv l3), some (rv r2), none, none]) (dk dt_X8_take 3 rfl) (Nat.le_of_ble_eq_true rfl) rfl ?_
  refine v_aload (pc := 7) (dk dt_X8_take 4 rfl) rfl ?_
  obtain ⟨J6, dJ6⟩ : ∃ J9 : Prop, J9 = V E M_X8_take 26 [some (rv l0), some (iv l1), some (iv l2), some (iv l3), some (rv r2), none, none] [] G3 c4 s5 Q X := ⟨_, rfl⟩
  have hJ6 : (∀ J7 : Int → Gt → Nat → Nat → Prop, (∀ (x8 : Int) (G9 : Gt) (c10 s11 : Nat), ((x8 = 0 → (gcl G9 l0 = 9 ∧ Call E M_X8_countSeen [rv l0, iv (Int.tdiv l1 100)] G9 c10 s11 X (fun r14 G15 c16 s17 => ((r14 < 60 → (∀ J19 : Int → Gt → Nat → Nat → Prop, (∀ (x20 : Int) (G21 : Gt) (c22 s23 : Nat), (1 ≤ c22 ∧ 6 ≤ s23 ∧ ∀ q26 : Int, gcl G21 q26 = 0 → (eb E : Int) ≤ q26 → ∀ G27 : Gt, G27 = (newo G21 q26 5) → gcl G27 l0 = 9 ∧ gcl G27 l0 = 9 ∧ 0 ≤ q26 ∧ Call E M_X5_init [rv q26, rv x20, iv l2, iv l3, iv (gfd G27 8 3 l0), iv (if (gfd G27 8 2 l0) = 0 then (1 : Int) else 0)] G27 (c22 - 1) (s23 - 6) X (fun r32 G33 c34 s35 => gcl G33 l0 = 9 ∧ i32 ((gfd G33 8 3 l0) + 1) ∧ gcl G33 l0 = 9 ∧ ∀ G39 : Gt, G39 = (sfd G33 8 3 l0 ((gfd G33 8 3 l0) + 1)) → gcl G39 x20 = 8 ∧ Call E M_X7_show [rv x20, rv q26] G39 c34 s35 X (fun r41 G42 c43 s44 => gcl G42 l0 = 9 ∧ 1 ≤ c43 ∧ 2 ≤ s44 ∧ ∀ q48 : Int, gcl G42 q48 = 0 → (eb E : Int) ≤ q48 → ∀ G49 : Gt, G49 = (newo G42 q48 1) → 0 ≤ q48 ∧ Call E M_X1_init [rv q48, rv q26, iv 0] G49 (c43 - 1) (s44 - 2) X (fun r51 G52 c53 s54 => gcl G52 (gfd G42 8 1 l0) = 14 ∧ Call E M_A_add [rv (gfd G42 8 1 l0), rv q48] G52 c53 s54 X (fun r56 G57 c58 s59 => Q 0 G57))))) → J19 x20 G21 c22 s23) → ((0 ≤ r2 → J19 r2 G15 c16 s17) ∧ (r2 = -1 → (1 ≤ c16 ∧ 5 ≤ s17 ∧ ∀ q63 : Int, gcl G15 q63 = 0 → (eb E : Int) ≤ q63 → ∀ G64 : Gt, G64 = (newo G15 q63 7) → 0 ≤ q63 ∧ Call E M_X7_init [rv q63, iv l1] G64 (c16 - 1) (s17 - 5) X (fun r66 G67 c68 s69 => gcl G67 l0 = 9 ∧ gcl G67 (gfd G67 8 0 l0) = 14 ∧ Call E M_A_add [rv (gfd G67 8 0 l0), rv q63] G67 c68 s69 X (fun r72 G73 c74 s75 => J19 q63 G73 c74 s75))))))) ∧ (60 ≤ r14 → Q 5 G15))))) ∧ (x8 ≠ 0 → Q x8 G9)) → J7 x8 G9 c10 s11) → ((0 ≤ r2 → (gcl G3 r2 = 8 ∧ Call E M_X7_judge [rv r2, iv l2, iv l3] G3 c4 s5 X (fun r78 G79 c80 s81 => J7 r78 G79 c80 s81))) ∧ (r2 = -1 → J7 0 G3 c4 s5))) → J6 := by
    intro h
    rw [dJ6]
    refine v_aload (pc := 26) (dk dt_X8_take 13 rfl) rfl ?_
    obtain ⟨J7, dJ7⟩ : ∃ J9 : Int → Gt → Nat → Nat → Prop, J9 = fun x8 G9 c10 s11 => V E M_X8_take 42 [some (rv l0), some (iv l1), some (iv l2), some (iv l3), some (rv r2), none, none] [iv x8] G9 c10 s11 Q X := ⟨_, rfl⟩
    have hJ7 : ∀ (x8 : Int) (G9 : Gt) (c10 s11 : Nat), ((x8 = 0 → (gcl G9 l0 = 9 ∧ Call E M_X8_countSeen [rv l0, iv (Int.tdiv l1 100)] G9 c10 s11 X (fun r14 G15 c16 s17 => ((r14 < 60 → (∀ J19 : Int → Gt → Nat → Nat → Prop, (∀ (x20 : Int) (G21 : Gt) (c22 s23 : Nat), (1 ≤ c22 ∧ 6 ≤ s23 ∧ ∀ q26 : Int, gcl G21 q26 = 0 → (eb E : Int) ≤ q26 → ∀ G27 : Gt, G27 = (newo G21 q26 5) → gcl G27 l0 = 9 ∧ gcl G27 l0 = 9 ∧ 0 ≤ q26 ∧ Call E M_X5_init [rv q26, rv x20, iv l2, iv l3, iv (gfd G27 8 3 l0), iv (if (gfd G27 8 2 l0) = 0 then (1 : Int) else 0)] G27 (c22 - 1) (s23 - 6) X (fun r32 G33 c34 s35 => gcl G33 l0 = 9 ∧ i32 ((gfd G33 8 3 l0) + 1) ∧ gcl G33 l0 = 9 ∧ ∀ G39 : Gt, G39 = (sfd G33 8 3 l0 ((gfd G33 8 3 l0) + 1)) → gcl G39 x20 = 8 ∧ Call E M_X7_show [rv x20, rv q26] G39 c34 s35 X (fun r41 G42 c43 s44 => gcl G42 l0 = 9 ∧ 1 ≤ c43 ∧ 2 ≤ s44 ∧ ∀ q48 : Int, gcl G42 q48 = 0 → (eb E : Int) ≤ q48 → ∀ G49 : Gt, G49 = (newo G42 q48 1) → 0 ≤ q48 ∧ Call E M_X1_init [rv q48, rv q26, iv 0] G49 (c43 - 1) (s44 - 2) X (fun r51 G52 c53 s54 => gcl G52 (gfd G42 8 1 l0) = 14 ∧ Call E M_A_add [rv (gfd G42 8 1 l0), rv q48] G52 c53 s54 X (fun r56 G57 c58 s59 => Q 0 G57))))) → J19 x20 G21 c22 s23) → ((0 ≤ r2 → J19 r2 G15 c16 s17) ∧ (r2 = -1 → (1 ≤ c16 ∧ 5 ≤ s17 ∧ ∀ q63 : Int, gcl G15 q63 = 0 → (eb E : Int) ≤ q63 → ∀ G64 : Gt, G64 = (newo G15 q63 7) → 0 ≤ q63 ∧ Call E M_X7_init [rv q63, iv l1] G64 (c16 - 1) (s17 - 5) X (fun r66 G67 c68 s69 => gcl G67 l0 = 9 ∧ gcl G67 (gfd G67 8 0 l0) = 14 ∧ Call E M_A_add [rv (gfd G67 8 0 l0), rv q63] G67 c68 s69 X (fun r72 G73 c74 s75 => J19 q63 G73 c74 s75))))))) ∧ (60 ≤ r14 → Q 5 G15))))) ∧ (x8 ≠ 0 → Q x8 G9)) → J7 x8 G9 c10 s11 := by
      intro x8 G9 c10 s11 h
      rw [dJ7]
      refine v_istore (pc := 42) (ls' := [some (rv l0), some (iv l1), some (iv l2), some (iv l3), some (rv r2), some (iv x8), none]) (dk dt_X8_take 21 rfl) (Nat.le_of_ble_eq_true rfl) rfl ?_
      refine v_iload (pc := 44) (dk dt_X8_take 22 rfl) rfl ?_
      refine v_if_eq (pc := 46) (tgt := 52) (dk dt_X8_take 23 rfl) (by decide) (fun c12 => ?_) (fun c12 => ?_)
      · replace h := h.1 c12
        refine v_aload_n (pc := 52) (dk dt_X8_take 26 rfl) rfl rfl ?_
        refine v_iload_n (pc := 53) (dk dt_X8_take 27 rfl) rfl rfl ?_
        refine v_bipush (pc := 54) (dk dt_X8_take 28 rfl) (by decide) ⟨by decide, by decide⟩ ?_
        refine v_idivP (pc := 56) (dk dt_X8_take 29 rfl) (by decide) ?_
        obtain ⟨v13, h⟩ := h
        refine v_cvI (c := 8) (As := [iv (Int.tdiv l1 100)]) (stk := []) (pc := 57) (dk dt_X8_take 30 rfl) ml_X8_43 rfl rfl (Nat.le_of_ble_eq_true rfl) rfl ⟨by decide, rfl⟩ v13 rfl (Call.mono h (fun r14 G15 c16 s17 h => ?_))
        refine v_bipush (pc := 60) (dk dt_X8_take 31 rfl) (by decide) ⟨by decide, by decide⟩ ?_
        refine v_icmp_lt (pc := 62) (tgt := 67) (dk dt_X8_take 32 rfl) (by decide) (fun c18 => ?_) (fun c18 => ?_)
        · replace h := h.1 c18
          refine v_aload (pc := 67) (dk dt_X8_take 35 rfl) rfl ?_
          obtain ⟨J19, dJ19⟩ : ∃ J9 : Int → Gt → Nat → Nat → Prop, J9 = fun x20 G21 c22 s23 => V E M_X8_take 92 [some (rv l0), none, some (iv l2), some (iv l3), some (rv x20), none, none] [] G21 c22 s23 Q X := ⟨_, rfl⟩
          have hJ19 : ∀ (x20 : Int) (G21 : Gt) (c22 s23 : Nat), (1 ≤ c22 ∧ 6 ≤ s23 ∧ ∀ q26 : Int, gcl G21 q26 = 0 → (eb E : Int) ≤ q26 → ∀ G27 : Gt, G27 = (newo G21 q26 5) → gcl G27 l0 = 9 ∧ gcl G27 l0 = 9 ∧ 0 ≤ q26 ∧ Call E M_X5_init [rv q26, rv x20, iv l2, iv l3, iv (gfd G27 8 3 l0), iv (if (gfd G27 8 2 l0) = 0 then (1 : Int) else 0)] G27 (c22 - 1) (s23 - 6) X (fun r32 G33 c34 s35 => gcl G33 l0 = 9 ∧ i32 ((gfd G33 8 3 l0) + 1) ∧ gcl G33 l0 = 9 ∧ ∀ G39 : Gt, G39 = (sfd G33 8 3 l0 ((gfd G33 8 3 l0) + 1)) → gcl G39 x20 = 8 ∧ Call E M_X7_show [rv x20, rv q26] G39 c34 s35 X (fun r41 G42 c43 s44 => gcl G42 l0 = 9 ∧ 1 ≤ c43 ∧ 2 ≤ s44 ∧ ∀ q48 : Int, gcl G42 q48 = 0 → (eb E : Int) ≤ q48 → ∀ G49 : Gt, G49 = (newo G42 q48 1) → 0 ≤ q48 ∧ Call E M_X1_init [rv q48, rv q26, iv 0] G49 (c43 - 1) (s44 - 2) X (fun r51 G52 c53 s54 => gcl G52 (gfd G42 8 1 l0) = 14 ∧ Call E M_A_add [rv (gfd G42 8 1 l0), rv q48] G52 c53 s54 X (fun r56 G57 c58 s59 => Q 0 G57))))) → J19 x20 G21 c22 s23 := by
            intro x20 G21 c22 s23 h
            rw [dJ19]
            obtain ⟨v24, h⟩ := h
            obtain ⟨v25, h⟩ := h
            refine v_new (pc := 92) (dk dt_X8_take_1 7 rfl) nl_X8_54 v24 v25 (fun q26 hq26 gq26 => ?_)
            replace h := h q26 hq26 gq26
            generalize hG27 : (newo G21 q26 5) = G27
            replace h := h G27 hG27.symm
            refine v_dup (pc := 95) (dk dt_X8_take_1 8 rfl) (by intro h9; cases h9) ?_
            refine v_aload (pc := 96) (dk dt_X8_take_1 9 rfl) rfl ?_
            refine v_iload_n (pc := 98) (dk dt_X8_take_1 10 rfl) rfl rfl ?_
            refine v_iload_n (pc := 99) (dk dt_X8_take_1 11 rfl) rfl rfl ?_
            refine v_aload_n (pc := 100) (dk dt_X8_take_1 12 rfl) rfl rfl ?_
            obtain ⟨v28, h⟩ := h
            refine v_getI (pc := 101) (dk dt_X8_take_1 13 rfl) fl_X8_25 v28 (fun _ => ?_)
            refine v_aload_n (pc := 104) (dk dt_X8_take_1 14 rfl) rfl rfl ?_
            obtain ⟨v29, h⟩ := h
            refine v_getZ (pc := 105) (dk dt_X8_take_1 15 rfl) fl_X8_21 v29 (fun _ => ?_)
            suffices k87 : V E M_X8_take 116 [some (rv l0), none, none, none, some (rv x20), none, none] [iv (if (gfd G27 8 2 l0) = 0 then (1 : Int) else 0), iv (gfd G27 8 3 l0), iv l3, iv l2, rv x20, rv q26, rv q26] G27 (c22 - 1) (s23 - 6) Q X by
              refine v_if_ne (pc := 108) (tgt := 115) (dk dt_X8_take_1 16 rfl) (by decide) (fun c30 => ?_) (fun c30 => ?_)
              · refine v_iconst (pc := 115) (dk dt_X8_take_1 19 rfl) ⟨by decide, by decide⟩ ?_
                exact v_less2 (ls' := [some (rv l0), none, none, none, some (rv x20), none, none]) ⟨rfl, rfl, trivial⟩ (by have hk9 := k87; try simp only [if_neg c30] at hk9 ⊢; exact hk9)
              · refine v_iconst (pc := 111) (dk dt_X8_take_1 17 rfl) ⟨by decide, by decide⟩ ?_
                refine v_goto (pc := 112) (tgt := 116) (dk dt_X8_take_1 18 rfl) (by decide) ?_
                exact v_less2 (ls' := [some (rv l0), none, none, none, some (rv x20), none, none]) ⟨rfl, rfl, trivial⟩ (by have hk9 := k87; try simp only [if_pos c30] at hk9 ⊢; exact hk9)
            obtain ⟨v31, h⟩ := h
            refine v_ciV (As := [rv x20, iv l2, iv l3, iv (gfd G27 8 3 l0), iv (if (gfd G27 8 2 l0) = 0 then (1 : Int) else 0)]) (stk := [rv q26]) (pc := 116) (dk dt_X8_take_1 20 rfl) ml_X8_56 rfl rfl (Nat.le_of_ble_eq_true rfl) rfl v31 (Call.mono h (fun r32 G33 c34 s35 h => ?_))
            refine v_astore (pc := 119) (ls' := [some (rv l0), none, none, none, some (rv x20), none, some (rv q26)]) (dk dt_X8_take_1 21 rfl) (Nat.le_of_ble_eq_true rfl) rfl ?_
            refine v_aload_n (pc := 121) (dk dt_X8_take_1 22 rfl) rfl rfl ?_
            refine v_dup (pc := 122) (dk dt_X8_take_1 23 rfl) (by intro h9; cases h9) ?_
            obtain ⟨v36, h⟩ := h
            refine v_getI (pc := 123) (dk dt_X8_take_1 24 rfl) fl_X8_25 v36 (fun _ => ?_)
            refine v_iconst (pc := 126) (dk dt_X8_take_1 25 rfl) ⟨by decide, by decide⟩ ?_
            obtain ⟨v37, h⟩ := h
            refine v_iadd (pc := 127) (dk dt_X8_take_1 26 rfl) v37 ?_
            obtain ⟨v38, h⟩ := h
            refine v_putI (pc := 128) (dk dt_X8_take_1 27 rfl) fl_X8_25 (Or.inl rfl) v38 ?_
            generalize hG39 : (sfd G33 8 3 l0 ((gfd G33 8 3 l0) + 1)) = G39
            replace h := h G39 hG39.symm
            refine v_aload (pc := 131) (dk dt_X8_take_1 28 rfl) rfl ?_
            refine v_aload (pc := 133) (dk dt_X8_take_1 29 rfl) rfl ?_
            obtain ⟨v40, h⟩ := h
            refine v_cvV (c := 7) (As := [rv q26]) (stk := []) (pc := 135) (dk dt_X8_take_1 30 rfl) ml_X8_59 rfl rfl (Nat.le_of_ble_eq_true rfl) rfl ⟨by decide, rfl⟩ v40 rfl (Call.mono h (fun r41 G42 c43 s44 h => ?_))
            refine v_aload_n (pc := 138) (dk dt_X8_take_1 31 rfl) rfl rfl ?_
            obtain ⟨v45, h⟩ := h
            refine v_getR (pc := 139) (dk dt_X8_take_1 32 rfl) fl_X8_18 v45 (fun _ => ?_)
            obtain ⟨v46, h⟩ := h
            obtain ⟨v47, h⟩ := h
            refine v_new (pc := 142) (dk dt_X8_take_1 33 rfl) nl_X8_63 v46 v47 (fun q48 hq48 gq48 => ?_)
            replace h := h q48 hq48 gq48
            generalize hG49 : (newo G42 q48 1) = G49
            replace h := h G49 hG49.symm
            refine v_dup (pc := 145) (dk dt_X8_take_1 34 rfl) (by intro h9; cases h9) ?_
            refine v_aload (pc := 146) (dk dt_X8_take_1 35 rfl) rfl ?_
            refine v_iconst (pc := 148) (dk dt_X8_take_1 36 rfl) ⟨by decide, by decide⟩ ?_
            obtain ⟨v50, h⟩ := h
            refine v_ciV (As := [rv q26, iv 0]) (stk := [rv q48, rv (gfd G42 8 1 l0)]) (pc := 149) (dk dt_X8_take_1 37 rfl) ml_X8_65 rfl rfl (Nat.le_of_ble_eq_true rfl) rfl v50 (Call.mono h (fun r51 G52 c53 s54 h => ?_))
            obtain ⟨v55, h⟩ := h
            refine v_cvZ (c := 13) (As := [rv q48]) (stk := []) (pc := 152) (dk dt_X8_take_1 38 rfl) ml_X8_50 rfl rfl (Nat.le_of_ble_eq_true rfl) rfl ⟨by decide, rfl⟩ v55 rfl (Call.mono h (fun r56 G57 c58 s59 h => ?_))
            refine v_pop (pc := 155) (dk dt_X8_take_1 39 rfl) (by intro h9; cases h9) ?_
            refine v_iconst (pc := 156) (dk dt_X8_take_2 0 rfl) ⟨by decide, by decide⟩ ?_
            exact v_iret (pc := 157) (dk dt_X8_take_2 1 rfl) rfl h
          replace h := h _ hJ19
          refine v_ifnonnull (pc := 69) (tgt := 92) (dk dt_X8_take 36 rfl) (by decide) (fun c60 => ?_) (fun c60 => ?_)
          · replace h := h.1 c60
            rw [dJ19] at h
            exact v_less2 (ls' := [some (rv l0), none, some (iv l2), some (iv l3), some (rv r2), none, none]) ⟨rfl, rfl, rfl, rfl, trivial⟩ h
          · replace h := h.2 c60
            obtain ⟨v61, h⟩ := h
            obtain ⟨v62, h⟩ := h
            refine v_new (pc := 72) (dk dt_X8_take 37 rfl) nl_X8_38 v61 v62 (fun q63 hq63 gq63 => ?_)
            replace h := h q63 hq63 gq63
            generalize hG64 : (newo G15 q63 7) = G64
            replace h := h G64 hG64.symm
            refine v_dup (pc := 75) (dk dt_X8_take 38 rfl) (by intro h9; cases h9) ?_
            refine v_iload_n (pc := 76) (dk dt_X8_take 39 rfl) rfl rfl ?_
            obtain ⟨v65, h⟩ := h
            refine v_ciV (As := [iv l1]) (stk := [rv q63]) (pc := 77) (dk dt_X8_take_1 0 rfl) ml_X8_47 rfl rfl (Nat.le_of_ble_eq_true rfl) rfl v65 (Call.mono h (fun r66 G67 c68 s69 h => ?_))
            refine v_astore (pc := 80) (ls' := [some (rv l0), some (iv l1), some (iv l2), some (iv l3), some (rv q63), some (iv x8), none]) (dk dt_X8_take_1 1 rfl) (Nat.le_of_ble_eq_true rfl) rfl ?_
            refine v_aload_n (pc := 82) (dk dt_X8_take_1 2 rfl) rfl rfl ?_
            obtain ⟨v70, h⟩ := h
            refine v_getR (pc := 83) (dk dt_X8_take_1 3 rfl) fl_X8_12 v70 (fun _ => ?_)
            refine v_aload (pc := 86) (dk dt_X8_take_1 4 rfl) rfl ?_
            obtain ⟨v71, h⟩ := h
            refine v_cvZ (c := 13) (As := [rv q63]) (stk := []) (pc := 88) (dk dt_X8_take_1 5 rfl) ml_X8_50 rfl rfl (Nat.le_of_ble_eq_true rfl) rfl ⟨by decide, rfl⟩ v71 rfl (Call.mono h (fun r72 G73 c74 s75 h => ?_))
            refine v_pop (pc := 91) (dk dt_X8_take_1 6 rfl) (by intro h9; cases h9) ?_
            rw [dJ19] at h
            exact v_less2 (ls' := [some (rv l0), none, some (iv l2), some (iv l3), some (rv q63), none, none]) ⟨rfl, rfl, rfl, rfl, trivial⟩ h
        · replace h := h.2 c18
          refine v_iconst (pc := 65) (dk dt_X8_take 33 rfl) ⟨by decide, by decide⟩ ?_
          exact v_iret (pc := 66) (dk dt_X8_take 34 rfl) rfl h
      · replace h := h.2 c12
        refine v_iload (pc := 49) (dk dt_X8_take 24 rfl) rfl ?_
        exact v_iret (pc := 51) (dk dt_X8_take 25 rfl) rfl h
    replace h := h _ hJ7
    refine v_ifnonnull (pc := 28) (tgt := 35) (dk dt_X8_take 14 rfl) (by decide) (fun c76 => ?_) (fun c76 => ?_)
    · replace h := h.1 c76
      refine v_aload (pc := 35) (dk dt_X8_take 17 rfl) rfl ?_
      refine v_iload_n (pc := 37) (dk dt_X8_take 18 rfl) rfl rfl ?_
      refine v_iload_n (pc := 38) (dk dt_X8_take 19 rfl) rfl rfl ?_
      obtain ⟨v77, h⟩ := h
      refine v_cvI (c := 7) (As := [iv l2, iv l3]) (stk := []) (pc := 39) (dk dt_X8_take 20 rfl) ml_X8_37 rfl rfl (Nat.le_of_ble_eq_true rfl) rfl ⟨by decide, rfl⟩ v77 rfl (Call.mono h (fun r78 G79 c80 s81 h => ?_))
      rw [dJ7] at h
      exact h
    · replace h := h.2 c76
      refine v_iconst (pc := 31) (dk dt_X8_take 15 rfl) ⟨by decide, by decide⟩ ?_
      refine v_goto (pc := 32) (tgt := 42) (dk dt_X8_take 16 rfl) (by decide) ?_
      rw [dJ7] at h
      exact h
  replace h := h _ hJ6
  refine v_ifnonnull (pc := 9) (tgt := 26) (dk dt_X8_take 5 rfl) (by decide) (fun c82 => ?_) (fun c82 => ?_)
  · replace h := h.1 c82
    rw [dJ6] at h
    exact h
  · replace h := h.2 c82
    refine v_aload_n (pc := 12) (dk dt_X8_take 6 rfl) rfl rfl ?_
    obtain ⟨v83, h⟩ := h
    refine v_getR (pc := 13) (dk dt_X8_take 7 rfl) fl_X8_12 v83 (fun _ => ?_)
    obtain ⟨v84, h⟩ := h
    obtain ⟨v85, h⟩ := h
    refine v_cvPI (c := 13) (v := (gfd G3 13 2 (gfd G3 8 0 l0))) (As := []) (stk := []) (pc := 16) (dk dt_X8_take 8 rfl) ml_X8_33 rfl rfl (Nat.le_of_ble_eq_true rfl) rfl ⟨by decide, rfl⟩ v84 rfl v85 ?_
    refine v_bipush (pc := 19) (dk dt_X8_take 9 rfl) (by decide) ⟨by decide, by decide⟩ ?_
    refine v_icmp_lt (pc := 21) (tgt := 26) (dk dt_X8_take 10 rfl) (by decide) (fun c86 => ?_) (fun c86 => ?_)
    · replace h := h.1 c86
      rw [dJ6] at h
      exact h
    · replace h := h.2 c86
      refine v_iconst (pc := 24) (dk dt_X8_take 11 rfl) ⟨by decide, by decide⟩ ?_
      exact v_iret (pc := 25) (dk dt_X8_take 12 rfl) rfl h
set_option maxRecDepth 20000 in
theorem i_X8_take {E : EE} {l0 l1 l2 l3 : Int} {G : Gt} {c s : Nat} {Q X : Int → Gt → Prop} (h : (gcl G l0 = 9 ∧ Call E M_X8_find [rv l0, iv l1] G c s X (fun r2 G3 c4 s5 => ∀ J6 : Prop, ((∀ J7 : Int → Gt → Nat → Nat → Prop, (∀ (x8 : Int) (G9 : Gt) (c10 s11 : Nat), ((x8 = 0 → (gcl G9 l0 = 9 ∧ Call E M_X8_countSeen [rv l0, iv (Int.tdiv l1 100)] G9 c10 s11 X (fun r14 G15 c16 s17 => ((r14 < 60 → (∀ J19 : Int → Gt → Nat → Nat → Prop, (∀ (x20 : Int) (G21 : Gt) (c22 s23 : Nat), (1 ≤ c22 ∧ 6 ≤ s23 ∧ ∀ q26 : Int, gcl G21 q26 = 0 → (eb E : Int) ≤ q26 → ∀ G27 : Gt, G27 = (newo G21 q26 5) → gcl G27 l0 = 9 ∧ gcl G27 l0 = 9 ∧ 0 ≤ q26 ∧ Call E M_X5_init [rv q26, rv x20, iv l2, iv l3, iv (gfd G27 8 3 l0), iv (if (gfd G27 8 2 l0) = 0 then (1 : Int) else 0)] G27 (c22 - 1) (s23 - 6) X (fun r32 G33 c34 s35 => gcl G33 l0 = 9 ∧ i32 ((gfd G33 8 3 l0) + 1) ∧ gcl G33 l0 = 9 ∧ ∀ G39 : Gt, G39 = (sfd G33 8 3 l0 ((gfd G33 8 3 l0) + 1)) → gcl G39 x20 = 8 ∧ Call E M_X7_show [rv x20, rv q26] G39 c34 s35 X (fun r41 G42 c43 s44 => gcl G42 l0 = 9 ∧ 1 ≤ c43 ∧ 2 ≤ s44 ∧ ∀ q48 : Int, gcl G42 q48 = 0 → (eb E : Int) ≤ q48 → ∀ G49 : Gt, G49 = (newo G42 q48 1) → 0 ≤ q48 ∧ Call E M_X1_init [rv q48, rv q26, iv 0] G49 (c43 - 1) (s44 - 2) X (fun r51 G52 c53 s54 => gcl G52 (gfd G42 8 1 l0) = 14 ∧ Call E M_A_add [rv (gfd G42 8 1 l0), rv q48] G52 c53 s54 X (fun r56 G57 c58 s59 => Q 0 G57))))) → J19 x20 G21 c22 s23) → ((0 ≤ r2 → J19 r2 G15 c16 s17) ∧ (r2 = -1 → (1 ≤ c16 ∧ 5 ≤ s17 ∧ ∀ q63 : Int, gcl G15 q63 = 0 → (eb E : Int) ≤ q63 → ∀ G64 : Gt, G64 = (newo G15 q63 7) → 0 ≤ q63 ∧ Call E M_X7_init [rv q63, iv l1] G64 (c16 - 1) (s17 - 5) X (fun r66 G67 c68 s69 => gcl G67 l0 = 9 ∧ gcl G67 (gfd G67 8 0 l0) = 14 ∧ Call E M_A_add [rv (gfd G67 8 0 l0), rv q63] G67 c68 s69 X (fun r72 G73 c74 s75 => J19 q63 G73 c74 s75))))))) ∧ (60 ≤ r14 → Q 5 G15))))) ∧ (x8 ≠ 0 → Q x8 G9)) → J7 x8 G9 c10 s11) → ((0 ≤ r2 → (gcl G3 r2 = 8 ∧ Call E M_X7_judge [rv r2, iv l2, iv l3] G3 c4 s5 X (fun r78 G79 c80 s81 => J7 r78 G79 c80 s81))) ∧ (r2 = -1 → J7 0 G3 c4 s5))) → J6) → ((0 ≤ r2 → J6) ∧ (r2 = -1 → (gcl G3 l0 = 9 ∧ gcl G3 (gfd G3 8 0 l0) = 14 ∧ OkP E M_A_size [rv (gfd G3 8 0 l0)] G3 (gfd G3 13 2 (gfd G3 8 0 l0)) ∧ (((gfd G3 13 2 (gfd G3 8 0 l0)) < 12 → J6) ∧ (12 ≤ (gfd G3 13 2 (gfd G3 8 0 l0)) → Q 1 G3)))))))) : Ok E M_X8_take [rv l0, iv l1, iv l2, iv l3] G c s Q X := Ok.intro (k := 3) rfl rfl (Nat.le_of_ble_eq_true rfl) rfl (b_X8_take_0 h)
set_option maxRecDepth 20000 in
theorem b_X8_find_0 {E : EE} {l0 l1 : Int} {G : Gt} {c s : Nat} {Q X : Int → Gt → Prop} (h : V E M_X8_find 2 [some (rv l0), some (iv l1), some (iv 0)] [] G c s Q X) : V E M_X8_find 0 [some (rv l0), some (iv l1), none] [] G c s Q X := by
  refine v_iconst (pc := 0) (dk dt_X8_find 0 rfl) ⟨by decide, by decide⟩ ?_
  refine v_istore_n (pc := 1) (ls' := [some (rv l0), some (iv l1), some (iv 0)]) (dk dt_X8_find 1 rfl) rfl (Nat.le_of_ble_eq_true rfl) rfl ?_
  exact h
set_option maxRecDepth 20000 in
theorem i_X8_find {E : EE} {l0 l1 : Int} {G : Gt} {c s : Nat} {Q X : Int → Gt → Prop} (h : V E M_X8_find 2 [some (rv l0), some (iv l1), some (iv 0)] [] G c s Q X) : Ok E M_X8_find [rv l0, iv l1] G c s Q X := Ok.intro (k := 1) rfl rfl (Nat.le_of_ble_eq_true rfl) rfl (b_X8_find_0 h)
set_option maxRecDepth 20000 in
theorem b_X8_find_2 {E : EE} {l0 l1 l2 : Int} {G : Gt} {c s : Nat} {Q X : Int → Gt → Prop} (h : (gcl G l0 = 9 ∧ gcl G (gfd G 8 0 l0) = 14 ∧ OkP E M_A_size [rv (gfd G 8 0 l0)] G (gfd G 13 2 (gfd G 8 0 l0)) ∧ (((gfd G 13 2 (gfd G 8 0 l0)) ≤ l2 → Q (-1) G) ∧ (l2 < (gfd G 13 2 (gfd G 8 0 l0)) → (gcl G l0 = 9 ∧ gcl G (gfd G 8 0 l0) = 14 ∧ OkP E M_A_get [rv (gfd G 8 0 l0), iv l2] G (alAt G (gfd G 8 0 l0) l2) ∧ ((alAt G (gfd G 8 0 l0) l2) = -1 ∨ gcl G (alAt G (gfd G 8 0 l0) l2) = 8) ∧ gcl G (alAt G (gfd G 8 0 l0) l2) = 8 ∧ (((gfd G 7 0 (alAt G (gfd G 8 0 l0) l2)) ≠ l1 → (i32 (l2 + 1) ∧ V E M_X8_find 2 [some (rv l0), some (iv l1), some (iv (l2 + 1))] [] G c s Q X)) ∧ ((gfd G 7 0 (alAt G (gfd G 8 0 l0) l2)) = l1 → (gcl G l0 = 9 ∧ gcl G (gfd G 8 0 l0) = 14 ∧ OkP E M_A_get [rv (gfd G 8 0 l0), iv l2] G (alAt G (gfd G 8 0 l0) l2) ∧ ((alAt G (gfd G 8 0 l0) l2) = -1 ∨ gcl G (alAt G (gfd G 8 0 l0) l2) = 8) ∧ Q (alAt G (gfd G 8 0 l0) l2) G)))))))) : V E M_X8_find 2 [some (rv l0), some (iv l1), some (iv l2)] [] G c s Q X := by
  refine v_iload_n (pc := 2) (dk dt_X8_find 2 rfl) rfl rfl ?_
  refine v_aload_n (pc := 3) (dk dt_X8_find 3 rfl) rfl rfl ?_
  obtain ⟨v1, h⟩ := h
  refine v_getR (pc := 4) (dk dt_X8_find 4 rfl) fl_X8_12 v1 (fun _ => ?_)
  obtain ⟨v2, h⟩ := h
  obtain ⟨v3, h⟩ := h
  refine v_cvPI (c := 13) (v := (gfd G 13 2 (gfd G 8 0 l0))) (As := []) (stk := [iv l2]) (pc := 7) (dk dt_X8_find 5 rfl) ml_X8_33 rfl rfl (Nat.le_of_ble_eq_true rfl) rfl ⟨by decide, rfl⟩ v2 rfl v3 ?_
  refine v_icmp_ge (pc := 10) (tgt := 49) (dk dt_X8_find 6 rfl) (by decide) (fun c4 => ?_) (fun c4 => ?_)
  · replace h := h.1 c4
    refine v_null (pc := 49) (dk dt_X8_find 23 rfl) ?_
    exact v_aret (pc := 50) (dk dt_X8_find 24 rfl) rfl (by first | exact Or.inl ⟨_, rfl⟩ | exact Or.inr ⟨_, rfl⟩) h
  · replace h := h.2 c4
    refine v_aload_n (pc := 13) (dk dt_X8_find 7 rfl) rfl rfl ?_
    obtain ⟨v5, h⟩ := h
    refine v_getR (pc := 14) (dk dt_X8_find 8 rfl) fl_X8_12 v5 (fun _ => ?_)
    refine v_iload_n (pc := 17) (dk dt_X8_find 9 rfl) rfl rfl ?_
    obtain ⟨v6, h⟩ := h
    obtain ⟨v7, h⟩ := h
    refine v_cvPR (c := 13) (v := (alAt G (gfd G 8 0 l0) l2)) (As := [iv l2]) (stk := []) (pc := 18) (dk dt_X8_find 10 rfl) ml_X8_68 rfl rfl (Nat.le_of_ble_eq_true rfl) rfl ⟨by decide, rfl⟩ v6 rfl v7 ?_
    obtain ⟨v8, h⟩ := h
    refine v_cast (c := 7) (pc := 21) (dk dt_X8_find 11 rfl) (by decide) cl_X8_38 v8 ?_
    obtain ⟨v9, h⟩ := h
    refine v_getI (pc := 24) (dk dt_X8_find 12 rfl) fl_X8_72 v9 (fun _ => ?_)
    refine v_iload_n (pc := 27) (dk dt_X8_find 13 rfl) rfl rfl ?_
    refine v_icmp_ne (pc := 28) (tgt := 43) (dk dt_X8_find 14 rfl) (by decide) (fun c10 => ?_) (fun c10 => ?_)
    · replace h := h.1 c10
      obtain ⟨v11, h⟩ := h
      refine v_iinc (pc := 43) (ls' := [some (rv l0), some (iv l1), some (iv (l2 + 1))]) (dk dt_X8_find 21 rfl) (Nat.le_of_ble_eq_true rfl) rfl v11 rfl ?_
      refine v_goto (pc := 46) (tgt := 2) (dk dt_X8_find 22 rfl) (by decide) ?_
      exact h
    · replace h := h.2 c10
      refine v_aload_n (pc := 31) (dk dt_X8_find 15 rfl) rfl rfl ?_
      obtain ⟨v12, h⟩ := h
      refine v_getR (pc := 32) (dk dt_X8_find 16 rfl) fl_X8_12 v12 (fun _ => ?_)
      refine v_iload_n (pc := 35) (dk dt_X8_find 17 rfl) rfl rfl ?_
      obtain ⟨v13, h⟩ := h
      obtain ⟨v14, h⟩ := h
      refine v_cvPR (c := 13) (v := (alAt G (gfd G 8 0 l0) l2)) (As := [iv l2]) (stk := []) (pc := 36) (dk dt_X8_find 18 rfl) ml_X8_68 rfl rfl (Nat.le_of_ble_eq_true rfl) rfl ⟨by decide, rfl⟩ v13 rfl v14 ?_
      obtain ⟨v15, h⟩ := h
      refine v_cast (c := 7) (pc := 39) (dk dt_X8_find 19 rfl) (by decide) cl_X8_38 v15 ?_
      exact v_aret (pc := 42) (dk dt_X8_find 20 rfl) rfl (by first | exact Or.inl ⟨_, rfl⟩ | exact Or.inr ⟨_, rfl⟩) h
set_option maxRecDepth 20000 in
theorem b_X8_countSeen_0 {E : EE} {l0 l1 : Int} {G : Gt} {c s : Nat} {Q X : Int → Gt → Prop} (h : V E M_X8_countSeen 4 [some (rv l0), some (iv l1), some (iv 0), some (iv 0), none] [] G c s Q X) : V E M_X8_countSeen 0 [some (rv l0), some (iv l1), none, none, none] [] G c s Q X := by
  refine v_iconst (pc := 0) (dk dt_X8_countSeen 0 rfl) ⟨by decide, by decide⟩ ?_
  refine v_istore_n (pc := 1) (ls' := [some (rv l0), some (iv l1), some (iv 0), none, none]) (dk dt_X8_countSeen 1 rfl) rfl (Nat.le_of_ble_eq_true rfl) rfl ?_
  refine v_iconst (pc := 2) (dk dt_X8_countSeen 2 rfl) ⟨by decide, by decide⟩ ?_
  refine v_istore_n (pc := 3) (ls' := [some (rv l0), some (iv l1), some (iv 0), some (iv 0), none]) (dk dt_X8_countSeen 3 rfl) rfl (Nat.le_of_ble_eq_true rfl) rfl ?_
  exact h
set_option maxRecDepth 20000 in
theorem i_X8_countSeen {E : EE} {l0 l1 : Int} {G : Gt} {c s : Nat} {Q X : Int → Gt → Prop} (h : V E M_X8_countSeen 4 [some (rv l0), some (iv l1), some (iv 0), some (iv 0), none] [] G c s Q X) : Ok E M_X8_countSeen [rv l0, iv l1] G c s Q X := Ok.intro (k := 3) rfl rfl (Nat.le_of_ble_eq_true rfl) rfl (b_X8_countSeen_0 h)
set_option maxRecDepth 20000 in
theorem b_X8_countSeen_4 {E : EE} {l0 l1 l2 l3 : Int} {G : Gt} {c s : Nat} {Q X : Int → Gt → Prop} (h : (gcl G l0 = 9 ∧ gcl G (gfd G 8 0 l0) = 14 ∧ OkP E M_A_size [rv (gfd G 8 0 l0)] G (gfd G 13 2 (gfd G 8 0 l0)) ∧ (((gfd G 13 2 (gfd G 8 0 l0)) ≤ l3 → Q l2 G) ∧ (l3 < (gfd G 13 2 (gfd G 8 0 l0)) → (gcl G l0 = 9 ∧ gcl G (gfd G 8 0 l0) = 14 ∧ OkP E M_A_get [rv (gfd G 8 0 l0), iv l3] G (alAt G (gfd G 8 0 l0) l3) ∧ ((alAt G (gfd G 8 0 l0) l3) = -1 ∨ gcl G (alAt G (gfd G 8 0 l0) l3) = 8) ∧ gcl G (alAt G (gfd G 8 0 l0) l3) = 8 ∧ ((Int.tdiv (gfd G 7 0 (alAt G (gfd G 8 0 l0) l3)) 100) = l1 → gcl G (alAt G (gfd G 8 0 l0) l3) = 8) ∧ ((Int.tdiv (gfd G 7 0 (alAt G (gfd G 8 0 l0) l3)) 100) = l1 → gcl G (gfd G 7 1 (alAt G (gfd G 8 0 l0) l3)) = 14) ∧ ((Int.tdiv (gfd G 7 0 (alAt G (gfd G 8 0 l0) l3)) 100) = l1 → OkP E M_A_size [rv (gfd G 7 1 (alAt G (gfd G 8 0 l0) l3))] G (gfd G 13 2 (gfd G 7 1 (alAt G (gfd G 8 0 l0) l3)))) ∧ ((Int.tdiv (gfd G 7 0 (alAt G (gfd G 8 0 l0) l3)) 100) = l1 → i32 (l2 + (gfd G 13 2 (gfd G 7 1 (alAt G (gfd G 8 0 l0) l3))))) ∧ i32 (l3 + 1) ∧ V E M_X8_countSeen 4 [some (rv l0), some (iv l1), some (iv (if (Int.tdiv (gfd G 7 0 (alAt G (gfd G 8 0 l0) l3)) 100) = l1 then ((l2 + (gfd G 13 2 (gfd G 7 1 (alAt G (gfd G 8 0 l0) l3)))) : Int) else l2)), some (iv (l3 + 1)), none] [] G c s Q X))))) : V E M_X8_countSeen 4 [some (rv l0), some (iv l1), some (iv l2), some (iv l3), none] [] G c s Q X := by
  refine v_iload_n (pc := 4) (dk dt_X8_countSeen 4 rfl) rfl rfl ?_
  refine v_aload_n (pc := 5) (dk dt_X8_countSeen 5 rfl) rfl rfl ?_
  obtain ⟨v1, h⟩ := h
  refine v_getR (pc := 6) (dk dt_X8_countSeen 6 rfl) fl_X8_12 v1 (fun _ => ?_)
  obtain ⟨v2, h⟩ := h
  obtain ⟨v3, h⟩ := h
  refine v_cvPI (c := 13) (v := (gfd G 13 2 (gfd G 8 0 l0))) (As := []) (stk := [iv l3]) (pc := 9) (dk dt_X8_countSeen 7 rfl) ml_X8_33 rfl rfl (Nat.le_of_ble_eq_true rfl) rfl ⟨by decide, rfl⟩ v2 rfl v3 ?_
  refine v_icmp_ge (pc := 12) (tgt := 57) (dk dt_X8_countSeen 8 rfl) (by decide) (fun c4 => ?_) (fun c4 => ?_)
  · replace h := h.1 c4
    refine v_iload_n (pc := 57) (dk dt_X8_countSeen 29 rfl) rfl rfl ?_
    exact v_iret (pc := 58) (dk dt_X8_countSeen 30 rfl) rfl h
  · replace h := h.2 c4
    refine v_aload_n (pc := 15) (dk dt_X8_countSeen 9 rfl) rfl rfl ?_
    obtain ⟨v5, h⟩ := h
    refine v_getR (pc := 16) (dk dt_X8_countSeen 10 rfl) fl_X8_12 v5 (fun _ => ?_)
    refine v_iload_n (pc := 19) (dk dt_X8_countSeen 11 rfl) rfl rfl ?_
    obtain ⟨v6, h⟩ := h
    obtain ⟨v7, h⟩ := h
    refine v_cvPR (c := 13) (v := (alAt G (gfd G 8 0 l0) l3)) (As := [iv l3]) (stk := []) (pc := 20) (dk dt_X8_countSeen 12 rfl) ml_X8_68 rfl rfl (Nat.le_of_ble_eq_true rfl) rfl ⟨by decide, rfl⟩ v6 rfl v7 ?_
    obtain ⟨v8, h⟩ := h
    refine v_cast (c := 7) (pc := 23) (dk dt_X8_countSeen 13 rfl) (by decide) cl_X8_38 v8 ?_
    refine v_astore (pc := 26) (ls' := [some (rv l0), some (iv l1), some (iv l2), some (iv l3), some (rv (alAt G (gfd G 8 0 l0) l3))]) (dk dt_X8_countSeen 14 rfl) (Nat.le_of_ble_eq_true rfl) rfl ?_
    refine v_aload (pc := 28) (dk dt_X8_countSeen 15 rfl) rfl ?_
    obtain ⟨v9, h⟩ := h
    refine v_getI (pc := 30) (dk dt_X8_countSeen 16 rfl) fl_X8_72 v9 (fun _ => ?_)
    refine v_bipush (pc := 33) (dk dt_X8_countSeen 17 rfl) (by decide) ⟨by decide, by decide⟩ ?_
    refine v_idivP (pc := 35) (dk dt_X8_countSeen 18 rfl) (by decide) ?_
    refine v_iload_n (pc := 36) (dk dt_X8_countSeen 19 rfl) rfl rfl ?_
    obtain ⟨v11, v12, v13, v14, h⟩ := h
    suffices k16 : V E M_X8_countSeen 51 [some (rv l0), some (iv l1), some (iv (if (Int.tdiv (gfd G 7 0 (alAt G (gfd G 8 0 l0) l3)) 100) = l1 then ((l2 + (gfd G 13 2 (gfd G 7 1 (alAt G (gfd G 8 0 l0) l3)))) : Int) else l2)), some (iv l3), none] [] G c s Q X by
      refine v_icmp_ne (pc := 37) (tgt := 51) (dk dt_X8_countSeen 20 rfl) (by decide) (fun c10 => ?_) (fun c10 => ?_)
      · exact v_less2 (ls' := [some (rv l0), some (iv l1), some (iv l2), some (iv l3), none]) ⟨rfl, rfl, rfl, rfl, trivial⟩ (by have hk9 := k16; try simp only [if_neg c10] at hk9 ⊢; exact hk9)
      · refine v_iload_n (pc := 40) (dk dt_X8_countSeen 21 rfl) rfl rfl ?_
        refine v_aload (pc := 41) (dk dt_X8_countSeen 22 rfl) rfl ?_
        refine v_getR (pc := 43) (dk dt_X8_countSeen 23 rfl) fl_X8_75 (v11 c10) (fun _ => ?_)
        refine v_cvPI (c := 13) (v := (gfd G 13 2 (gfd G 7 1 (alAt G (gfd G 8 0 l0) l3)))) (As := []) (stk := [iv l2]) (pc := 46) (dk dt_X8_countSeen 24 rfl) ml_X8_33 rfl rfl (Nat.le_of_ble_eq_true rfl) rfl ⟨by decide, rfl⟩ (v12 c10) rfl (v13 c10) ?_
        refine v_iadd (pc := 49) (dk dt_X8_countSeen 25 rfl) (v14 c10) ?_
        refine v_istore_n (pc := 50) (ls' := [some (rv l0), some (iv l1), some (iv (l2 + (gfd G 13 2 (gfd G 7 1 (alAt G (gfd G 8 0 l0) l3))))), some (iv l3), some (rv (alAt G (gfd G 8 0 l0) l3))]) (dk dt_X8_countSeen 26 rfl) rfl (Nat.le_of_ble_eq_true rfl) rfl ?_
        exact v_less2 (ls' := [some (rv l0), some (iv l1), some (iv (l2 + (gfd G 13 2 (gfd G 7 1 (alAt G (gfd G 8 0 l0) l3))))), some (iv l3), none]) ⟨rfl, rfl, rfl, rfl, trivial⟩ (by have hk9 := k16; try simp only [if_pos c10] at hk9 ⊢; exact hk9)
    obtain ⟨v15, h⟩ := h
    refine v_iinc (pc := 51) (ls' := [some (rv l0), some (iv l1), some (iv (if (Int.tdiv (gfd G 7 0 (alAt G (gfd G 8 0 l0) l3)) 100) = l1 then ((l2 + (gfd G 13 2 (gfd G 7 1 (alAt G (gfd G 8 0 l0) l3)))) : Int) else l2)), some (iv (l3 + 1)), none]) (dk dt_X8_countSeen 27 rfl) (Nat.le_of_ble_eq_true rfl) rfl v15 rfl ?_
    refine v_goto (pc := 54) (tgt := 4) (dk dt_X8_countSeen 28 rfl) (by decide) ?_
    exact h
set_option maxRecDepth 20000 in
theorem b_X8_countSelected_0 {E : EE} {l0 l1 : Int} {G : Gt} {c s : Nat} {Q X : Int → Gt → Prop} (h : V E M_X8_countSelected 4 [some (rv l0), some (rv l1), some (iv 0), some (iv 0)] [] G c s Q X) : V E M_X8_countSelected 0 [some (rv l0), some (rv l1), none, none] [] G c s Q X := by
  refine v_iconst (pc := 0) (dk dt_X8_countSelected 0 rfl) ⟨by decide, by decide⟩ ?_
  refine v_istore_n (pc := 1) (ls' := [some (rv l0), some (rv l1), some (iv 0), none]) (dk dt_X8_countSelected 1 rfl) rfl (Nat.le_of_ble_eq_true rfl) rfl ?_
  refine v_iconst (pc := 2) (dk dt_X8_countSelected 2 rfl) ⟨by decide, by decide⟩ ?_
  refine v_istore_n (pc := 3) (ls' := [some (rv l0), some (rv l1), some (iv 0), some (iv 0)]) (dk dt_X8_countSelected 3 rfl) rfl (Nat.le_of_ble_eq_true rfl) rfl ?_
  exact h
set_option maxRecDepth 20000 in
theorem i_X8_countSelected {E : EE} {l0 l1 : Int} {G : Gt} {c s : Nat} {Q X : Int → Gt → Prop} (h : V E M_X8_countSelected 4 [some (rv l0), some (rv l1), some (iv 0), some (iv 0)] [] G c s Q X) : Ok E M_X8_countSelected [rv l0, rv l1] G c s Q X := Ok.intro (k := 2) rfl rfl (Nat.le_of_ble_eq_true rfl) rfl (b_X8_countSelected_0 h)
set_option maxRecDepth 20000 in
theorem b_X8_countSelected_4 {E : EE} {l0 l1 l2 l3 : Int} {G : Gt} {c s : Nat} {Q X : Int → Gt → Prop} (h : (gcl G l0 = 9 ∧ gcl G (gfd G 8 0 l0) = 14 ∧ OkP E M_A_size [rv (gfd G 8 0 l0)] G (gfd G 13 2 (gfd G 8 0 l0)) ∧ (((gfd G 13 2 (gfd G 8 0 l0)) ≤ l3 → Q l2 G) ∧ (l3 < (gfd G 13 2 (gfd G 8 0 l0)) → (gcl G l0 = 9 ∧ gcl G (gfd G 8 0 l0) = 14 ∧ OkP E M_A_get [rv (gfd G 8 0 l0), iv l3] G (alAt G (gfd G 8 0 l0) l3) ∧ ((alAt G (gfd G 8 0 l0) l3) = -1 ∨ gcl G (alAt G (gfd G 8 0 l0) l3) = 8) ∧ gcl G (alAt G (gfd G 8 0 l0) l3) = 8 ∧ gcl G l1 = 7 ∧ OkP E M_X6_selects [rv l1, iv (gfd G 7 0 (alAt G (gfd G 8 0 l0) l3))] G (slS G l1 (gfd G 7 0 (alAt G (gfd G 8 0 l0) l3))) ∧ ((slS G l1 (gfd G 7 0 (alAt G (gfd G 8 0 l0) l3))) ≠ 0 → i32 (l2 + 1)) ∧ i32 (l3 + 1) ∧ V E M_X8_countSelected 4 [some (rv l0), some (rv l1), some (iv (if (slS G l1 (gfd G 7 0 (alAt G (gfd G 8 0 l0) l3))) = 0 then (l2 : Int) else (l2 + 1))), some (iv (l3 + 1))] [] G c s Q X))))) : V E M_X8_countSelected 4 [some (rv l0), some (rv l1), some (iv l2), some (iv l3)] [] G c s Q X := by
  refine v_iload_n (pc := 4) (dk dt_X8_countSelected 4 rfl) rfl rfl ?_
  refine v_aload_n (pc := 5) (dk dt_X8_countSelected 5 rfl) rfl rfl ?_
  obtain ⟨v1, h⟩ := h
  refine v_getR (pc := 6) (dk dt_X8_countSelected 6 rfl) fl_X8_12 v1 (fun _ => ?_)
  obtain ⟨v2, h⟩ := h
  obtain ⟨v3, h⟩ := h
  refine v_cvPI (c := 13) (v := (gfd G 13 2 (gfd G 8 0 l0))) (As := []) (stk := [iv l3]) (pc := 9) (dk dt_X8_countSelected 7 rfl) ml_X8_33 rfl rfl (Nat.le_of_ble_eq_true rfl) rfl ⟨by decide, rfl⟩ v2 rfl v3 ?_
  refine v_icmp_ge (pc := 12) (tgt := 45) (dk dt_X8_countSelected 8 rfl) (by decide) (fun c4 => ?_) (fun c4 => ?_)
  · replace h := h.1 c4
    refine v_iload_n (pc := 45) (dk dt_X8_countSelected 21 rfl) rfl rfl ?_
    exact v_iret (pc := 46) (dk dt_X8_countSelected 22 rfl) rfl h
  · replace h := h.2 c4
    refine v_aload_n (pc := 15) (dk dt_X8_countSelected 9 rfl) rfl rfl ?_
    refine v_aload_n (pc := 16) (dk dt_X8_countSelected 10 rfl) rfl rfl ?_
    obtain ⟨v5, h⟩ := h
    refine v_getR (pc := 17) (dk dt_X8_countSelected 11 rfl) fl_X8_12 v5 (fun _ => ?_)
    refine v_iload_n (pc := 20) (dk dt_X8_countSelected 12 rfl) rfl rfl ?_
    obtain ⟨v6, h⟩ := h
    obtain ⟨v7, h⟩ := h
    refine v_cvPR (c := 13) (v := (alAt G (gfd G 8 0 l0) l3)) (As := [iv l3]) (stk := [rv l1]) (pc := 21) (dk dt_X8_countSelected 13 rfl) ml_X8_68 rfl rfl (Nat.le_of_ble_eq_true rfl) rfl ⟨by decide, rfl⟩ v6 rfl v7 ?_
    obtain ⟨v8, h⟩ := h
    refine v_cast (c := 7) (pc := 24) (dk dt_X8_countSelected 14 rfl) (by decide) cl_X8_38 v8 ?_
    obtain ⟨v9, h⟩ := h
    refine v_getI (pc := 27) (dk dt_X8_countSelected 15 rfl) fl_X8_72 v9 (fun _ => ?_)
    obtain ⟨v10, h⟩ := h
    obtain ⟨v11, h⟩ := h
    refine v_cvPZ (c := 6) (v := (slS G l1 (gfd G 7 0 (alAt G (gfd G 8 0 l0) l3)))) (As := [iv (gfd G 7 0 (alAt G (gfd G 8 0 l0) l3))]) (stk := []) (pc := 30) (dk dt_X8_countSelected 16 rfl) ml_X8_78 rfl rfl (Nat.le_of_ble_eq_true rfl) rfl ⟨by decide, rfl⟩ v10 rfl v11 ?_
    obtain ⟨v13, h⟩ := h
    suffices k15 : V E M_X8_countSelected 39 [some (rv l0), some (rv l1), some (iv (if (slS G l1 (gfd G 7 0 (alAt G (gfd G 8 0 l0) l3))) = 0 then (l2 : Int) else (l2 + 1))), some (iv l3)] [] G c s Q X by
      refine v_if_eq (pc := 33) (tgt := 39) (dk dt_X8_countSelected 17 rfl) (by decide) (fun c12 => ?_) (fun c12 => ?_)
      · exact v_less2 (ls' := [some (rv l0), some (rv l1), some (iv l2), some (iv l3)]) ⟨rfl, rfl, rfl, rfl, trivial⟩ (by have hk9 := k15; try simp only [if_pos c12] at hk9 ⊢; exact hk9)
      · refine v_iinc (pc := 36) (ls' := [some (rv l0), some (rv l1), some (iv (l2 + 1)), some (iv l3)]) (dk dt_X8_countSelected 18 rfl) (Nat.le_of_ble_eq_true rfl) rfl (v13 c12) rfl ?_
        exact v_less2 (ls' := [some (rv l0), some (rv l1), some (iv (l2 + 1)), some (iv l3)]) ⟨rfl, rfl, rfl, rfl, trivial⟩ (by have hk9 := k15; try simp only [if_neg c12] at hk9 ⊢; exact hk9)
    obtain ⟨v14, h⟩ := h
    refine v_iinc (pc := 39) (ls' := [some (rv l0), some (rv l1), some (iv (if (slS G l1 (gfd G 7 0 (alAt G (gfd G 8 0 l0) l3))) = 0 then (l2 : Int) else (l2 + 1))), some (iv (l3 + 1))]) (dk dt_X8_countSelected 19 rfl) (Nat.le_of_ble_eq_true rfl) rfl v14 rfl ?_
    refine v_goto (pc := 42) (tgt := 4) (dk dt_X8_countSelected 20 rfl) (by decide) ?_
    exact h
set_option maxRecDepth 20000 in
theorem b_X8_hide_0 {E : EE} {l0 l1 l2 l3 : Int} {G : Gt} {c s : Nat} {Q X : Int → Gt → Prop} (h : V E M_X8_hide 9 [some (rv l0), some (rv l1), some (iv l2), some (iv l3), some (rv (-1)), some (iv 0), some (iv 0), none, none, none, none] [] G c s Q X) : V E M_X8_hide 0 [some (rv l0), some (rv l1), some (iv l2), some (iv l3), none, none, none, none, none, none, none] [] G c s Q X := by
  refine v_null (pc := 0) (dk dt_X8_hide 0 rfl) ?_
  refine v_astore (pc := 1) (ls' := [some (rv l0), some (rv l1), some (iv l2), some (iv l3), some (rv (-1)), none, none, none, none, none, none]) (dk dt_X8_hide 1 rfl) (Nat.le_of_ble_eq_true rfl) rfl ?_
  refine v_iconst (pc := 3) (dk dt_X8_hide 2 rfl) ⟨by decide, by decide⟩ ?_
  refine v_istore (pc := 4) (ls' := [some (rv l0), some (rv l1), some (iv l2), some (iv l3), some (rv (-1)), some (iv 0), none, none, none, none, none]) (dk dt_X8_hide 3 rfl) (Nat.le_of_ble_eq_true rfl) rfl ?_
  refine v_iconst (pc := 6) (dk dt_X8_hide 4 rfl) ⟨by decide, by decide⟩ ?_
  refine v_istore (pc := 7) (ls' := [some (rv l0), some (rv l1), some (iv l2), some (iv l3), some (rv (-1)), some (iv 0), some (iv 0), none, none, none, none]) (dk dt_X8_hide 5 rfl) (Nat.le_of_ble_eq_true rfl) rfl ?_
  exact h
set_option maxRecDepth 20000 in
theorem i_X8_hide {E : EE} {l0 l1 l2 l3 : Int} {G : Gt} {c s : Nat} {Q X : Int → Gt → Prop} (h : V E M_X8_hide 9 [some (rv l0), some (rv l1), some (iv l2), some (iv l3), some (rv (-1)), some (iv 0), some (iv 0), none, none, none, none] [] G c s Q X) : Ok E M_X8_hide [rv l0, rv l1, iv l2, iv l3] G c s Q X := Ok.intro (k := 7) rfl rfl (Nat.le_of_ble_eq_true rfl) rfl (b_X8_hide_0 h)
set_option maxRecDepth 20000 in
theorem b_X8_hide_9 {E : EE} {l0 l1 l2 l3 l4 l5 l6 : Int} {G : Gt} {c s : Nat} {Q X : Int → Gt → Prop} (h : (gcl G l0 = 9 ∧ gcl G (gfd G 8 0 l0) = 14 ∧ OkP E M_A_size [rv (gfd G 8 0 l0)] G (gfd G 13 2 (gfd G 8 0 l0)) ∧ (((gfd G 13 2 (gfd G 8 0 l0)) ≤ l6 → (gcl G l0 = 9 ∧ 1 ≤ c ∧ 2 ≤ s ∧ ∀ q8 : Int, gcl G q8 = 0 → (eb E : Int) ≤ q8 → ∀ G9 : Gt, G9 = (newo G q8 1) → 0 ≤ q8 ∧ Call E M_X1_init [rv q8, rv l4, iv 1] G9 (c - 1) (s - 2) X (fun r11 G12 c13 s14 => gcl G12 (gfd G 8 1 l0) = 14 ∧ Call E M_A_add [rv (gfd G 8 1 l0), rv q8] G12 c13 s14 X (fun r16 G17 c18 s19 => Q l5 G17)))) ∧ (l6 < (gfd G 13 2 (gfd G 8 0 l0)) → (gcl G l0 = 9 ∧ gcl G (gfd G 8 0 l0) = 14 ∧ OkP E M_A_get [rv (gfd G 8 0 l0), iv l6] G (alAt G (gfd G 8 0 l0) l6) ∧ ((alAt G (gfd G 8 0 l0) l6) = -1 ∨ gcl G (alAt G (gfd G 8 0 l0) l6) = 8) ∧ gcl G (alAt G (gfd G 8 0 l0) l6) = 8 ∧ gcl G l1 = 7 ∧ OkP E M_X6_selects [rv l1, iv (gfd G 7 0 (alAt G (gfd G 8 0 l0) l6))] G (slS G l1 (gfd G 7 0 (alAt G (gfd G 8 0 l0) l6))) ∧ (((slS G l1 (gfd G 7 0 (alAt G (gfd G 8 0 l0) l6))) ≠ 0 → (gcl G (alAt G (gfd G 8 0 l0) l6) = 8 ∧ Call E M_X7_countAhead [rv (alAt G (gfd G 8 0 l0) l6), iv l2] G c s X (fun r29 G30 c31 s32 => i32 (l3 + 1) ∧ gcl G30 (alAt G (gfd G 8 0 l0) l6) = 8 ∧ Call E M_X7_countAhead [rv (alAt G (gfd G 8 0 l0) l6), iv (l3 + 1)] G30 c31 s32 X (fun r35 G36 c37 s38 => i32 (r35 - 1) ∧ V E M_X8_hide 70 [some (rv l0), some (rv l1), some (iv l2), some (iv l3), some (rv l4), some (iv l5), some (iv l6), some (rv (alAt G (gfd G 8 0 l0) l6)), some (iv r29), some (iv (r35 - 1)), none] [] G36 c37 s38 Q X)))) ∧ ((slS G l1 (gfd G 7 0 (alAt G (gfd G 8 0 l0) l6))) = 0 → (i32 (l6 + 1) ∧ V E M_X8_hide 9 [some (rv l0), some (rv l1), some (iv l2), some (iv l3), some (rv l4), some (iv l5), some (iv (l6 + 1)), none, none, none, none] [] G c s Q X)))))))) : V E M_X8_hide 9 [some (rv l0), some (rv l1), some (iv l2), some (iv l3), some (rv l4), some (iv l5), some (iv l6), none, none, none, none] [] G c s Q X := by
  refine v_iload (pc := 9) (dk dt_X8_hide 6 rfl) rfl ?_
  refine v_aload_n (pc := 11) (dk dt_X8_hide 7 rfl) rfl rfl ?_
  obtain ⟨v1, h⟩ := h
  refine v_getR (pc := 12) (dk dt_X8_hide 8 rfl) fl_X8_12 v1 (fun _ => ?_)
  obtain ⟨v2, h⟩ := h
  obtain ⟨v3, h⟩ := h
  refine v_cvPI (c := 13) (v := (gfd G 13 2 (gfd G 8 0 l0))) (As := []) (stk := [iv l6]) (pc := 15) (dk dt_X8_hide 9 rfl) ml_X8_33 rfl rfl (Nat.le_of_ble_eq_true rfl) rfl ⟨by decide, rfl⟩ v2 rfl v3 ?_
  refine v_icmp_ge (pc := 18) (tgt := 118) (dk dt_X8_hide 10 rfl) (by decide) (fun c4 => ?_) (fun c4 => ?_)
  · replace h := h.1 c4
    refine v_aload_n (pc := 118) (dk dt_X8_hide_1 14 rfl) rfl rfl ?_
    obtain ⟨v5, h⟩ := h
    refine v_getR (pc := 119) (dk dt_X8_hide_1 15 rfl) fl_X8_18 v5 (fun _ => ?_)
    obtain ⟨v6, h⟩ := h
    obtain ⟨v7, h⟩ := h
    refine v_new (pc := 122) (dk dt_X8_hide_1 16 rfl) nl_X8_63 v6 v7 (fun q8 hq8 gq8 => ?_)
    replace h := h q8 hq8 gq8
    generalize hG9 : (newo G q8 1) = G9
    replace h := h G9 hG9.symm
    refine v_dup (pc := 125) (dk dt_X8_hide_1 17 rfl) (by intro h9; cases h9) ?_
    refine v_aload (pc := 126) (dk dt_X8_hide_1 18 rfl) rfl ?_
    refine v_iconst (pc := 128) (dk dt_X8_hide_1 19 rfl) ⟨by decide, by decide⟩ ?_
    obtain ⟨v10, h⟩ := h
    refine v_ciV (As := [rv l4, iv 1]) (stk := [rv q8, rv (gfd G 8 1 l0)]) (pc := 129) (dk dt_X8_hide_1 20 rfl) ml_X8_65 rfl rfl (Nat.le_of_ble_eq_true rfl) rfl v10 (Call.mono h (fun r11 G12 c13 s14 h => ?_))
    obtain ⟨v15, h⟩ := h
    refine v_cvZ (c := 13) (As := [rv q8]) (stk := []) (pc := 132) (dk dt_X8_hide_1 21 rfl) ml_X8_50 rfl rfl (Nat.le_of_ble_eq_true rfl) rfl ⟨by decide, rfl⟩ v15 rfl (Call.mono h (fun r16 G17 c18 s19 h => ?_))
    refine v_pop (pc := 135) (dk dt_X8_hide_1 22 rfl) (by intro h9; cases h9) ?_
    refine v_iload (pc := 136) (dk dt_X8_hide_1 23 rfl) rfl ?_
    exact v_iret (pc := 138) (dk dt_X8_hide_1 24 rfl) rfl h
  · replace h := h.2 c4
    refine v_aload_n (pc := 21) (dk dt_X8_hide 11 rfl) rfl rfl ?_
    obtain ⟨v20, h⟩ := h
    refine v_getR (pc := 22) (dk dt_X8_hide 12 rfl) fl_X8_12 v20 (fun _ => ?_)
    refine v_iload (pc := 25) (dk dt_X8_hide 13 rfl) rfl ?_
    obtain ⟨v21, h⟩ := h
    obtain ⟨v22, h⟩ := h
    refine v_cvPR (c := 13) (v := (alAt G (gfd G 8 0 l0) l6)) (As := [iv l6]) (stk := []) (pc := 27) (dk dt_X8_hide 14 rfl) ml_X8_68 rfl rfl (Nat.le_of_ble_eq_true rfl) rfl ⟨by decide, rfl⟩ v21 rfl v22 ?_
    obtain ⟨v23, h⟩ := h
    refine v_cast (c := 7) (pc := 30) (dk dt_X8_hide 15 rfl) (by decide) cl_X8_38 v23 ?_
    refine v_astore (pc := 33) (ls' := [some (rv l0), some (rv l1), some (iv l2), some (iv l3), some (rv l4), some (iv l5), some (iv l6), some (rv (alAt G (gfd G 8 0 l0) l6)), none, none, none]) (dk dt_X8_hide 16 rfl) (Nat.le_of_ble_eq_true rfl) rfl ?_
    refine v_aload_n (pc := 35) (dk dt_X8_hide 17 rfl) rfl rfl ?_
    refine v_aload (pc := 36) (dk dt_X8_hide 18 rfl) rfl ?_
    obtain ⟨v24, h⟩ := h
    refine v_getI (pc := 38) (dk dt_X8_hide 19 rfl) fl_X8_72 v24 (fun _ => ?_)
    obtain ⟨v25, h⟩ := h
    obtain ⟨v26, h⟩ := h
    refine v_cvPZ (c := 6) (v := (slS G l1 (gfd G 7 0 (alAt G (gfd G 8 0 l0) l6)))) (As := [iv (gfd G 7 0 (alAt G (gfd G 8 0 l0) l6))]) (stk := []) (pc := 41) (dk dt_X8_hide 20 rfl) ml_X8_78 rfl rfl (Nat.le_of_ble_eq_true rfl) rfl ⟨by decide, rfl⟩ v25 rfl v26 ?_
    refine v_if_ne (pc := 44) (tgt := 50) (dk dt_X8_hide 21 rfl) (by decide) (fun c27 => ?_) (fun c27 => ?_)
    · replace h := h.1 c27
      refine v_aload (pc := 50) (dk dt_X8_hide 23 rfl) rfl ?_
      refine v_iload_n (pc := 52) (dk dt_X8_hide 24 rfl) rfl rfl ?_
      obtain ⟨v28, h⟩ := h
      refine v_cvI (c := 7) (As := [iv l2]) (stk := []) (pc := 53) (dk dt_X8_hide 25 rfl) ml_X8_84 rfl rfl (Nat.le_of_ble_eq_true rfl) rfl ⟨by decide, rfl⟩ v28 rfl (Call.mono h (fun r29 G30 c31 s32 h => ?_))
      refine v_istore (pc := 56) (ls' := [some (rv l0), some (rv l1), some (iv l2), some (iv l3), some (rv l4), some (iv l5), some (iv l6), some (rv (alAt G (gfd G 8 0 l0) l6)), some (iv r29), none, none]) (dk dt_X8_hide 26 rfl) (Nat.le_of_ble_eq_true rfl) rfl ?_
      refine v_aload (pc := 58) (dk dt_X8_hide 27 rfl) rfl ?_
      refine v_iload_n (pc := 60) (dk dt_X8_hide 28 rfl) rfl rfl ?_
      refine v_iconst (pc := 61) (dk dt_X8_hide 29 rfl) ⟨by decide, by decide⟩ ?_
      obtain ⟨v33, h⟩ := h
      refine v_iadd (pc := 62) (dk dt_X8_hide 30 rfl) v33 ?_
      obtain ⟨v34, h⟩ := h
      refine v_cvI (c := 7) (As := [iv (l3 + 1)]) (stk := []) (pc := 63) (dk dt_X8_hide 31 rfl) ml_X8_84 rfl rfl (Nat.le_of_ble_eq_true rfl) rfl ⟨by decide, rfl⟩ v34 rfl (Call.mono h (fun r35 G36 c37 s38 h => ?_))
      refine v_iconst (pc := 66) (dk dt_X8_hide 32 rfl) ⟨by decide, by decide⟩ ?_
      obtain ⟨v39, h⟩ := h
      refine v_isub (pc := 67) (dk dt_X8_hide 33 rfl) v39 ?_
      refine v_istore (pc := 68) (ls' := [some (rv l0), some (rv l1), some (iv l2), some (iv l3), some (rv l4), some (iv l5), some (iv l6), some (rv (alAt G (gfd G 8 0 l0) l6)), some (iv r29), some (iv (r35 - 1)), none]) (dk dt_X8_hide 34 rfl) (Nat.le_of_ble_eq_true rfl) rfl ?_
      exact h
    · replace h := h.2 c27
      refine v_goto (pc := 47) (tgt := 112) (dk dt_X8_hide 22 rfl) (by decide) ?_
      obtain ⟨v40, h⟩ := h
      refine v_iinc (pc := 112) (ls' := [some (rv l0), some (rv l1), some (iv l2), some (iv l3), some (rv l4), some (iv l5), some (iv (l6 + 1)), some (rv (alAt G (gfd G 8 0 l0) l6)), none, none, none]) (dk dt_X8_hide_1 12 rfl) (Nat.le_of_ble_eq_true rfl) rfl v40 rfl ?_
      refine v_goto (pc := 115) (tgt := 9) (dk dt_X8_hide_1 13 rfl) (by decide) ?_
      exact v_less2 (ls' := [some (rv l0), some (rv l1), some (iv l2), some (iv l3), some (rv l4), some (iv l5), some (iv (l6 + 1)), none, none, none, none]) ⟨rfl, rfl, rfl, rfl, rfl, rfl, rfl, trivial⟩ h
set_option maxRecDepth 20000 in
theorem b_X8_hide_70 {E : EE} {l0 l1 l2 l3 l4 l5 l6 l7 l8 l9 : Int} {G : Gt} {c s : Nat} {Q X : Int → Gt → Prop} (h : ((l9 < l8 → (i32 (l6 + 1) ∧ V E M_X8_hide 9 [some (rv l0), some (rv l1), some (iv l2), some (iv l3), some (rv l4), some (iv l5), some (iv (l6 + 1)), none, none, none, none] [] G c s Q X)) ∧ (l8 ≤ l9 → (gcl G l7 = 8 ∧ gcl G (gfd G 7 1 l7) = 14 ∧ Call E M_A_remove [rv (gfd G 7 1 l7), iv l9] G c s X (fun r5 G6 c7 s8 => (r5 = -1 ∨ gcl G6 r5 = 6) ∧ gcl G6 r5 = 6 ∧ ∀ G11 : Gt, G11 = (sfd G6 5 5 r5 l4) → i32 (l5 + 1) ∧ i32 (l9 + (-1)) ∧ V E M_X8_hide 70 [some (rv l0), some (rv l1), some (iv l2), some (iv l3), some (rv r5), some (iv (l5 + 1)), some (iv l6), some (rv l7), some (iv l8), some (iv (l9 + (-1))), none] [] G11 c7 s8 Q X))))) : V E M_X8_hide 70 [some (rv l0), some (rv l1), some (iv l2), some (iv l3), some (rv l4), some (iv l5), some (iv l6), some (rv l7), some (iv l8), some (iv l9), none] [] G c s Q X := by
  refine v_iload (pc := 70) (dk dt_X8_hide 35 rfl) rfl ?_
  refine v_iload (pc := 72) (dk dt_X8_hide 36 rfl) rfl ?_
  refine v_icmp_lt (pc := 74) (tgt := 112) (dk dt_X8_hide 37 rfl) (by decide) (fun c1 => ?_) (fun c1 => ?_)
  · replace h := h.1 c1
    obtain ⟨v2, h⟩ := h
    refine v_iinc (pc := 112) (ls' := [some (rv l0), some (rv l1), some (iv l2), some (iv l3), some (rv l4), some (iv l5), some (iv (l6 + 1)), some (rv l7), some (iv l8), some (iv l9), none]) (dk dt_X8_hide_1 12 rfl) (Nat.le_of_ble_eq_true rfl) rfl v2 rfl ?_
    refine v_goto (pc := 115) (tgt := 9) (dk dt_X8_hide_1 13 rfl) (by decide) ?_
    exact v_less2 (ls' := [some (rv l0), some (rv l1), some (iv l2), some (iv l3), some (rv l4), some (iv l5), some (iv (l6 + 1)), none, none, none, none]) ⟨rfl, rfl, rfl, rfl, rfl, rfl, rfl, trivial⟩ h
  · replace h := h.2 c1
    refine v_aload (pc := 77) (dk dt_X8_hide 38 rfl) rfl ?_
    obtain ⟨v3, h⟩ := h
    refine v_getR (pc := 79) (dk dt_X8_hide 39 rfl) fl_X8_75 v3 (fun _ => ?_)
    refine v_iload (pc := 82) (dk dt_X8_hide_1 0 rfl) rfl ?_
    obtain ⟨v4, h⟩ := h
    refine v_cvR (c := 13) (As := [iv l9]) (stk := []) (pc := 84) (dk dt_X8_hide_1 1 rfl) ml_X8_87 rfl rfl (Nat.le_of_ble_eq_true rfl) rfl ⟨by decide, rfl⟩ v4 rfl (Call.mono h (fun r5 G6 c7 s8 h => ?_))
    obtain ⟨v9, h⟩ := h
    refine v_cast (c := 5) (pc := 87) (dk dt_X8_hide_1 2 rfl) (by decide) cl_X8_54 v9 ?_
    refine v_astore (pc := 90) (ls' := [some (rv l0), some (rv l1), some (iv l2), some (iv l3), some (rv l4), some (iv l5), some (iv l6), some (rv l7), some (iv l8), some (iv l9), some (rv r5)]) (dk dt_X8_hide_1 3 rfl) (Nat.le_of_ble_eq_true rfl) rfl ?_
    refine v_aload (pc := 92) (dk dt_X8_hide_1 4 rfl) rfl ?_
    refine v_aload (pc := 94) (dk dt_X8_hide_1 5 rfl) rfl ?_
    obtain ⟨v10, h⟩ := h
    refine v_putR (pc := 96) (dk dt_X8_hide_1 6 rfl) fl_X8_90 (Or.inl rfl) v10 ?_
    generalize hG11 : (sfd G6 5 5 r5 l4) = G11
    replace h := h G11 hG11.symm
    refine v_aload (pc := 99) (dk dt_X8_hide_1 7 rfl) rfl ?_
    refine v_astore (pc := 101) (ls' := [some (rv l0), some (rv l1), some (iv l2), some (iv l3), some (rv r5), some (iv l5), some (iv l6), some (rv l7), some (iv l8), some (iv l9), some (rv r5)]) (dk dt_X8_hide_1 8 rfl) (Nat.le_of_ble_eq_true rfl) rfl ?_
    obtain ⟨v12, h⟩ := h
    refine v_iinc (pc := 103) (ls' := [some (rv l0), some (rv l1), some (iv l2), some (iv l3), some (rv r5), some (iv (l5 + 1)), some (iv l6), some (rv l7), some (iv l8), some (iv l9), some (rv r5)]) (dk dt_X8_hide_1 9 rfl) (Nat.le_of_ble_eq_true rfl) rfl v12 rfl ?_
    obtain ⟨v13, h⟩ := h
    refine v_iinc (pc := 106) (ls' := [some (rv l0), some (rv l1), some (iv l2), some (iv l3), some (rv r5), some (iv (l5 + 1)), some (iv l6), some (rv l7), some (iv l8), some (iv (l9 + (-1))), some (rv r5)]) (dk dt_X8_hide_1 10 rfl) (Nat.le_of_ble_eq_true rfl) rfl v13 rfl ?_
    refine v_goto (pc := 109) (tgt := 70) (dk dt_X8_hide_1 11 rfl) (by decide) ?_
    exact v_less2 (ls' := [some (rv l0), some (rv l1), some (iv l2), some (iv l3), some (rv r5), some (iv (l5 + 1)), some (iv l6), some (rv l7), some (iv l8), some (iv (l9 + (-1))), none]) ⟨rfl, rfl, rfl, rfl, rfl, rfl, rfl, rfl, rfl, rfl, trivial⟩ h
set_option maxRecDepth 20000 in
theorem b_X8_tearOff_0 {E : EE} {l0 l1 : Int} {G : Gt} {c s : Nat} {Q X : Int → Gt → Prop} (h : V E M_X8_tearOff 2 [some (rv l0), some (iv l1), some (iv 0)] [] G c s Q X) : V E M_X8_tearOff 0 [some (rv l0), some (iv l1), none] [] G c s Q X := by
  refine v_iconst (pc := 0) (dk dt_X8_tearOff 0 rfl) ⟨by decide, by decide⟩ ?_
  refine v_istore_n (pc := 1) (ls' := [some (rv l0), some (iv l1), some (iv 0)]) (dk dt_X8_tearOff 1 rfl) rfl (Nat.le_of_ble_eq_true rfl) rfl ?_
  exact h
set_option maxRecDepth 20000 in
theorem i_X8_tearOff {E : EE} {l0 l1 : Int} {G : Gt} {c s : Nat} {Q X : Int → Gt → Prop} (h : V E M_X8_tearOff 2 [some (rv l0), some (iv l1), some (iv 0)] [] G c s Q X) : Ok E M_X8_tearOff [rv l0, iv l1] G c s Q X := Ok.intro (k := 1) rfl rfl (Nat.le_of_ble_eq_true rfl) rfl (b_X8_tearOff_0 h)
set_option maxRecDepth 20000 in
theorem b_X8_tearOff_2 {E : EE} {l0 l1 l2 : Int} {G : Gt} {c s : Nat} {Q X : Int → Gt → Prop} (h : ((l1 ≤ l2 → (gcl G l0 = 9 ∧ gcl G (gfd G 8 1 l0) = 14 ∧ OkP E M_A_size [rv (gfd G 8 1 l0)] G (gfd G 13 2 (gfd G 8 1 l0)) ∧ Q (gfd G 13 2 (gfd G 8 1 l0)) G)) ∧ (l2 < l1 → (gcl G l0 = 9 ∧ gcl G (gfd G 8 1 l0) = 14 ∧ OkP E M_A_isEmpty [rv (gfd G 8 1 l0)] G (if gfd G 13 2 (gfd G 8 1 l0) = 0 then (1 : Int) else 0) ∧ (((if gfd G 13 2 (gfd G 8 1 l0) = 0 then (1 : Int) else 0) ≠ 0 → (gcl G l0 = 9 ∧ gcl G (gfd G 8 1 l0) = 14 ∧ OkP E M_A_size [rv (gfd G 8 1 l0)] G (gfd G 13 2 (gfd G 8 1 l0)) ∧ Q (gfd G 13 2 (gfd G 8 1 l0)) G)) ∧ ((if gfd G 13 2 (gfd G 8 1 l0) = 0 then (1 : Int) else 0) = 0 → (gcl G l0 = 9 ∧ gcl G l0 = 9 ∧ gcl G (gfd G 8 1 l0) = 14 ∧ OkP E M_A_size [rv (gfd G 8 1 l0)] G (gfd G 13 2 (gfd G 8 1 l0)) ∧ i32 ((gfd G 13 2 (gfd G 8 1 l0)) - 1) ∧ gcl G (gfd G 8 1 l0) = 14 ∧ Call E M_A_remove [rv (gfd G 8 1 l0), iv ((gfd G 13 2 (gfd G 8 1 l0)) - 1)] G c s X (fun r18 G19 c20 s21 => (r18 = -1 ∨ gcl G19 r18 = 2) ∧ gcl G19 l0 = 9 ∧ Call E M_X8_takeBack [rv l0, rv r18] G19 c20 s21 X (fun r24 G25 c26 s27 => i32 (l2 + 1) ∧ V E M_X8_tearOff 2 [some (rv l0), some (iv l1), some (iv (l2 + 1))] [] G25 c26 s27 Q X))))))))) : V E M_X8_tearOff 2 [some (rv l0), some (iv l1), some (iv l2)] [] G c s Q X := by
  refine v_iload_n (pc := 2) (dk dt_X8_tearOff 2 rfl) rfl rfl ?_
  refine v_iload_n (pc := 3) (dk dt_X8_tearOff 3 rfl) rfl rfl ?_
  refine v_icmp_ge (pc := 4) (tgt := 46) (dk dt_X8_tearOff 4 rfl) (by decide) (fun c1 => ?_) (fun c1 => ?_)
  · replace h := h.1 c1
    refine v_aload_n (pc := 46) (dk dt_X8_tearOff 22 rfl) rfl rfl ?_
    obtain ⟨v2, h⟩ := h
    refine v_getR (pc := 47) (dk dt_X8_tearOff 23 rfl) fl_X8_18 v2 (fun _ => ?_)
    obtain ⟨v3, h⟩ := h
    obtain ⟨v4, h⟩ := h
    refine v_cvPI (c := 13) (v := (gfd G 13 2 (gfd G 8 1 l0))) (As := []) (stk := []) (pc := 50) (dk dt_X8_tearOff 24 rfl) ml_X8_33 rfl rfl (Nat.le_of_ble_eq_true rfl) rfl ⟨by decide, rfl⟩ v3 rfl v4 ?_
    exact v_iret (pc := 53) (dk dt_X8_tearOff 25 rfl) rfl h
  · replace h := h.2 c1
    refine v_aload_n (pc := 7) (dk dt_X8_tearOff 5 rfl) rfl rfl ?_
    obtain ⟨v5, h⟩ := h
    refine v_getR (pc := 8) (dk dt_X8_tearOff 6 rfl) fl_X8_18 v5 (fun _ => ?_)
    obtain ⟨v6, h⟩ := h
    obtain ⟨v7, h⟩ := h
    refine v_cvPZ (c := 13) (v := (if gfd G 13 2 (gfd G 8 1 l0) = 0 then (1 : Int) else 0)) (As := []) (stk := []) (pc := 11) (dk dt_X8_tearOff 7 rfl) ml_X8_94 rfl rfl (Nat.le_of_ble_eq_true rfl) rfl ⟨by decide, rfl⟩ v6 rfl v7 ?_
    refine v_if_ne (pc := 14) (tgt := 46) (dk dt_X8_tearOff 8 rfl) (by decide) (fun c8 => ?_) (fun c8 => ?_)
    · replace h := h.1 c8
      refine v_aload_n (pc := 46) (dk dt_X8_tearOff 22 rfl) rfl rfl ?_
      obtain ⟨v9, h⟩ := h
      refine v_getR (pc := 47) (dk dt_X8_tearOff 23 rfl) fl_X8_18 v9 (fun _ => ?_)
      obtain ⟨v10, h⟩ := h
      obtain ⟨v11, h⟩ := h
      refine v_cvPI (c := 13) (v := (gfd G 13 2 (gfd G 8 1 l0))) (As := []) (stk := []) (pc := 50) (dk dt_X8_tearOff 24 rfl) ml_X8_33 rfl rfl (Nat.le_of_ble_eq_true rfl) rfl ⟨by decide, rfl⟩ v10 rfl v11 ?_
      exact v_iret (pc := 53) (dk dt_X8_tearOff 25 rfl) rfl h
    · replace h := h.2 c8
      refine v_aload_n (pc := 17) (dk dt_X8_tearOff 9 rfl) rfl rfl ?_
      refine v_aload_n (pc := 18) (dk dt_X8_tearOff 10 rfl) rfl rfl ?_
      obtain ⟨v12, h⟩ := h
      refine v_getR (pc := 19) (dk dt_X8_tearOff 11 rfl) fl_X8_18 v12 (fun _ => ?_)
      refine v_aload_n (pc := 22) (dk dt_X8_tearOff 12 rfl) rfl rfl ?_
      obtain ⟨v13, h⟩ := h
      refine v_getR (pc := 23) (dk dt_X8_tearOff 13 rfl) fl_X8_18 v13 (fun _ => ?_)
      obtain ⟨v14, h⟩ := h
      obtain ⟨v15, h⟩ := h
      refine v_cvPI (c := 13) (v := (gfd G 13 2 (gfd G 8 1 l0))) (As := []) (stk := [rv (gfd G 8 1 l0), rv l0]) (pc := 26) (dk dt_X8_tearOff 14 rfl) ml_X8_33 rfl rfl (Nat.le_of_ble_eq_true rfl) rfl ⟨by decide, rfl⟩ v14 rfl v15 ?_
      refine v_iconst (pc := 29) (dk dt_X8_tearOff 15 rfl) ⟨by decide, by decide⟩ ?_
      obtain ⟨v16, h⟩ := h
      refine v_isub (pc := 30) (dk dt_X8_tearOff 16 rfl) v16 ?_
      obtain ⟨v17, h⟩ := h
      refine v_cvR (c := 13) (As := [iv ((gfd G 13 2 (gfd G 8 1 l0)) - 1)]) (stk := [rv l0]) (pc := 31) (dk dt_X8_tearOff 17 rfl) ml_X8_87 rfl rfl (Nat.le_of_ble_eq_true rfl) rfl ⟨by decide, rfl⟩ v17 rfl (Call.mono h (fun r18 G19 c20 s21 h => ?_))
      obtain ⟨v22, h⟩ := h
      refine v_cast (c := 1) (pc := 34) (dk dt_X8_tearOff 18 rfl) (by decide) cl_X8_63 v22 ?_
      obtain ⟨v23, h⟩ := h
      refine v_cvV (c := 8) (As := [rv r18]) (stk := []) (pc := 37) (dk dt_X8_tearOff 19 rfl) ml_X8_98 rfl rfl (Nat.le_of_ble_eq_true rfl) rfl ⟨by decide, rfl⟩ v23 rfl (Call.mono h (fun r24 G25 c26 s27 h => ?_))
      obtain ⟨v28, h⟩ := h
      refine v_iinc (pc := 40) (ls' := [some (rv l0), some (iv l1), some (iv (l2 + 1))]) (dk dt_X8_tearOff 20 rfl) (Nat.le_of_ble_eq_true rfl) rfl v28 rfl ?_
      refine v_goto (pc := 43) (tgt := 2) (dk dt_X8_tearOff 21 rfl) (by decide) ?_
      exact h
set_option maxRecDepth 20000 in
theorem b_X8_takeBack_0 {E : EE} {l0 l1 : Int} {G : Gt} {c s : Nat} {Q X : Int → Gt → Prop} (h : (gcl G l1 = 2 ∧ gcl G l1 = 2 ∧ (((gfd G 1 1 l1) ≠ 0 → V E M_X8_takeBack 25 [none, none, some (rv (gfd G 1 0 l1)), none] [] G c s Q X) ∧ ((gfd G 1 1 l1) = 0 → (((gfd G 1 0 l1) = -1 → V E M_X8_takeBack 25 [none, none, some (rv (gfd G 1 0 l1)), none] [] G c s Q X) ∧ (0 ≤ (gfd G 1 0 l1) → (gcl G (gfd G 1 0 l1) = 6 ∧ gcl G (gfd G 5 0 (gfd G 1 0 l1)) = 8 ∧ Call E M_X7_forget [rv (gfd G 5 0 (gfd G 1 0 l1)), rv (gfd G 1 0 l1)] G c s X (fun r7 G8 c9 s10 => Q 0 G8)))))))) : V E M_X8_takeBack 0 [some (rv l0), some (rv l1), none, none] [] G c s Q X := by
  refine v_aload_n (pc := 0) (dk dt_X8_takeBack 0 rfl) rfl rfl ?_
  obtain ⟨v1, h⟩ := h
  refine v_getR (pc := 1) (dk dt_X8_takeBack 1 rfl) fl_X8_102 v1 (fun _ => ?_)
  refine v_astore_n (pc := 4) (ls' := [some (rv l0), some (rv l1), some (rv (gfd G 1 0 l1)), none]) (dk dt_X8_takeBack 2 rfl) rfl (Nat.le_of_ble_eq_true rfl) rfl ?_
  refine v_aload_n (pc := 5) (dk dt_X8_takeBack 3 rfl) rfl rfl ?_
  obtain ⟨v2, h⟩ := h
  refine v_getZ (pc := 6) (dk dt_X8_takeBack 4 rfl) fl_X8_105 v2 (fun _ => ?_)
  refine v_if_ne (pc := 9) (tgt := 25) (dk dt_X8_takeBack 5 rfl) (by decide) (fun c3 => ?_) (fun c3 => ?_)
  · replace h := h.1 c3
    exact v_less2 (ls' := [none, none, some (rv (gfd G 1 0 l1)), none]) ⟨rfl, trivial⟩ h
  · replace h := h.2 c3
    refine v_aload_n (pc := 12) (dk dt_X8_takeBack 6 rfl) rfl rfl ?_
    refine v_ifnull (pc := 13) (tgt := 25) (dk dt_X8_takeBack 7 rfl) (by decide) (fun c4 => ?_) (fun c4 => ?_)
    · replace h := h.1 c4
      exact v_less2 (ls' := [none, none, some (rv (gfd G 1 0 l1)), none]) ⟨rfl, trivial⟩ h
    · replace h := h.2 c4
      refine v_aload_n (pc := 16) (dk dt_X8_takeBack 8 rfl) rfl rfl ?_
      obtain ⟨v5, h⟩ := h
      refine v_getR (pc := 17) (dk dt_X8_takeBack 9 rfl) fl_X8_108 v5 (fun _ => ?_)
      refine v_aload_n (pc := 20) (dk dt_X8_takeBack 10 rfl) rfl rfl ?_
      obtain ⟨v6, h⟩ := h
      refine v_cvV (c := 7) (As := [rv (gfd G 1 0 l1)]) (stk := []) (pc := 21) (dk dt_X8_takeBack 11 rfl) ml_X8_112 rfl rfl (Nat.le_of_ble_eq_true rfl) rfl ⟨by decide, rfl⟩ v6 rfl (Call.mono h (fun r7 G8 c9 s10 h => ?_))
      exact v_vret (pc := 24) (dk dt_X8_takeBack 12 rfl) rfl h
set_option maxRecDepth 20000 in
theorem i_X8_takeBack {E : EE} {l0 l1 : Int} {G : Gt} {c s : Nat} {Q X : Int → Gt → Prop} (h : (gcl G l1 = 2 ∧ gcl G l1 = 2 ∧ (((gfd G 1 1 l1) ≠ 0 → V E M_X8_takeBack 25 [none, none, some (rv (gfd G 1 0 l1)), none] [] G c s Q X) ∧ ((gfd G 1 1 l1) = 0 → (((gfd G 1 0 l1) = -1 → V E M_X8_takeBack 25 [none, none, some (rv (gfd G 1 0 l1)), none] [] G c s Q X) ∧ (0 ≤ (gfd G 1 0 l1) → (gcl G (gfd G 1 0 l1) = 6 ∧ gcl G (gfd G 5 0 (gfd G 1 0 l1)) = 8 ∧ Call E M_X7_forget [rv (gfd G 5 0 (gfd G 1 0 l1)), rv (gfd G 1 0 l1)] G c s X (fun r7 G8 c9 s10 => Q 0 G8)))))))) : Ok E M_X8_takeBack [rv l0, rv l1] G c s Q X := Ok.intro (k := 2) rfl rfl (Nat.le_of_ble_eq_true rfl) rfl (b_X8_takeBack_0 h)
set_option maxRecDepth 20000 in
theorem b_X8_takeBack_25 {E : EE} {l2 : Int} {G : Gt} {c s : Nat} {Q X : Int → Gt → Prop} (h : ((l2 = -1 → Q 0 G) ∧ (0 ≤ l2 → (gcl G l2 = 6 ∧ gcl G l2 = 6 ∧ ∀ G4 : Gt, G4 = (sfd G 5 5 l2 (-1)) → gcl G4 l2 = 6 ∧ gcl G4 (gfd G4 5 0 l2) = 8 ∧ Call E M_X7_show [rv (gfd G4 5 0 l2), rv l2] G4 c s X (fun r7 G8 c9 s10 => V E M_X8_takeBack 25 [none, none, some (rv (gfd G 5 5 l2)), none] [] G8 c9 s10 Q X))))) : V E M_X8_takeBack 25 [none, none, some (rv l2), none] [] G c s Q X := by
  refine v_aload_n (pc := 25) (dk dt_X8_takeBack 13 rfl) rfl rfl ?_
  refine v_ifnull (pc := 26) (tgt := 52) (dk dt_X8_takeBack 14 rfl) (by decide) (fun c1 => ?_) (fun c1 => ?_)
  · replace h := h.1 c1
    exact v_vret (pc := 52) (dk dt_X8_takeBack 28 rfl) rfl h
  · replace h := h.2 c1
    refine v_aload_n (pc := 29) (dk dt_X8_takeBack 15 rfl) rfl rfl ?_
    obtain ⟨v2, h⟩ := h
    refine v_getR (pc := 30) (dk dt_X8_takeBack 16 rfl) fl_X8_90 v2 (fun _ => ?_)
    refine v_astore_n (pc := 33) (ls' := [none, none, some (rv l2), some (rv (gfd G 5 5 l2))]) (dk dt_X8_takeBack 17 rfl) rfl (Nat.le_of_ble_eq_true rfl) rfl ?_
    refine v_aload_n (pc := 34) (dk dt_X8_takeBack 18 rfl) rfl rfl ?_
    refine v_null (pc := 35) (dk dt_X8_takeBack 19 rfl) ?_
    obtain ⟨v3, h⟩ := h
    refine v_putR (pc := 36) (dk dt_X8_takeBack 20 rfl) fl_X8_90 (Or.inl rfl) v3 ?_
    generalize hG4 : (sfd G 5 5 l2 (-1)) = G4
    replace h := h G4 hG4.symm
    refine v_aload_n (pc := 39) (dk dt_X8_takeBack 21 rfl) rfl rfl ?_
    obtain ⟨v5, h⟩ := h
    refine v_getR (pc := 40) (dk dt_X8_takeBack 22 rfl) fl_X8_108 v5 (fun _ => ?_)
    refine v_aload_n (pc := 43) (dk dt_X8_takeBack 23 rfl) rfl rfl ?_
    obtain ⟨v6, h⟩ := h
    refine v_cvV (c := 7) (As := [rv l2]) (stk := []) (pc := 44) (dk dt_X8_takeBack 24 rfl) ml_X8_59 rfl rfl (Nat.le_of_ble_eq_true rfl) rfl ⟨by decide, rfl⟩ v6 rfl (Call.mono h (fun r7 G8 c9 s10 h => ?_))
    refine v_aload_n (pc := 47) (dk dt_X8_takeBack 25 rfl) rfl rfl ?_
    refine v_astore_n (pc := 48) (ls' := [none, none, some (rv (gfd G 5 5 l2)), some (rv (gfd G 5 5 l2))]) (dk dt_X8_takeBack 26 rfl) rfl (Nat.le_of_ble_eq_true rfl) rfl ?_
    refine v_goto (pc := 49) (tgt := 25) (dk dt_X8_takeBack 27 rfl) (by decide) ?_
    exact v_less2 (ls' := [none, none, some (rv (gfd G 5 5 l2)), none]) ⟨rfl, trivial⟩ h
set_option maxRecDepth 20000 in
theorem b_X8_packAll_0 {E : EE} {l0 l1 : Int} {G : Gt} {c s : Nat} {Q X : Int → Gt → Prop} (h : V E M_X8_packAll 4 [some (rv l0), some (iv l1), some (iv 0), some (iv 0), none] [] G c s Q X) : V E M_X8_packAll 0 [some (rv l0), some (iv l1), none, none, none] [] G c s Q X := by
  refine v_iconst (pc := 0) (dk dt_X8_packAll 0 rfl) ⟨by decide, by decide⟩ ?_
  refine v_istore_n (pc := 1) (ls' := [some (rv l0), some (iv l1), some (iv 0), none, none]) (dk dt_X8_packAll 1 rfl) rfl (Nat.le_of_ble_eq_true rfl) rfl ?_
  refine v_iconst (pc := 2) (dk dt_X8_packAll 2 rfl) ⟨by decide, by decide⟩ ?_
  refine v_istore_n (pc := 3) (ls' := [some (rv l0), some (iv l1), some (iv 0), some (iv 0), none]) (dk dt_X8_packAll 3 rfl) rfl (Nat.le_of_ble_eq_true rfl) rfl ?_
  exact h
set_option maxRecDepth 20000 in
theorem i_X8_packAll {E : EE} {l0 l1 : Int} {G : Gt} {c s : Nat} {Q X : Int → Gt → Prop} (h : V E M_X8_packAll 4 [some (rv l0), some (iv l1), some (iv 0), some (iv 0), none] [] G c s Q X) : Ok E M_X8_packAll [rv l0, iv l1] G c s Q X := Ok.intro (k := 3) rfl rfl (Nat.le_of_ble_eq_true rfl) rfl (b_X8_packAll_0 h)
set_option maxRecDepth 20000 in
theorem b_X8_packAll_4 {E : EE} {l0 l1 l2 l3 : Int} {G : Gt} {c s : Nat} {Q X : Int → Gt → Prop} (h : (gcl G l0 = 9 ∧ gcl G (gfd G 8 0 l0) = 14 ∧ OkP E M_A_size [rv (gfd G 8 0 l0)] G (gfd G 13 2 (gfd G 8 0 l0)) ∧ (((gfd G 13 2 (gfd G 8 0 l0)) ≤ l3 → (gcl G l0 = 9 ∧ gcl G (gfd G 8 1 l0) = 14 ∧ Call E M_A_clear [rv (gfd G 8 1 l0)] G c s X (fun r7 G8 c9 s10 => Q l2 G8))) ∧ (l3 < (gfd G 13 2 (gfd G 8 0 l0)) → (gcl G l0 = 9 ∧ gcl G (gfd G 8 0 l0) = 14 ∧ OkP E M_A_get [rv (gfd G 8 0 l0), iv l3] G (alAt G (gfd G 8 0 l0) l3) ∧ ((alAt G (gfd G 8 0 l0) l3) = -1 ∨ gcl G (alAt G (gfd G 8 0 l0) l3) = 8) ∧ gcl G (alAt G (gfd G 8 0 l0) l3) = 8 ∧ Call E M_X7_forgetAheadOf [rv (alAt G (gfd G 8 0 l0) l3), iv l1] G c s X (fun r16 G17 c18 s19 => gcl G17 (alAt G (gfd G 8 0 l0) l3) = 8 ∧ Call E M_X7_packBlocks [rv (alAt G (gfd G 8 0 l0) l3)] G17 c18 s19 X (fun r21 G22 c23 s24 => i32 (l2 + r21) ∧ i32 (l3 + 1) ∧ V E M_X8_packAll 4 [some (rv l0), some (iv l1), some (iv (l2 + r21)), some (iv (l3 + 1)), none] [] G22 c23 s24 Q X))))))) : V E M_X8_packAll 4 [some (rv l0), some (iv l1), some (iv l2), some (iv l3), none] [] G c s Q X := by
  refine v_iload_n (pc := 4) (dk dt_X8_packAll 4 rfl) rfl rfl ?_
  refine v_aload_n (pc := 5) (dk dt_X8_packAll 5 rfl) rfl rfl ?_
  obtain ⟨v1, h⟩ := h
  refine v_getR (pc := 6) (dk dt_X8_packAll 6 rfl) fl_X8_12 v1 (fun _ => ?_)
  obtain ⟨v2, h⟩ := h
  obtain ⟨v3, h⟩ := h
  refine v_cvPI (c := 13) (v := (gfd G 13 2 (gfd G 8 0 l0))) (As := []) (stk := [iv l3]) (pc := 9) (dk dt_X8_packAll 7 rfl) ml_X8_33 rfl rfl (Nat.le_of_ble_eq_true rfl) rfl ⟨by decide, rfl⟩ v2 rfl v3 ?_
  refine v_icmp_ge (pc := 12) (tgt := 48) (dk dt_X8_packAll 8 rfl) (by decide) (fun c4 => ?_) (fun c4 => ?_)
  · replace h := h.1 c4
    refine v_aload_n (pc := 48) (dk dt_X8_packAll 25 rfl) rfl rfl ?_
    obtain ⟨v5, h⟩ := h
    refine v_getR (pc := 49) (dk dt_X8_packAll 26 rfl) fl_X8_18 v5 (fun _ => ?_)
    obtain ⟨v6, h⟩ := h
    refine v_cvV (c := 13) (As := []) (stk := []) (pc := 52) (dk dt_X8_packAll 27 rfl) ml_X8_121 rfl rfl (Nat.le_of_ble_eq_true rfl) rfl ⟨by decide, rfl⟩ v6 rfl (Call.mono h (fun r7 G8 c9 s10 h => ?_))
    refine v_iload_n (pc := 55) (dk dt_X8_packAll 28 rfl) rfl rfl ?_
    exact v_iret (pc := 56) (dk dt_X8_packAll 29 rfl) rfl h
  · replace h := h.2 c4
    refine v_aload_n (pc := 15) (dk dt_X8_packAll 9 rfl) rfl rfl ?_
    obtain ⟨v11, h⟩ := h
    refine v_getR (pc := 16) (dk dt_X8_packAll 10 rfl) fl_X8_12 v11 (fun _ => ?_)
    refine v_iload_n (pc := 19) (dk dt_X8_packAll 11 rfl) rfl rfl ?_
    obtain ⟨v12, h⟩ := h
    obtain ⟨v13, h⟩ := h
    refine v_cvPR (c := 13) (v := (alAt G (gfd G 8 0 l0) l3)) (As := [iv l3]) (stk := []) (pc := 20) (dk dt_X8_packAll 12 rfl) ml_X8_68 rfl rfl (Nat.le_of_ble_eq_true rfl) rfl ⟨by decide, rfl⟩ v12 rfl v13 ?_
    obtain ⟨v14, h⟩ := h
    refine v_cast (c := 7) (pc := 23) (dk dt_X8_packAll 13 rfl) (by decide) cl_X8_38 v14 ?_
    refine v_astore (pc := 26) (ls' := [some (rv l0), some (iv l1), some (iv l2), some (iv l3), some (rv (alAt G (gfd G 8 0 l0) l3))]) (dk dt_X8_packAll 14 rfl) (Nat.le_of_ble_eq_true rfl) rfl ?_
    refine v_aload (pc := 28) (dk dt_X8_packAll 15 rfl) rfl ?_
    refine v_iload_n (pc := 30) (dk dt_X8_packAll 16 rfl) rfl rfl ?_
    obtain ⟨v15, h⟩ := h
    refine v_cvV (c := 7) (As := [iv l1]) (stk := []) (pc := 31) (dk dt_X8_packAll 17 rfl) ml_X8_115 rfl rfl (Nat.le_of_ble_eq_true rfl) rfl ⟨by decide, rfl⟩ v15 rfl (Call.mono h (fun r16 G17 c18 s19 h => ?_))
    refine v_iload_n (pc := 34) (dk dt_X8_packAll 18 rfl) rfl rfl ?_
    refine v_aload (pc := 35) (dk dt_X8_packAll 19 rfl) rfl ?_
    obtain ⟨v20, h⟩ := h
    refine v_cvI (c := 7) (As := []) (stk := [iv l2]) (pc := 37) (dk dt_X8_packAll 20 rfl) ml_X8_118 rfl rfl (Nat.le_of_ble_eq_true rfl) rfl ⟨by decide, rfl⟩ v20 rfl (Call.mono h (fun r21 G22 c23 s24 h => ?_))
    obtain ⟨v25, h⟩ := h
    refine v_iadd (pc := 40) (dk dt_X8_packAll 21 rfl) v25 ?_
    refine v_istore_n (pc := 41) (ls' := [some (rv l0), some (iv l1), some (iv (l2 + r21)), some (iv l3), some (rv (alAt G (gfd G 8 0 l0) l3))]) (dk dt_X8_packAll 22 rfl) rfl (Nat.le_of_ble_eq_true rfl) rfl ?_
    obtain ⟨v26, h⟩ := h
    refine v_iinc (pc := 42) (ls' := [some (rv l0), some (iv l1), some (iv (l2 + r21)), some (iv (l3 + 1)), some (rv (alAt G (gfd G 8 0 l0) l3))]) (dk dt_X8_packAll 23 rfl) (Nat.le_of_ble_eq_true rfl) rfl v26 rfl ?_
    refine v_goto (pc := 45) (tgt := 4) (dk dt_X8_packAll 24 rfl) (by decide) ?_
    exact v_less2 (ls' := [some (rv l0), some (iv l1), some (iv (l2 + r21)), some (iv (l3 + 1)), none]) ⟨rfl, rfl, rfl, rfl, trivial⟩ h
set_option maxRecDepth 20000 in
theorem b_X8_countNotCopied_0 {E : EE} {l0 : Int} {G : Gt} {c s : Nat} {Q X : Int → Gt → Prop} (h : V E M_X8_countNotCopied 4 [some (rv l0), some (iv 0), some (iv 0), none, none] [] G c s Q X) : V E M_X8_countNotCopied 0 [some (rv l0), none, none, none, none] [] G c s Q X := by
  refine v_iconst (pc := 0) (dk dt_X8_countNotCopied 0 rfl) ⟨by decide, by decide⟩ ?_
  refine v_istore_n (pc := 1) (ls' := [some (rv l0), some (iv 0), none, none, none]) (dk dt_X8_countNotCopied 1 rfl) rfl (Nat.le_of_ble_eq_true rfl) rfl ?_
  refine v_iconst (pc := 2) (dk dt_X8_countNotCopied 2 rfl) ⟨by decide, by decide⟩ ?_
  refine v_istore_n (pc := 3) (ls' := [some (rv l0), some (iv 0), some (iv 0), none, none]) (dk dt_X8_countNotCopied 3 rfl) rfl (Nat.le_of_ble_eq_true rfl) rfl ?_
  exact h
set_option maxRecDepth 20000 in
theorem i_X8_countNotCopied {E : EE} {l0 : Int} {G : Gt} {c s : Nat} {Q X : Int → Gt → Prop} (h : V E M_X8_countNotCopied 4 [some (rv l0), some (iv 0), some (iv 0), none, none] [] G c s Q X) : Ok E M_X8_countNotCopied [rv l0] G c s Q X := Ok.intro (k := 4) rfl rfl (Nat.le_of_ble_eq_true rfl) rfl (b_X8_countNotCopied_0 h)
set_option maxRecDepth 20000 in
theorem b_X8_countNotCopied_4 {E : EE} {l0 l1 l2 : Int} {G : Gt} {c s : Nat} {Q X : Int → Gt → Prop} (h : (gcl G l0 = 9 ∧ gcl G (gfd G 8 0 l0) = 14 ∧ OkP E M_A_size [rv (gfd G 8 0 l0)] G (gfd G 13 2 (gfd G 8 0 l0)) ∧ (((gfd G 13 2 (gfd G 8 0 l0)) ≤ l2 → Q l1 G) ∧ (l2 < (gfd G 13 2 (gfd G 8 0 l0)) → (gcl G l0 = 9 ∧ gcl G (gfd G 8 0 l0) = 14 ∧ OkP E M_A_get [rv (gfd G 8 0 l0), iv l2] G (alAt G (gfd G 8 0 l0) l2) ∧ ((alAt G (gfd G 8 0 l0) l2) = -1 ∨ gcl G (alAt G (gfd G 8 0 l0) l2) = 8) ∧ gcl G (alAt G (gfd G 8 0 l0) l2) = 8 ∧ V E M_X8_countNotCopied 33 [some (rv l0), some (iv l1), some (iv l2), some (rv (gfd G 7 1 (alAt G (gfd G 8 0 l0) l2))), some (iv 0)] [] G c s Q X))))) : V E M_X8_countNotCopied 4 [some (rv l0), some (iv l1), some (iv l2), none, none] [] G c s Q X := by
  refine v_iload_n (pc := 4) (dk dt_X8_countNotCopied 4 rfl) rfl rfl ?_
  refine v_aload_n (pc := 5) (dk dt_X8_countNotCopied 5 rfl) rfl rfl ?_
  obtain ⟨v1, h⟩ := h
  refine v_getR (pc := 6) (dk dt_X8_countNotCopied 6 rfl) fl_X8_12 v1 (fun _ => ?_)
  obtain ⟨v2, h⟩ := h
  obtain ⟨v3, h⟩ := h
  refine v_cvPI (c := 13) (v := (gfd G 13 2 (gfd G 8 0 l0))) (As := []) (stk := [iv l2]) (pc := 9) (dk dt_X8_countNotCopied 7 rfl) ml_X8_33 rfl rfl (Nat.le_of_ble_eq_true rfl) rfl ⟨by decide, rfl⟩ v2 rfl v3 ?_
  refine v_icmp_ge (pc := 12) (tgt := 72) (dk dt_X8_countNotCopied 8 rfl) (by decide) (fun c4 => ?_) (fun c4 => ?_)
  · replace h := h.1 c4
    refine v_iload_n (pc := 72) (dk dt_X8_countNotCopied 33 rfl) rfl rfl ?_
    exact v_iret (pc := 73) (dk dt_X8_countNotCopied 34 rfl) rfl h
  · replace h := h.2 c4
    refine v_aload_n (pc := 15) (dk dt_X8_countNotCopied 9 rfl) rfl rfl ?_
    obtain ⟨v5, h⟩ := h
    refine v_getR (pc := 16) (dk dt_X8_countNotCopied 10 rfl) fl_X8_12 v5 (fun _ => ?_)
    refine v_iload_n (pc := 19) (dk dt_X8_countNotCopied 11 rfl) rfl rfl ?_
    obtain ⟨v6, h⟩ := h
    obtain ⟨v7, h⟩ := h
    refine v_cvPR (c := 13) (v := (alAt G (gfd G 8 0 l0) l2)) (As := [iv l2]) (stk := []) (pc := 20) (dk dt_X8_countNotCopied 12 rfl) ml_X8_68 rfl rfl (Nat.le_of_ble_eq_true rfl) rfl ⟨by decide, rfl⟩ v6 rfl v7 ?_
    obtain ⟨v8, h⟩ := h
    refine v_cast (c := 7) (pc := 23) (dk dt_X8_countNotCopied 13 rfl) (by decide) cl_X8_38 v8 ?_
    obtain ⟨v9, h⟩ := h
    refine v_getR (pc := 26) (dk dt_X8_countNotCopied 14 rfl) fl_X8_75 v9 (fun _ => ?_)
    refine v_astore_n (pc := 29) (ls' := [some (rv l0), some (iv l1), some (iv l2), some (rv (gfd G 7 1 (alAt G (gfd G 8 0 l0) l2))), none]) (dk dt_X8_countNotCopied 15 rfl) rfl (Nat.le_of_ble_eq_true rfl) rfl ?_
    refine v_iconst (pc := 30) (dk dt_X8_countNotCopied 16 rfl) ⟨by decide, by decide⟩ ?_
    refine v_istore (pc := 31) (ls' := [some (rv l0), some (iv l1), some (iv l2), some (rv (gfd G 7 1 (alAt G (gfd G 8 0 l0) l2))), some (iv 0)]) (dk dt_X8_countNotCopied 17 rfl) (Nat.le_of_ble_eq_true rfl) rfl ?_
    exact h
set_option maxRecDepth 20000 in
theorem b_X8_countNotCopied_33 {E : EE} {l0 l1 l2 l3 l4 : Int} {G : Gt} {c s : Nat} {Q X : Int → Gt → Prop} (h : (gcl G l3 = 14 ∧ OkP E M_A_size [rv l3] G (gfd G 13 2 l3) ∧ (((gfd G 13 2 l3) ≤ l4 → (i32 (l2 + 1) ∧ V E M_X8_countNotCopied 4 [some (rv l0), some (iv l1), some (iv (l2 + 1)), none, none] [] G c s Q X)) ∧ (l4 < (gfd G 13 2 l3) → (gcl G l3 = 14 ∧ OkP E M_A_get [rv l3, iv l4] G (alAt G l3 l4) ∧ ((alAt G l3 l4) = -1 ∨ gcl G (alAt G l3 l4) = 6) ∧ gcl G (alAt G l3 l4) = 6 ∧ ((gfd G 5 4 (alAt G l3 l4)) = 0 → i32 (l1 + 1)) ∧ i32 (l4 + 1) ∧ V E M_X8_countNotCopied 33 [some (rv l0), some (iv (if (gfd G 5 4 (alAt G l3 l4)) = 0 then ((l1 + 1) : Int) else l1)), some (iv l2), some (rv l3), some (iv (l4 + 1))] [] G c s Q X))))) : V E M_X8_countNotCopied 33 [some (rv l0), some (iv l1), some (iv l2), some (rv l3), some (iv l4)] [] G c s Q X := by
  refine v_iload (pc := 33) (dk dt_X8_countNotCopied 18 rfl) rfl ?_
  refine v_aload_n (pc := 35) (dk dt_X8_countNotCopied 19 rfl) rfl rfl ?_
  obtain ⟨v1, h⟩ := h
  obtain ⟨v2, h⟩ := h
  refine v_cvPI (c := 13) (v := (gfd G 13 2 l3)) (As := []) (stk := [iv l4]) (pc := 36) (dk dt_X8_countNotCopied 20 rfl) ml_X8_33 rfl rfl (Nat.le_of_ble_eq_true rfl) rfl ⟨by decide, rfl⟩ v1 rfl v2 ?_
  refine v_icmp_ge (pc := 39) (tgt := 66) (dk dt_X8_countNotCopied 21 rfl) (by decide) (fun c3 => ?_) (fun c3 => ?_)
  · replace h := h.1 c3
    obtain ⟨v4, h⟩ := h
    refine v_iinc (pc := 66) (ls' := [some (rv l0), some (iv l1), some (iv (l2 + 1)), some (rv l3), some (iv l4)]) (dk dt_X8_countNotCopied 31 rfl) (Nat.le_of_ble_eq_true rfl) rfl v4 rfl ?_
    refine v_goto (pc := 69) (tgt := 4) (dk dt_X8_countNotCopied 32 rfl) (by decide) ?_
    exact v_less2 (ls' := [some (rv l0), some (iv l1), some (iv (l2 + 1)), none, none]) ⟨rfl, rfl, rfl, trivial⟩ h
  · replace h := h.2 c3
    refine v_aload_n (pc := 42) (dk dt_X8_countNotCopied 22 rfl) rfl rfl ?_
    refine v_iload (pc := 43) (dk dt_X8_countNotCopied 23 rfl) rfl ?_
    obtain ⟨v5, h⟩ := h
    obtain ⟨v6, h⟩ := h
    refine v_cvPR (c := 13) (v := (alAt G l3 l4)) (As := [iv l4]) (stk := []) (pc := 45) (dk dt_X8_countNotCopied 24 rfl) ml_X8_68 rfl rfl (Nat.le_of_ble_eq_true rfl) rfl ⟨by decide, rfl⟩ v5 rfl v6 ?_
    obtain ⟨v7, h⟩ := h
    refine v_cast (c := 5) (pc := 48) (dk dt_X8_countNotCopied 25 rfl) (by decide) cl_X8_54 v7 ?_
    obtain ⟨v8, h⟩ := h
    refine v_getZ (pc := 51) (dk dt_X8_countNotCopied 26 rfl) fl_X8_124 v8 (fun _ => ?_)
    obtain ⟨v10, h⟩ := h
    suffices k12 : V E M_X8_countNotCopied 60 [some (rv l0), some (iv (if (gfd G 5 4 (alAt G l3 l4)) = 0 then ((l1 + 1) : Int) else l1)), some (iv l2), some (rv l3), some (iv l4)] [] G c s Q X by
      refine v_if_ne (pc := 54) (tgt := 60) (dk dt_X8_countNotCopied 27 rfl) (by decide) (fun c9 => ?_) (fun c9 => ?_)
      · exact v_less2 (ls' := [some (rv l0), some (iv l1), some (iv l2), some (rv l3), some (iv l4)]) ⟨rfl, rfl, rfl, rfl, rfl, trivial⟩ (by have hk9 := k12; try simp only [if_neg c9] at hk9 ⊢; exact hk9)
      · refine v_iinc (pc := 57) (ls' := [some (rv l0), some (iv (l1 + 1)), some (iv l2), some (rv l3), some (iv l4)]) (dk dt_X8_countNotCopied 28 rfl) (Nat.le_of_ble_eq_true rfl) rfl (v10 c9) rfl ?_
        exact v_less2 (ls' := [some (rv l0), some (iv (l1 + 1)), some (iv l2), some (rv l3), some (iv l4)]) ⟨rfl, rfl, rfl, rfl, rfl, trivial⟩ (by have hk9 := k12; try simp only [if_pos c9] at hk9 ⊢; exact hk9)
    obtain ⟨v11, h⟩ := h
    refine v_iinc (pc := 60) (ls' := [some (rv l0), some (iv (if (gfd G 5 4 (alAt G l3 l4)) = 0 then ((l1 + 1) : Int) else l1)), some (iv l2), some (rv l3), some (iv (l4 + 1))]) (dk dt_X8_countNotCopied 29 rfl) (Nat.le_of_ble_eq_true rfl) rfl v11 rfl ?_
    refine v_goto (pc := 63) (tgt := 33) (dk dt_X8_countNotCopied 30 rfl) (by decide) ?_
    exact h
set_option maxRecDepth 20000 in
theorem b_X8_copyFirst_0 {E : EE} {l0 l1 : Int} {G : Gt} {c s : Nat} {Q X : Int → Gt → Prop} (h : (gcl G l0 = 9 ∧ Call E M_X8_firstNotCopied [rv l0] G c s X (fun r2 G3 c4 s5 => V E M_X8_copyFirst 7 [some (rv l0), some (iv l1), some (iv 0), some (rv r2)] [] G3 c4 s5 Q X))) : V E M_X8_copyFirst 0 [some (rv l0), some (iv l1), none, none] [] G c s Q X := by
  refine v_iconst (pc := 0) (dk dt_X8_copyFirst 0 rfl) ⟨by decide, by decide⟩ ?_
  refine v_istore_n (pc := 1) (ls' := [some (rv l0), some (iv l1), some (iv 0), none]) (dk dt_X8_copyFirst 1 rfl) rfl (Nat.le_of_ble_eq_true rfl) rfl ?_
  refine v_aload_n (pc := 2) (dk dt_X8_copyFirst 2 rfl) rfl rfl ?_
  obtain ⟨v1, h⟩ := h
  refine v_cvR (c := 8) (As := []) (stk := []) (pc := 3) (dk dt_X8_copyFirst 3 rfl) ml_X8_127 rfl rfl (Nat.le_of_ble_eq_true rfl) rfl ⟨by decide, rfl⟩ v1 rfl (Call.mono h (fun r2 G3 c4 s5 h => ?_))
  refine v_astore_n (pc := 6) (ls' := [some (rv l0), some (iv l1), some (iv 0), some (rv r2)]) (dk dt_X8_copyFirst 4 rfl) rfl (Nat.le_of_ble_eq_true rfl) rfl ?_
  exact h
set_option maxRecDepth 20000 in
theorem i_X8_copyFirst {E : EE} {l0 l1 : Int} {G : Gt} {c s : Nat} {Q X : Int → Gt → Prop} (h : (gcl G l0 = 9 ∧ Call E M_X8_firstNotCopied [rv l0] G c s X (fun r2 G3 c4 s5 => V E M_X8_copyFirst 7 [some (rv l0), some (iv l1), some (iv 0), some (rv r2)] [] G3 c4 s5 Q X))) : Ok E M_X8_copyFirst [rv l0, iv l1] G c s Q X := Ok.intro (k := 2) rfl rfl (Nat.le_of_ble_eq_true rfl) rfl (b_X8_copyFirst_0 h)
set_option maxRecDepth 20000 in
theorem b_X8_copyFirst_7 {E : EE} {l0 l1 l2 l3 : Int} {G : Gt} {c s : Nat} {Q X : Int → Gt → Prop} (h : ((l1 ≤ l2 → Q l2 G) ∧ (l2 < l1 → ((l3 = -1 → Q l2 G) ∧ (0 ≤ l3 → (gcl G l3 = 6 ∧ ∀ G4 : Gt, G4 = (sfd G 5 4 l3 1) → i32 (l2 + 1) ∧ gcl G4 l0 = 9 ∧ Call E M_X8_firstNotCopied [rv l0] G4 c s X (fun r7 G8 c9 s10 => V E M_X8_copyFirst 7 [some (rv l0), some (iv l1), some (iv (l2 + 1)), some (rv r7)] [] G8 c9 s10 Q X))))))) : V E M_X8_copyFirst 7 [some (rv l0), some (iv l1), some (iv l2), some (rv l3)] [] G c s Q X := by
  refine v_iload_n (pc := 7) (dk dt_X8_copyFirst 5 rfl) rfl rfl ?_
  refine v_iload_n (pc := 8) (dk dt_X8_copyFirst 6 rfl) rfl rfl ?_
  refine v_icmp_ge (pc := 9) (tgt := 32) (dk dt_X8_copyFirst 7 rfl) (by decide) (fun c1 => ?_) (fun c1 => ?_)
  · replace h := h.1 c1
    refine v_iload_n (pc := 32) (dk dt_X8_copyFirst 18 rfl) rfl rfl ?_
    exact v_iret (pc := 33) (dk dt_X8_copyFirst 19 rfl) rfl h
  · replace h := h.2 c1
    refine v_aload_n (pc := 12) (dk dt_X8_copyFirst 8 rfl) rfl rfl ?_
    refine v_ifnull (pc := 13) (tgt := 32) (dk dt_X8_copyFirst 9 rfl) (by decide) (fun c2 => ?_) (fun c2 => ?_)
    · replace h := h.1 c2
      refine v_iload_n (pc := 32) (dk dt_X8_copyFirst 18 rfl) rfl rfl ?_
      exact v_iret (pc := 33) (dk dt_X8_copyFirst 19 rfl) rfl h
    · replace h := h.2 c2
      refine v_aload_n (pc := 16) (dk dt_X8_copyFirst 10 rfl) rfl rfl ?_
      refine v_iconst (pc := 17) (dk dt_X8_copyFirst 11 rfl) ⟨by decide, by decide⟩ ?_
      obtain ⟨v3, h⟩ := h
      refine v_putZ (pc := 18) (dk dt_X8_copyFirst 12 rfl) fl_X8_124 (Or.inl rfl) v3 (Or.inr rfl) ?_
      generalize hG4 : (sfd G 5 4 l3 1) = G4
      replace h := h G4 hG4.symm
      obtain ⟨v5, h⟩ := h
      refine v_iinc (pc := 21) (ls' := [some (rv l0), some (iv l1), some (iv (l2 + 1)), some (rv l3)]) (dk dt_X8_copyFirst 13 rfl) (Nat.le_of_ble_eq_true rfl) rfl v5 rfl ?_
      refine v_aload_n (pc := 24) (dk dt_X8_copyFirst 14 rfl) rfl rfl ?_
      obtain ⟨v6, h⟩ := h
      refine v_cvR (c := 8) (As := []) (stk := []) (pc := 25) (dk dt_X8_copyFirst 15 rfl) ml_X8_127 rfl rfl (Nat.le_of_ble_eq_true rfl) rfl ⟨by decide, rfl⟩ v6 rfl (Call.mono h (fun r7 G8 c9 s10 h => ?_))
      refine v_astore_n (pc := 28) (ls' := [some (rv l0), some (iv l1), some (iv (l2 + 1)), some (rv r7)]) (dk dt_X8_copyFirst 16 rfl) rfl (Nat.le_of_ble_eq_true rfl) rfl ?_
      refine v_goto (pc := 29) (tgt := 7) (dk dt_X8_copyFirst 17 rfl) (by decide) ?_
      exact h
set_option maxRecDepth 20000 in
theorem b_X8_firstNotCopied_0 {E : EE} {l0 : Int} {G : Gt} {c s : Nat} {Q X : Int → Gt → Prop} (h : V E M_X8_firstNotCopied 4 [some (rv l0), some (rv (-1)), some (iv 0), none, none, none] [] G c s Q X) : V E M_X8_firstNotCopied 0 [some (rv l0), none, none, none, none, none] [] G c s Q X := by
  refine v_null (pc := 0) (dk dt_X8_firstNotCopied 0 rfl) ?_
  refine v_astore_n (pc := 1) (ls' := [some (rv l0), some (rv (-1)), none, none, none, none]) (dk dt_X8_firstNotCopied 1 rfl) rfl (Nat.le_of_ble_eq_true rfl) rfl ?_
  refine v_iconst (pc := 2) (dk dt_X8_firstNotCopied 2 rfl) ⟨by decide, by decide⟩ ?_
  refine v_istore_n (pc := 3) (ls' := [some (rv l0), some (rv (-1)), some (iv 0), none, none, none]) (dk dt_X8_firstNotCopied 3 rfl) rfl (Nat.le_of_ble_eq_true rfl) rfl ?_
  exact h
set_option maxRecDepth 20000 in
theorem i_X8_firstNotCopied {E : EE} {l0 : Int} {G : Gt} {c s : Nat} {Q X : Int → Gt → Prop} (h : V E M_X8_firstNotCopied 4 [some (rv l0), some (rv (-1)), some (iv 0), none, none, none] [] G c s Q X) : Ok E M_X8_firstNotCopied [rv l0] G c s Q X := Ok.intro (k := 5) rfl rfl (Nat.le_of_ble_eq_true rfl) rfl (b_X8_firstNotCopied_0 h)
set_option maxRecDepth 20000 in
theorem b_X8_firstNotCopied_4 {E : EE} {l0 l1 l2 : Int} {G : Gt} {c s : Nat} {Q X : Int → Gt → Prop} (h : (gcl G l0 = 9 ∧ gcl G (gfd G 8 0 l0) = 14 ∧ OkP E M_A_size [rv (gfd G 8 0 l0)] G (gfd G 13 2 (gfd G 8 0 l0)) ∧ (((gfd G 13 2 (gfd G 8 0 l0)) ≤ l2 → Q l1 G) ∧ (l2 < (gfd G 13 2 (gfd G 8 0 l0)) → (gcl G l0 = 9 ∧ gcl G (gfd G 8 0 l0) = 14 ∧ OkP E M_A_get [rv (gfd G 8 0 l0), iv l2] G (alAt G (gfd G 8 0 l0) l2) ∧ ((alAt G (gfd G 8 0 l0) l2) = -1 ∨ gcl G (alAt G (gfd G 8 0 l0) l2) = 8) ∧ gcl G (alAt G (gfd G 8 0 l0) l2) = 8 ∧ V E M_X8_firstNotCopied 33 [some (rv l0), some (rv l1), some (iv l2), some (rv (gfd G 7 1 (alAt G (gfd G 8 0 l0) l2))), some (iv 0), none] [] G c s Q X))))) : V E M_X8_firstNotCopied 4 [some (rv l0), some (rv l1), some (iv l2), none, none, none] [] G c s Q X := by
  refine v_iload_n (pc := 4) (dk dt_X8_firstNotCopied 4 rfl) rfl rfl ?_
  refine v_aload_n (pc := 5) (dk dt_X8_firstNotCopied 5 rfl) rfl rfl ?_
  obtain ⟨v1, h⟩ := h
  refine v_getR (pc := 6) (dk dt_X8_firstNotCopied 6 rfl) fl_X8_12 v1 (fun _ => ?_)
  obtain ⟨v2, h⟩ := h
  obtain ⟨v3, h⟩ := h
  refine v_cvPI (c := 13) (v := (gfd G 13 2 (gfd G 8 0 l0))) (As := []) (stk := [iv l2]) (pc := 9) (dk dt_X8_firstNotCopied 7 rfl) ml_X8_33 rfl rfl (Nat.le_of_ble_eq_true rfl) rfl ⟨by decide, rfl⟩ v2 rfl v3 ?_
  refine v_icmp_ge (pc := 12) (tgt := 92) (dk dt_X8_firstNotCopied 8 rfl) (by decide) (fun c4 => ?_) (fun c4 => ?_)
  · replace h := h.1 c4
    refine v_aload_n (pc := 92) (dk dt_X8_firstNotCopied_1 3 rfl) rfl rfl ?_
    exact v_aret (pc := 93) (dk dt_X8_firstNotCopied_1 4 rfl) rfl (by first | exact Or.inl ⟨_, rfl⟩ | exact Or.inr ⟨_, rfl⟩) h
  · replace h := h.2 c4
    refine v_aload_n (pc := 15) (dk dt_X8_firstNotCopied 9 rfl) rfl rfl ?_
    obtain ⟨v5, h⟩ := h
    refine v_getR (pc := 16) (dk dt_X8_firstNotCopied 10 rfl) fl_X8_12 v5 (fun _ => ?_)
    refine v_iload_n (pc := 19) (dk dt_X8_firstNotCopied 11 rfl) rfl rfl ?_
    obtain ⟨v6, h⟩ := h
    obtain ⟨v7, h⟩ := h
    refine v_cvPR (c := 13) (v := (alAt G (gfd G 8 0 l0) l2)) (As := [iv l2]) (stk := []) (pc := 20) (dk dt_X8_firstNotCopied 12 rfl) ml_X8_68 rfl rfl (Nat.le_of_ble_eq_true rfl) rfl ⟨by decide, rfl⟩ v6 rfl v7 ?_
    obtain ⟨v8, h⟩ := h
    refine v_cast (c := 7) (pc := 23) (dk dt_X8_firstNotCopied 13 rfl) (by decide) cl_X8_38 v8 ?_
    obtain ⟨v9, h⟩ := h
    refine v_getR (pc := 26) (dk dt_X8_firstNotCopied 14 rfl) fl_X8_75 v9 (fun _ => ?_)
    refine v_astore_n (pc := 29) (ls' := [some (rv l0), some (rv l1), some (iv l2), some (rv (gfd G 7 1 (alAt G (gfd G 8 0 l0) l2))), none, none]) (dk dt_X8_firstNotCopied 15 rfl) rfl (Nat.le_of_ble_eq_true rfl) rfl ?_
    refine v_iconst (pc := 30) (dk dt_X8_firstNotCopied 16 rfl) ⟨by decide, by decide⟩ ?_
    refine v_istore (pc := 31) (ls' := [some (rv l0), some (rv l1), some (iv l2), some (rv (gfd G 7 1 (alAt G (gfd G 8 0 l0) l2))), some (iv 0), none]) (dk dt_X8_firstNotCopied 17 rfl) (Nat.le_of_ble_eq_true rfl) rfl ?_
    exact h
set_option maxRecDepth 20000 in
theorem b_X8_firstNotCopied_33 {E : EE} {l0 l1 l2 l3 l4 : Int} {G : Gt} {c s : Nat} {Q X : Int → Gt → Prop} (h : (gcl G l3 = 14 ∧ OkP E M_A_size [rv l3] G (gfd G 13 2 l3) ∧ (((gfd G 13 2 l3) ≤ l4 → (i32 (l2 + 1) ∧ V E M_X8_firstNotCopied 4 [some (rv l0), some (rv l1), some (iv (l2 + 1)), none, none, none] [] G c s Q X)) ∧ (l4 < (gfd G 13 2 l3) → (gcl G l3 = 14 ∧ OkP E M_A_get [rv l3, iv l4] G (alAt G l3 l4) ∧ ((alAt G l3 l4) = -1 ∨ gcl G (alAt G l3 l4) = 6) ∧ gcl G (alAt G l3 l4) = 6 ∧ ((gfd G 5 4 (alAt G l3 l4)) = 0 → 0 ≤ l1 → gcl G (alAt G l3 l4) = 6) ∧ ((gfd G 5 4 (alAt G l3 l4)) = 0 → 0 ≤ l1 → gcl G l1 = 6) ∧ i32 (l4 + 1) ∧ V E M_X8_firstNotCopied 33 [some (rv l0), some (rv (if (gfd G 5 4 (alAt G l3 l4)) = 0 then ((if l1 = -1 then ((alAt G l3 l4) : Int) else (if (gfd G 5 3 l1) ≤ (gfd G 5 3 (alAt G l3 l4)) then (l1 : Int) else (alAt G l3 l4))) : Int) else l1)), some (iv l2), some (rv l3), some (iv (l4 + 1)), none] [] G c s Q X))))) : V E M_X8_firstNotCopied 33 [some (rv l0), some (rv l1), some (iv l2), some (rv l3), some (iv l4), none] [] G c s Q X := by
  refine v_iload (pc := 33) (dk dt_X8_firstNotCopied 18 rfl) rfl ?_
  refine v_aload_n (pc := 35) (dk dt_X8_firstNotCopied 19 rfl) rfl rfl ?_
  obtain ⟨v1, h⟩ := h
  obtain ⟨v2, h⟩ := h
  refine v_cvPI (c := 13) (v := (gfd G 13 2 l3)) (As := []) (stk := [iv l4]) (pc := 36) (dk dt_X8_firstNotCopied 20 rfl) ml_X8_33 rfl rfl (Nat.le_of_ble_eq_true rfl) rfl ⟨by decide, rfl⟩ v1 rfl v2 ?_
  refine v_icmp_ge (pc := 39) (tgt := 86) (dk dt_X8_firstNotCopied 21 rfl) (by decide) (fun c3 => ?_) (fun c3 => ?_)
  · replace h := h.1 c3
    obtain ⟨v4, h⟩ := h
    refine v_iinc (pc := 86) (ls' := [some (rv l0), some (rv l1), some (iv (l2 + 1)), some (rv l3), some (iv l4), none]) (dk dt_X8_firstNotCopied_1 1 rfl) (Nat.le_of_ble_eq_true rfl) rfl v4 rfl ?_
    refine v_goto (pc := 89) (tgt := 4) (dk dt_X8_firstNotCopied_1 2 rfl) (by decide) ?_
    exact v_less2 (ls' := [some (rv l0), some (rv l1), some (iv (l2 + 1)), none, none, none]) ⟨rfl, rfl, rfl, trivial⟩ h
  · replace h := h.2 c3
    refine v_aload_n (pc := 42) (dk dt_X8_firstNotCopied 22 rfl) rfl rfl ?_
    refine v_iload (pc := 43) (dk dt_X8_firstNotCopied 23 rfl) rfl ?_
    obtain ⟨v5, h⟩ := h
    obtain ⟨v6, h⟩ := h
    refine v_cvPR (c := 13) (v := (alAt G l3 l4)) (As := [iv l4]) (stk := []) (pc := 45) (dk dt_X8_firstNotCopied 24 rfl) ml_X8_68 rfl rfl (Nat.le_of_ble_eq_true rfl) rfl ⟨by decide, rfl⟩ v5 rfl v6 ?_
    obtain ⟨v7, h⟩ := h
    refine v_cast (c := 5) (pc := 48) (dk dt_X8_firstNotCopied 25 rfl) (by decide) cl_X8_54 v7 ?_
    refine v_astore (pc := 51) (ls' := [some (rv l0), some (rv l1), some (iv l2), some (rv l3), some (iv l4), some (rv (alAt G l3 l4))]) (dk dt_X8_firstNotCopied 26 rfl) (Nat.le_of_ble_eq_true rfl) rfl ?_
    refine v_aload (pc := 53) (dk dt_X8_firstNotCopied 27 rfl) rfl ?_
    obtain ⟨v8, h⟩ := h
    refine v_getZ (pc := 55) (dk dt_X8_firstNotCopied 28 rfl) fl_X8_124 v8 (fun _ => ?_)
    obtain ⟨v11, v12, h⟩ := h
    suffices k15 : V E M_X8_firstNotCopied 80 [some (rv l0), some (rv (if (gfd G 5 4 (alAt G l3 l4)) = 0 then ((if l1 = -1 then ((alAt G l3 l4) : Int) else (if (gfd G 5 3 l1) ≤ (gfd G 5 3 (alAt G l3 l4)) then (l1 : Int) else (alAt G l3 l4))) : Int) else l1)), some (iv l2), some (rv l3), some (iv l4), none] [] G c s Q X by
      refine v_if_ne (pc := 58) (tgt := 80) (dk dt_X8_firstNotCopied 29 rfl) (by decide) (fun c9 => ?_) (fun c9 => ?_)
      · exact v_less2 (ls' := [some (rv l0), some (rv l1), some (iv l2), some (rv l3), some (iv l4), none]) ⟨rfl, rfl, rfl, rfl, rfl, trivial⟩ (by have hk9 := k15; try simp only [if_neg c9] at hk9 ⊢; exact hk9)
      · refine v_aload_n (pc := 61) (dk dt_X8_firstNotCopied 30 rfl) rfl rfl ?_
        refine v_ifnull (pc := 62) (tgt := 77) (dk dt_X8_firstNotCopied 31 rfl) (by decide) (fun c10 => ?_) (fun c10 => ?_)
        · refine v_aload (pc := 77) (dk dt_X8_firstNotCopied 37 rfl) rfl ?_
          refine v_astore_n (pc := 79) (ls' := [some (rv l0), some (rv (alAt G l3 l4)), some (iv l2), some (rv l3), some (iv l4), some (rv (alAt G l3 l4))]) (dk dt_X8_firstNotCopied 38 rfl) rfl (Nat.le_of_ble_eq_true rfl) rfl ?_
          exact v_less2 (ls' := [some (rv l0), some (rv (alAt G l3 l4)), some (iv l2), some (rv l3), some (iv l4), none]) ⟨rfl, rfl, rfl, rfl, rfl, trivial⟩ (by have hk9 := k15; try simp only [if_pos c9] at hk9 ⊢; try simp only [if_pos c10] at hk9 ⊢; exact hk9)
        · refine v_aload (pc := 65) (dk dt_X8_firstNotCopied 32 rfl) rfl ?_
          refine v_getI (pc := 67) (dk dt_X8_firstNotCopied 33 rfl) fl_X8_131 (v11 c9 c10) (fun _ => ?_)
          refine v_aload_n (pc := 70) (dk dt_X8_firstNotCopied 34 rfl) rfl rfl ?_
          refine v_getI (pc := 71) (dk dt_X8_firstNotCopied 35 rfl) fl_X8_131 (v12 c9 c10) (fun _ => ?_)
          refine v_icmp_ge (pc := 74) (tgt := 80) (dk dt_X8_firstNotCopied 36 rfl) (by decide) (fun c13 => ?_) (fun c13 => ?_)
          · exact v_less2 (ls' := [some (rv l0), some (rv l1), some (iv l2), some (rv l3), some (iv l4), none]) ⟨rfl, rfl, rfl, rfl, rfl, trivial⟩ (by have hk9 := k15; try simp only [if_pos c9] at hk9 ⊢; try simp only [if_neg (ne_m1 c10)] at hk9 ⊢; try simp only [if_pos c13] at hk9 ⊢; exact hk9)
          · refine v_aload (pc := 77) (dk dt_X8_firstNotCopied 37 rfl) rfl ?_
            refine v_astore_n (pc := 79) (ls' := [some (rv l0), some (rv (alAt G l3 l4)), some (iv l2), some (rv l3), some (iv l4), some (rv (alAt G l3 l4))]) (dk dt_X8_firstNotCopied 38 rfl) rfl (Nat.le_of_ble_eq_true rfl) rfl ?_
            exact v_less2 (ls' := [some (rv l0), some (rv (alAt G l3 l4)), some (iv l2), some (rv l3), some (iv l4), none]) ⟨rfl, rfl, rfl, rfl, rfl, trivial⟩ (by have hk9 := k15; try simp only [if_pos c9] at hk9 ⊢; try simp only [if_neg (ne_m1 c10)] at hk9 ⊢; try simp only [if_neg (Int.not_le.mpr c13)] at hk9 ⊢; exact hk9)
    obtain ⟨v14, h⟩ := h
    refine v_iinc (pc := 80) (ls' := [some (rv l0), some (rv (if (gfd G 5 4 (alAt G l3 l4)) = 0 then ((if l1 = -1 then ((alAt G l3 l4) : Int) else (if (gfd G 5 3 l1) ≤ (gfd G 5 3 (alAt G l3 l4)) then (l1 : Int) else (alAt G l3 l4))) : Int) else l1)), some (iv l2), some (rv l3), some (iv (l4 + 1)), none]) (dk dt_X8_firstNotCopied 39 rfl) (Nat.le_of_ble_eq_true rfl) rfl v14 rfl ?_
    refine v_goto (pc := 83) (tgt := 33) (dk dt_X8_firstNotCopied_1 0 rfl) (by decide) ?_
    exact h
