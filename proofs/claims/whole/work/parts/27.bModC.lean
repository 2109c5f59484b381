set_option maxRecDepth 20000 in
theorem b_X12_joins_0 {E : EE} {l0 l1 l2 : Int} {G : Gt} {c s : Nat} {Q X : Int → Gt → Prop} (h : (gcl G l0 = 13 ∧ i32 ((gfd G 12 33 l0) - 2) ∧ i32 (12 * ((gfd G 12 33 l0) - 2)) ∧ gcl G l0 = 13 ∧ i32 ((gfd G 12 33 l0) - 1) ∧ i32 (12 * ((gfd G 12 33 l0) - 1)) ∧ gcl G l0 = 13 ∧ gcl G l0 = 13 ∧ i32 ((gfd G 12 33 l0) - 2) ∧ gcl G (gfd G 12 29 l0) = 17 ∧ 0 ≤ ((gfd G 12 33 l0) - 2) ∧ ((gfd G 12 33 l0) - 2) < gln G (gfd G 12 29 l0) ∧ gcl G l0 = 13 ∧ gcl G l0 = 13 ∧ i32 ((gfd G 12 33 l0) - 1) ∧ gcl G (gfd G 12 29 l0) = 17 ∧ 0 ≤ ((gfd G 12 33 l0) - 1) ∧ ((gfd G 12 33 l0) - 1) < gln G (gfd G 12 29 l0) ∧ gcl G l0 = 13 ∧ i32 ((gfd G 12 33 l0) - 1) ∧ gcl G l0 = 13 ∧ ∀ G22 : Gt, G22 = (sfd G 12 33 l0 ((gfd G 12 33 l0) - 1)) → ∀ J23 : Prop, ((((gel G (gfd G 12 29 l0) ((gfd G 12 33 l0) - 2)) = 0 → gcl G22 l0 = 13) ∧ ((gel G (gfd G 12 29 l0) ((gfd G 12 33 l0) - 2)) = 0 → gcl G22 l0 = 13) ∧ ((gel G (gfd G 12 29 l0) ((gfd G 12 33 l0) - 2)) = 0 → i32 ((gfd G22 12 33 l0) - 1)) ∧ ((gel G (gfd G 12 29 l0) ((gfd G 12 33 l0) - 2)) = 0 → gcl G22 (gfd G22 12 30 l0) = 15) ∧ ((gel G (gfd G 12 29 l0) ((gfd G 12 33 l0) - 2)) = 0 → 0 ≤ ((gfd G22 12 33 l0) - 1)) ∧ ((gel G (gfd G 12 29 l0) ((gfd G 12 33 l0) - 2)) = 0 → ((gfd G22 12 33 l0) - 1) < gln G22 (gfd G22 12 30 l0)) ∧ ((gel G (gfd G 12 29 l0) ((gfd G 12 33 l0) - 2)) ≠ 0 → gcl G22 l0 = 13) ∧ ((gel G (gfd G 12 29 l0) ((gfd G 12 33 l0) - 2)) ≠ 0 → gcl G22 l0 = 13) ∧ ((gel G (gfd G 12 29 l0) ((gfd G 12 33 l0) - 2)) ≠ 0 → gcl G22 (gfd G22 12 30 l0) = 15) ∧ ((gel G (gfd G 12 29 l0) ((gfd G 12 33 l0) - 2)) ≠ 0 → 0 ≤ (gfd G22 12 33 l0)) ∧ ((gel G (gfd G 12 29 l0) ((gfd G 12 33 l0) - 2)) ≠ 0 → (gfd G22 12 33 l0) < gln G22 (gfd G22 12 30 l0)) ∧ gcl G22 l0 = 13 ∧ gcl G22 (gfd G22 12 32 l0) = 16 ∧ 0 ≤ (12 * ((gfd G 12 33 l0) - 2)) ∧ (12 * ((gfd G 12 33 l0) - 2)) < gln G22 (gfd G22 12 32 l0) ∧ V E M_X12_joins 193 [some (rv l0), some (iv l1), some (iv l2), some (iv (12 * ((gfd G 12 33 l0) - 2))), some (iv (12 * ((gfd G 12 33 l0) - 1))), some (iv (gel G (gfd G 12 29 l0) ((gfd G 12 33 l0) - 2))), some (iv (gel G (gfd G 12 29 l0) ((gfd G 12 33 l0) - 1))), some (iv (if (gel G (gfd G 12 29 l0) ((gfd G 12 33 l0) - 2)) = 0 then ((gel G22 (gfd G22 12 30 l0) ((gfd G22 12 33 l0) - 1)) : Int) else (gel G22 (gfd G22 12 30 l0) (gfd G22 12 33 l0)))), some (iv 0), some (jv (gel G22 (gfd G22 12 32 l0) (12 * ((gfd G 12 33 l0) - 2)))), none, some (iv 0), none, none, none, none, none] [] G22 c s Q X) → J23) → (((gel G (gfd G 12 29 l0) ((gfd G 12 33 l0) - 2)) = 0 → J23) ∧ ((gel G (gfd G 12 29 l0) ((gfd G 12 33 l0) - 2)) ≠ 0 → (((gel G (gfd G 12 29 l0) ((gfd G 12 33 l0) - 1)) = 0 → J23) ∧ ((gel G (gfd G 12 29 l0) ((gfd G 12 33 l0) - 1)) ≠ 0 → (gcl G22 l0 = 13 ∧ gcl G22 (gfd G22 12 32 l0) = 16 ∧ 0 ≤ (12 * ((gfd G 12 33 l0) - 2)) ∧ (12 * ((gfd G 12 33 l0) - 2)) < gln G22 (gfd G22 12 32 l0) ∧ gcl G22 l0 = 13 ∧ gcl G22 (gfd G22 12 32 l0) = 16 ∧ 0 ≤ (12 * ((gfd G 12 33 l0) - 1)) ∧ (12 * ((gfd G 12 33 l0) - 1)) < gln G22 (gfd G22 12 32 l0) ∧ gcl G22 l0 = 13 ∧ Call E M_X12_joined [rv l0, iv l1, jv (gel G22 (gfd G22 12 32 l0) (12 * ((gfd G 12 33 l0) - 2))), jv (gel G22 (gfd G22 12 32 l0) (12 * ((gfd G 12 33 l0) - 1)))] G22 c s X (fun r51 G52 c53 s54 => gcl G52 l0 = 13 ∧ ((gfd G52 12 34 l0) = 0 → l1 = 13 → gcl G52 l0 = 13) ∧ gcl G52 l0 = 13 ∧ ((if (gfd G52 12 34 l0) = 0 then ((if l1 = 13 then ((if (gfd G52 12 51 l0) = 0 then (1 : Int) else 0) : Int) else 0) : Int) else 1) = 0 ∨ (if (gfd G52 12 34 l0) = 0 then ((if l1 = 13 then ((if (gfd G52 12 51 l0) = 0 then (1 : Int) else 0) : Int) else 0) : Int) else 1) = 1) ∧ ∀ G62 : Gt, G62 = (sfd G52 12 34 l0 (if (gfd G52 12 34 l0) = 0 then ((if l1 = 13 then ((if (gfd G52 12 51 l0) = 0 then (1 : Int) else 0) : Int) else 0) : Int) else 1)) → gcl G62 l0 = 13 ∧ (l1 = 14 → gcl G62 l0 = 13) ∧ gcl G62 (gfd G62 12 32 l0) = 16 ∧ 0 ≤ (12 * ((gfd G 12 33 l0) - 2)) ∧ (12 * ((gfd G 12 33 l0) - 2)) < gln G62 (gfd G62 12 32 l0) ∧ ∀ G70 : Gt, G70 = (sel G62 (gfd G62 12 32 l0) (12 * ((gfd G 12 33 l0) - 2)) (if l1 = 14 then ((if (gfd G62 12 51 l0) = 0 then (0 : Int) else 1000) : Int) else r51)) → Q 0 G70)))))))) : V E M_X12_joins 0 [some (rv l0), some (iv l1), some (iv l2), none, none, none, none, none, none, none, none, none, none, none, none, none, none] [] G c s Q X := by
  refine v_bipush (pc := 0) (dk dt_X12_joins 0 rfl) (by decide) ⟨by decide, by decide⟩ ?_
  refine v_aload_n (pc := 2) (dk dt_X12_joins 1 rfl) rfl rfl ?_
  obtain ⟨v1, h⟩ := h
  refine v_getI (pc := 3) (dk dt_X12_joins 2 rfl) fl_X12_237 v1 (fun _ => ?_)
  refine v_iconst (pc := 6) (dk dt_X12_joins 3 rfl) ⟨by decide, by decide⟩ ?_
  obtain ⟨v2, h⟩ := h
  refine v_isub (pc := 7) (dk dt_X12_joins 4 rfl) v2 ?_
  obtain ⟨v3, h⟩ := h
  refine v_imul (pc := 8) (dk dt_X12_joins 5 rfl) v3 ?_
  refine v_istore_n (pc := 9) (ls' := [some (rv l0), some (iv l1), some (iv l2), some (iv (12 * ((gfd G 12 33 l0) - 2))), none, none, none, none, none, none, none, none, none, none, none, none, none]) (dk dt_X12_joins 6 rfl) rfl (Nat.le_of_ble_eq_true rfl) rfl ?_
  refine v_bipush (pc := 10) (dk dt_X12_joins 7 rfl) (by decide) ⟨by decide, by decide⟩ ?_
  refine v_aload_n (pc := 12) (dk dt_X12_joins 8 rfl) rfl rfl ?_
  obtain ⟨v4, h⟩ := h
  refine v_getI (pc := 13) (dk dt_X12_joins 9 rfl) fl_X12_237 v4 (fun _ => ?_)
  refine v_iconst (pc := 16) (dk dt_X12_joins 10 rfl) ⟨by decide, by decide⟩ ?_
  obtain ⟨v5, h⟩ := h
  refine v_isub (pc := 17) (dk dt_X12_joins 11 rfl) v5 ?_
  obtain ⟨v6, h⟩ := h
  refine v_imul (pc := 18) (dk dt_X12_joins 12 rfl) v6 ?_
  refine v_istore (pc := 19) (ls' := [some (rv l0), some (iv l1), some (iv l2), some (iv (12 * ((gfd G 12 33 l0) - 2))), some (iv (12 * ((gfd G 12 33 l0) - 1))), none, none, none, none, none, none, none, none, none, none, none, none]) (dk dt_X12_joins 13 rfl) (Nat.le_of_ble_eq_true rfl) rfl ?_
  refine v_aload_n (pc := 21) (dk dt_X12_joins 14 rfl) rfl rfl ?_
  obtain ⟨v7, h⟩ := h
  refine v_getR (pc := 22) (dk dt_X12_joins 15 rfl) fl_X12_78 v7 (fun _ => ?_)
  refine v_aload_n (pc := 25) (dk dt_X12_joins 16 rfl) rfl rfl ?_
  obtain ⟨v8, h⟩ := h
  refine v_getI (pc := 26) (dk dt_X12_joins 17 rfl) fl_X12_237 v8 (fun _ => ?_)
  refine v_iconst (pc := 29) (dk dt_X12_joins 18 rfl) ⟨by decide, by decide⟩ ?_
  obtain ⟨v9, h⟩ := h
  refine v_isub (pc := 30) (dk dt_X12_joins 19 rfl) v9 ?_
  obtain ⟨v10, h⟩ := h
  obtain ⟨v11, h⟩ := h
  obtain ⟨v12, h⟩ := h
  refine v_zald (pc := 31) (dk dt_X12_joins 20 rfl) v10 v11 v12 (fun _ => ?_)
  refine v_istore (pc := 32) (ls' := [some (rv l0), some (iv l1), some (iv l2), some (iv (12 * ((gfd G 12 33 l0) - 2))), some (iv (12 * ((gfd G 12 33 l0) - 1))), some (iv (gel G (gfd G 12 29 l0) ((gfd G 12 33 l0) - 2))), none, none, none, none, none, none, none, none, none, none, none]) (dk dt_X12_joins 21 rfl) (Nat.le_of_ble_eq_true rfl) rfl ?_
  refine v_aload_n (pc := 34) (dk dt_X12_joins 22 rfl) rfl rfl ?_
  obtain ⟨v13, h⟩ := h
  refine v_getR (pc := 35) (dk dt_X12_joins 23 rfl) fl_X12_78 v13 (fun _ => ?_)
  refine v_aload_n (pc := 38) (dk dt_X12_joins 24 rfl) rfl rfl ?_
  obtain ⟨v14, h⟩ := h
  refine v_getI (pc := 39) (dk dt_X12_joins 25 rfl) fl_X12_237 v14 (fun _ => ?_)
  refine v_iconst (pc := 42) (dk dt_X12_joins 26 rfl) ⟨by decide, by decide⟩ ?_
  obtain ⟨v15, h⟩ := h
  refine v_isub (pc := 43) (dk dt_X12_joins 27 rfl) v15 ?_
  obtain ⟨v16, h⟩ := h
  obtain ⟨v17, h⟩ := h
  obtain ⟨v18, h⟩ := h
  refine v_zald (pc := 44) (dk dt_X12_joins 28 rfl) v16 v17 v18 (fun _ => ?_)
  refine v_istore (pc := 45) (ls' := [some (rv l0), some (iv l1), some (iv l2), some (iv (12 * ((gfd G 12 33 l0) - 2))), some (iv (12 * ((gfd G 12 33 l0) - 1))), some (iv (gel G (gfd G 12 29 l0) ((gfd G 12 33 l0) - 2))), some (iv (gel G (gfd G 12 29 l0) ((gfd G 12 33 l0) - 1))), none, none, none, none, none, none, none, none, none, none]) (dk dt_X12_joins 29 rfl) (Nat.le_of_ble_eq_true rfl) rfl ?_
  refine v_aload_n (pc := 47) (dk dt_X12_joins 30 rfl) rfl rfl ?_
  refine v_dup (pc := 48) (dk dt_X12_joins 31 rfl) (by intro h9; cases h9) ?_
  obtain ⟨v19, h⟩ := h
  refine v_getI (pc := 49) (dk dt_X12_joins 32 rfl) fl_X12_237 v19 (fun _ => ?_)
  refine v_iconst (pc := 52) (dk dt_X12_joins 33 rfl) ⟨by decide, by decide⟩ ?_
  obtain ⟨v20, h⟩ := h
  refine v_isub (pc := 53) (dk dt_X12_joins 34 rfl) v20 ?_
  obtain ⟨v21, h⟩ := h
  refine v_putI (pc := 54) (dk dt_X12_joins 35 rfl) fl_X12_237 (Or.inl rfl) v21 ?_
  generalize hG22 : (sfd G 12 33 l0 ((gfd G 12 33 l0) - 1)) = G22
  replace h := h G22 hG22.symm
  refine v_iload (pc := 57) (dk dt_X12_joins 36 rfl) rfl ?_
  obtain ⟨J23, dJ23⟩ : ∃ J9 : Prop, J9 = V E M_X12_joins 149 [some (rv l0), some (iv l1), some (iv l2), some (iv (12 * ((gfd G 12 33 l0) - 2))), some (iv (12 * ((gfd G 12 33 l0) - 1))), some (iv (gel G (gfd G 12 29 l0) ((gfd G 12 33 l0) - 2))), some (iv (gel G (gfd G 12 29 l0) ((gfd G 12 33 l0) - 1))), none, none, none, none, none, none, none, none, none, none] [] G22 c s Q X := ⟨_, rfl⟩
  have hJ23 : (((gel G (gfd G 12 29 l0) ((gfd G 12 33 l0) - 2)) = 0 → gcl G22 l0 = 13) ∧ ((gel G (gfd G 12 29 l0) ((gfd G 12 33 l0) - 2)) = 0 → gcl G22 l0 = 13) ∧ ((gel G (gfd G 12 29 l0) ((gfd G 12 33 l0) - 2)) = 0 → i32 ((gfd G22 12 33 l0) - 1)) ∧ ((gel G (gfd G 12 29 l0) ((gfd G 12 33 l0) - 2)) = 0 → gcl G22 (gfd G22 12 30 l0) = 15) ∧ ((gel G (gfd G 12 29 l0) ((gfd G 12 33 l0) - 2)) = 0 → 0 ≤ ((gfd G22 12 33 l0) - 1)) ∧ ((gel G (gfd G 12 29 l0) ((gfd G 12 33 l0) - 2)) = 0 → ((gfd G22 12 33 l0) - 1) < gln G22 (gfd G22 12 30 l0)) ∧ ((gel G (gfd G 12 29 l0) ((gfd G 12 33 l0) - 2)) ≠ 0 → gcl G22 l0 = 13) ∧ ((gel G (gfd G 12 29 l0) ((gfd G 12 33 l0) - 2)) ≠ 0 → gcl G22 l0 = 13) ∧ ((gel G (gfd G 12 29 l0) ((gfd G 12 33 l0) - 2)) ≠ 0 → gcl G22 (gfd G22 12 30 l0) = 15) ∧ ((gel G (gfd G 12 29 l0) ((gfd G 12 33 l0) - 2)) ≠ 0 → 0 ≤ (gfd G22 12 33 l0)) ∧ ((gel G (gfd G 12 29 l0) ((gfd G 12 33 l0) - 2)) ≠ 0 → (gfd G22 12 33 l0) < gln G22 (gfd G22 12 30 l0)) ∧ gcl G22 l0 = 13 ∧ gcl G22 (gfd G22 12 32 l0) = 16 ∧ 0 ≤ (12 * ((gfd G 12 33 l0) - 2)) ∧ (12 * ((gfd G 12 33 l0) - 2)) < gln G22 (gfd G22 12 32 l0) ∧ V E M_X12_joins 193 [some (rv l0), some (iv l1), some (iv l2), some (iv (12 * ((gfd G 12 33 l0) - 2))), some (iv (12 * ((gfd G 12 33 l0) - 1))), some (iv (gel G (gfd G 12 29 l0) ((gfd G 12 33 l0) - 2))), some (iv (gel G (gfd G 12 29 l0) ((gfd G 12 33 l0) - 1))), some (iv (if (gel G (gfd G 12 29 l0) ((gfd G 12 33 l0) - 2)) = 0 then ((gel G22 (gfd G22 12 30 l0) ((gfd G22 12 33 l0) - 1)) : Int) else (gel G22 (gfd G22 12 30 l0) (gfd G22 12 33 l0)))), some (iv 0), some (jv (gel G22 (gfd G22 12 32 l0) (12 * ((gfd G 12 33 l0) - 2)))), none, some (iv 0), none, none, none, none, none] [] G22 c s Q X) → J23 := by
    intro h
    rw [dJ23]
    refine v_iload (pc := 149) (dk dt_X12_joins_2 3 rfl) rfl ?_
    obtain ⟨v25, v26, v27, v28, v29, v30, v31, v32, v33, v34, v35, h⟩ := h
    suffices k71 : V E M_X12_joins 177 [some (rv l0), some (iv l1), some (iv l2), some (iv (12 * ((gfd G 12 33 l0) - 2))), some (iv (12 * ((gfd G 12 33 l0) - 1))), some (iv (gel G (gfd G 12 29 l0) ((gfd G 12 33 l0) - 2))), some (iv (gel G (gfd G 12 29 l0) ((gfd G 12 33 l0) - 1))), none, none, none, none, none, none, none, none, none, none] [iv (if (gel G (gfd G 12 29 l0) ((gfd G 12 33 l0) - 2)) = 0 then ((gel G22 (gfd G22 12 30 l0) ((gfd G22 12 33 l0) - 1)) : Int) else (gel G22 (gfd G22 12 30 l0) (gfd G22 12 33 l0)))] G22 c s Q X by
      refine v_if_eq (pc := 151) (tgt := 166) (dk dt_X12_joins_2 4 rfl) (by decide) (fun c24 => ?_) (fun c24 => ?_)
      · refine v_aload_n (pc := 166) (dk dt_X12_joins_2 11 rfl) rfl rfl ?_
        refine v_getR (pc := 167) (dk dt_X12_joins_2 12 rfl) fl_X12_81 (v25 c24) (fun _ => ?_)
        refine v_aload_n (pc := 170) (dk dt_X12_joins_2 13 rfl) rfl rfl ?_
        refine v_getI (pc := 171) (dk dt_X12_joins_2 14 rfl) fl_X12_237 (v26 c24) (fun _ => ?_)
        refine v_iconst (pc := 174) (dk dt_X12_joins_2 15 rfl) ⟨by decide, by decide⟩ ?_
        refine v_isub (pc := 175) (dk dt_X12_joins_2 16 rfl) (v27 c24) ?_
        refine v_iald (pc := 176) (dk dt_X12_joins_2 17 rfl) (Or.inl (v28 c24)) (v29 c24) (v30 c24) (fun _ => ?_)
        exact v_less2 (ls' := [some (rv l0), some (iv l1), some (iv l2), some (iv (12 * ((gfd G 12 33 l0) - 2))), some (iv (12 * ((gfd G 12 33 l0) - 1))), some (iv (gel G (gfd G 12 29 l0) ((gfd G 12 33 l0) - 2))), some (iv (gel G (gfd G 12 29 l0) ((gfd G 12 33 l0) - 1))), none, none, none, none, none, none, none, none, none, none]) ⟨rfl, rfl, rfl, rfl, rfl, rfl, rfl, trivial⟩ (by have hk9 := k71; try simp only [if_pos c24] at hk9 ⊢; exact hk9)
      · refine v_aload_n (pc := 154) (dk dt_X12_joins_2 5 rfl) rfl rfl ?_
        refine v_getR (pc := 155) (dk dt_X12_joins_2 6 rfl) fl_X12_81 (v31 c24) (fun _ => ?_)
        refine v_aload_n (pc := 158) (dk dt_X12_joins_2 7 rfl) rfl rfl ?_
        refine v_getI (pc := 159) (dk dt_X12_joins_2 8 rfl) fl_X12_237 (v32 c24) (fun _ => ?_)
        refine v_iald (pc := 162) (dk dt_X12_joins_2 9 rfl) (Or.inl (v33 c24)) (v34 c24) (v35 c24) (fun _ => ?_)
        refine v_goto (pc := 163) (tgt := 177) (dk dt_X12_joins_2 10 rfl) (by decide) ?_
        exact v_less2 (ls' := [some (rv l0), some (iv l1), some (iv l2), some (iv (12 * ((gfd G 12 33 l0) - 2))), some (iv (12 * ((gfd G 12 33 l0) - 1))), some (iv (gel G (gfd G 12 29 l0) ((gfd G 12 33 l0) - 2))), some (iv (gel G (gfd G 12 29 l0) ((gfd G 12 33 l0) - 1))), none, none, none, none, none, none, none, none, none, none]) ⟨rfl, rfl, rfl, rfl, rfl, rfl, rfl, trivial⟩ (by have hk9 := k71; try simp only [if_neg c24] at hk9 ⊢; exact hk9)
    refine v_istore (pc := 177) (ls' := [some (rv l0), some (iv l1), some (iv l2), some (iv (12 * ((gfd G 12 33 l0) - 2))), some (iv (12 * ((gfd G 12 33 l0) - 1))), some (iv (gel G (gfd G 12 29 l0) ((gfd G 12 33 l0) - 2))), some (iv (gel G (gfd G 12 29 l0) ((gfd G 12 33 l0) - 1))), some (iv (if (gel G (gfd G 12 29 l0) ((gfd G 12 33 l0) - 2)) = 0 then ((gel G22 (gfd G22 12 30 l0) ((gfd G22 12 33 l0) - 1)) : Int) else (gel G22 (gfd G22 12 30 l0) (gfd G22 12 33 l0)))), none, none, none, none, none, none, none, none, none]) (dk dt_X12_joins_2 18 rfl) (Nat.le_of_ble_eq_true rfl) rfl ?_
    refine v_iconst (pc := 179) (dk dt_X12_joins_2 19 rfl) ⟨by decide, by decide⟩ ?_
    refine v_istore (pc := 180) (ls' := [some (rv l0), some (iv l1), some (iv l2), some (iv (12 * ((gfd G 12 33 l0) - 2))), some (iv (12 * ((gfd G 12 33 l0) - 1))), some (iv (gel G (gfd G 12 29 l0) ((gfd G 12 33 l0) - 2))), some (iv (gel G (gfd G 12 29 l0) ((gfd G 12 33 l0) - 1))), some (iv (if (gel G (gfd G 12 29 l0) ((gfd G 12 33 l0) - 2)) = 0 then ((gel G22 (gfd G22 12 30 l0) ((gfd G22 12 33 l0) - 1)) : Int) else (gel G22 (gfd G22 12 30 l0) (gfd G22 12 33 l0)))), some (iv 0), none, none, none, none, none, none, none, none]) (dk dt_X12_joins_2 20 rfl) (Nat.le_of_ble_eq_true rfl) rfl ?_
    refine v_aload_n (pc := 182) (dk dt_X12_joins_2 21 rfl) rfl rfl ?_
    obtain ⟨v36, h⟩ := h
    refine v_getR (pc := 183) (dk dt_X12_joins_2 22 rfl) fl_X12_87 v36 (fun _ => ?_)
    refine v_iload_n (pc := 186) (dk dt_X12_joins_2 23 rfl) rfl rfl ?_
    obtain ⟨v37, h⟩ := h
    obtain ⟨v38, h⟩ := h
    obtain ⟨v39, h⟩ := h
    refine v_lald (pc := 187) (dk dt_X12_joins_2 24 rfl) v37 v38 v39 (fun _ => ?_)
    refine v_lstore (pc := 188) (ls' := [some (rv l0), some (iv l1), some (iv l2), some (iv (12 * ((gfd G 12 33 l0) - 2))), some (iv (12 * ((gfd G 12 33 l0) - 1))), some (iv (gel G (gfd G 12 29 l0) ((gfd G 12 33 l0) - 2))), some (iv (gel G (gfd G 12 29 l0) ((gfd G 12 33 l0) - 1))), some (iv (if (gel G (gfd G 12 29 l0) ((gfd G 12 33 l0) - 2)) = 0 then ((gel G22 (gfd G22 12 30 l0) ((gfd G22 12 33 l0) - 1)) : Int) else (gel G22 (gfd G22 12 30 l0) (gfd G22 12 33 l0)))), some (iv 0), some (jv (gel G22 (gfd G22 12 32 l0) (12 * ((gfd G 12 33 l0) - 2)))), none, none, none, none, none, none, none]) (dk dt_X12_joins_2 25 rfl) (Nat.le_of_ble_eq_true rfl) rfl ?_
    refine v_iconst (pc := 190) (dk dt_X12_joins_2 26 rfl) ⟨by decide, by decide⟩ ?_
    refine v_istore (pc := 191) (ls' := [some (rv l0), some (iv l1), some (iv l2), some (iv (12 * ((gfd G 12 33 l0) - 2))), some (iv (12 * ((gfd G 12 33 l0) - 1))), some (iv (gel G (gfd G 12 29 l0) ((gfd G 12 33 l0) - 2))), some (iv (gel G (gfd G 12 29 l0) ((gfd G 12 33 l0) - 1))), some (iv (if (gel G (gfd G 12 29 l0) ((gfd G 12 33 l0) - 2)) = 0 then ((gel G22 (gfd G22 12 30 l0) ((gfd G22 12 33 l0) - 1)) : Int) else (gel G22 (gfd G22 12 30 l0) (gfd G22 12 33 l0)))), some (iv 0), some (jv (gel G22 (gfd G22 12 32 l0) (12 * ((gfd G 12 33 l0) - 2)))), none, some (iv 0), none, none, none, none, none]) (dk dt_X12_joins_2 27 rfl) (Nat.le_of_ble_eq_true rfl) rfl ?_
    exact h
  replace h := h _ hJ23
  refine v_if_eq (pc := 59) (tgt := 149) (dk dt_X12_joins 37 rfl) (by decide) (fun c40 => ?_) (fun c40 => ?_)
  · replace h := h.1 c40
    rw [dJ23] at h
    exact h
  · replace h := h.2 c40
    refine v_iload (pc := 62) (dk dt_X12_joins 38 rfl) rfl ?_
    refine v_if_eq (pc := 64) (tgt := 149) (dk dt_X12_joins 39 rfl) (by decide) (fun c41 => ?_) (fun c41 => ?_)
    · replace h := h.1 c41
      rw [dJ23] at h
      exact h
    · replace h := h.2 c41
      refine v_aload_n (pc := 67) (dk dt_X12_joins_1 0 rfl) rfl rfl ?_
      refine v_iload_n (pc := 68) (dk dt_X12_joins_1 1 rfl) rfl rfl ?_
      refine v_aload_n (pc := 69) (dk dt_X12_joins_1 2 rfl) rfl rfl ?_
      obtain ⟨v42, h⟩ := h
      refine v_getR (pc := 70) (dk dt_X12_joins_1 3 rfl) fl_X12_87 v42 (fun _ => ?_)
      refine v_iload_n (pc := 73) (dk dt_X12_joins_1 4 rfl) rfl rfl ?_
      obtain ⟨v43, h⟩ := h
      obtain ⟨v44, h⟩ := h
      obtain ⟨v45, h⟩ := h
      refine v_lald (pc := 74) (dk dt_X12_joins_1 5 rfl) v43 v44 v45 (fun _ => ?_)
      refine v_aload_n (pc := 75) (dk dt_X12_joins_1 6 rfl) rfl rfl ?_
      obtain ⟨v46, h⟩ := h
      refine v_getR (pc := 76) (dk dt_X12_joins_1 7 rfl) fl_X12_87 v46 (fun _ => ?_)
      refine v_iload (pc := 79) (dk dt_X12_joins_1 8 rfl) rfl ?_
      obtain ⟨v47, h⟩ := h
      obtain ⟨v48, h⟩ := h
      obtain ⟨v49, h⟩ := h
      refine v_lald (pc := 81) (dk dt_X12_joins_1 9 rfl) v47 v48 v49 (fun _ => ?_)
      obtain ⟨v50, h⟩ := h
      refine v_cvJ (c := 12) (As := [iv l1, jv (gel G22 (gfd G22 12 32 l0) (12 * ((gfd G 12 33 l0) - 2))), jv (gel G22 (gfd G22 12 32 l0) (12 * ((gfd G 12 33 l0) - 1)))]) (stk := []) (pc := 82) (dk dt_X12_joins_1 10 rfl) ml_X12_264 rfl rfl (Nat.le_of_ble_eq_true rfl) rfl ⟨by decide, rfl⟩ v50 rfl (Call.mono h (fun r51 G52 c53 s54 h => ?_))
      refine v_lstore (pc := 85) (ls' := [some (rv l0), some (iv l1), some (iv l2), some (iv (12 * ((gfd G 12 33 l0) - 2))), some (iv (12 * ((gfd G 12 33 l0) - 1))), some (iv (gel G (gfd G 12 29 l0) ((gfd G 12 33 l0) - 2))), some (iv (gel G (gfd G 12 29 l0) ((gfd G 12 33 l0) - 1))), some (jv r51), none, none, none, none, none, none, none, none, none]) (dk dt_X12_joins_1 11 rfl) (Nat.le_of_ble_eq_true rfl) rfl ?_
      refine v_aload_n (pc := 87) (dk dt_X12_joins_1 12 rfl) rfl rfl ?_
      refine v_aload_n (pc := 88) (dk dt_X12_joins_1 13 rfl) rfl rfl ?_
      obtain ⟨v55, h⟩ := h
      refine v_getZ (pc := 89) (dk dt_X12_joins_1 14 rfl) fl_X12_208 v55 (fun _ => ?_)
      obtain ⟨v58, h⟩ := h
      suffices k72 : V E M_X12_joins 113 [some (rv l0), some (iv l1), none, some (iv (12 * ((gfd G 12 33 l0) - 2))), none, none, none, some (jv r51), none, none, none, none, none, none, none, none, none] [iv (if (gfd G52 12 34 l0) = 0 then ((if l1 = 13 then ((if (gfd G52 12 51 l0) = 0 then (1 : Int) else 0) : Int) else 0) : Int) else 1), rv l0] G52 c53 s54 Q X by
        refine v_if_ne (pc := 92) (tgt := 108) (dk dt_X12_joins_1 15 rfl) (by decide) (fun c56 => ?_) (fun c56 => ?_)
        · refine v_iconst (pc := 108) (dk dt_X12_joins_1 22 rfl) ⟨by decide, by decide⟩ ?_
          refine v_goto (pc := 109) (tgt := 113) (dk dt_X12_joins_1 23 rfl) (by decide) ?_
          exact v_less2 (ls' := [some (rv l0), some (iv l1), none, some (iv (12 * ((gfd G 12 33 l0) - 2))), none, none, none, some (jv r51), none, none, none, none, none, none, none, none, none]) ⟨rfl, rfl, rfl, rfl, trivial⟩ (by have hk9 := k72; try simp only [if_neg c56] at hk9 ⊢; exact hk9)
        · refine v_iload_n (pc := 95) (dk dt_X12_joins_1 16 rfl) rfl rfl ?_
          refine v_bipush (pc := 96) (dk dt_X12_joins_1 17 rfl) (by decide) ⟨by decide, by decide⟩ ?_
          refine v_icmp_ne (pc := 98) (tgt := 112) (dk dt_X12_joins_1 18 rfl) (by decide) (fun c57 => ?_) (fun c57 => ?_)
          · refine v_iconst (pc := 112) (dk dt_X12_joins_1 24 rfl) ⟨by decide, by decide⟩ ?_
            exact v_less2 (ls' := [some (rv l0), some (iv l1), none, some (iv (12 * ((gfd G 12 33 l0) - 2))), none, none, none, some (jv r51), none, none, none, none, none, none, none, none, none]) ⟨rfl, rfl, rfl, rfl, trivial⟩ (by have hk9 := k72; try simp only [if_pos c56] at hk9 ⊢; try simp only [if_neg c57] at hk9 ⊢; exact hk9)
          · refine v_aload_n (pc := 101) (dk dt_X12_joins_1 19 rfl) rfl rfl ?_
            refine v_getZ (pc := 102) (dk dt_X12_joins_1 20 rfl) fl_X12_259 (v58 c56 c57) (fun _ => ?_)
            refine v_if_ne (pc := 105) (tgt := 112) (dk dt_X12_joins_1 21 rfl) (by decide) (fun c59 => ?_) (fun c59 => ?_)
            · refine v_iconst (pc := 112) (dk dt_X12_joins_1 24 rfl) ⟨by decide, by decide⟩ ?_
              exact v_less2 (ls' := [some (rv l0), some (iv l1), none, some (iv (12 * ((gfd G 12 33 l0) - 2))), none, none, none, some (jv r51), none, none, none, none, none, none, none, none, none]) ⟨rfl, rfl, rfl, rfl, trivial⟩ (by have hk9 := k72; try simp only [if_pos c56] at hk9 ⊢; try simp only [if_pos c57] at hk9 ⊢; try simp only [if_neg c59] at hk9 ⊢; exact hk9)
            · refine v_iconst (pc := 108) (dk dt_X12_joins_1 22 rfl) ⟨by decide, by decide⟩ ?_
              refine v_goto (pc := 109) (tgt := 113) (dk dt_X12_joins_1 23 rfl) (by decide) ?_
              exact v_less2 (ls' := [some (rv l0), some (iv l1), none, some (iv (12 * ((gfd G 12 33 l0) - 2))), none, none, none, some (jv r51), none, none, none, none, none, none, none, none, none]) ⟨rfl, rfl, rfl, rfl, trivial⟩ (by have hk9 := k72; try simp only [if_pos c56] at hk9 ⊢; try simp only [if_pos c57] at hk9 ⊢; try simp only [if_pos c59] at hk9 ⊢; exact hk9)
      obtain ⟨v60, h⟩ := h
      obtain ⟨v61, h⟩ := h
      refine v_putZ (pc := 113) (dk dt_X12_joins_1 25 rfl) fl_X12_208 (Or.inl rfl) v60 v61 ?_
      generalize hG62 : (sfd G52 12 34 l0 (if (gfd G52 12 34 l0) = 0 then ((if l1 = 13 then ((if (gfd G52 12 51 l0) = 0 then (1 : Int) else 0) : Int) else 0) : Int) else 1)) = G62
      replace h := h G62 hG62.symm
      refine v_aload_n (pc := 116) (dk dt_X12_joins_1 26 rfl) rfl rfl ?_
      obtain ⟨v63, h⟩ := h
      refine v_getR (pc := 117) (dk dt_X12_joins_1 27 rfl) fl_X12_87 v63 (fun _ => ?_)
      refine v_iload_n (pc := 120) (dk dt_X12_joins_1 28 rfl) rfl rfl ?_
      refine v_iload_n (pc := 121) (dk dt_X12_joins_1 29 rfl) rfl rfl ?_
      refine v_bipush (pc := 122) (dk dt_X12_joins_1 30 rfl) (by decide) ⟨by decide, by decide⟩ ?_
      obtain ⟨v65, h⟩ := h
      suffices k73 : V E M_X12_joins 147 [none, none, none, none, none, none, none, none, none, none, none, none, none, none, none, none, none] [jv (if l1 = 14 then ((if (gfd G62 12 51 l0) = 0 then (0 : Int) else 1000) : Int) else r51), iv (12 * ((gfd G 12 33 l0) - 2)), rv (gfd G62 12 32 l0)] G62 c53 s54 Q X by
        refine v_icmp_ne (pc := 124) (tgt := 145) (dk dt_X12_joins_1 31 rfl) (by decide) (fun c64 => ?_) (fun c64 => ?_)
        · refine v_lload (pc := 145) (dk dt_X12_joins_2 0 rfl) rfl ?_
          exact v_less2 (ls' := [none, none, none, none, none, none, none, none, none, none, none, none, none, none, none, none, none]) trivial (by have hk9 := k73; try simp only [if_neg c64] at hk9 ⊢; exact hk9)
        · refine v_aload_n (pc := 127) (dk dt_X12_joins_1 32 rfl) rfl rfl ?_
          refine v_getZ (pc := 128) (dk dt_X12_joins_1 33 rfl) fl_X12_259 (v65 c64) (fun _ => ?_)
          refine v_if_eq (pc := 131) (tgt := 140) (dk dt_X12_joins_1 34 rfl) (by decide) (fun c66 => ?_) (fun c66 => ?_)
          · refine v_iconst (pc := 140) (dk dt_X12_joins_1 37 rfl) ⟨by decide, by decide⟩ ?_
            refine v_i2l (pc := 141) (dk dt_X12_joins_1 38 rfl) ?_
            refine v_goto (pc := 142) (tgt := 147) (dk dt_X12_joins_1 39 rfl) (by decide) ?_
            exact v_less2 (ls' := [none, none, none, none, none, none, none, none, none, none, none, none, none, none, none, none, none]) trivial (by have hk9 := k73; try simp only [if_pos c64] at hk9 ⊢; try simp only [if_pos c66] at hk9 ⊢; exact hk9)
          · refine v_sipush (pc := 134) (dk dt_X12_joins_1 35 rfl) (by decide) ⟨by decide, by decide⟩ ?_
            refine v_goto (pc := 137) (tgt := 141) (dk dt_X12_joins_1 36 rfl) (by decide) ?_
            refine v_i2l (pc := 141) (dk dt_X12_joins_1 38 rfl) ?_
            refine v_goto (pc := 142) (tgt := 147) (dk dt_X12_joins_1 39 rfl) (by decide) ?_
            exact v_less2 (ls' := [none, none, none, none, none, none, none, none, none, none, none, none, none, none, none, none, none]) trivial (by have hk9 := k73; try simp only [if_pos c64] at hk9 ⊢; try simp only [if_neg c66] at hk9 ⊢; exact hk9)
      obtain ⟨v67, h⟩ := h
      obtain ⟨v68, h⟩ := h
      obtain ⟨v69, h⟩ := h
      refine v_last (pc := 147) (dk dt_X12_joins_2 1 rfl) v67 v68 v69 ?_
      generalize hG70 : (sel G62 (gfd G62 12 32 l0) (12 * ((gfd G 12 33 l0) - 2)) (if l1 = 14 then ((if (gfd G62 12 51 l0) = 0 then (0 : Int) else 1000) : Int) else r51)) = G70
      replace h := h G70 hG70.symm
      exact v_vret (pc := 148) (dk dt_X12_joins_2 2 rfl) rfl h
set_option maxRecDepth 20000 in
theorem i_X12_joins {E : EE} {l0 l1 l2 : Int} {G : Gt} {c s : Nat} {Q X : Int → Gt → Prop} (h : (gcl G l0 = 13 ∧ i32 ((gfd G 12 33 l0) - 2) ∧ i32 (12 * ((gfd G 12 33 l0) - 2)) ∧ gcl G l0 = 13 ∧ i32 ((gfd G 12 33 l0) - 1) ∧ i32 (12 * ((gfd G 12 33 l0) - 1)) ∧ gcl G l0 = 13 ∧ gcl G l0 = 13 ∧ i32 ((gfd G 12 33 l0) - 2) ∧ gcl G (gfd G 12 29 l0) = 17 ∧ 0 ≤ ((gfd G 12 33 l0) - 2) ∧ ((gfd G 12 33 l0) - 2) < gln G (gfd G 12 29 l0) ∧ gcl G l0 = 13 ∧ gcl G l0 = 13 ∧ i32 ((gfd G 12 33 l0) - 1) ∧ gcl G (gfd G 12 29 l0) = 17 ∧ 0 ≤ ((gfd G 12 33 l0) - 1) ∧ ((gfd G 12 33 l0) - 1) < gln G (gfd G 12 29 l0) ∧ gcl G l0 = 13 ∧ i32 ((gfd G 12 33 l0) - 1) ∧ gcl G l0 = 13 ∧ ∀ G22 : Gt, G22 = (sfd G 12 33 l0 ((gfd G 12 33 l0) - 1)) → ∀ J23 : Prop, ((((gel G (gfd G 12 29 l0) ((gfd G 12 33 l0) - 2)) = 0 → gcl G22 l0 = 13) ∧ ((gel G (gfd G 12 29 l0) ((gfd G 12 33 l0) - 2)) = 0 → gcl G22 l0 = 13) ∧ ((gel G (gfd G 12 29 l0) ((gfd G 12 33 l0) - 2)) = 0 → i32 ((gfd G22 12 33 l0) - 1)) ∧ ((gel G (gfd G 12 29 l0) ((gfd G 12 33 l0) - 2)) = 0 → gcl G22 (gfd G22 12 30 l0) = 15) ∧ ((gel G (gfd G 12 29 l0) ((gfd G 12 33 l0) - 2)) = 0 → 0 ≤ ((gfd G22 12 33 l0) - 1)) ∧ ((gel G (gfd G 12 29 l0) ((gfd G 12 33 l0) - 2)) = 0 → ((gfd G22 12 33 l0) - 1) < gln G22 (gfd G22 12 30 l0)) ∧ ((gel G (gfd G 12 29 l0) ((gfd G 12 33 l0) - 2)) ≠ 0 → gcl G22 l0 = 13) ∧ ((gel G (gfd G 12 29 l0) ((gfd G 12 33 l0) - 2)) ≠ 0 → gcl G22 l0 = 13) ∧ ((gel G (gfd G 12 29 l0) ((gfd G 12 33 l0) - 2)) ≠ 0 → gcl G22 (gfd G22 12 30 l0) = 15) ∧ ((gel G (gfd G 12 29 l0) ((gfd G 12 33 l0) - 2)) ≠ 0 → 0 ≤ (gfd G22 12 33 l0)) ∧ ((gel G (gfd G 12 29 l0) ((gfd G 12 33 l0) - 2)) ≠ 0 → (gfd G22 12 33 l0) < gln G22 (gfd G22 12 30 l0)) ∧ gcl G22 l0 = 13 ∧ gcl G22 (gfd G22 12 32 l0) = 16 ∧ 0 ≤ (12 * ((gfd G 12 33 l0) - 2)) ∧ (12 * ((gfd G 12 33 l0) - 2)) < gln G22 (gfd G22 12 32 l0) ∧ V E M_X12_joins 193 [some (rv l0), some (iv l1), some (iv l2), some (iv (12 * ((gfd G 12 33 l0) - 2))), some (iv (12 * ((gfd G 12 33 l0) - 1))), some (iv (gel G (gfd G 12 29 l0) ((gfd G 12 33 l0) - 2))), some (iv (gel G (gfd G 12 29 l0) ((gfd G 12 33 l0) - 1))), some (iv (if (gel G (gfd G 12 29 l0) ((gfd G 12 33 l0) - 2)) = 0 then ((gel G22 (gfd G22 12 30 l0) ((gfd G22 12 33 l0) - 1)) : Int) else (gel G22 (gfd G22 12 30 l0) (gfd G22 12 33 l0)))), some (iv 0), some (jv (gel G22 (gfd G22 12 32 l0) (12 * ((gfd G 12 33 l0) - 2)))), none, some (iv 0), none, none, none, none, none] [] G22 c s Q X) → J23) → (((gel G (gfd G 12 29 l0) ((gfd G 12 33 l0) - 2)) = 0 → J23) ∧ ((gel G (gfd G 12 29 l0) ((gfd G 12 33 l0) - 2)) ≠ 0 → (((gel G (gfd G 12 29 l0) ((gfd G 12 33 l0) - 1)) = 0 → J23) ∧ ((gel G (gfd G 12 29 l0) ((gfd G 12 33 l0) - 1)) ≠ 0 → (gcl G22 l0 = 13 ∧ gcl G22 (gfd G22 12 32 l0) = 16 ∧ 0 ≤ (12 * ((gfd G 12 33 l0) - 2)) ∧ (12 * ((gfd G 12 33 l0) - 2)) < gln G22 (gfd G22 12 32 l0) ∧ gcl G22 l0 = 13 ∧ gcl G22 (gfd G22 12 32 l0) = 16 ∧ 0 ≤ (12 * ((gfd G 12 33 l0) - 1)) ∧ (12 * ((gfd G 12 33 l0) - 1)) < gln G22 (gfd G22 12 32 l0) ∧ gcl G22 l0 = 13 ∧ Call E M_X12_joined [rv l0, iv l1, jv (gel G22 (gfd G22 12 32 l0) (12 * ((gfd G 12 33 l0) - 2))), jv (gel G22 (gfd G22 12 32 l0) (12 * ((gfd G 12 33 l0) - 1)))] G22 c s X (fun r51 G52 c53 s54 => gcl G52 l0 = 13 ∧ ((gfd G52 12 34 l0) = 0 → l1 = 13 → gcl G52 l0 = 13) ∧ gcl G52 l0 = 13 ∧ ((if (gfd G52 12 34 l0) = 0 then ((if l1 = 13 then ((if (gfd G52 12 51 l0) = 0 then (1 : Int) else 0) : Int) else 0) : Int) else 1) = 0 ∨ (if (gfd G52 12 34 l0) = 0 then ((if l1 = 13 then ((if (gfd G52 12 51 l0) = 0 then (1 : Int) else 0) : Int) else 0) : Int) else 1) = 1) ∧ ∀ G62 : Gt, G62 = (sfd G52 12 34 l0 (if (gfd G52 12 34 l0) = 0 then ((if l1 = 13 then ((if (gfd G52 12 51 l0) = 0 then (1 : Int) else 0) : Int) else 0) : Int) else 1)) → gcl G62 l0 = 13 ∧ (l1 = 14 → gcl G62 l0 = 13) ∧ gcl G62 (gfd G62 12 32 l0) = 16 ∧ 0 ≤ (12 * ((gfd G 12 33 l0) - 2)) ∧ (12 * ((gfd G 12 33 l0) - 2)) < gln G62 (gfd G62 12 32 l0) ∧ ∀ G70 : Gt, G70 = (sel G62 (gfd G62 12 32 l0) (12 * ((gfd G 12 33 l0) - 2)) (if l1 = 14 then ((if (gfd G62 12 51 l0) = 0 then (0 : Int) else 1000) : Int) else r51)) → Q 0 G70)))))))) : Ok E M_X12_joins [rv l0, iv l1, iv l2] G c s Q X := Ok.intro (k := 14) rfl rfl (Nat.le_of_ble_eq_true rfl) rfl (b_X12_joins_0 h)
set_option maxRecDepth 20000 in
theorem b_X12_joins_193 {E : EE} {l0 l1 l2 l3 l4 l5 l6 l7 l8 l9 l11 : Int} {G : Gt} {c s : Nat} {Q X : Int → Gt → Prop} (h : ((l7 ≤ l11 → (gcl G l0 = 13 ∧ gcl G l0 = 13 ∧ i32 ((gfd G 12 33 l0) - 1) ∧ gcl G (gfd G 12 29 l0) = 17 ∧ 0 ≤ ((gfd G 12 33 l0) - 1) ∧ ((gfd G 12 33 l0) - 1) < gln G (gfd G 12 29 l0) ∧ ∀ G8 : Gt, G8 = (sel G (gfd G 12 29 l0) ((gfd G 12 33 l0) - 1) 0) → gcl G8 l0 = 13 ∧ gcl G8 l0 = 13 ∧ i32 ((gfd G8 12 33 l0) - 1) ∧ gcl G8 (gfd G8 12 30 l0) = 15 ∧ 0 ≤ ((gfd G8 12 33 l0) - 1) ∧ ((gfd G8 12 33 l0) - 1) < gln G8 (gfd G8 12 30 l0) ∧ ∀ G15 : Gt, G15 = (sel G8 (gfd G8 12 30 l0) ((gfd G8 12 33 l0) - 1) l8) → V E M_X12_joins 523 [some (rv l0), none, none, some (iv l3), none, none, none, none, some (iv l8), none, none, some (iv 0), none, none, none, none, none] [] G15 c s Q X)) ∧ (l11 < l7 → V E M_X12_joins 228 [some (rv l0), some (iv l1), some (iv l2), some (iv l3), some (iv l4), some (iv l5), some (iv l6), some (iv l7), some (iv l8), some (jv l9), none, some (iv l11), some (iv (if l6 = 0 then ((-1) : Int) else l4)), some (iv (if l6 = 0 then (0 : Int) else 1)), some (iv 0), none, none] [] G c s Q X))) : V E M_X12_joins 193 [some (rv l0), some (iv l1), some (iv l2), some (iv l3), some (iv l4), some (iv l5), some (iv l6), some (iv l7), some (iv l8), some (jv l9), none, some (iv l11), none, none, none, none, none] [] G c s Q X := by
  refine v_iload (pc := 193) (dk dt_X12_joins_2 28 rfl) rfl ?_
  refine v_iload (pc := 195) (dk dt_X12_joins_2 29 rfl) rfl ?_
  refine v_icmp_ge (pc := 197) (tgt := 495) (dk dt_X12_joins_2 30 rfl) (by decide) (fun c1 => ?_) (fun c1 => ?_)
  · replace h := h.1 c1
    refine v_aload_n (pc := 495) (dk dt_X12_joins_6 22 rfl) rfl rfl ?_
    obtain ⟨v2, h⟩ := h
    refine v_getR (pc := 496) (dk dt_X12_joins_6 23 rfl) fl_X12_78 v2 (fun _ => ?_)
    refine v_aload_n (pc := 499) (dk dt_X12_joins_6 24 rfl) rfl rfl ?_
    obtain ⟨v3, h⟩ := h
    refine v_getI (pc := 500) (dk dt_X12_joins_6 25 rfl) fl_X12_237 v3 (fun _ => ?_)
    refine v_iconst (pc := 503) (dk dt_X12_joins_6 26 rfl) ⟨by decide, by decide⟩ ?_
    obtain ⟨v4, h⟩ := h
    refine v_isub (pc := 504) (dk dt_X12_joins_6 27 rfl) v4 ?_
    refine v_iconst (pc := 505) (dk dt_X12_joins_6 28 rfl) ⟨by decide, by decide⟩ ?_
    obtain ⟨v5, h⟩ := h
    obtain ⟨v6, h⟩ := h
    obtain ⟨v7, h⟩ := h
    refine v_zast (pc := 506) (dk dt_X12_joins_6 29 rfl) v5 v6 v7 (Or.inl rfl) ?_
    generalize hG8 : (sel G (gfd G 12 29 l0) ((gfd G 12 33 l0) - 1) 0) = G8
    replace h := h G8 hG8.symm
    refine v_aload_n (pc := 507) (dk dt_X12_joins_6 30 rfl) rfl rfl ?_
    obtain ⟨v9, h⟩ := h
    refine v_getR (pc := 508) (dk dt_X12_joins_6 31 rfl) fl_X12_81 v9 (fun _ => ?_)
    refine v_aload_n (pc := 511) (dk dt_X12_joins_6 32 rfl) rfl rfl ?_
    obtain ⟨v10, h⟩ := h
    refine v_getI (pc := 512) (dk dt_X12_joins_6 33 rfl) fl_X12_237 v10 (fun _ => ?_)
    refine v_iconst (pc := 515) (dk dt_X12_joins_6 34 rfl) ⟨by decide, by decide⟩ ?_
    obtain ⟨v11, h⟩ := h
    refine v_isub (pc := 516) (dk dt_X12_joins_6 35 rfl) v11 ?_
    refine v_iload (pc := 517) (dk dt_X12_joins_6 36 rfl) rfl ?_
    obtain ⟨v12, h⟩ := h
    obtain ⟨v13, h⟩ := h
    obtain ⟨v14, h⟩ := h
    refine v_iast (pc := 519) (dk dt_X12_joins_6 37 rfl) v12 v13 v14 ?_
    generalize hG15 : (sel G8 (gfd G8 12 30 l0) ((gfd G8 12 33 l0) - 1) l8) = G15
    replace h := h G15 hG15.symm
    refine v_iconst (pc := 520) (dk dt_X12_joins_6 38 rfl) ⟨by decide, by decide⟩ ?_
    refine v_istore (pc := 521) (ls' := [some (rv l0), some (iv l1), some (iv l2), some (iv l3), some (iv l4), some (iv l5), some (iv l6), some (iv l7), some (iv l8), some (jv l9), none, some (iv 0), none, none, none, none, none]) (dk dt_X12_joins_6 39 rfl) (Nat.le_of_ble_eq_true rfl) rfl ?_
    exact v_less2 (ls' := [some (rv l0), none, none, some (iv l3), none, none, none, none, some (iv l8), none, none, some (iv 0), none, none, none, none, none]) ⟨rfl, rfl, rfl, rfl, trivial⟩ h
  · replace h := h.2 c1
    refine v_iload (pc := 200) (dk dt_X12_joins_2 31 rfl) rfl ?_
    suffices k18 : V E M_X12_joins 211 [some (rv l0), some (iv l1), some (iv l2), some (iv l3), some (iv l4), some (iv l5), some (iv l6), some (iv l7), some (iv l8), some (jv l9), none, some (iv l11), none, none, none, none, none] [iv (if l6 = 0 then ((-1) : Int) else l4)] G c s Q X by
      refine v_if_eq (pc := 202) (tgt := 210) (dk dt_X12_joins_2 32 rfl) (by decide) (fun c16 => ?_) (fun c16 => ?_)
      · refine v_iconst (pc := 210) (dk dt_X12_joins_2 35 rfl) ⟨by decide, by decide⟩ ?_
        exact v_less2 (ls' := [some (rv l0), some (iv l1), some (iv l2), some (iv l3), some (iv l4), some (iv l5), some (iv l6), some (iv l7), some (iv l8), some (jv l9), none, some (iv l11), none, none, none, none, none]) ⟨rfl, rfl, rfl, rfl, rfl, rfl, rfl, rfl, rfl, rfl, rfl, trivial⟩ (by have hk9 := k18; try simp only [if_pos c16] at hk9 ⊢; exact hk9)
      · refine v_iload (pc := 205) (dk dt_X12_joins_2 33 rfl) rfl ?_
        refine v_goto (pc := 207) (tgt := 211) (dk dt_X12_joins_2 34 rfl) (by decide) ?_
        exact v_less2 (ls' := [some (rv l0), some (iv l1), some (iv l2), some (iv l3), some (iv l4), some (iv l5), some (iv l6), some (iv l7), some (iv l8), some (jv l9), none, some (iv l11), none, none, none, none, none]) ⟨rfl, rfl, rfl, rfl, rfl, rfl, rfl, rfl, rfl, rfl, rfl, trivial⟩ (by have hk9 := k18; try simp only [if_neg c16] at hk9 ⊢; exact hk9)
    refine v_istore (pc := 211) (ls' := [some (rv l0), some (iv l1), some (iv l2), some (iv l3), some (iv l4), some (iv l5), some (iv l6), some (iv l7), some (iv l8), some (jv l9), none, some (iv l11), some (iv (if l6 = 0 then ((-1) : Int) else l4)), none, none, none, none]) (dk dt_X12_joins_2 36 rfl) (Nat.le_of_ble_eq_true rfl) rfl ?_
    refine v_iload (pc := 213) (dk dt_X12_joins_2 37 rfl) rfl ?_
    suffices k19 : V E M_X12_joins 223 [some (rv l0), some (iv l1), some (iv l2), some (iv l3), some (iv l4), some (iv l5), some (iv l6), some (iv l7), some (iv l8), some (jv l9), none, some (iv l11), some (iv (if l6 = 0 then ((-1) : Int) else l4)), none, none, none, none] [iv (if l6 = 0 then (0 : Int) else 1)] G c s Q X by
      refine v_if_eq (pc := 215) (tgt := 222) (dk dt_X12_joins_2 38 rfl) (by decide) (fun c17 => ?_) (fun c17 => ?_)
      · refine v_iconst (pc := 222) (dk dt_X12_joins_3 1 rfl) ⟨by decide, by decide⟩ ?_
        exact v_less2 (ls' := [some (rv l0), some (iv l1), some (iv l2), some (iv l3), some (iv l4), some (iv l5), some (iv l6), some (iv l7), some (iv l8), some (jv l9), none, some (iv l11), some (iv (if l6 = 0 then ((-1) : Int) else l4)), none, none, none, none]) ⟨rfl, rfl, rfl, rfl, rfl, rfl, rfl, rfl, rfl, rfl, rfl, rfl, trivial⟩ (by have hk9 := k19; try simp only [if_pos c17] at hk9 ⊢; exact hk9)
      · refine v_iconst (pc := 218) (dk dt_X12_joins_2 39 rfl) ⟨by decide, by decide⟩ ?_
        refine v_goto (pc := 219) (tgt := 223) (dk dt_X12_joins_3 0 rfl) (by decide) ?_
        exact v_less2 (ls' := [some (rv l0), some (iv l1), some (iv l2), some (iv l3), some (iv l4), some (iv l5), some (iv l6), some (iv l7), some (iv l8), some (jv l9), none, some (iv l11), some (iv (if l6 = 0 then ((-1) : Int) else l4)), none, none, none, none]) ⟨rfl, rfl, rfl, rfl, rfl, rfl, rfl, rfl, rfl, rfl, rfl, rfl, trivial⟩ (by have hk9 := k19; try simp only [if_neg c17] at hk9 ⊢; exact hk9)
    refine v_istore (pc := 223) (ls' := [some (rv l0), some (iv l1), some (iv l2), some (iv l3), some (iv l4), some (iv l5), some (iv l6), some (iv l7), some (iv l8), some (jv l9), none, some (iv l11), some (iv (if l6 = 0 then ((-1) : Int) else l4)), some (iv (if l6 = 0 then (0 : Int) else 1)), none, none, none]) (dk dt_X12_joins_3 2 rfl) (Nat.le_of_ble_eq_true rfl) rfl ?_
    refine v_iconst (pc := 225) (dk dt_X12_joins_3 3 rfl) ⟨by decide, by decide⟩ ?_
    refine v_istore (pc := 226) (ls' := [some (rv l0), some (iv l1), some (iv l2), some (iv l3), some (iv l4), some (iv l5), some (iv l6), some (iv l7), some (iv l8), some (jv l9), none, some (iv l11), some (iv (if l6 = 0 then ((-1) : Int) else l4)), some (iv (if l6 = 0 then (0 : Int) else 1)), some (iv 0), none, none]) (dk dt_X12_joins_3 4 rfl) (Nat.le_of_ble_eq_true rfl) rfl ?_
    exact h
set_option maxRecDepth 20000 in
theorem b_X12_joins_228 {E : EE} {l0 l1 l2 l3 l4 l5 l6 l7 l8 l9 l11 l12 l13 l14 : Int} {G : Gt} {c s : Nat} {Q X : Int → Gt → Prop} (h : (gcl G l0 = 13 ∧ gcl G l0 = 13 ∧ gcl G (gfd G 12 30 l0) = 15 ∧ 0 ≤ (gfd G 12 33 l0) ∧ (gfd G 12 33 l0) < gln G (gfd G 12 30 l0) ∧ ∀ J6 : Prop, ((gcl G l0 = 13 ∧ gcl G l0 = 13 ∧ ((if (gfd G 12 34 l0) = 0 then ((if l13 ≤ 1 then (0 : Int) else 1) : Int) else 1) = 0 ∨ (if (gfd G 12 34 l0) = 0 then ((if l13 ≤ 1 then (0 : Int) else 1) : Int) else 1) = 1) ∧ ∀ G12 : Gt, G12 = (sfd G 12 34 l0 (if (gfd G 12 34 l0) = 0 then ((if l13 ≤ 1 then (0 : Int) else 1) : Int) else 1)) → ∀ J13 : Prop, ((∀ J14 : Int → Gt → Nat → Nat → Prop, (∀ (x15 : Int) (G16 : Gt) (c17 s18 : Nat), ((l5 = 0 → gcl G16 l0 = 13) ∧ (l5 = 0 → i32 (l3 + l11)) ∧ (l5 = 0 → gcl G16 (gfd G16 12 31 l0) = 15) ∧ (l5 = 0 → 0 ≤ (l3 + l11)) ∧ (l5 = 0 → (l3 + l11) < gln G16 (gfd G16 12 31 l0)) ∧ (l5 ≠ 0 → gcl G16 l0 = 13) ∧ (l5 ≠ 0 → i32 (l4 + l11)) ∧ (l5 ≠ 0 → gcl G16 (gfd G16 12 31 l0) = 15) ∧ (l5 ≠ 0 → 0 ≤ (l4 + l11)) ∧ (l5 ≠ 0 → (l4 + l11) < gln G16 (gfd G16 12 31 l0)) ∧ gcl G16 l0 = 13 ∧ (((gfd G16 12 51 l0) = 0 → (i32 (l11 + 1) ∧ V E M_X12_joins 193 [some (rv l0), some (iv l1), some (iv l2), some (iv l3), some (iv l4), some (iv l5), some (iv l6), some (iv l7), some (iv l8), some (jv l9), none, some (iv (l11 + 1)), none, none, none, none, none] [] G16 c17 s18 Q X)) ∧ ((gfd G16 12 51 l0) ≠ 0 → (gcl G16 l0 = 13 ∧ (l5 ≠ 0 → l1 = 14 → gcl G16 l0 = 13) ∧ (l5 ≠ 0 → l1 = 14 → i32 (l4 + l11)) ∧ (l5 ≠ 0 → l1 = 14 → gcl G16 (gfd G16 12 32 l0) = 16) ∧ (l5 ≠ 0 → l1 = 14 → 0 ≤ (l4 + l11)) ∧ (l5 ≠ 0 → l1 = 14 → (l4 + l11) < gln G16 (gfd G16 12 32 l0)) ∧ gcl G16 (gfd G16 12 49 l0) = 16 ∧ 0 ≤ l8 ∧ l8 < gln G16 (gfd G16 12 49 l0) ∧ ∀ G44 : Gt, G44 = (sel G16 (gfd G16 12 49 l0) l8 (if l5 = 0 then (x15 : Int) else (if l1 = 14 then ((gel G16 (gfd G16 12 32 l0) (l4 + l11)) : Int) else x15))) → gcl G44 l0 = 13 ∧ gcl G44 (gfd G44 12 50 l0) = 15 ∧ 0 ≤ l8 ∧ l8 < gln G44 (gfd G44 12 50 l0) ∧ ∀ G49 : Gt, G49 = (sel G44 (gfd G44 12 50 l0) l8 (if l5 = 0 then ((gel G16 (gfd G16 12 31 l0) (l3 + l11)) : Int) else (gel G16 (gfd G16 12 31 l0) (l4 + l11)))) → i32 (l8 + 1) ∧ i32 (l11 + 1) ∧ V E M_X12_joins 193 [some (rv l0), some (iv l1), some (iv l2), some (iv l3), some (iv l4), some (iv l5), some (iv l6), some (iv l7), some (iv (l8 + 1)), some (jv l9), none, some (iv (l11 + 1)), none, none, none, none, none] [] G49 c17 s18 Q X)))) → J14 x15 G16 c17 s18) → ((l5 = 0 → (gcl G12 l0 = 13 ∧ i32 (l3 + l11) ∧ gcl G12 (gfd G12 12 32 l0) = 16 ∧ 0 ≤ (l3 + l11) ∧ (l3 + l11) < gln G12 (gfd G12 12 32 l0) ∧ gcl G12 l0 = 13 ∧ gcl G12 (gfd G12 12 32 l0) = 16 ∧ 0 ≤ l12 ∧ l12 < gln G12 (gfd G12 12 32 l0) ∧ gcl G12 l0 = 13 ∧ Call E M_X12_joined [rv l0, iv l1, jv (gel G12 (gfd G12 12 32 l0) (l3 + l11)), jv (gel G12 (gfd G12 12 32 l0) l12)] G12 c s X (fun r63 G64 c65 s66 => J14 r63 G64 c65 s66))) ∧ (l5 ≠ 0 → (gcl G12 l0 = 13 ∧ i32 (l4 + l11) ∧ gcl G12 (gfd G12 12 32 l0) = 16 ∧ 0 ≤ (l4 + l11) ∧ (l4 + l11) < gln G12 (gfd G12 12 32 l0) ∧ gcl G12 l0 = 13 ∧ Call E M_X12_joined [rv l0, iv l1, jv l9, jv (gel G12 (gfd G12 12 32 l0) (l4 + l11))] G12 c s X (fun r73 G74 c75 s76 => J14 r73 G74 c75 s76))))) → J13) → ((l5 ≠ 0 → J13) ∧ (l5 = 0 → ((l12 = (-1) → (i32 (l11 + 1) ∧ V E M_X12_joins 193 [some (rv l0), some (iv l1), some (iv l2), some (iv l3), some (iv l4), some (iv l5), some (iv l6), some (iv l7), some (iv l8), some (jv l9), none, some (iv (l11 + 1)), none, none, none, none, none] [] G12 c s Q X)) ∧ (l12 ≠ (-1) → J13))))) → J6) → (((gel G (gfd G 12 30 l0) (gfd G 12 33 l0)) ≤ l14 → J6) ∧ (l14 < (gel G (gfd G 12 30 l0) (gfd G 12 33 l0)) → ((l6 ≠ 0 → J6) ∧ (l6 = 0 → ((l5 ≠ 0 → J6) ∧ (l5 = 0 → (gcl G l0 = 13 ∧ i32 (l3 + l11) ∧ gcl G (gfd G 12 31 l0) = 15 ∧ 0 ≤ (l3 + l11) ∧ (l3 + l11) < gln G (gfd G 12 31 l0) ∧ OkP E M_X12_masked [iv (gel G (gfd G 12 31 l0) (l3 + l11)), iv l2] G (wMask (gel G (gfd G 12 31 l0) (l3 + l11)) l2) ∧ gcl G l0 = 13 ∧ i32 (l4 + l14) ∧ gcl G (gfd G 12 31 l0) = 15 ∧ 0 ≤ (l4 + l14) ∧ (l4 + l14) < gln G (gfd G 12 31 l0) ∧ OkP E M_X12_masked [iv (gel G (gfd G 12 31 l0) (l4 + l14)), iv l2] G (wMask (gel G (gfd G 12 31 l0) (l4 + l14)) l2) ∧ ((if (wMask (gel G (gfd G 12 31 l0) (l3 + l11)) l2) = (wMask (gel G (gfd G 12 31 l0) (l4 + l14)) l2) then (1 : Int) else 0) ≠ 0 → i32 (l4 + l14)) ∧ i32 (l13 + (if (if (wMask (gel G (gfd G 12 31 l0) (l3 + l11)) l2) = (wMask (gel G (gfd G 12 31 l0) (l4 + l14)) l2) then (1 : Int) else 0) = 0 then (0 : Int) else 1)) ∧ i32 (l14 + 1) ∧ V E M_X12_joins 228 [some (rv l0), some (iv l1), some (iv l2), some (iv l3), some (iv l4), some (iv l5), some (iv l6), some (iv l7), some (iv l8), some (jv l9), none, some (iv l11), some (iv (if (if (wMask (gel G (gfd G 12 31 l0) (l3 + l11)) l2) = (wMask (gel G (gfd G 12 31 l0) (l4 + l14)) l2) then (1 : Int) else 0) = 0 then (l12 : Int) else (l4 + l14))), some (iv (l13 + (if (if (wMask (gel G (gfd G 12 31 l0) (l3 + l11)) l2) = (wMask (gel G (gfd G 12 31 l0) (l4 + l14)) l2) then (1 : Int) else 0) = 0 then (0 : Int) else 1))), some (iv (l14 + 1)), none, none] [] G c s Q X))))))))) : V E M_X12_joins 228 [some (rv l0), some (iv l1), some (iv l2), some (iv l3), some (iv l4), some (iv l5), some (iv l6), some (iv l7), some (iv l8), some (jv l9), none, some (iv l11), some (iv l12), some (iv l13), some (iv l14), none, none] [] G c s Q X := by
  refine v_iload (pc := 228) (dk dt_X12_joins_3 5 rfl) rfl ?_
  refine v_aload_n (pc := 230) (dk dt_X12_joins_3 6 rfl) rfl rfl ?_
  obtain ⟨v1, h⟩ := h
  refine v_getR (pc := 231) (dk dt_X12_joins_3 7 rfl) fl_X12_81 v1 (fun _ => ?_)
  refine v_aload_n (pc := 234) (dk dt_X12_joins_3 8 rfl) rfl rfl ?_
  obtain ⟨v2, h⟩ := h
  refine v_getI (pc := 235) (dk dt_X12_joins_3 9 rfl) fl_X12_237 v2 (fun _ => ?_)
  obtain ⟨v3, h⟩ := h
  obtain ⟨v4, h⟩ := h
  obtain ⟨v5, h⟩ := h
  refine v_iald (pc := 238) (dk dt_X12_joins_3 10 rfl) (Or.inl v3) v4 v5 (fun _ => ?_)
  obtain ⟨J6, dJ6⟩ : ∃ J9 : Prop, J9 = V E M_X12_joins 327 [some (rv l0), some (iv l1), some (iv l2), some (iv l3), some (iv l4), some (iv l5), some (iv l6), some (iv l7), some (iv l8), some (jv l9), none, some (iv l11), some (iv l12), some (iv l13), none, none, none] [] G c s Q X := ⟨_, rfl⟩
  have hJ6 : (gcl G l0 = 13 ∧ gcl G l0 = 13 ∧ ((if (gfd G 12 34 l0) = 0 then ((if l13 ≤ 1 then (0 : Int) else 1) : Int) else 1) = 0 ∨ (if (gfd G 12 34 l0) = 0 then ((if l13 ≤ 1 then (0 : Int) else 1) : Int) else 1) = 1) ∧ ∀ G12 : Gt, G12 = (sfd G 12 34 l0 (if (gfd G 12 34 l0) = 0 then ((if l13 ≤ 1 then (0 : Int) else 1) : Int) else 1)) → ∀ J13 : Prop, ((∀ J14 : Int → Gt → Nat → Nat → Prop, (∀ (x15 : Int) (G16 : Gt) (c17 s18 : Nat), ((l5 = 0 → gcl G16 l0 = 13) ∧ (l5 = 0 → i32 (l3 + l11)) ∧ (l5 = 0 → gcl G16 (gfd G16 12 31 l0) = 15) ∧ (l5 = 0 → 0 ≤ (l3 + l11)) ∧ (l5 = 0 → (l3 + l11) < gln G16 (gfd G16 12 31 l0)) ∧ (l5 ≠ 0 → gcl G16 l0 = 13) ∧ (l5 ≠ 0 → i32 (l4 + l11)) ∧ (l5 ≠ 0 → gcl G16 (gfd G16 12 31 l0) = 15) ∧ (l5 ≠ 0 → 0 ≤ (l4 + l11)) ∧ (l5 ≠ 0 → (l4 + l11) < gln G16 (gfd G16 12 31 l0)) ∧ gcl G16 l0 = 13 ∧ (((gfd G16 12 51 l0) = 0 → (i32 (l11 + 1) ∧ V E M_X12_joins 193 [some (rv l0), some (iv l1), some (iv l2), some (iv l3), some (iv l4), some (iv l5), some (iv l6), some (iv l7), some (iv l8), some (jv l9), none, some (iv (l11 + 1)), none, none, none, none, none] [] G16 c17 s18 Q X)) ∧ ((gfd G16 12 51 l0) ≠ 0 → (gcl G16 l0 = 13 ∧ (l5 ≠ 0 → l1 = 14 → gcl G16 l0 = 13) ∧ (l5 ≠ 0 → l1 = 14 → i32 (l4 + l11)) ∧ (l5 ≠ 0 → l1 = 14 → gcl G16 (gfd G16 12 32 l0) = 16) ∧ (l5 ≠ 0 → l1 = 14 → 0 ≤ (l4 + l11)) ∧ (l5 ≠ 0 → l1 = 14 → (l4 + l11) < gln G16 (gfd G16 12 32 l0)) ∧ gcl G16 (gfd G16 12 49 l0) = 16 ∧ 0 ≤ l8 ∧ l8 < gln G16 (gfd G16 12 49 l0) ∧ ∀ G44 : Gt, G44 = (sel G16 (gfd G16 12 49 l0) l8 (if l5 = 0 then (x15 : Int) else (if l1 = 14 then ((gel G16 (gfd G16 12 32 l0) (l4 + l11)) : Int) else x15))) → gcl G44 l0 = 13 ∧ gcl G44 (gfd G44 12 50 l0) = 15 ∧ 0 ≤ l8 ∧ l8 < gln G44 (gfd G44 12 50 l0) ∧ ∀ G49 : Gt, G49 = (sel G44 (gfd G44 12 50 l0) l8 (if l5 = 0 then ((gel G16 (gfd G16 12 31 l0) (l3 + l11)) : Int) else (gel G16 (gfd G16 12 31 l0) (l4 + l11)))) → i32 (l8 + 1) ∧ i32 (l11 + 1) ∧ V E M_X12_joins 193 [some (rv l0), some (iv l1), some (iv l2), some (iv l3), some (iv l4), some (iv l5), some (iv l6), some (iv l7), some (iv (l8 + 1)), some (jv l9), none, some (iv (l11 + 1)), none, none, none, none, none] [] G49 c17 s18 Q X)))) → J14 x15 G16 c17 s18) → ((l5 = 0 → (gcl G12 l0 = 13 ∧ i32 (l3 + l11) ∧ gcl G12 (gfd G12 12 32 l0) = 16 ∧ 0 ≤ (l3 + l11) ∧ (l3 + l11) < gln G12 (gfd G12 12 32 l0) ∧ gcl G12 l0 = 13 ∧ gcl G12 (gfd G12 12 32 l0) = 16 ∧ 0 ≤ l12 ∧ l12 < gln G12 (gfd G12 12 32 l0) ∧ gcl G12 l0 = 13 ∧ Call E M_X12_joined [rv l0, iv l1, jv (gel G12 (gfd G12 12 32 l0) (l3 + l11)), jv (gel G12 (gfd G12 12 32 l0) l12)] G12 c s X (fun r63 G64 c65 s66 => J14 r63 G64 c65 s66))) ∧ (l5 ≠ 0 → (gcl G12 l0 = 13 ∧ i32 (l4 + l11) ∧ gcl G12 (gfd G12 12 32 l0) = 16 ∧ 0 ≤ (l4 + l11) ∧ (l4 + l11) < gln G12 (gfd G12 12 32 l0) ∧ gcl G12 l0 = 13 ∧ Call E M_X12_joined [rv l0, iv l1, jv l9, jv (gel G12 (gfd G12 12 32 l0) (l4 + l11))] G12 c s X (fun r73 G74 c75 s76 => J14 r73 G74 c75 s76))))) → J13) → ((l5 ≠ 0 → J13) ∧ (l5 = 0 → ((l12 = (-1) → (i32 (l11 + 1) ∧ V E M_X12_joins 193 [some (rv l0), some (iv l1), some (iv l2), some (iv l3), some (iv l4), some (iv l5), some (iv l6), some (iv l7), some (iv l8), some (jv l9), none, some (iv (l11 + 1)), none, none, none, none, none] [] G12 c s Q X)) ∧ (l12 ≠ (-1) → J13))))) → J6 := by
    intro h
    rw [dJ6]
    refine v_aload_n (pc := 327) (dk dt_X12_joins_4 15 rfl) rfl rfl ?_
    refine v_aload_n (pc := 328) (dk dt_X12_joins_4 16 rfl) rfl rfl ?_
    obtain ⟨v7, h⟩ := h
    refine v_getZ (pc := 329) (dk dt_X12_joins_4 17 rfl) fl_X12_208 v7 (fun _ => ?_)
    suffices k101 : V E M_X12_joins 346 [some (rv l0), some (iv l1), some (iv l2), some (iv l3), some (iv l4), some (iv l5), some (iv l6), some (iv l7), some (iv l8), some (jv l9), none, some (iv l11), some (iv l12), none, none, none, none] [iv (if (gfd G 12 34 l0) = 0 then ((if l13 ≤ 1 then (0 : Int) else 1) : Int) else 1), rv l0] G c s Q X by
      refine v_if_ne (pc := 332) (tgt := 341) (dk dt_X12_joins_4 18 rfl) (by decide) (fun c8 => ?_) (fun c8 => ?_)
      · refine v_iconst (pc := 341) (dk dt_X12_joins_4 22 rfl) ⟨by decide, by decide⟩ ?_
        refine v_goto (pc := 342) (tgt := 346) (dk dt_X12_joins_4 23 rfl) (by decide) ?_
        exact v_less2 (ls' := [some (rv l0), some (iv l1), some (iv l2), some (iv l3), some (iv l4), some (iv l5), some (iv l6), some (iv l7), some (iv l8), some (jv l9), none, some (iv l11), some (iv l12), none, none, none, none]) ⟨rfl, rfl, rfl, rfl, rfl, rfl, rfl, rfl, rfl, rfl, rfl, rfl, trivial⟩ (by have hk9 := k101; try simp only [if_neg c8] at hk9 ⊢; exact hk9)
      · refine v_iload (pc := 335) (dk dt_X12_joins_4 19 rfl) rfl ?_
        refine v_iconst (pc := 337) (dk dt_X12_joins_4 20 rfl) ⟨by decide, by decide⟩ ?_
        refine v_icmp_le (pc := 338) (tgt := 345) (dk dt_X12_joins_4 21 rfl) (by decide) (fun c9 => ?_) (fun c9 => ?_)
        · refine v_iconst (pc := 345) (dk dt_X12_joins_4 24 rfl) ⟨by decide, by decide⟩ ?_
          exact v_less2 (ls' := [some (rv l0), some (iv l1), some (iv l2), some (iv l3), some (iv l4), some (iv l5), some (iv l6), some (iv l7), some (iv l8), some (jv l9), none, some (iv l11), some (iv l12), none, none, none, none]) ⟨rfl, rfl, rfl, rfl, rfl, rfl, rfl, rfl, rfl, rfl, rfl, rfl, trivial⟩ (by have hk9 := k101; try simp only [if_pos c8] at hk9 ⊢; try simp only [if_pos c9] at hk9 ⊢; exact hk9)
        · refine v_iconst (pc := 341) (dk dt_X12_joins_4 22 rfl) ⟨by decide, by decide⟩ ?_
          refine v_goto (pc := 342) (tgt := 346) (dk dt_X12_joins_4 23 rfl) (by decide) ?_
          exact v_less2 (ls' := [some (rv l0), some (iv l1), some (iv l2), some (iv l3), some (iv l4), some (iv l5), some (iv l6), some (iv l7), some (iv l8), some (jv l9), none, some (iv l11), some (iv l12), none, none, none, none]) ⟨rfl, rfl, rfl, rfl, rfl, rfl, rfl, rfl, rfl, rfl, rfl, rfl, trivial⟩ (by have hk9 := k101; try simp only [if_pos c8] at hk9 ⊢; try simp only [if_neg (Int.not_le.mpr c9)] at hk9 ⊢; exact hk9)
    obtain ⟨v10, h⟩ := h
    obtain ⟨v11, h⟩ := h
    refine v_putZ (pc := 346) (dk dt_X12_joins_4 25 rfl) fl_X12_208 (Or.inl rfl) v10 v11 ?_
    generalize hG12 : (sfd G 12 34 l0 (if (gfd G 12 34 l0) = 0 then ((if l13 ≤ 1 then (0 : Int) else 1) : Int) else 1)) = G12
    replace h := h G12 hG12.symm
    refine v_iload (pc := 349) (dk dt_X12_joins_4 26 rfl) rfl ?_
    obtain ⟨J13, dJ13⟩ : ∃ J9 : Prop, J9 = V E M_X12_joins 360 [some (rv l0), some (iv l1), some (iv l2), some (iv l3), some (iv l4), some (iv l5), some (iv l6), some (iv l7), some (iv l8), some (jv l9), none, some (iv l11), some (iv l12), none, none, none, none] [] G12 c s Q X := ⟨_, rfl⟩
    have hJ13 : (∀ J14 : Int → Gt → Nat → Nat → Prop, (∀ (x15 : Int) (G16 : Gt) (c17 s18 : Nat), ((l5 = 0 → gcl G16 l0 = 13) ∧ (l5 = 0 → i32 (l3 + l11)) ∧ (l5 = 0 → gcl G16 (gfd G16 12 31 l0) = 15) ∧ (l5 = 0 → 0 ≤ (l3 + l11)) ∧ (l5 = 0 → (l3 + l11) < gln G16 (gfd G16 12 31 l0)) ∧ (l5 ≠ 0 → gcl G16 l0 = 13) ∧ (l5 ≠ 0 → i32 (l4 + l11)) ∧ (l5 ≠ 0 → gcl G16 (gfd G16 12 31 l0) = 15) ∧ (l5 ≠ 0 → 0 ≤ (l4 + l11)) ∧ (l5 ≠ 0 → (l4 + l11) < gln G16 (gfd G16 12 31 l0)) ∧ gcl G16 l0 = 13 ∧ (((gfd G16 12 51 l0) = 0 → (i32 (l11 + 1) ∧ V E M_X12_joins 193 [some (rv l0), some (iv l1), some (iv l2), some (iv l3), some (iv l4), some (iv l5), some (iv l6), some (iv l7), some (iv l8), some (jv l9), none, some (iv (l11 + 1)), none, none, none, none, none] [] G16 c17 s18 Q X)) ∧ ((gfd G16 12 51 l0) ≠ 0 → (gcl G16 l0 = 13 ∧ (l5 ≠ 0 → l1 = 14 → gcl G16 l0 = 13) ∧ (l5 ≠ 0 → l1 = 14 → i32 (l4 + l11)) ∧ (l5 ≠ 0 → l1 = 14 → gcl G16 (gfd G16 12 32 l0) = 16) ∧ (l5 ≠ 0 → l1 = 14 → 0 ≤ (l4 + l11)) ∧ (l5 ≠ 0 → l1 = 14 → (l4 + l11) < gln G16 (gfd G16 12 32 l0)) ∧ gcl G16 (gfd G16 12 49 l0) = 16 ∧ 0 ≤ l8 ∧ l8 < gln G16 (gfd G16 12 49 l0) ∧ ∀ G44 : Gt, G44 = (sel G16 (gfd G16 12 49 l0) l8 (if l5 = 0 then (x15 : Int) else (if l1 = 14 then ((gel G16 (gfd G16 12 32 l0) (l4 + l11)) : Int) else x15))) → gcl G44 l0 = 13 ∧ gcl G44 (gfd G44 12 50 l0) = 15 ∧ 0 ≤ l8 ∧ l8 < gln G44 (gfd G44 12 50 l0) ∧ ∀ G49 : Gt, G49 = (sel G44 (gfd G44 12 50 l0) l8 (if l5 = 0 then ((gel G16 (gfd G16 12 31 l0) (l3 + l11)) : Int) else (gel G16 (gfd G16 12 31 l0) (l4 + l11)))) → i32 (l8 + 1) ∧ i32 (l11 + 1) ∧ V E M_X12_joins 193 [some (rv l0), some (iv l1), some (iv l2), some (iv l3), some (iv l4), some (iv l5), some (iv l6), some (iv l7), some (iv (l8 + 1)), some (jv l9), none, some (iv (l11 + 1)), none, none, none, none, none] [] G49 c17 s18 Q X)))) → J14 x15 G16 c17 s18) → ((l5 = 0 → (gcl G12 l0 = 13 ∧ i32 (l3 + l11) ∧ gcl G12 (gfd G12 12 32 l0) = 16 ∧ 0 ≤ (l3 + l11) ∧ (l3 + l11) < gln G12 (gfd G12 12 32 l0) ∧ gcl G12 l0 = 13 ∧ gcl G12 (gfd G12 12 32 l0) = 16 ∧ 0 ≤ l12 ∧ l12 < gln G12 (gfd G12 12 32 l0) ∧ gcl G12 l0 = 13 ∧ Call E M_X12_joined [rv l0, iv l1, jv (gel G12 (gfd G12 12 32 l0) (l3 + l11)), jv (gel G12 (gfd G12 12 32 l0) l12)] G12 c s X (fun r63 G64 c65 s66 => J14 r63 G64 c65 s66))) ∧ (l5 ≠ 0 → (gcl G12 l0 = 13 ∧ i32 (l4 + l11) ∧ gcl G12 (gfd G12 12 32 l0) = 16 ∧ 0 ≤ (l4 + l11) ∧ (l4 + l11) < gln G12 (gfd G12 12 32 l0) ∧ gcl G12 l0 = 13 ∧ Call E M_X12_joined [rv l0, iv l1, jv l9, jv (gel G12 (gfd G12 12 32 l0) (l4 + l11))] G12 c s X (fun r73 G74 c75 s76 => J14 r73 G74 c75 s76))))) → J13 := by
      intro h
      rw [dJ13]
      refine v_iload (pc := 360) (dk dt_X12_joins_4 31 rfl) rfl ?_
      obtain ⟨J14, dJ14⟩ : ∃ J9 : Int → Gt → Nat → Nat → Prop, J9 = fun x15 G16 c17 s18 => V E M_X12_joins 406 [some (rv l0), some (iv l1), some (iv l2), some (iv l3), some (iv l4), some (iv l5), some (iv l6), some (iv l7), some (iv l8), some (jv l9), none, some (iv l11), none, none, none, none, none] [jv x15] G16 c17 s18 Q X := ⟨_, rfl⟩
      have hJ14 : ∀ (x15 : Int) (G16 : Gt) (c17 s18 : Nat), ((l5 = 0 → gcl G16 l0 = 13) ∧ (l5 = 0 → i32 (l3 + l11)) ∧ (l5 = 0 → gcl G16 (gfd G16 12 31 l0) = 15) ∧ (l5 = 0 → 0 ≤ (l3 + l11)) ∧ (l5 = 0 → (l3 + l11) < gln G16 (gfd G16 12 31 l0)) ∧ (l5 ≠ 0 → gcl G16 l0 = 13) ∧ (l5 ≠ 0 → i32 (l4 + l11)) ∧ (l5 ≠ 0 → gcl G16 (gfd G16 12 31 l0) = 15) ∧ (l5 ≠ 0 → 0 ≤ (l4 + l11)) ∧ (l5 ≠ 0 → (l4 + l11) < gln G16 (gfd G16 12 31 l0)) ∧ gcl G16 l0 = 13 ∧ (((gfd G16 12 51 l0) = 0 → (i32 (l11 + 1) ∧ V E M_X12_joins 193 [some (rv l0), some (iv l1), some (iv l2), some (iv l3), some (iv l4), some (iv l5), some (iv l6), some (iv l7), some (iv l8), some (jv l9), none, some (iv (l11 + 1)), none, none, none, none, none] [] G16 c17 s18 Q X)) ∧ ((gfd G16 12 51 l0) ≠ 0 → (gcl G16 l0 = 13 ∧ (l5 ≠ 0 → l1 = 14 → gcl G16 l0 = 13) ∧ (l5 ≠ 0 → l1 = 14 → i32 (l4 + l11)) ∧ (l5 ≠ 0 → l1 = 14 → gcl G16 (gfd G16 12 32 l0) = 16) ∧ (l5 ≠ 0 → l1 = 14 → 0 ≤ (l4 + l11)) ∧ (l5 ≠ 0 → l1 = 14 → (l4 + l11) < gln G16 (gfd G16 12 32 l0)) ∧ gcl G16 (gfd G16 12 49 l0) = 16 ∧ 0 ≤ l8 ∧ l8 < gln G16 (gfd G16 12 49 l0) ∧ ∀ G44 : Gt, G44 = (sel G16 (gfd G16 12 49 l0) l8 (if l5 = 0 then (x15 : Int) else (if l1 = 14 then ((gel G16 (gfd G16 12 32 l0) (l4 + l11)) : Int) else x15))) → gcl G44 l0 = 13 ∧ gcl G44 (gfd G44 12 50 l0) = 15 ∧ 0 ≤ l8 ∧ l8 < gln G44 (gfd G44 12 50 l0) ∧ ∀ G49 : Gt, G49 = (sel G44 (gfd G44 12 50 l0) l8 (if l5 = 0 then ((gel G16 (gfd G16 12 31 l0) (l3 + l11)) : Int) else (gel G16 (gfd G16 12 31 l0) (l4 + l11)))) → i32 (l8 + 1) ∧ i32 (l11 + 1) ∧ V E M_X12_joins 193 [some (rv l0), some (iv l1), some (iv l2), some (iv l3), some (iv l4), some (iv l5), some (iv l6), some (iv l7), some (iv (l8 + 1)), some (jv l9), none, some (iv (l11 + 1)), none, none, none, none, none] [] G49 c17 s18 Q X)))) → J14 x15 G16 c17 s18 := by
        intro x15 G16 c17 s18 h
        rw [dJ14]
        refine v_lstore (pc := 406) (ls' := [some (rv l0), some (iv l1), some (iv l2), some (iv l3), some (iv l4), some (iv l5), some (iv l6), some (iv l7), some (iv l8), some (jv l9), none, some (iv l11), none, none, some (jv x15), none, none]) (dk dt_X12_joins_5 17 rfl) (Nat.le_of_ble_eq_true rfl) rfl ?_
        refine v_iload (pc := 408) (dk dt_X12_joins_5 18 rfl) rfl ?_
        obtain ⟨v20, v21, v22, v23, v24, v25, v26, v27, v28, v29, h⟩ := h
        suffices k102 : V E M_X12_joins 435 [some (rv l0), some (iv l1), some (iv l2), some (iv l3), some (iv l4), some (iv l5), some (iv l6), some (iv l7), some (iv l8), some (jv l9), none, some (iv l11), none, none, some (jv x15), none, none] [iv (if l5 = 0 then ((gel G16 (gfd G16 12 31 l0) (l3 + l11)) : Int) else (gel G16 (gfd G16 12 31 l0) (l4 + l11)))] G16 c17 s18 Q X by
          refine v_if_eq (pc := 410) (tgt := 426) (dk dt_X12_joins_5 19 rfl) (by decide) (fun c19 => ?_) (fun c19 => ?_)
          · refine v_aload_n (pc := 426) (dk dt_X12_joins_5 27 rfl) rfl rfl ?_
            refine v_getR (pc := 427) (dk dt_X12_joins_5 28 rfl) fl_X12_84 (v20 c19) (fun _ => ?_)
            refine v_iload_n (pc := 430) (dk dt_X12_joins_5 29 rfl) rfl rfl ?_
            refine v_iload (pc := 431) (dk dt_X12_joins_5 30 rfl) rfl ?_
            refine v_iadd (pc := 433) (dk dt_X12_joins_5 31 rfl) (v21 c19) ?_
            refine v_iald (pc := 434) (dk dt_X12_joins_5 32 rfl) (Or.inl (v22 c19)) (v23 c19) (v24 c19) (fun _ => ?_)
            exact v_less2 (ls' := [some (rv l0), some (iv l1), some (iv l2), some (iv l3), some (iv l4), some (iv l5), some (iv l6), some (iv l7), some (iv l8), some (jv l9), none, some (iv l11), none, none, some (jv x15), none, none]) ⟨rfl, rfl, rfl, rfl, rfl, rfl, rfl, rfl, rfl, rfl, rfl, rfl, trivial⟩ (by have hk9 := k102; try simp only [if_pos c19] at hk9 ⊢; exact hk9)
          · refine v_aload_n (pc := 413) (dk dt_X12_joins_5 20 rfl) rfl rfl ?_
            refine v_getR (pc := 414) (dk dt_X12_joins_5 21 rfl) fl_X12_84 (v25 c19) (fun _ => ?_)
            refine v_iload (pc := 417) (dk dt_X12_joins_5 22 rfl) rfl ?_
            refine v_iload (pc := 419) (dk dt_X12_joins_5 23 rfl) rfl ?_
            refine v_iadd (pc := 421) (dk dt_X12_joins_5 24 rfl) (v26 c19) ?_
            refine v_iald (pc := 422) (dk dt_X12_joins_5 25 rfl) (Or.inl (v27 c19)) (v28 c19) (v29 c19) (fun _ => ?_)
            refine v_goto (pc := 423) (tgt := 435) (dk dt_X12_joins_5 26 rfl) (by decide) ?_
            exact v_less2 (ls' := [some (rv l0), some (iv l1), some (iv l2), some (iv l3), some (iv l4), some (iv l5), some (iv l6), some (iv l7), some (iv l8), some (jv l9), none, some (iv l11), none, none, some (jv x15), none, none]) ⟨rfl, rfl, rfl, rfl, rfl, rfl, rfl, rfl, rfl, rfl, rfl, rfl, trivial⟩ (by have hk9 := k102; try simp only [if_neg c19] at hk9 ⊢; exact hk9)
        refine v_istore (pc := 435) (ls' := [some (rv l0), some (iv l1), some (iv l2), some (iv l3), some (iv l4), some (iv l5), some (iv l6), some (iv l7), some (iv l8), some (jv l9), none, some (iv l11), none, none, some (jv x15), none, some (iv (if l5 = 0 then ((gel G16 (gfd G16 12 31 l0) (l3 + l11)) : Int) else (gel G16 (gfd G16 12 31 l0) (l4 + l11))))]) (dk dt_X12_joins_5 33 rfl) (Nat.le_of_ble_eq_true rfl) rfl ?_
        refine v_aload_n (pc := 437) (dk dt_X12_joins_5 34 rfl) rfl rfl ?_
        obtain ⟨v30, h⟩ := h
        refine v_getZ (pc := 438) (dk dt_X12_joins_5 35 rfl) fl_X12_259 v30 (fun _ => ?_)
        refine v_if_eq (pc := 441) (tgt := 489) (dk dt_X12_joins_5 36 rfl) (by decide) (fun c31 => ?_) (fun c31 => ?_)
        · replace h := h.1 c31
          obtain ⟨v32, h⟩ := h
          refine v_iinc (pc := 489) (ls' := [some (rv l0), some (iv l1), some (iv l2), some (iv l3), some (iv l4), some (iv l5), some (iv l6), some (iv l7), some (iv l8), some (jv l9), none, some (iv (l11 + 1)), none, none, some (jv x15), none, some (iv (if l5 = 0 then ((gel G16 (gfd G16 12 31 l0) (l3 + l11)) : Int) else (gel G16 (gfd G16 12 31 l0) (l4 + l11))))]) (dk dt_X12_joins_6 20 rfl) (Nat.le_of_ble_eq_true rfl) rfl v32 rfl ?_
          refine v_goto (pc := 492) (tgt := 193) (dk dt_X12_joins_6 21 rfl) (by decide) ?_
          exact v_less2 (ls' := [some (rv l0), some (iv l1), some (iv l2), some (iv l3), some (iv l4), some (iv l5), some (iv l6), some (iv l7), some (iv l8), some (jv l9), none, some (iv (l11 + 1)), none, none, none, none, none]) ⟨rfl, rfl, rfl, rfl, rfl, rfl, rfl, rfl, rfl, rfl, rfl, trivial⟩ h
        · replace h := h.2 c31
          refine v_aload_n (pc := 444) (dk dt_X12_joins_5 37 rfl) rfl rfl ?_
          obtain ⟨v33, h⟩ := h
          refine v_getR (pc := 445) (dk dt_X12_joins_5 38 rfl) fl_X12_121 v33 (fun _ => ?_)
          refine v_iload (pc := 448) (dk dt_X12_joins_5 39 rfl) rfl ?_
          refine v_iload (pc := 450) (dk dt_X12_joins_6 0 rfl) rfl ?_
          obtain ⟨v36, v37, v38, v39, v40, h⟩ := h
          suffices k103 : V E M_X12_joins 476 [some (rv l0), some (iv l1), some (iv l2), some (iv l3), some (iv l4), some (iv l5), some (iv l6), some (iv l7), some (iv l8), some (jv l9), none, some (iv l11), none, none, none, none, some (iv (if l5 = 0 then ((gel G16 (gfd G16 12 31 l0) (l3 + l11)) : Int) else (gel G16 (gfd G16 12 31 l0) (l4 + l11))))] [jv (if l5 = 0 then (x15 : Int) else (if l1 = 14 then ((gel G16 (gfd G16 12 32 l0) (l4 + l11)) : Int) else x15)), iv l8, rv (gfd G16 12 49 l0)] G16 c17 s18 Q X by
            refine v_if_eq (pc := 452) (tgt := 474) (dk dt_X12_joins_6 1 rfl) (by decide) (fun c34 => ?_) (fun c34 => ?_)
            · refine v_lload (pc := 474) (dk dt_X12_joins_6 12 rfl) rfl ?_
              exact v_less2 (ls' := [some (rv l0), some (iv l1), some (iv l2), some (iv l3), some (iv l4), some (iv l5), some (iv l6), some (iv l7), some (iv l8), some (jv l9), none, some (iv l11), none, none, none, none, some (iv (if l5 = 0 then ((gel G16 (gfd G16 12 31 l0) (l3 + l11)) : Int) else (gel G16 (gfd G16 12 31 l0) (l4 + l11))))]) ⟨rfl, rfl, rfl, rfl, rfl, rfl, rfl, rfl, rfl, rfl, rfl, rfl, trivial⟩ (by have hk9 := k103; try simp only [if_pos c34] at hk9 ⊢; exact hk9)
            · refine v_iload_n (pc := 455) (dk dt_X12_joins_6 2 rfl) rfl rfl ?_
              refine v_bipush (pc := 456) (dk dt_X12_joins_6 3 rfl) (by decide) ⟨by decide, by decide⟩ ?_
              refine v_icmp_ne (pc := 458) (tgt := 474) (dk dt_X12_joins_6 4 rfl) (by decide) (fun c35 => ?_) (fun c35 => ?_)
              · refine v_lload (pc := 474) (dk dt_X12_joins_6 12 rfl) rfl ?_
                exact v_less2 (ls' := [some (rv l0), some (iv l1), some (iv l2), some (iv l3), some (iv l4), some (iv l5), some (iv l6), some (iv l7), some (iv l8), some (jv l9), none, some (iv l11), none, none, none, none, some (iv (if l5 = 0 then ((gel G16 (gfd G16 12 31 l0) (l3 + l11)) : Int) else (gel G16 (gfd G16 12 31 l0) (l4 + l11))))]) ⟨rfl, rfl, rfl, rfl, rfl, rfl, rfl, rfl, rfl, rfl, rfl, rfl, trivial⟩ (by have hk9 := k103; try simp only [if_neg c34] at hk9 ⊢; try simp only [if_neg c35] at hk9 ⊢; exact hk9)
              · refine v_aload_n (pc := 461) (dk dt_X12_joins_6 5 rfl) rfl rfl ?_
                refine v_getR (pc := 462) (dk dt_X12_joins_6 6 rfl) fl_X12_87 (v36 c34 c35) (fun _ => ?_)
                refine v_iload (pc := 465) (dk dt_X12_joins_6 7 rfl) rfl ?_
                refine v_iload (pc := 467) (dk dt_X12_joins_6 8 rfl) rfl ?_
                refine v_iadd (pc := 469) (dk dt_X12_joins_6 9 rfl) (v37 c34 c35) ?_
                refine v_lald (pc := 470) (dk dt_X12_joins_6 10 rfl) (v38 c34 c35) (v39 c34 c35) (v40 c34 c35) (fun _ => ?_)
                refine v_goto (pc := 471) (tgt := 476) (dk dt_X12_joins_6 11 rfl) (by decide) ?_
                exact v_less2 (ls' := [some (rv l0), some (iv l1), some (iv l2), some (iv l3), some (iv l4), some (iv l5), some (iv l6), some (iv l7), some (iv l8), some (jv l9), none, some (iv l11), none, none, none, none, some (iv (if l5 = 0 then ((gel G16 (gfd G16 12 31 l0) (l3 + l11)) : Int) else (gel G16 (gfd G16 12 31 l0) (l4 + l11))))]) ⟨rfl, rfl, rfl, rfl, rfl, rfl, rfl, rfl, rfl, rfl, rfl, rfl, trivial⟩ (by have hk9 := k103; try simp only [if_neg c34] at hk9 ⊢; try simp only [if_pos c35] at hk9 ⊢; exact hk9)
          obtain ⟨v41, h⟩ := h
          obtain ⟨v42, h⟩ := h
          obtain ⟨v43, h⟩ := h
          refine v_last (pc := 476) (dk dt_X12_joins_6 13 rfl) v41 v42 v43 ?_
          generalize hG44 : (sel G16 (gfd G16 12 49 l0) l8 (if l5 = 0 then (x15 : Int) else (if l1 = 14 then ((gel G16 (gfd G16 12 32 l0) (l4 + l11)) : Int) else x15))) = G44
          replace h := h G44 hG44.symm
          refine v_aload_n (pc := 477) (dk dt_X12_joins_6 14 rfl) rfl rfl ?_
          obtain ⟨v45, h⟩ := h
          refine v_getR (pc := 478) (dk dt_X12_joins_6 15 rfl) fl_X12_124 v45 (fun _ => ?_)
          refine v_iload (pc := 481) (dk dt_X12_joins_6 16 rfl) rfl ?_
          refine v_iload (pc := 483) (dk dt_X12_joins_6 17 rfl) rfl ?_
          obtain ⟨v46, h⟩ := h
          obtain ⟨v47, h⟩ := h
          obtain ⟨v48, h⟩ := h
          refine v_iast (pc := 485) (dk dt_X12_joins_6 18 rfl) v46 v47 v48 ?_
          generalize hG49 : (sel G44 (gfd G44 12 50 l0) l8 (if l5 = 0 then ((gel G16 (gfd G16 12 31 l0) (l3 + l11)) : Int) else (gel G16 (gfd G16 12 31 l0) (l4 + l11)))) = G49
          replace h := h G49 hG49.symm
          obtain ⟨v50, h⟩ := h
          refine v_iinc (pc := 486) (ls' := [some (rv l0), some (iv l1), some (iv l2), some (iv l3), some (iv l4), some (iv l5), some (iv l6), some (iv l7), some (iv (l8 + 1)), some (jv l9), none, some (iv l11), none, none, none, none, some (iv (if l5 = 0 then ((gel G16 (gfd G16 12 31 l0) (l3 + l11)) : Int) else (gel G16 (gfd G16 12 31 l0) (l4 + l11))))]) (dk dt_X12_joins_6 19 rfl) (Nat.le_of_ble_eq_true rfl) rfl v50 rfl ?_
          obtain ⟨v51, h⟩ := h
          refine v_iinc (pc := 489) (ls' := [some (rv l0), some (iv l1), some (iv l2), some (iv l3), some (iv l4), some (iv l5), some (iv l6), some (iv l7), some (iv (l8 + 1)), some (jv l9), none, some (iv (l11 + 1)), none, none, none, none, some (iv (if l5 = 0 then ((gel G16 (gfd G16 12 31 l0) (l3 + l11)) : Int) else (gel G16 (gfd G16 12 31 l0) (l4 + l11))))]) (dk dt_X12_joins_6 20 rfl) (Nat.le_of_ble_eq_true rfl) rfl v51 rfl ?_
          refine v_goto (pc := 492) (tgt := 193) (dk dt_X12_joins_6 21 rfl) (by decide) ?_
          exact v_less2 (ls' := [some (rv l0), some (iv l1), some (iv l2), some (iv l3), some (iv l4), some (iv l5), some (iv l6), some (iv l7), some (iv (l8 + 1)), some (jv l9), none, some (iv (l11 + 1)), none, none, none, none, none]) ⟨rfl, rfl, rfl, rfl, rfl, rfl, rfl, rfl, rfl, rfl, rfl, trivial⟩ h
      replace h := h _ hJ14
      refine v_if_eq (pc := 362) (tgt := 385) (dk dt_X12_joins_4 32 rfl) (by decide) (fun c52 => ?_) (fun c52 => ?_)
      · replace h := h.1 c52
        refine v_aload_n (pc := 385) (dk dt_X12_joins_5 4 rfl) rfl rfl ?_
        refine v_iload_n (pc := 386) (dk dt_X12_joins_5 5 rfl) rfl rfl ?_
        refine v_aload_n (pc := 387) (dk dt_X12_joins_5 6 rfl) rfl rfl ?_
        obtain ⟨v53, h⟩ := h
        refine v_getR (pc := 388) (dk dt_X12_joins_5 7 rfl) fl_X12_87 v53 (fun _ => ?_)
        refine v_iload_n (pc := 391) (dk dt_X12_joins_5 8 rfl) rfl rfl ?_
        refine v_iload (pc := 392) (dk dt_X12_joins_5 9 rfl) rfl ?_
        obtain ⟨v54, h⟩ := h
        refine v_iadd (pc := 394) (dk dt_X12_joins_5 10 rfl) v54 ?_
        obtain ⟨v55, h⟩ := h
        obtain ⟨v56, h⟩ := h
        obtain ⟨v57, h⟩ := h
        refine v_lald (pc := 395) (dk dt_X12_joins_5 11 rfl) v55 v56 v57 (fun _ => ?_)
        refine v_aload_n (pc := 396) (dk dt_X12_joins_5 12 rfl) rfl rfl ?_
        obtain ⟨v58, h⟩ := h
        refine v_getR (pc := 397) (dk dt_X12_joins_5 13 rfl) fl_X12_87 v58 (fun _ => ?_)
        refine v_iload (pc := 400) (dk dt_X12_joins_5 14 rfl) rfl ?_
        obtain ⟨v59, h⟩ := h
        obtain ⟨v60, h⟩ := h
        obtain ⟨v61, h⟩ := h
        refine v_lald (pc := 402) (dk dt_X12_joins_5 15 rfl) v59 v60 v61 (fun _ => ?_)
        obtain ⟨v62, h⟩ := h
        refine v_cvJ (c := 12) (As := [iv l1, jv (gel G12 (gfd G12 12 32 l0) (l3 + l11)), jv (gel G12 (gfd G12 12 32 l0) l12)]) (stk := []) (pc := 403) (dk dt_X12_joins_5 16 rfl) ml_X12_264 rfl rfl (Nat.le_of_ble_eq_true rfl) rfl ⟨by decide, rfl⟩ v62 rfl (Call.mono h (fun r63 G64 c65 s66 h => ?_))
        rw [dJ14] at h
        exact v_less2 (ls' := [some (rv l0), some (iv l1), some (iv l2), some (iv l3), some (iv l4), some (iv l5), some (iv l6), some (iv l7), some (iv l8), some (jv l9), none, some (iv l11), none, none, none, none, none]) ⟨rfl, rfl, rfl, rfl, rfl, rfl, rfl, rfl, rfl, rfl, rfl, trivial⟩ h
      · replace h := h.2 c52
        refine v_aload_n (pc := 365) (dk dt_X12_joins_4 33 rfl) rfl rfl ?_
        refine v_iload_n (pc := 366) (dk dt_X12_joins_4 34 rfl) rfl rfl ?_
        refine v_lload (pc := 367) (dk dt_X12_joins_4 35 rfl) rfl ?_
        refine v_aload_n (pc := 369) (dk dt_X12_joins_4 36 rfl) rfl rfl ?_
        obtain ⟨v67, h⟩ := h
        refine v_getR (pc := 370) (dk dt_X12_joins_4 37 rfl) fl_X12_87 v67 (fun _ => ?_)
        refine v_iload (pc := 373) (dk dt_X12_joins_4 38 rfl) rfl ?_
        refine v_iload (pc := 375) (dk dt_X12_joins_4 39 rfl) rfl ?_
        obtain ⟨v68, h⟩ := h
        refine v_iadd (pc := 377) (dk dt_X12_joins_5 0 rfl) v68 ?_
        obtain ⟨v69, h⟩ := h
        obtain ⟨v70, h⟩ := h
        obtain ⟨v71, h⟩ := h
        refine v_lald (pc := 378) (dk dt_X12_joins_5 1 rfl) v69 v70 v71 (fun _ => ?_)
        obtain ⟨v72, h⟩ := h
        refine v_cvJ (c := 12) (As := [iv l1, jv l9, jv (gel G12 (gfd G12 12 32 l0) (l4 + l11))]) (stk := []) (pc := 379) (dk dt_X12_joins_5 2 rfl) ml_X12_264 rfl rfl (Nat.le_of_ble_eq_true rfl) rfl ⟨by decide, rfl⟩ v72 rfl (Call.mono h (fun r73 G74 c75 s76 h => ?_))
        refine v_goto (pc := 382) (tgt := 406) (dk dt_X12_joins_5 3 rfl) (by decide) ?_
        rw [dJ14] at h
        exact v_less2 (ls' := [some (rv l0), some (iv l1), some (iv l2), some (iv l3), some (iv l4), some (iv l5), some (iv l6), some (iv l7), some (iv l8), some (jv l9), none, some (iv l11), none, none, none, none, none]) ⟨rfl, rfl, rfl, rfl, rfl, rfl, rfl, rfl, rfl, rfl, rfl, trivial⟩ h
    replace h := h _ hJ13
    refine v_if_ne (pc := 351) (tgt := 360) (dk dt_X12_joins_4 27 rfl) (by decide) (fun c77 => ?_) (fun c77 => ?_)
    · replace h := h.1 c77
      rw [dJ13] at h
      exact h
    · replace h := h.2 c77
      refine v_iload (pc := 354) (dk dt_X12_joins_4 28 rfl) rfl ?_
      refine v_iconst (pc := 356) (dk dt_X12_joins_4 29 rfl) ⟨by decide, by decide⟩ ?_
      refine v_icmp_eq (pc := 357) (tgt := 489) (dk dt_X12_joins_4 30 rfl) (by decide) (fun c78 => ?_) (fun c78 => ?_)
      · replace h := h.1 c78
        obtain ⟨v79, h⟩ := h
        refine v_iinc (pc := 489) (ls' := [some (rv l0), some (iv l1), some (iv l2), some (iv l3), some (iv l4), some (iv l5), some (iv l6), some (iv l7), some (iv l8), some (jv l9), none, some (iv (l11 + 1)), some (iv l12), none, none, none, none]) (dk dt_X12_joins_6 20 rfl) (Nat.le_of_ble_eq_true rfl) rfl v79 rfl ?_
        refine v_goto (pc := 492) (tgt := 193) (dk dt_X12_joins_6 21 rfl) (by decide) ?_
        exact v_less2 (ls' := [some (rv l0), some (iv l1), some (iv l2), some (iv l3), some (iv l4), some (iv l5), some (iv l6), some (iv l7), some (iv l8), some (jv l9), none, some (iv (l11 + 1)), none, none, none, none, none]) ⟨rfl, rfl, rfl, rfl, rfl, rfl, rfl, rfl, rfl, rfl, rfl, trivial⟩ h
      · replace h := h.2 c78
        rw [dJ13] at h
        exact h
  replace h := h _ hJ6
  refine v_icmp_ge (pc := 239) (tgt := 327) (dk dt_X12_joins_3 11 rfl) (by decide) (fun c80 => ?_) (fun c80 => ?_)
  · replace h := h.1 c80
    rw [dJ6] at h
    exact v_less2 (ls' := [some (rv l0), some (iv l1), some (iv l2), some (iv l3), some (iv l4), some (iv l5), some (iv l6), some (iv l7), some (iv l8), some (jv l9), none, some (iv l11), some (iv l12), some (iv l13), none, none, none]) ⟨rfl, rfl, rfl, rfl, rfl, rfl, rfl, rfl, rfl, rfl, rfl, rfl, rfl, trivial⟩ h
  · replace h := h.2 c80
    refine v_iload (pc := 242) (dk dt_X12_joins_3 12 rfl) rfl ?_
    refine v_if_ne (pc := 244) (tgt := 327) (dk dt_X12_joins_3 13 rfl) (by decide) (fun c81 => ?_) (fun c81 => ?_)
    · replace h := h.1 c81
      rw [dJ6] at h
      exact v_less2 (ls' := [some (rv l0), some (iv l1), some (iv l2), some (iv l3), some (iv l4), some (iv l5), some (iv l6), some (iv l7), some (iv l8), some (jv l9), none, some (iv l11), some (iv l12), some (iv l13), none, none, none]) ⟨rfl, rfl, rfl, rfl, rfl, rfl, rfl, rfl, rfl, rfl, rfl, rfl, rfl, trivial⟩ h
    · replace h := h.2 c81
      refine v_iload (pc := 247) (dk dt_X12_joins_3 14 rfl) rfl ?_
      refine v_if_ne (pc := 249) (tgt := 327) (dk dt_X12_joins_3 15 rfl) (by decide) (fun c82 => ?_) (fun c82 => ?_)
      · replace h := h.1 c82
        rw [dJ6] at h
        exact v_less2 (ls' := [some (rv l0), some (iv l1), some (iv l2), some (iv l3), some (iv l4), some (iv l5), some (iv l6), some (iv l7), some (iv l8), some (jv l9), none, some (iv l11), some (iv l12), some (iv l13), none, none, none]) ⟨rfl, rfl, rfl, rfl, rfl, rfl, rfl, rfl, rfl, rfl, rfl, rfl, rfl, trivial⟩ h
      · replace h := h.2 c82
        refine v_aload_n (pc := 252) (dk dt_X12_joins_3 16 rfl) rfl rfl ?_
        obtain ⟨v83, h⟩ := h
        refine v_getR (pc := 253) (dk dt_X12_joins_3 17 rfl) fl_X12_84 v83 (fun _ => ?_)
        refine v_iload_n (pc := 256) (dk dt_X12_joins_3 18 rfl) rfl rfl ?_
        refine v_iload (pc := 257) (dk dt_X12_joins_3 19 rfl) rfl ?_
        obtain ⟨v84, h⟩ := h
        refine v_iadd (pc := 259) (dk dt_X12_joins_3 20 rfl) v84 ?_
        obtain ⟨v85, h⟩ := h
        obtain ⟨v86, h⟩ := h
        obtain ⟨v87, h⟩ := h
        refine v_iald (pc := 260) (dk dt_X12_joins_3 21 rfl) (Or.inl v85) v86 v87 (fun _ => ?_)
        refine v_iload_n (pc := 261) (dk dt_X12_joins_3 22 rfl) rfl rfl ?_
        obtain ⟨v88, h⟩ := h
        refine v_csPI (v := (wMask (gel G (gfd G 12 31 l0) (l3 + l11)) l2)) (As := [iv (gel G (gfd G 12 31 l0) (l3 + l11)), iv l2]) (stk := []) (pc := 262) (dk dt_X12_joins_3 23 rfl) ml_X12_256 rfl rfl (Nat.le_of_ble_eq_true rfl) rfl rfl v88 ?_
        refine v_aload_n (pc := 265) (dk dt_X12_joins_3 24 rfl) rfl rfl ?_
        obtain ⟨v89, h⟩ := h
        refine v_getR (pc := 266) (dk dt_X12_joins_3 25 rfl) fl_X12_84 v89 (fun _ => ?_)
        refine v_iload (pc := 269) (dk dt_X12_joins_3 26 rfl) rfl ?_
        refine v_iload (pc := 271) (dk dt_X12_joins_3 27 rfl) rfl ?_
        obtain ⟨v90, h⟩ := h
        refine v_iadd (pc := 273) (dk dt_X12_joins_3 28 rfl) v90 ?_
        obtain ⟨v91, h⟩ := h
        obtain ⟨v92, h⟩ := h
        obtain ⟨v93, h⟩ := h
        refine v_iald (pc := 274) (dk dt_X12_joins_3 29 rfl) (Or.inl v91) v92 v93 (fun _ => ?_)
        refine v_iload_n (pc := 275) (dk dt_X12_joins_3 30 rfl) rfl rfl ?_
        obtain ⟨v94, h⟩ := h
        refine v_csPI (v := (wMask (gel G (gfd G 12 31 l0) (l4 + l14)) l2)) (As := [iv (gel G (gfd G 12 31 l0) (l4 + l14)), iv l2]) (stk := [iv (wMask (gel G (gfd G 12 31 l0) (l3 + l11)) l2)]) (pc := 276) (dk dt_X12_joins_3 31 rfl) ml_X12_256 rfl rfl (Nat.le_of_ble_eq_true rfl) rfl rfl v94 ?_
        suffices k104 : V E M_X12_joins 287 [some (rv l0), some (iv l1), some (iv l2), some (iv l3), some (iv l4), some (iv l5), some (iv l6), some (iv l7), some (iv l8), some (jv l9), none, some (iv l11), some (iv l12), some (iv l13), some (iv l14), none, none] [iv (if (wMask (gel G (gfd G 12 31 l0) (l3 + l11)) l2) = (wMask (gel G (gfd G 12 31 l0) (l4 + l14)) l2) then (1 : Int) else 0)] G c s Q X by
          refine v_icmp_ne (pc := 279) (tgt := 286) (dk dt_X12_joins_3 32 rfl) (by decide) (fun c95 => ?_) (fun c95 => ?_)
          · refine v_iconst (pc := 286) (dk dt_X12_joins_3 35 rfl) ⟨by decide, by decide⟩ ?_
            exact v_less2 (ls' := [some (rv l0), some (iv l1), some (iv l2), some (iv l3), some (iv l4), some (iv l5), some (iv l6), some (iv l7), some (iv l8), some (jv l9), none, some (iv l11), some (iv l12), some (iv l13), some (iv l14), none, none]) ⟨rfl, rfl, rfl, rfl, rfl, rfl, rfl, rfl, rfl, rfl, rfl, rfl, rfl, rfl, trivial⟩ (by have hk9 := k104; try simp only [if_neg c95] at hk9 ⊢; exact hk9)
          · refine v_iconst (pc := 282) (dk dt_X12_joins_3 33 rfl) ⟨by decide, by decide⟩ ?_
            refine v_goto (pc := 283) (tgt := 287) (dk dt_X12_joins_3 34 rfl) (by decide) ?_
            exact v_less2 (ls' := [some (rv l0), some (iv l1), some (iv l2), some (iv l3), some (iv l4), some (iv l5), some (iv l6), some (iv l7), some (iv l8), some (jv l9), none, some (iv l11), some (iv l12), some (iv l13), some (iv l14), none, none]) ⟨rfl, rfl, rfl, rfl, rfl, rfl, rfl, rfl, rfl, rfl, rfl, rfl, rfl, rfl, trivial⟩ (by have hk9 := k104; try simp only [if_pos c95] at hk9 ⊢; exact hk9)
        refine v_istore (pc := 287) (ls' := [some (rv l0), some (iv l1), some (iv l2), some (iv l3), some (iv l4), some (iv l5), some (iv l6), some (iv l7), some (iv l8), some (jv l9), none, some (iv l11), some (iv l12), some (iv l13), some (iv l14), some (iv (if (wMask (gel G (gfd G 12 31 l0) (l3 + l11)) l2) = (wMask (gel G (gfd G 12 31 l0) (l4 + l14)) l2) then (1 : Int) else 0)), none]) (dk dt_X12_joins_3 36 rfl) (Nat.le_of_ble_eq_true rfl) rfl ?_
        refine v_iload (pc := 289) (dk dt_X12_joins_3 37 rfl) rfl ?_
        obtain ⟨v97, h⟩ := h
        suffices k105 : V E M_X12_joins 304 [some (rv l0), some (iv l1), some (iv l2), some (iv l3), some (iv l4), some (iv l5), some (iv l6), some (iv l7), some (iv l8), some (jv l9), none, some (iv l11), none, some (iv l13), some (iv l14), some (iv (if (wMask (gel G (gfd G 12 31 l0) (l3 + l11)) l2) = (wMask (gel G (gfd G 12 31 l0) (l4 + l14)) l2) then (1 : Int) else 0)), none] [iv (if (if (wMask (gel G (gfd G 12 31 l0) (l3 + l11)) l2) = (wMask (gel G (gfd G 12 31 l0) (l4 + l14)) l2) then (1 : Int) else 0) = 0 then (l12 : Int) else (l4 + l14))] G c s Q X by
          refine v_if_eq (pc := 291) (tgt := 302) (dk dt_X12_joins_3 38 rfl) (by decide) (fun c96 => ?_) (fun c96 => ?_)
          · refine v_iload (pc := 302) (dk dt_X12_joins_4 3 rfl) rfl ?_
            exact v_less2 (ls' := [some (rv l0), some (iv l1), some (iv l2), some (iv l3), some (iv l4), some (iv l5), some (iv l6), some (iv l7), some (iv l8), some (jv l9), none, some (iv l11), none, some (iv l13), some (iv l14), some (iv (if (wMask (gel G (gfd G 12 31 l0) (l3 + l11)) l2) = (wMask (gel G (gfd G 12 31 l0) (l4 + l14)) l2) then (1 : Int) else 0)), none]) ⟨rfl, rfl, rfl, rfl, rfl, rfl, rfl, rfl, rfl, rfl, rfl, rfl, rfl, rfl, trivial⟩ (by have hk9 := k105; try simp only [if_pos c96] at hk9 ⊢; exact hk9)
          · refine v_iload (pc := 294) (dk dt_X12_joins_3 39 rfl) rfl ?_
            refine v_iload (pc := 296) (dk dt_X12_joins_4 0 rfl) rfl ?_
            refine v_iadd (pc := 298) (dk dt_X12_joins_4 1 rfl) (v97 c96) ?_
            refine v_goto (pc := 299) (tgt := 304) (dk dt_X12_joins_4 2 rfl) (by decide) ?_
            exact v_less2 (ls' := [some (rv l0), some (iv l1), some (iv l2), some (iv l3), some (iv l4), some (iv l5), some (iv l6), some (iv l7), some (iv l8), some (jv l9), none, some (iv l11), none, some (iv l13), some (iv l14), some (iv (if (wMask (gel G (gfd G 12 31 l0) (l3 + l11)) l2) = (wMask (gel G (gfd G 12 31 l0) (l4 + l14)) l2) then (1 : Int) else 0)), none]) ⟨rfl, rfl, rfl, rfl, rfl, rfl, rfl, rfl, rfl, rfl, rfl, rfl, rfl, rfl, trivial⟩ (by have hk9 := k105; try simp only [if_neg c96] at hk9 ⊢; exact hk9)
        refine v_istore (pc := 304) (ls' := [some (rv l0), some (iv l1), some (iv l2), some (iv l3), some (iv l4), some (iv l5), some (iv l6), some (iv l7), some (iv l8), some (jv l9), none, some (iv l11), some (iv (if (if (wMask (gel G (gfd G 12 31 l0) (l3 + l11)) l2) = (wMask (gel G (gfd G 12 31 l0) (l4 + l14)) l2) then (1 : Int) else 0) = 0 then (l12 : Int) else (l4 + l14))), some (iv l13), some (iv l14), some (iv (if (wMask (gel G (gfd G 12 31 l0) (l3 + l11)) l2) = (wMask (gel G (gfd G 12 31 l0) (l4 + l14)) l2) then (1 : Int) else 0)), none]) (dk dt_X12_joins_4 4 rfl) (Nat.le_of_ble_eq_true rfl) rfl ?_
        refine v_iload (pc := 306) (dk dt_X12_joins_4 5 rfl) rfl ?_
        refine v_iload (pc := 308) (dk dt_X12_joins_4 6 rfl) rfl ?_
        suffices k106 : V E M_X12_joins 318 [some (rv l0), some (iv l1), some (iv l2), some (iv l3), some (iv l4), some (iv l5), some (iv l6), some (iv l7), some (iv l8), some (jv l9), none, some (iv l11), some (iv (if (if (wMask (gel G (gfd G 12 31 l0) (l3 + l11)) l2) = (wMask (gel G (gfd G 12 31 l0) (l4 + l14)) l2) then (1 : Int) else 0) = 0 then (l12 : Int) else (l4 + l14))), none, some (iv l14), none, none] [iv (if (if (wMask (gel G (gfd G 12 31 l0) (l3 + l11)) l2) = (wMask (gel G (gfd G 12 31 l0) (l4 + l14)) l2) then (1 : Int) else 0) = 0 then (0 : Int) else 1), iv l13] G c s Q X by
          refine v_if_eq (pc := 310) (tgt := 317) (dk dt_X12_joins_4 7 rfl) (by decide) (fun c98 => ?_) (fun c98 => ?_)
          · refine v_iconst (pc := 317) (dk dt_X12_joins_4 10 rfl) ⟨by decide, by decide⟩ ?_
            exact v_less2 (ls' := [some (rv l0), some (iv l1), some (iv l2), some (iv l3), some (iv l4), some (iv l5), some (iv l6), some (iv l7), some (iv l8), some (jv l9), none, some (iv l11), some (iv (if (if (wMask (gel G (gfd G 12 31 l0) (l3 + l11)) l2) = (wMask (gel G (gfd G 12 31 l0) (l4 + l14)) l2) then (1 : Int) else 0) = 0 then (l12 : Int) else (l4 + l14))), none, some (iv l14), none, none]) ⟨rfl, rfl, rfl, rfl, rfl, rfl, rfl, rfl, rfl, rfl, rfl, rfl, rfl, trivial⟩ (by have hk9 := k106; try simp only [if_pos c98] at hk9 ⊢; exact hk9)
          · refine v_iconst (pc := 313) (dk dt_X12_joins_4 8 rfl) ⟨by decide, by decide⟩ ?_
            refine v_goto (pc := 314) (tgt := 318) (dk dt_X12_joins_4 9 rfl) (by decide) ?_
            exact v_less2 (ls' := [some (rv l0), some (iv l1), some (iv l2), some (iv l3), some (iv l4), some (iv l5), some (iv l6), some (iv l7), some (iv l8), some (jv l9), none, some (iv l11), some (iv (if (if (wMask (gel G (gfd G 12 31 l0) (l3 + l11)) l2) = (wMask (gel G (gfd G 12 31 l0) (l4 + l14)) l2) then (1 : Int) else 0) = 0 then (l12 : Int) else (l4 + l14))), none, some (iv l14), none, none]) ⟨rfl, rfl, rfl, rfl, rfl, rfl, rfl, rfl, rfl, rfl, rfl, rfl, rfl, trivial⟩ (by have hk9 := k106; try simp only [if_neg c98] at hk9 ⊢; exact hk9)
        obtain ⟨v99, h⟩ := h
        refine v_iadd (pc := 318) (dk dt_X12_joins_4 11 rfl) v99 ?_
        refine v_istore (pc := 319) (ls' := [some (rv l0), some (iv l1), some (iv l2), some (iv l3), some (iv l4), some (iv l5), some (iv l6), some (iv l7), some (iv l8), some (jv l9), none, some (iv l11), some (iv (if (if (wMask (gel G (gfd G 12 31 l0) (l3 + l11)) l2) = (wMask (gel G (gfd G 12 31 l0) (l4 + l14)) l2) then (1 : Int) else 0) = 0 then (l12 : Int) else (l4 + l14))), some (iv (l13 + (if (if (wMask (gel G (gfd G 12 31 l0) (l3 + l11)) l2) = (wMask (gel G (gfd G 12 31 l0) (l4 + l14)) l2) then (1 : Int) else 0) = 0 then (0 : Int) else 1))), some (iv l14), none, none]) (dk dt_X12_joins_4 12 rfl) (Nat.le_of_ble_eq_true rfl) rfl ?_
        obtain ⟨v100, h⟩ := h
        refine v_iinc (pc := 321) (ls' := [some (rv l0), some (iv l1), some (iv l2), some (iv l3), some (iv l4), some (iv l5), some (iv l6), some (iv l7), some (iv l8), some (jv l9), none, some (iv l11), some (iv (if (if (wMask (gel G (gfd G 12 31 l0) (l3 + l11)) l2) = (wMask (gel G (gfd G 12 31 l0) (l4 + l14)) l2) then (1 : Int) else 0) = 0 then (l12 : Int) else (l4 + l14))), some (iv (l13 + (if (if (wMask (gel G (gfd G 12 31 l0) (l3 + l11)) l2) = (wMask (gel G (gfd G 12 31 l0) (l4 + l14)) l2) then (1 : Int) else 0) = 0 then (0 : Int) else 1))), some (iv (l14 + 1)), none, none]) (dk dt_X12_joins_4 13 rfl) (Nat.le_of_ble_eq_true rfl) rfl v100 rfl ?_
        refine v_goto (pc := 324) (tgt := 228) (dk dt_X12_joins_4 14 rfl) (by decide) ?_
        exact h
set_option maxRecDepth 20000 in
theorem b_X12_joins_523 {E : EE} {l0 l3 l8 l11 : Int} {G : Gt} {c s : Nat} {Q X : Int → Gt → Prop} (h : ((l8 ≤ l11 → Q 0 G) ∧ (l11 < l8 → (gcl G l0 = 13 ∧ i32 (l3 + l11) ∧ gcl G l0 = 13 ∧ gcl G (gfd G 12 49 l0) = 16 ∧ 0 ≤ l11 ∧ l11 < gln G (gfd G 12 49 l0) ∧ gcl G (gfd G 12 32 l0) = 16 ∧ 0 ≤ (l3 + l11) ∧ (l3 + l11) < gln G (gfd G 12 32 l0) ∧ ∀ G11 : Gt, G11 = (sel G (gfd G 12 32 l0) (l3 + l11) (gel G (gfd G 12 49 l0) l11)) → gcl G11 l0 = 13 ∧ i32 (l3 + l11) ∧ gcl G11 l0 = 13 ∧ gcl G11 (gfd G11 12 50 l0) = 15 ∧ 0 ≤ l11 ∧ l11 < gln G11 (gfd G11 12 50 l0) ∧ gcl G11 (gfd G11 12 31 l0) = 15 ∧ 0 ≤ (l3 + l11) ∧ (l3 + l11) < gln G11 (gfd G11 12 31 l0) ∧ ∀ G21 : Gt, G21 = (sel G11 (gfd G11 12 31 l0) (l3 + l11) (gel G11 (gfd G11 12 50 l0) l11)) → i32 (l11 + 1) ∧ V E M_X12_joins 523 [some (rv l0), none, none, some (iv l3), none, none, none, none, some (iv l8), none, none, some (iv (l11 + 1)), none, none, none, none, none] [] G21 c s Q X)))) : V E M_X12_joins 523 [some (rv l0), none, none, some (iv l3), none, none, none, none, some (iv l8), none, none, some (iv l11), none, none, none, none, none] [] G c s Q X := by
  refine v_iload (pc := 523) (dk dt_X12_joins_7 0 rfl) rfl ?_
  refine v_iload (pc := 525) (dk dt_X12_joins_7 1 rfl) rfl ?_
  refine v_icmp_ge (pc := 527) (tgt := 568) (dk dt_X12_joins_7 2 rfl) (by decide) (fun c1 => ?_) (fun c1 => ?_)
  · replace h := h.1 c1
    exact v_vret (pc := 568) (dk dt_X12_joins_7 25 rfl) rfl h
  · replace h := h.2 c1
    refine v_aload_n (pc := 530) (dk dt_X12_joins_7 3 rfl) rfl rfl ?_
    obtain ⟨v2, h⟩ := h
    refine v_getR (pc := 531) (dk dt_X12_joins_7 4 rfl) fl_X12_87 v2 (fun _ => ?_)
    refine v_iload_n (pc := 534) (dk dt_X12_joins_7 5 rfl) rfl rfl ?_
    refine v_iload (pc := 535) (dk dt_X12_joins_7 6 rfl) rfl ?_
    obtain ⟨v3, h⟩ := h
    refine v_iadd (pc := 537) (dk dt_X12_joins_7 7 rfl) v3 ?_
    refine v_aload_n (pc := 538) (dk dt_X12_joins_7 8 rfl) rfl rfl ?_
    obtain ⟨v4, h⟩ := h
    refine v_getR (pc := 539) (dk dt_X12_joins_7 9 rfl) fl_X12_121 v4 (fun _ => ?_)
    refine v_iload (pc := 542) (dk dt_X12_joins_7 10 rfl) rfl ?_
    obtain ⟨v5, h⟩ := h
    obtain ⟨v6, h⟩ := h
    obtain ⟨v7, h⟩ := h
    refine v_lald (pc := 544) (dk dt_X12_joins_7 11 rfl) v5 v6 v7 (fun _ => ?_)
    obtain ⟨v8, h⟩ := h
    obtain ⟨v9, h⟩ := h
    obtain ⟨v10, h⟩ := h
    refine v_last (pc := 545) (dk dt_X12_joins_7 12 rfl) v8 v9 v10 ?_
    generalize hG11 : (sel G (gfd G 12 32 l0) (l3 + l11) (gel G (gfd G 12 49 l0) l11)) = G11
    replace h := h G11 hG11.symm
    refine v_aload_n (pc := 546) (dk dt_X12_joins_7 13 rfl) rfl rfl ?_
    obtain ⟨v12, h⟩ := h
    refine v_getR (pc := 547) (dk dt_X12_joins_7 14 rfl) fl_X12_84 v12 (fun _ => ?_)
    refine v_iload_n (pc := 550) (dk dt_X12_joins_7 15 rfl) rfl rfl ?_
    refine v_iload (pc := 551) (dk dt_X12_joins_7 16 rfl) rfl ?_
    obtain ⟨v13, h⟩ := h
    refine v_iadd (pc := 553) (dk dt_X12_joins_7 17 rfl) v13 ?_
    refine v_aload_n (pc := 554) (dk dt_X12_joins_7 18 rfl) rfl rfl ?_
    obtain ⟨v14, h⟩ := h
    refine v_getR (pc := 555) (dk dt_X12_joins_7 19 rfl) fl_X12_124 v14 (fun _ => ?_)
    refine v_iload (pc := 558) (dk dt_X12_joins_7 20 rfl) rfl ?_
    obtain ⟨v15, h⟩ := h
    obtain ⟨v16, h⟩ := h
    obtain ⟨v17, h⟩ := h
    refine v_iald (pc := 560) (dk dt_X12_joins_7 21 rfl) (Or.inl v15) v16 v17 (fun _ => ?_)
    obtain ⟨v18, h⟩ := h
    obtain ⟨v19, h⟩ := h
    obtain ⟨v20, h⟩ := h
    refine v_iast (pc := 561) (dk dt_X12_joins_7 22 rfl) v18 v19 v20 ?_
    generalize hG21 : (sel G11 (gfd G11 12 31 l0) (l3 + l11) (gel G11 (gfd G11 12 50 l0) l11)) = G21
    replace h := h G21 hG21.symm
    obtain ⟨v22, h⟩ := h
    refine v_iinc (pc := 562) (ls' := [some (rv l0), none, none, some (iv l3), none, none, none, none, some (iv l8), none, none, some (iv (l11 + 1)), none, none, none, none, none]) (dk dt_X12_joins_7 23 rfl) (Nat.le_of_ble_eq_true rfl) rfl v22 rfl ?_
    refine v_goto (pc := 565) (tgt := 523) (dk dt_X12_joins_7 24 rfl) (by decide) ?_
    exact h
set_option maxRecDepth 20000 in
theorem b_X12_bound_0 {E : EE} {l0 : Int} {G : Gt} {c s : Nat} {Q X : Int → Gt → Prop} (h : Q (if l0 = 0 then (1000 : Int) else (if l0 = 1 then (2000 : Int) else (if l0 = 2 then (5000 : Int) else (if l0 = 3 then (10000 : Int) else 20000)))) G) : V E M_X12_bound 0 [some (iv l0)] [] G c s Q X := by
  refine v_iload_n (pc := 0) (dk dt_X12_bound 0 rfl) rfl rfl ?_
  suffices k5 : V E M_X12_bound 46 [none] [jv (if l0 = 0 then (1000 : Int) else (if l0 = 1 then (2000 : Int) else (if l0 = 2 then (5000 : Int) else (if l0 = 3 then (10000 : Int) else 20000))))] G c s Q X by
    refine v_if_ne (pc := 1) (tgt := 10) (dk dt_X12_bound 1 rfl) (by decide) (fun c1 => ?_) (fun c1 => ?_)
    · refine v_iload_n (pc := 10) (dk dt_X12_bound 4 rfl) rfl rfl ?_
      refine v_iconst (pc := 11) (dk dt_X12_bound 5 rfl) ⟨by decide, by decide⟩ ?_
      refine v_icmp_ne (pc := 12) (tgt := 21) (dk dt_X12_bound 6 rfl) (by decide) (fun c2 => ?_) (fun c2 => ?_)
      · refine v_iload_n (pc := 21) (dk dt_X12_bound 9 rfl) rfl rfl ?_
        refine v_iconst (pc := 22) (dk dt_X12_bound 10 rfl) ⟨by decide, by decide⟩ ?_
        refine v_icmp_ne (pc := 23) (tgt := 32) (dk dt_X12_bound 11 rfl) (by decide) (fun c3 => ?_) (fun c3 => ?_)
        · refine v_iload_n (pc := 32) (dk dt_X12_bound 14 rfl) rfl rfl ?_
          refine v_iconst (pc := 33) (dk dt_X12_bound 15 rfl) ⟨by decide, by decide⟩ ?_
          refine v_icmp_ne (pc := 34) (tgt := 43) (dk dt_X12_bound 16 rfl) (by decide) (fun c4 => ?_) (fun c4 => ?_)
          · refine v_ldc2 (pc := 43) (dk dt_X12_bound 19 rfl) co_X12_274 ⟨by decide, by decide⟩ ?_
            exact v_less2 (ls' := [none]) trivial (by have hk9 := k5; try simp only [if_neg c1] at hk9 ⊢; try simp only [if_neg c2] at hk9 ⊢; try simp only [if_neg c3] at hk9 ⊢; try simp only [if_neg c4] at hk9 ⊢; exact hk9)
          · refine v_ldc2 (pc := 37) (dk dt_X12_bound 17 rfl) co_X12_272 ⟨by decide, by decide⟩ ?_
            refine v_goto (pc := 40) (tgt := 46) (dk dt_X12_bound 18 rfl) (by decide) ?_
            exact v_less2 (ls' := [none]) trivial (by have hk9 := k5; try simp only [if_neg c1] at hk9 ⊢; try simp only [if_neg c2] at hk9 ⊢; try simp only [if_neg c3] at hk9 ⊢; try simp only [if_pos c4] at hk9 ⊢; exact hk9)
        · refine v_ldc2 (pc := 26) (dk dt_X12_bound 12 rfl) co_X12_270 ⟨by decide, by decide⟩ ?_
          refine v_goto (pc := 29) (tgt := 46) (dk dt_X12_bound 13 rfl) (by decide) ?_
          exact v_less2 (ls' := [none]) trivial (by have hk9 := k5; try simp only [if_neg c1] at hk9 ⊢; try simp only [if_neg c2] at hk9 ⊢; try simp only [if_pos c3] at hk9 ⊢; exact hk9)
      · refine v_ldc2 (pc := 15) (dk dt_X12_bound 7 rfl) co_X12_268 ⟨by decide, by decide⟩ ?_
        refine v_goto (pc := 18) (tgt := 46) (dk dt_X12_bound 8 rfl) (by decide) ?_
        exact v_less2 (ls' := [none]) trivial (by have hk9 := k5; try simp only [if_neg c1] at hk9 ⊢; try simp only [if_pos c2] at hk9 ⊢; exact hk9)
    · refine v_ldc2 (pc := 4) (dk dt_X12_bound 2 rfl) co_X12_244 ⟨by decide, by decide⟩ ?_
      refine v_goto (pc := 7) (tgt := 46) (dk dt_X12_bound 3 rfl) (by decide) ?_
      exact v_less2 (ls' := [none]) trivial (by have hk9 := k5; try simp only [if_pos c1] at hk9 ⊢; exact hk9)
  exact v_lret (pc := 46) (dk dt_X12_bound 20 rfl) rfl h
set_option maxRecDepth 20000 in
theorem i_X12_bound {E : EE} {l0 : Int} {G : Gt} {c s : Nat} {Q X : Int → Gt → Prop} (h : Q (if l0 = 0 then (1000 : Int) else (if l0 = 1 then (2000 : Int) else (if l0 = 2 then (5000 : Int) else (if l0 = 3 then (10000 : Int) else 20000)))) G) : Ok E M_X12_bound [iv l0] G c s Q X := Ok.intro (k := 0) rfl rfl (Nat.le_of_ble_eq_true rfl) rfl (b_X12_bound_0 h)
set_option maxRecDepth 20000 in
theorem b_X12_quantile_0 {E : EE} {l0 l1 : Int} {G : Gt} {c s : Nat} {Q X : Int → Gt → Prop} (h : (gcl G l0 = 13 ∧ i32 ((gfd G 12 33 l0) - 1) ∧ i32 (12 * ((gfd G 12 33 l0) - 1)) ∧ gcl G l0 = 13 ∧ gcl G l0 = 13 ∧ i32 ((gfd G 12 33 l0) - 1) ∧ gcl G (gfd G 12 29 l0) = 17 ∧ 0 ≤ ((gfd G 12 33 l0) - 1) ∧ ((gfd G 12 33 l0) - 1) < gln G (gfd G 12 29 l0) ∧ ((gel G (gfd G 12 29 l0) ((gfd G 12 33 l0) - 1)) = 0 → gcl G l0 = 13) ∧ ((gel G (gfd G 12 29 l0) ((gfd G 12 33 l0) - 1)) = 0 → gcl G l0 = 13) ∧ ((gel G (gfd G 12 29 l0) ((gfd G 12 33 l0) - 1)) = 0 → i32 ((gfd G 12 33 l0) - 1)) ∧ ((gel G (gfd G 12 29 l0) ((gfd G 12 33 l0) - 1)) = 0 → gcl G (gfd G 12 30 l0) = 15) ∧ ((gel G (gfd G 12 29 l0) ((gfd G 12 33 l0) - 1)) = 0 → 0 ≤ ((gfd G 12 33 l0) - 1)) ∧ ((gel G (gfd G 12 29 l0) ((gfd G 12 33 l0) - 1)) = 0 → ((gfd G 12 33 l0) - 1) < gln G (gfd G 12 30 l0)) ∧ V E M_X12_quantile 46 [some (rv l0), some (iv l1), some (iv (12 * ((gfd G 12 33 l0) - 1))), some (iv (if (gel G (gfd G 12 29 l0) ((gfd G 12 33 l0) - 1)) = 0 then ((gel G (gfd G 12 30 l0) ((gfd G 12 33 l0) - 1)) : Int) else 0)), some (iv 0), some (iv 0), none, none, none, none, none, none, none, none, none, none, none, none, none, none, none, none, none] [] G c s Q X)) : V E M_X12_quantile 0 [some (rv l0), some (iv l1), none, none, none, none, none, none, none, none, none, none, none, none, none, none, none, none, none, none, none, none, none] [] G c s Q X := by
  refine v_bipush (pc := 0) (dk dt_X12_quantile 0 rfl) (by decide) ⟨by decide, by decide⟩ ?_
  refine v_aload_n (pc := 2) (dk dt_X12_quantile 1 rfl) rfl rfl ?_
  obtain ⟨v1, h⟩ := h
  refine v_getI (pc := 3) (dk dt_X12_quantile 2 rfl) fl_X12_237 v1 (fun _ => ?_)
  refine v_iconst (pc := 6) (dk dt_X12_quantile 3 rfl) ⟨by decide, by decide⟩ ?_
  obtain ⟨v2, h⟩ := h
  refine v_isub (pc := 7) (dk dt_X12_quantile 4 rfl) v2 ?_
  obtain ⟨v3, h⟩ := h
  refine v_imul (pc := 8) (dk dt_X12_quantile 5 rfl) v3 ?_
  refine v_istore_n (pc := 9) (ls' := [some (rv l0), some (iv l1), some (iv (12 * ((gfd G 12 33 l0) - 1))), none, none, none, none, none, none, none, none, none, none, none, none, none, none, none, none, none, none, none, none]) (dk dt_X12_quantile 6 rfl) rfl (Nat.le_of_ble_eq_true rfl) rfl ?_
  refine v_aload_n (pc := 10) (dk dt_X12_quantile 7 rfl) rfl rfl ?_
  obtain ⟨v4, h⟩ := h
  refine v_getR (pc := 11) (dk dt_X12_quantile 8 rfl) fl_X12_78 v4 (fun _ => ?_)
  refine v_aload_n (pc := 14) (dk dt_X12_quantile 9 rfl) rfl rfl ?_
  obtain ⟨v5, h⟩ := h
  refine v_getI (pc := 15) (dk dt_X12_quantile 10 rfl) fl_X12_237 v5 (fun _ => ?_)
  refine v_iconst (pc := 18) (dk dt_X12_quantile 11 rfl) ⟨by decide, by decide⟩ ?_
  obtain ⟨v6, h⟩ := h
  refine v_isub (pc := 19) (dk dt_X12_quantile 12 rfl) v6 ?_
  obtain ⟨v7, h⟩ := h
  obtain ⟨v8, h⟩ := h
  obtain ⟨v9, h⟩ := h
  refine v_zald (pc := 20) (dk dt_X12_quantile 13 rfl) v7 v8 v9 (fun _ => ?_)
  obtain ⟨v11, v12, v13, v14, v15, v16, h⟩ := h
  suffices k17 : V E M_X12_quantile 39 [some (rv l0), some (iv l1), some (iv (12 * ((gfd G 12 33 l0) - 1))), none, none, none, none, none, none, none, none, none, none, none, none, none, none, none, none, none, none, none, none] [iv (if (gel G (gfd G 12 29 l0) ((gfd G 12 33 l0) - 1)) = 0 then ((gel G (gfd G 12 30 l0) ((gfd G 12 33 l0) - 1)) : Int) else 0)] G c s Q X by
    refine v_if_eq (pc := 21) (tgt := 28) (dk dt_X12_quantile 14 rfl) (by decide) (fun c10 => ?_) (fun c10 => ?_)
    · refine v_aload_n (pc := 28) (dk dt_X12_quantile 17 rfl) rfl rfl ?_
      refine v_getR (pc := 29) (dk dt_X12_quantile 18 rfl) fl_X12_81 (v11 c10) (fun _ => ?_)
      refine v_aload_n (pc := 32) (dk dt_X12_quantile 19 rfl) rfl rfl ?_
      refine v_getI (pc := 33) (dk dt_X12_quantile 20 rfl) fl_X12_237 (v12 c10) (fun _ => ?_)
      refine v_iconst (pc := 36) (dk dt_X12_quantile 21 rfl) ⟨by decide, by decide⟩ ?_
      refine v_isub (pc := 37) (dk dt_X12_quantile 22 rfl) (v13 c10) ?_
      refine v_iald (pc := 38) (dk dt_X12_quantile 23 rfl) (Or.inl (v14 c10)) (v15 c10) (v16 c10) (fun _ => ?_)
      exact v_less2 (ls' := [some (rv l0), some (iv l1), some (iv (12 * ((gfd G 12 33 l0) - 1))), none, none, none, none, none, none, none, none, none, none, none, none, none, none, none, none, none, none, none, none]) ⟨rfl, rfl, rfl, trivial⟩ (by have hk9 := k17; try simp only [if_pos c10] at hk9 ⊢; exact hk9)
    · refine v_iconst (pc := 24) (dk dt_X12_quantile 15 rfl) ⟨by decide, by decide⟩ ?_
      refine v_goto (pc := 25) (tgt := 39) (dk dt_X12_quantile 16 rfl) (by decide) ?_
      exact v_less2 (ls' := [some (rv l0), some (iv l1), some (iv (12 * ((gfd G 12 33 l0) - 1))), none, none, none, none, none, none, none, none, none, none, none, none, none, none, none, none, none, none, none, none]) ⟨rfl, rfl, rfl, trivial⟩ (by have hk9 := k17; try simp only [if_neg c10] at hk9 ⊢; exact hk9)
  refine v_istore_n (pc := 39) (ls' := [some (rv l0), some (iv l1), some (iv (12 * ((gfd G 12 33 l0) - 1))), some (iv (if (gel G (gfd G 12 29 l0) ((gfd G 12 33 l0) - 1)) = 0 then ((gel G (gfd G 12 30 l0) ((gfd G 12 33 l0) - 1)) : Int) else 0)), none, none, none, none, none, none, none, none, none, none, none, none, none, none, none, none, none, none, none]) (dk dt_X12_quantile 24 rfl) rfl (Nat.le_of_ble_eq_true rfl) rfl ?_
  refine v_iconst (pc := 40) (dk dt_X12_quantile 25 rfl) ⟨by decide, by decide⟩ ?_
  refine v_istore (pc := 41) (ls' := [some (rv l0), some (iv l1), some (iv (12 * ((gfd G 12 33 l0) - 1))), some (iv (if (gel G (gfd G 12 29 l0) ((gfd G 12 33 l0) - 1)) = 0 then ((gel G (gfd G 12 30 l0) ((gfd G 12 33 l0) - 1)) : Int) else 0)), some (iv 0), none, none, none, none, none, none, none, none, none, none, none, none, none, none, none, none, none, none]) (dk dt_X12_quantile 26 rfl) (Nat.le_of_ble_eq_true rfl) rfl ?_
  refine v_iconst (pc := 43) (dk dt_X12_quantile 27 rfl) ⟨by decide, by decide⟩ ?_
  refine v_istore (pc := 44) (ls' := [some (rv l0), some (iv l1), some (iv (12 * ((gfd G 12 33 l0) - 1))), some (iv (if (gel G (gfd G 12 29 l0) ((gfd G 12 33 l0) - 1)) = 0 then ((gel G (gfd G 12 30 l0) ((gfd G 12 33 l0) - 1)) : Int) else 0)), some (iv 0), some (iv 0), none, none, none, none, none, none, none, none, none, none, none, none, none, none, none, none, none]) (dk dt_X12_quantile 28 rfl) (Nat.le_of_ble_eq_true rfl) rfl ?_
  exact h
set_option maxRecDepth 20000 in
theorem i_X12_quantile {E : EE} {l0 l1 : Int} {G : Gt} {c s : Nat} {Q X : Int → Gt → Prop} (h : (gcl G l0 = 13 ∧ i32 ((gfd G 12 33 l0) - 1) ∧ i32 (12 * ((gfd G 12 33 l0) - 1)) ∧ gcl G l0 = 13 ∧ gcl G l0 = 13 ∧ i32 ((gfd G 12 33 l0) - 1) ∧ gcl G (gfd G 12 29 l0) = 17 ∧ 0 ≤ ((gfd G 12 33 l0) - 1) ∧ ((gfd G 12 33 l0) - 1) < gln G (gfd G 12 29 l0) ∧ ((gel G (gfd G 12 29 l0) ((gfd G 12 33 l0) - 1)) = 0 → gcl G l0 = 13) ∧ ((gel G (gfd G 12 29 l0) ((gfd G 12 33 l0) - 1)) = 0 → gcl G l0 = 13) ∧ ((gel G (gfd G 12 29 l0) ((gfd G 12 33 l0) - 1)) = 0 → i32 ((gfd G 12 33 l0) - 1)) ∧ ((gel G (gfd G 12 29 l0) ((gfd G 12 33 l0) - 1)) = 0 → gcl G (gfd G 12 30 l0) = 15) ∧ ((gel G (gfd G 12 29 l0) ((gfd G 12 33 l0) - 1)) = 0 → 0 ≤ ((gfd G 12 33 l0) - 1)) ∧ ((gel G (gfd G 12 29 l0) ((gfd G 12 33 l0) - 1)) = 0 → ((gfd G 12 33 l0) - 1) < gln G (gfd G 12 30 l0)) ∧ V E M_X12_quantile 46 [some (rv l0), some (iv l1), some (iv (12 * ((gfd G 12 33 l0) - 1))), some (iv (if (gel G (gfd G 12 29 l0) ((gfd G 12 33 l0) - 1)) = 0 then ((gel G (gfd G 12 30 l0) ((gfd G 12 33 l0) - 1)) : Int) else 0)), some (iv 0), some (iv 0), none, none, none, none, none, none, none, none, none, none, none, none, none, none, none, none, none] [] G c s Q X)) : Ok E M_X12_quantile [rv l0, iv l1] G c s Q X := Ok.intro (k := 21) rfl rfl (Nat.le_of_ble_eq_true rfl) rfl (b_X12_quantile_0 h)
set_option maxRecDepth 20000 in
theorem b_X12_quantile_46 {E : EE} {l0 l1 l2 l3 l4 l5 : Int} {G : Gt} {c s : Nat} {Q X : Int → Gt → Prop} (h : ((l3 ≤ l5 → (gcl G l0 = 13 ∧ gcl G l0 = 13 ∧ i32 ((gfd G 12 33 l0) - 1) ∧ gcl G (gfd G 12 29 l0) = 17 ∧ 0 ≤ ((gfd G 12 33 l0) - 1) ∧ ((gfd G 12 33 l0) - 1) < gln G (gfd G 12 29 l0) ∧ ∀ G8 : Gt, G8 = (sel G (gfd G 12 29 l0) ((gfd G 12 33 l0) - 1) 0) → gcl G8 l0 = 13 ∧ gcl G8 l0 = 13 ∧ i32 ((gfd G8 12 33 l0) - 1) ∧ gcl G8 (gfd G8 12 30 l0) = 15 ∧ 0 ≤ ((gfd G8 12 33 l0) - 1) ∧ ((gfd G8 12 33 l0) - 1) < gln G8 (gfd G8 12 30 l0) ∧ ∀ G15 : Gt, G15 = (sel G8 (gfd G8 12 30 l0) ((gfd G8 12 33 l0) - 1) l4) → V E M_X12_quantile 401 [some (rv l0), none, some (iv l2), none, some (iv l4), none, some (iv 0), none, none, none, none, none, none, none, none, none, none, none, none, none, none, none, none] [] G15 c s Q X)) ∧ (l5 < l3 → (gcl G l0 = 13 ∧ i32 (l2 + l5) ∧ gcl G (gfd G 12 31 l0) = 15 ∧ 0 ≤ (l2 + l5) ∧ (l2 + l5) < gln G (gfd G 12 31 l0) ∧ V E M_X12_quantile 73 [some (rv l0), some (iv l1), some (iv l2), some (iv l3), some (iv l4), some (iv l5), some (iv (Int.tdiv (gel G (gfd G 12 31 l0) (l2 + l5)) 10)), some (iv l5), some (jv 0), none, none, none, none, none, none, none, none, none, none, none, none, none, none] [] G c s Q X)))) : V E M_X12_quantile 46 [some (rv l0), some (iv l1), some (iv l2), some (iv l3), some (iv l4), some (iv l5), none, none, none, none, none, none, none, none, none, none, none, none, none, none, none, none, none] [] G c s Q X := by
  refine v_iload (pc := 46) (dk dt_X12_quantile 29 rfl) rfl ?_
  refine v_iload_n (pc := 48) (dk dt_X12_quantile 30 rfl) rfl rfl ?_
  refine v_icmp_ge (pc := 49) (tgt := 373) (dk dt_X12_quantile 31 rfl) (by decide) (fun c1 => ?_) (fun c1 => ?_)
  · replace h := h.1 c1
    refine v_aload_n (pc := 373) (dk dt_X12_quantile_5 6 rfl) rfl rfl ?_
    obtain ⟨v2, h⟩ := h
    refine v_getR (pc := 374) (dk dt_X12_quantile_5 7 rfl) fl_X12_78 v2 (fun _ => ?_)
    refine v_aload_n (pc := 377) (dk dt_X12_quantile_5 8 rfl) rfl rfl ?_
    obtain ⟨v3, h⟩ := h
    refine v_getI (pc := 378) (dk dt_X12_quantile_5 9 rfl) fl_X12_237 v3 (fun _ => ?_)
    refine v_iconst (pc := 381) (dk dt_X12_quantile_5 10 rfl) ⟨by decide, by decide⟩ ?_
    obtain ⟨v4, h⟩ := h
    refine v_isub (pc := 382) (dk dt_X12_quantile_5 11 rfl) v4 ?_
    refine v_iconst (pc := 383) (dk dt_X12_quantile_5 12 rfl) ⟨by decide, by decide⟩ ?_
    obtain ⟨v5, h⟩ := h
    obtain ⟨v6, h⟩ := h
    obtain ⟨v7, h⟩ := h
    refine v_zast (pc := 384) (dk dt_X12_quantile_5 13 rfl) v5 v6 v7 (Or.inl rfl) ?_
    generalize hG8 : (sel G (gfd G 12 29 l0) ((gfd G 12 33 l0) - 1) 0) = G8
    replace h := h G8 hG8.symm
    refine v_aload_n (pc := 385) (dk dt_X12_quantile_5 14 rfl) rfl rfl ?_
    obtain ⟨v9, h⟩ := h
    refine v_getR (pc := 386) (dk dt_X12_quantile_5 15 rfl) fl_X12_81 v9 (fun _ => ?_)
    refine v_aload_n (pc := 389) (dk dt_X12_quantile_5 16 rfl) rfl rfl ?_
    obtain ⟨v10, h⟩ := h
    refine v_getI (pc := 390) (dk dt_X12_quantile_5 17 rfl) fl_X12_237 v10 (fun _ => ?_)
    refine v_iconst (pc := 393) (dk dt_X12_quantile_5 18 rfl) ⟨by decide, by decide⟩ ?_
    obtain ⟨v11, h⟩ := h
    refine v_isub (pc := 394) (dk dt_X12_quantile_5 19 rfl) v11 ?_
    refine v_iload (pc := 395) (dk dt_X12_quantile_5 20 rfl) rfl ?_
    obtain ⟨v12, h⟩ := h
    obtain ⟨v13, h⟩ := h
    obtain ⟨v14, h⟩ := h
    refine v_iast (pc := 397) (dk dt_X12_quantile_5 21 rfl) v12 v13 v14 ?_
    generalize hG15 : (sel G8 (gfd G8 12 30 l0) ((gfd G8 12 33 l0) - 1) l4) = G15
    replace h := h G15 hG15.symm
    refine v_iconst (pc := 398) (dk dt_X12_quantile_5 22 rfl) ⟨by decide, by decide⟩ ?_
    refine v_istore (pc := 399) (ls' := [some (rv l0), some (iv l1), some (iv l2), some (iv l3), some (iv l4), some (iv l5), some (iv 0), none, none, none, none, none, none, none, none, none, none, none, none, none, none, none, none]) (dk dt_X12_quantile_5 23 rfl) (Nat.le_of_ble_eq_true rfl) rfl ?_
    exact v_less2 (ls' := [some (rv l0), none, some (iv l2), none, some (iv l4), none, some (iv 0), none, none, none, none, none, none, none, none, none, none, none, none, none, none, none, none]) ⟨rfl, rfl, rfl, rfl, trivial⟩ h
  · replace h := h.2 c1
    refine v_aload_n (pc := 52) (dk dt_X12_quantile 32 rfl) rfl rfl ?_
    obtain ⟨v16, h⟩ := h
    refine v_getR (pc := 53) (dk dt_X12_quantile 33 rfl) fl_X12_84 v16 (fun _ => ?_)
    refine v_iload_n (pc := 56) (dk dt_X12_quantile 34 rfl) rfl rfl ?_
    refine v_iload (pc := 57) (dk dt_X12_quantile 35 rfl) rfl ?_
    obtain ⟨v17, h⟩ := h
    refine v_iadd (pc := 59) (dk dt_X12_quantile 36 rfl) v17 ?_
    obtain ⟨v18, h⟩ := h
    obtain ⟨v19, h⟩ := h
    obtain ⟨v20, h⟩ := h
    refine v_iald (pc := 60) (dk dt_X12_quantile 37 rfl) (Or.inl v18) v19 v20 (fun _ => ?_)
    refine v_bipush (pc := 61) (dk dt_X12_quantile 38 rfl) (by decide) ⟨by decide, by decide⟩ ?_
    refine v_idivP (pc := 63) (dk dt_X12_quantile 39 rfl) (by decide) ?_
    refine v_istore (pc := 64) (ls' := [some (rv l0), some (iv l1), some (iv l2), some (iv l3), some (iv l4), some (iv l5), some (iv (Int.tdiv (gel G (gfd G 12 31 l0) (l2 + l5)) 10)), none, none, none, none, none, none, none, none, none, none, none, none, none, none, none, none]) (dk dt_X12_quantile_1 0 rfl) (Nat.le_of_ble_eq_true rfl) rfl ?_
    refine v_iload (pc := 66) (dk dt_X12_quantile_1 1 rfl) rfl ?_
    refine v_istore (pc := 68) (ls' := [some (rv l0), some (iv l1), some (iv l2), some (iv l3), some (iv l4), some (iv l5), some (iv (Int.tdiv (gel G (gfd G 12 31 l0) (l2 + l5)) 10)), some (iv l5), none, none, none, none, none, none, none, none, none, none, none, none, none, none, none]) (dk dt_X12_quantile_1 2 rfl) (Nat.le_of_ble_eq_true rfl) rfl ?_
    refine v_lconst (x := 0) (pc := 70) (dk dt_X12_quantile_1 3 rfl) (by decide) ⟨by decide, by decide⟩ ?_
    refine v_lstore (pc := 71) (ls' := [some (rv l0), some (iv l1), some (iv l2), some (iv l3), some (iv l4), some (iv l5), some (iv (Int.tdiv (gel G (gfd G 12 31 l0) (l2 + l5)) 10)), some (iv l5), some (jv 0), none, none, none, none, none, none, none, none, none, none, none, none, none, none]) (dk dt_X12_quantile_1 4 rfl) (Nat.le_of_ble_eq_true rfl) rfl ?_
    exact h
set_option maxRecDepth 20000 in
theorem b_X12_quantile_73 {E : EE} {l0 l1 l2 l3 l4 l5 l6 l7 l8 : Int} {G : Gt} {c s : Nat} {Q X : Int → Gt → Prop} (h : (∀ J1 : Prop, ((i64 (l1 * l8) ∧ V E M_X12_quantile 188 [some (rv l0), some (iv l1), some (iv l2), some (iv l3), some (iv l4), none, some (iv l6), some (iv l7), some (jv l8), none, some (jv (Int.tdiv (l1 * l8) 1000)), none, some (jv 0), none, some (jv 0), none, some (jv (-1)), none, some (iv l5), none, none, none, none] [] G c s Q X) → J1) → ((l3 ≤ l7 → J1) ∧ (l7 < l3 → (gcl G l0 = 13 ∧ i32 (l2 + l7) ∧ gcl G (gfd G 12 31 l0) = 15 ∧ 0 ≤ (l2 + l7) ∧ (l2 + l7) < gln G (gfd G 12 31 l0) ∧ (((Int.tdiv (gel G (gfd G 12 31 l0) (l2 + l7)) 10) ≠ l6 → J1) ∧ ((Int.tdiv (gel G (gfd G 12 31 l0) (l2 + l7)) 10) = l6 → (gcl G l0 = 13 ∧ i32 (l2 + l7) ∧ gcl G (gfd G 12 31 l0) = 15 ∧ 0 ≤ (l2 + l7) ∧ (l2 + l7) < gln G (gfd G 12 31 l0) ∧ ((if 6 ≤ (Int.tmod (gel G (gfd G 12 31 l0) (l2 + l7)) 10) then (0 : Int) else 1) ≠ 0 → gcl G l0 = 13) ∧ ((if 6 ≤ (Int.tmod (gel G (gfd G 12 31 l0) (l2 + l7)) 10) then (0 : Int) else 1) ≠ 0 → i32 (l2 + l7)) ∧ ((if 6 ≤ (Int.tmod (gel G (gfd G 12 31 l0) (l2 + l7)) 10) then (0 : Int) else 1) ≠ 0 → gcl G (gfd G 12 32 l0) = 16) ∧ ((if 6 ≤ (Int.tmod (gel G (gfd G 12 31 l0) (l2 + l7)) 10) then (0 : Int) else 1) ≠ 0 → 0 ≤ (l2 + l7)) ∧ ((if 6 ≤ (Int.tmod (gel G (gfd G 12 31 l0) (l2 + l7)) 10) then (0 : Int) else 1) ≠ 0 → (l2 + l7) < gln G (gfd G 12 32 l0)) ∧ ((if 6 ≤ (Int.tmod (gel G (gfd G 12 31 l0) (l2 + l7)) 10) then (0 : Int) else 1) ≠ 0 → l8 < (gel G (gfd G 12 32 l0) (l2 + l7)) → gcl G l0 = 13) ∧ ((if 6 ≤ (Int.tmod (gel G (gfd G 12 31 l0) (l2 + l7)) 10) then (0 : Int) else 1) ≠ 0 → l8 < (gel G (gfd G 12 32 l0) (l2 + l7)) → i32 (l2 + l7)) ∧ ((if 6 ≤ (Int.tmod (gel G (gfd G 12 31 l0) (l2 + l7)) 10) then (0 : Int) else 1) ≠ 0 → l8 < (gel G (gfd G 12 32 l0) (l2 + l7)) → gcl G (gfd G 12 32 l0) = 16) ∧ ((if 6 ≤ (Int.tmod (gel G (gfd G 12 31 l0) (l2 + l7)) 10) then (0 : Int) else 1) ≠ 0 → l8 < (gel G (gfd G 12 32 l0) (l2 + l7)) → 0 ≤ (l2 + l7)) ∧ ((if 6 ≤ (Int.tmod (gel G (gfd G 12 31 l0) (l2 + l7)) 10) then (0 : Int) else 1) ≠ 0 → l8 < (gel G (gfd G 12 32 l0) (l2 + l7)) → (l2 + l7) < gln G (gfd G 12 32 l0)) ∧ i32 (l7 + 1) ∧ V E M_X12_quantile 73 [some (rv l0), some (iv l1), some (iv l2), some (iv l3), some (iv l4), some (iv l5), some (iv l6), some (iv (l7 + 1)), some (jv (if (if 6 ≤ (Int.tmod (gel G (gfd G 12 31 l0) (l2 + l7)) 10) then (0 : Int) else 1) = 0 then (l8 : Int) else (if (gel G (gfd G 12 32 l0) (l2 + l7)) ≤ l8 then (l8 : Int) else (gel G (gfd G 12 32 l0) (l2 + l7))))), none, none, none, none, none, none, none, none, none, none, none, none, none, none] [] G c s Q X)))))))) : V E M_X12_quantile 73 [some (rv l0), some (iv l1), some (iv l2), some (iv l3), some (iv l4), some (iv l5), some (iv l6), some (iv l7), some (jv l8), none, none, none, none, none, none, none, none, none, none, none, none, none, none] [] G c s Q X := by
  refine v_iload (pc := 73) (dk dt_X12_quantile_1 5 rfl) rfl ?_
  refine v_iload_n (pc := 75) (dk dt_X12_quantile_1 6 rfl) rfl rfl ?_
  obtain ⟨J1, dJ1⟩ : ∃ J9 : Prop, J9 = V E M_X12_quantile 162 [some (rv l0), some (iv l1), some (iv l2), some (iv l3), some (iv l4), some (iv l5), some (iv l6), some (iv l7), some (jv l8), none, none, none, none, none, none, none, none, none, none, none, none, none, none] [] G c s Q X := ⟨_, rfl⟩
  have hJ1 : (i64 (l1 * l8) ∧ V E M_X12_quantile 188 [some (rv l0), some (iv l1), some (iv l2), some (iv l3), some (iv l4), none, some (iv l6), some (iv l7), some (jv l8), none, some (jv (Int.tdiv (l1 * l8) 1000)), none, some (jv 0), none, some (jv 0), none, some (jv (-1)), none, some (iv l5), none, none, none, none] [] G c s Q X) → J1 := by
    intro h
    rw [dJ1]
    refine v_iload_n (pc := 162) (dk dt_X12_quantile_2 14 rfl) rfl rfl ?_
    refine v_i2l (pc := 163) (dk dt_X12_quantile_2 15 rfl) ?_
    refine v_lload (pc := 164) (dk dt_X12_quantile_2 16 rfl) rfl ?_
    obtain ⟨v2, h⟩ := h
    refine v_lmul (pc := 166) (dk dt_X12_quantile_2 17 rfl) v2 ?_
    refine v_ldc2 (pc := 167) (dk dt_X12_quantile_2 18 rfl) co_X12_244 ⟨by decide, by decide⟩ ?_
    refine v_ldivP (pc := 170) (dk dt_X12_quantile_2 19 rfl) (by decide) ?_
    refine v_lstore (pc := 171) (ls' := [some (rv l0), some (iv l1), some (iv l2), some (iv l3), some (iv l4), some (iv l5), some (iv l6), some (iv l7), some (jv l8), none, some (jv (Int.tdiv (l1 * l8) 1000)), none, none, none, none, none, none, none, none, none, none, none, none]) (dk dt_X12_quantile_2 20 rfl) (Nat.le_of_ble_eq_true rfl) rfl ?_
    refine v_lconst (x := 0) (pc := 173) (dk dt_X12_quantile_2 21 rfl) (by decide) ⟨by decide, by decide⟩ ?_
    refine v_lstore (pc := 174) (ls' := [some (rv l0), some (iv l1), some (iv l2), some (iv l3), some (iv l4), some (iv l5), some (iv l6), some (iv l7), some (jv l8), none, some (jv (Int.tdiv (l1 * l8) 1000)), none, some (jv 0), none, none, none, none, none, none, none, none, none, none]) (dk dt_X12_quantile_2 22 rfl) (Nat.le_of_ble_eq_true rfl) rfl ?_
    refine v_lconst (x := 0) (pc := 176) (dk dt_X12_quantile_2 23 rfl) (by decide) ⟨by decide, by decide⟩ ?_
    refine v_lstore (pc := 177) (ls' := [some (rv l0), some (iv l1), some (iv l2), some (iv l3), some (iv l4), some (iv l5), some (iv l6), some (iv l7), some (jv l8), none, some (jv (Int.tdiv (l1 * l8) 1000)), none, some (jv 0), none, some (jv 0), none, none, none, none, none, none, none, none]) (dk dt_X12_quantile_2 24 rfl) (Nat.le_of_ble_eq_true rfl) rfl ?_
    refine v_ldc2 (pc := 179) (dk dt_X12_quantile_2 25 rfl) co_X12_276 ⟨by decide, by decide⟩ ?_
    refine v_lstore (pc := 182) (ls' := [some (rv l0), some (iv l1), some (iv l2), some (iv l3), some (iv l4), some (iv l5), some (iv l6), some (iv l7), some (jv l8), none, some (jv (Int.tdiv (l1 * l8) 1000)), none, some (jv 0), none, some (jv 0), none, some (jv (-1)), none, none, none, none, none, none]) (dk dt_X12_quantile_2 26 rfl) (Nat.le_of_ble_eq_true rfl) rfl ?_
    refine v_iload (pc := 184) (dk dt_X12_quantile_2 27 rfl) rfl ?_
    refine v_istore (pc := 186) (ls' := [some (rv l0), some (iv l1), some (iv l2), some (iv l3), some (iv l4), some (iv l5), some (iv l6), some (iv l7), some (jv l8), none, some (jv (Int.tdiv (l1 * l8) 1000)), none, some (jv 0), none, some (jv 0), none, some (jv (-1)), none, some (iv l5), none, none, none, none]) (dk dt_X12_quantile_2 28 rfl) (Nat.le_of_ble_eq_true rfl) rfl ?_
    exact v_less2 (ls' := [some (rv l0), some (iv l1), some (iv l2), some (iv l3), some (iv l4), none, some (iv l6), some (iv l7), some (jv l8), none, some (jv (Int.tdiv (l1 * l8) 1000)), none, some (jv 0), none, some (jv 0), none, some (jv (-1)), none, some (iv l5), none, none, none, none]) ⟨rfl, rfl, rfl, rfl, rfl, rfl, rfl, rfl, rfl, rfl, rfl, rfl, rfl, trivial⟩ h
  replace h := h _ hJ1
  refine v_icmp_ge (pc := 76) (tgt := 162) (dk dt_X12_quantile_1 7 rfl) (by decide) (fun c3 => ?_) (fun c3 => ?_)
  · replace h := h.1 c3
    rw [dJ1] at h
    exact h
  · replace h := h.2 c3
    refine v_aload_n (pc := 79) (dk dt_X12_quantile_1 8 rfl) rfl rfl ?_
    obtain ⟨v4, h⟩ := h
    refine v_getR (pc := 80) (dk dt_X12_quantile_1 9 rfl) fl_X12_84 v4 (fun _ => ?_)
    refine v_iload_n (pc := 83) (dk dt_X12_quantile_1 10 rfl) rfl rfl ?_
    refine v_iload (pc := 84) (dk dt_X12_quantile_1 11 rfl) rfl ?_
    obtain ⟨v5, h⟩ := h
    refine v_iadd (pc := 86) (dk dt_X12_quantile_1 12 rfl) v5 ?_
    obtain ⟨v6, h⟩ := h
    obtain ⟨v7, h⟩ := h
    obtain ⟨v8, h⟩ := h
    refine v_iald (pc := 87) (dk dt_X12_quantile_1 13 rfl) (Or.inl v6) v7 v8 (fun _ => ?_)
    refine v_bipush (pc := 88) (dk dt_X12_quantile_1 14 rfl) (by decide) ⟨by decide, by decide⟩ ?_
    refine v_idivP (pc := 90) (dk dt_X12_quantile_1 15 rfl) (by decide) ?_
    refine v_iload (pc := 91) (dk dt_X12_quantile_1 16 rfl) rfl ?_
    refine v_icmp_ne (pc := 93) (tgt := 162) (dk dt_X12_quantile_1 17 rfl) (by decide) (fun c9 => ?_) (fun c9 => ?_)
    · replace h := h.1 c9
      rw [dJ1] at h
      exact h
    · replace h := h.2 c9
      refine v_aload_n (pc := 96) (dk dt_X12_quantile_1 18 rfl) rfl rfl ?_
      obtain ⟨v10, h⟩ := h
      refine v_getR (pc := 97) (dk dt_X12_quantile_1 19 rfl) fl_X12_84 v10 (fun _ => ?_)
      refine v_iload_n (pc := 100) (dk dt_X12_quantile_1 20 rfl) rfl rfl ?_
      refine v_iload (pc := 101) (dk dt_X12_quantile_1 21 rfl) rfl ?_
      obtain ⟨v11, h⟩ := h
      refine v_iadd (pc := 103) (dk dt_X12_quantile_1 22 rfl) v11 ?_
      obtain ⟨v12, h⟩ := h
      obtain ⟨v13, h⟩ := h
      obtain ⟨v14, h⟩ := h
      refine v_iald (pc := 104) (dk dt_X12_quantile_1 23 rfl) (Or.inl v12) v13 v14 (fun _ => ?_)
      refine v_bipush (pc := 105) (dk dt_X12_quantile_1 24 rfl) (by decide) ⟨by decide, by decide⟩ ?_
      refine v_iremP (pc := 107) (dk dt_X12_quantile_1 25 rfl) (by decide) ?_
      refine v_bipush (pc := 108) (dk dt_X12_quantile_1 26 rfl) (by decide) ⟨by decide, by decide⟩ ?_
      suffices k29 : V E M_X12_quantile 118 [some (rv l0), some (iv l1), some (iv l2), some (iv l3), some (iv l4), some (iv l5), some (iv l6), some (iv l7), some (jv l8), none, none, none, none, none, none, none, none, none, none, none, none, none, none] [iv (if 6 ≤ (Int.tmod (gel G (gfd G 12 31 l0) (l2 + l7)) 10) then (0 : Int) else 1)] G c s Q X by
        refine v_icmp_ge (pc := 110) (tgt := 117) (dk dt_X12_quantile_1 27 rfl) (by decide) (fun c15 => ?_) (fun c15 => ?_)
        · refine v_iconst (pc := 117) (dk dt_X12_quantile_1 30 rfl) ⟨by decide, by decide⟩ ?_
          exact v_less2 (ls' := [some (rv l0), some (iv l1), some (iv l2), some (iv l3), some (iv l4), some (iv l5), some (iv l6), some (iv l7), some (jv l8), none, none, none, none, none, none, none, none, none, none, none, none, none, none]) ⟨rfl, rfl, rfl, rfl, rfl, rfl, rfl, rfl, rfl, trivial⟩ (by have hk9 := k29; try simp only [if_pos c15] at hk9 ⊢; exact hk9)
        · refine v_iconst (pc := 113) (dk dt_X12_quantile_1 28 rfl) ⟨by decide, by decide⟩ ?_
          refine v_goto (pc := 114) (tgt := 118) (dk dt_X12_quantile_1 29 rfl) (by decide) ?_
          exact v_less2 (ls' := [some (rv l0), some (iv l1), some (iv l2), some (iv l3), some (iv l4), some (iv l5), some (iv l6), some (iv l7), some (jv l8), none, none, none, none, none, none, none, none, none, none, none, none, none, none]) ⟨rfl, rfl, rfl, rfl, rfl, rfl, rfl, rfl, rfl, trivial⟩ (by have hk9 := k29; try simp only [if_neg (Int.not_le.mpr c15)] at hk9 ⊢; exact hk9)
      refine v_istore (pc := 118) (ls' := [some (rv l0), some (iv l1), some (iv l2), some (iv l3), some (iv l4), some (iv l5), some (iv l6), some (iv l7), some (jv l8), none, some (iv (if 6 ≤ (Int.tmod (gel G (gfd G 12 31 l0) (l2 + l7)) 10) then (0 : Int) else 1)), none, none, none, none, none, none, none, none, none, none, none, none]) (dk dt_X12_quantile_1 31 rfl) (Nat.le_of_ble_eq_true rfl) rfl ?_
      refine v_iload (pc := 120) (dk dt_X12_quantile_1 32 rfl) rfl ?_
      obtain ⟨v17, v18, v19, v20, v21, v23, v24, v25, v26, v27, h⟩ := h
      suffices k30 : V E M_X12_quantile 154 [some (rv l0), some (iv l1), some (iv l2), some (iv l3), some (iv l4), some (iv l5), some (iv l6), some (iv l7), none, none, none, none, none, none, none, none, none, none, none, none, none, none, none] [jv (if (if 6 ≤ (Int.tmod (gel G (gfd G 12 31 l0) (l2 + l7)) 10) then (0 : Int) else 1) = 0 then (l8 : Int) else (if (gel G (gfd G 12 32 l0) (l2 + l7)) ≤ l8 then (l8 : Int) else (gel G (gfd G 12 32 l0) (l2 + l7))))] G c s Q X by
        refine v_if_eq (pc := 122) (tgt := 152) (dk dt_X12_quantile_1 33 rfl) (by decide) (fun c16 => ?_) (fun c16 => ?_)
        · refine v_lload (pc := 152) (dk dt_X12_quantile_2 10 rfl) rfl ?_
          exact v_less2 (ls' := [some (rv l0), some (iv l1), some (iv l2), some (iv l3), some (iv l4), some (iv l5), some (iv l6), some (iv l7), none, none, none, none, none, none, none, none, none, none, none, none, none, none, none]) ⟨rfl, rfl, rfl, rfl, rfl, rfl, rfl, rfl, trivial⟩ (by have hk9 := k30; try simp only [if_pos c16] at hk9 ⊢; exact hk9)
        · refine v_aload_n (pc := 125) (dk dt_X12_quantile_1 34 rfl) rfl rfl ?_
          refine v_getR (pc := 126) (dk dt_X12_quantile_1 35 rfl) fl_X12_87 (v17 c16) (fun _ => ?_)
          refine v_iload_n (pc := 129) (dk dt_X12_quantile_1 36 rfl) rfl rfl ?_
          refine v_iload (pc := 130) (dk dt_X12_quantile_1 37 rfl) rfl ?_
          refine v_iadd (pc := 132) (dk dt_X12_quantile_1 38 rfl) (v18 c16) ?_
          refine v_lald (pc := 133) (dk dt_X12_quantile_1 39 rfl) (v19 c16) (v20 c16) (v21 c16) (fun _ => ?_)
          refine v_lload (pc := 134) (dk dt_X12_quantile_2 0 rfl) rfl ?_
          refine v_lcmp_le (pc := 136) (tgt := 152) (dk dt_X12_quantile_2 1 rfl) (dk dt_X12_quantile_2 2 rfl) (by decide) (fun c22 => ?_) (fun c22 => ?_)
          · refine v_lload (pc := 152) (dk dt_X12_quantile_2 10 rfl) rfl ?_
            exact v_less2 (ls' := [some (rv l0), some (iv l1), some (iv l2), some (iv l3), some (iv l4), some (iv l5), some (iv l6), some (iv l7), none, none, none, none, none, none, none, none, none, none, none, none, none, none, none]) ⟨rfl, rfl, rfl, rfl, rfl, rfl, rfl, rfl, trivial⟩ (by have hk9 := k30; try simp only [if_neg c16] at hk9 ⊢; try simp only [if_pos c22] at hk9 ⊢; exact hk9)
          · refine v_aload_n (pc := 140) (dk dt_X12_quantile_2 3 rfl) rfl rfl ?_
            refine v_getR (pc := 141) (dk dt_X12_quantile_2 4 rfl) fl_X12_87 (v23 c16 c22) (fun _ => ?_)
            refine v_iload_n (pc := 144) (dk dt_X12_quantile_2 5 rfl) rfl rfl ?_
            refine v_iload (pc := 145) (dk dt_X12_quantile_2 6 rfl) rfl ?_
            refine v_iadd (pc := 147) (dk dt_X12_quantile_2 7 rfl) (v24 c16 c22) ?_
            refine v_lald (pc := 148) (dk dt_X12_quantile_2 8 rfl) (v25 c16 c22) (v26 c16 c22) (v27 c16 c22) (fun _ => ?_)
            refine v_goto (pc := 149) (tgt := 154) (dk dt_X12_quantile_2 9 rfl) (by decide) ?_
            exact v_less2 (ls' := [some (rv l0), some (iv l1), some (iv l2), some (iv l3), some (iv l4), some (iv l5), some (iv l6), some (iv l7), none, none, none, none, none, none, none, none, none, none, none, none, none, none, none]) ⟨rfl, rfl, rfl, rfl, rfl, rfl, rfl, rfl, trivial⟩ (by have hk9 := k30; try simp only [if_neg c16] at hk9 ⊢; try simp only [if_neg (Int.not_le.mpr c22)] at hk9 ⊢; exact hk9)
      refine v_lstore (pc := 154) (ls' := [some (rv l0), some (iv l1), some (iv l2), some (iv l3), some (iv l4), some (iv l5), some (iv l6), some (iv l7), some (jv (if (if 6 ≤ (Int.tmod (gel G (gfd G 12 31 l0) (l2 + l7)) 10) then (0 : Int) else 1) = 0 then (l8 : Int) else (if (gel G (gfd G 12 32 l0) (l2 + l7)) ≤ l8 then (l8 : Int) else (gel G (gfd G 12 32 l0) (l2 + l7))))), none, none, none, none, none, none, none, none, none, none, none, none, none, none]) (dk dt_X12_quantile_2 11 rfl) (Nat.le_of_ble_eq_true rfl) rfl ?_
      obtain ⟨v28, h⟩ := h
      refine v_iinc (pc := 156) (ls' := [some (rv l0), some (iv l1), some (iv l2), some (iv l3), some (iv l4), some (iv l5), some (iv l6), some (iv (l7 + 1)), some (jv (if (if 6 ≤ (Int.tmod (gel G (gfd G 12 31 l0) (l2 + l7)) 10) then (0 : Int) else 1) = 0 then (l8 : Int) else (if (gel G (gfd G 12 32 l0) (l2 + l7)) ≤ l8 then (l8 : Int) else (gel G (gfd G 12 32 l0) (l2 + l7))))), none, none, none, none, none, none, none, none, none, none, none, none, none, none]) (dk dt_X12_quantile_2 12 rfl) (Nat.le_of_ble_eq_true rfl) rfl v28 rfl ?_
      refine v_goto (pc := 159) (tgt := 73) (dk dt_X12_quantile_2 13 rfl) (by decide) ?_
      exact h
set_option maxRecDepth 20000 in
theorem b_X12_quantile_188 {E : EE} {l0 l1 l2 l3 l4 l6 l7 l8 l10 l12 l14 l16 l18 : Int} {G : Gt} {c s : Nat} {Q X : Int → Gt → Prop} (h : (∀ J1 : Prop, (((l16 < 0 → V E M_X12_quantile 46 [some (rv l0), some (iv l1), some (iv l2), some (iv l3), some (iv l4), some (iv l7), none, none, none, none, none, none, none, none, none, none, none, none, none, none, none, none, none] [] G c s Q X) ∧ (0 ≤ l16 → (gcl G l0 = 13 ∧ gcl G (gfd G 12 49 l0) = 16 ∧ 0 ≤ l4 ∧ l4 < gln G (gfd G 12 49 l0) ∧ ∀ G7 : Gt, G7 = (sel G (gfd G 12 49 l0) l4 l16) → gcl G7 l0 = 13 ∧ i32 (10 * l6) ∧ i32 ((10 * l6) + 6) ∧ gcl G7 (gfd G7 12 50 l0) = 15 ∧ 0 ≤ l4 ∧ l4 < gln G7 (gfd G7 12 50 l0) ∧ ∀ G14 : Gt, G14 = (sel G7 (gfd G7 12 50 l0) l4 ((10 * l6) + 6)) → i32 (l4 + 1) ∧ V E M_X12_quantile 46 [some (rv l0), some (iv l1), some (iv l2), some (iv l3), some (iv (l4 + 1)), some (iv l7), none, none, none, none, none, none, none, none, none, none, none, none, none, none, none, none, none] [] G14 c s Q X))) → J1) → ((l7 ≤ l18 → J1) ∧ (l18 < l7 → ((0 ≤ l16 → J1) ∧ (l16 < 0 → ((l8 ≤ 0 → J1) ∧ (0 < l8 → (gcl G l0 = 13 ∧ i32 (l2 + l18) ∧ gcl G (gfd G 12 31 l0) = 15 ∧ 0 ≤ (l2 + l18) ∧ (l2 + l18) < gln G (gfd G 12 31 l0) ∧ gcl G l0 = 13 ∧ i32 (l2 + l18) ∧ gcl G (gfd G 12 32 l0) = 16 ∧ 0 ≤ (l2 + l18) ∧ (l2 + l18) < gln G (gfd G 12 32 l0) ∧ ((Int.tmod (gel G (gfd G 12 31 l0) (l2 + l18)) 10) < 6 → (gel G (gfd G 12 32 l0) (l2 + l18)) < l10 → OkP E M_X12_bound [iv (Int.tmod (gel G (gfd G 12 31 l0) (l2 + l18)) 10)] G (mBound (Int.tmod (gel G (gfd G 12 31 l0) (l2 + l18)) 10))) ∧ ((Int.tmod (gel G (gfd G 12 31 l0) (l2 + l18)) 10) < 6 → l10 ≤ (gel G (gfd G 12 32 l0) (l2 + l18)) → (Int.tmod (gel G (gfd G 12 31 l0) (l2 + l18)) 10) ≠ 5 → (gel G (gfd G 12 32 l0) (l2 + l18)) ≠ l12 → OkP E M_X12_bound [iv (Int.tmod (gel G (gfd G 12 31 l0) (l2 + l18)) 10)] G (mBound (Int.tmod (gel G (gfd G 12 31 l0) (l2 + l18)) 10))) ∧ ((Int.tmod (gel G (gfd G 12 31 l0) (l2 + l18)) 10) < 6 → l10 ≤ (gel G (gfd G 12 32 l0) (l2 + l18)) → (Int.tmod (gel G (gfd G 12 31 l0) (l2 + l18)) 10) ≠ 5 → (gel G (gfd G 12 32 l0) (l2 + l18)) ≠ l12 → i64 ((mBound (Int.tmod (gel G (gfd G 12 31 l0) (l2 + l18)) 10)) - l14)) ∧ ((Int.tmod (gel G (gfd G 12 31 l0) (l2 + l18)) 10) < 6 → l10 ≤ (gel G (gfd G 12 32 l0) (l2 + l18)) → (Int.tmod (gel G (gfd G 12 31 l0) (l2 + l18)) 10) ≠ 5 → (gel G (gfd G 12 32 l0) (l2 + l18)) ≠ l12 → i64 (l10 - l12)) ∧ ((Int.tmod (gel G (gfd G 12 31 l0) (l2 + l18)) 10) < 6 → l10 ≤ (gel G (gfd G 12 32 l0) (l2 + l18)) → (Int.tmod (gel G (gfd G 12 31 l0) (l2 + l18)) 10) ≠ 5 → (gel G (gfd G 12 32 l0) (l2 + l18)) ≠ l12 → i64 (((mBound (Int.tmod (gel G (gfd G 12 31 l0) (l2 + l18)) 10)) - l14) * (l10 - l12))) ∧ ((Int.tmod (gel G (gfd G 12 31 l0) (l2 + l18)) 10) < 6 → l10 ≤ (gel G (gfd G 12 32 l0) (l2 + l18)) → (Int.tmod (gel G (gfd G 12 31 l0) (l2 + l18)) 10) ≠ 5 → (gel G (gfd G 12 32 l0) (l2 + l18)) ≠ l12 → i64 ((gel G (gfd G 12 32 l0) (l2 + l18)) - l12)) ∧ ((Int.tmod (gel G (gfd G 12 31 l0) (l2 + l18)) 10) < 6 → l10 ≤ (gel G (gfd G 12 32 l0) (l2 + l18)) → (Int.tmod (gel G (gfd G 12 31 l0) (l2 + l18)) 10) ≠ 5 → (gel G (gfd G 12 32 l0) (l2 + l18)) ≠ l12 → ((gel G (gfd G 12 32 l0) (l2 + l18)) - l12) ≠ 0) ∧ ((Int.tmod (gel G (gfd G 12 31 l0) (l2 + l18)) 10) < 6 → l10 ≤ (gel G (gfd G 12 32 l0) (l2 + l18)) → (Int.tmod (gel G (gfd G 12 31 l0) (l2 + l18)) 10) ≠ 5 → (gel G (gfd G 12 32 l0) (l2 + l18)) ≠ l12 → i64 (Int.tdiv (((mBound (Int.tmod (gel G (gfd G 12 31 l0) (l2 + l18)) 10)) - l14) * (l10 - l12)) ((gel G (gfd G 12 32 l0) (l2 + l18)) - l12))) ∧ ((Int.tmod (gel G (gfd G 12 31 l0) (l2 + l18)) 10) < 6 → l10 ≤ (gel G (gfd G 12 32 l0) (l2 + l18)) → (Int.tmod (gel G (gfd G 12 31 l0) (l2 + l18)) 10) ≠ 5 → (gel G (gfd G 12 32 l0) (l2 + l18)) ≠ l12 → i64 (l14 + (Int.tdiv (((mBound (Int.tmod (gel G (gfd G 12 31 l0) (l2 + l18)) 10)) - l14) * (l10 - l12)) ((gel G (gfd G 12 32 l0) (l2 + l18)) - l12)))) ∧ i32 (l18 + 1) ∧ V E M_X12_quantile 188 [some (rv l0), some (iv l1), some (iv l2), some (iv l3), some (iv l4), none, some (iv l6), some (iv l7), some (jv l8), none, some (jv l10), none, some (jv (if 6 ≤ (Int.tmod (gel G (gfd G 12 31 l0) (l2 + l18)) 10) then (l12 : Int) else (if (gel G (gfd G 12 32 l0) (l2 + l18)) < l10 then ((gel G (gfd G 12 32 l0) (l2 + l18)) : Int) else l12))), none, some (jv (if 6 ≤ (Int.tmod (gel G (gfd G 12 31 l0) (l2 + l18)) 10) then (l14 : Int) else (if (gel G (gfd G 12 32 l0) (l2 + l18)) < l10 then ((mBound (Int.tmod (gel G (gfd G 12 31 l0) (l2 + l18)) 10)) : Int) else l14))), none, some (jv (if 6 ≤ (Int.tmod (gel G (gfd G 12 31 l0) (l2 + l18)) 10) then (l16 : Int) else (if (gel G (gfd G 12 32 l0) (l2 + l18)) < l10 then (l16 : Int) else (if (Int.tmod (gel G (gfd G 12 31 l0) (l2 + l18)) 10) = 5 then (l14 : Int) else (if (gel G (gfd G 12 32 l0) (l2 + l18)) = l12 then (l14 : Int) else (l14 + (Int.tdiv (((mBound (Int.tmod (gel G (gfd G 12 31 l0) (l2 + l18)) 10)) - l14) * (l10 - l12)) ((gel G (gfd G 12 32 l0) (l2 + l18)) - l12)))))))), none, some (iv (l18 + 1)), none, none, none, none] [] G c s Q X))))))))) : V E M_X12_quantile 188 [some (rv l0), some (iv l1), some (iv l2), some (iv l3), some (iv l4), none, some (iv l6), some (iv l7), some (jv l8), none, some (jv l10), none, some (jv l12), none, some (jv l14), none, some (jv l16), none, some (iv l18), none, none, none, none] [] G c s Q X := by
  refine v_iload (pc := 188) (dk dt_X12_quantile_2 29 rfl) rfl ?_
  refine v_iload (pc := 190) (dk dt_X12_quantile_2 30 rfl) rfl ?_
  obtain ⟨J1, dJ1⟩ : ∃ J9 : Prop, J9 = V E M_X12_quantile 332 [some (rv l0), some (iv l1), some (iv l2), some (iv l3), some (iv l4), none, some (iv l6), some (iv l7), none, none, none, none, none, none, none, none, some (jv l16), none, none, none, none, none, none] [] G c s Q X := ⟨_, rfl⟩
  have hJ1 : ((l16 < 0 → V E M_X12_quantile 46 [some (rv l0), some (iv l1), some (iv l2), some (iv l3), some (iv l4), some (iv l7), none, none, none, none, none, none, none, none, none, none, none, none, none, none, none, none, none] [] G c s Q X) ∧ (0 ≤ l16 → (gcl G l0 = 13 ∧ gcl G (gfd G 12 49 l0) = 16 ∧ 0 ≤ l4 ∧ l4 < gln G (gfd G 12 49 l0) ∧ ∀ G7 : Gt, G7 = (sel G (gfd G 12 49 l0) l4 l16) → gcl G7 l0 = 13 ∧ i32 (10 * l6) ∧ i32 ((10 * l6) + 6) ∧ gcl G7 (gfd G7 12 50 l0) = 15 ∧ 0 ≤ l4 ∧ l4 < gln G7 (gfd G7 12 50 l0) ∧ ∀ G14 : Gt, G14 = (sel G7 (gfd G7 12 50 l0) l4 ((10 * l6) + 6)) → i32 (l4 + 1) ∧ V E M_X12_quantile 46 [some (rv l0), some (iv l1), some (iv l2), some (iv l3), some (iv (l4 + 1)), some (iv l7), none, none, none, none, none, none, none, none, none, none, none, none, none, none, none, none, none] [] G14 c s Q X))) → J1 := by
    intro h
    rw [dJ1]
    refine v_lload (pc := 332) (dk dt_X12_quantile_4 24 rfl) rfl ?_
    refine v_lconst (x := 0) (pc := 334) (dk dt_X12_quantile_4 25 rfl) (by decide) ⟨by decide, by decide⟩ ?_
    refine v_lcmp_lt (pc := 335) (tgt := 366) (dk dt_X12_quantile_4 26 rfl) (dk dt_X12_quantile_4 27 rfl) (by decide) (fun c2 => ?_) (fun c2 => ?_)
    · replace h := h.1 c2
      refine v_iload (pc := 366) (dk dt_X12_quantile_5 3 rfl) rfl ?_
      refine v_istore (pc := 368) (ls' := [some (rv l0), some (iv l1), some (iv l2), some (iv l3), some (iv l4), some (iv l7), some (iv l6), some (iv l7), none, none, none, none, none, none, none, none, some (jv l16), none, none, none, none, none, none]) (dk dt_X12_quantile_5 4 rfl) (Nat.le_of_ble_eq_true rfl) rfl ?_
      refine v_goto (pc := 370) (tgt := 46) (dk dt_X12_quantile_5 5 rfl) (by decide) ?_
      exact v_less2 (ls' := [some (rv l0), some (iv l1), some (iv l2), some (iv l3), some (iv l4), some (iv l7), none, none, none, none, none, none, none, none, none, none, none, none, none, none, none, none, none]) ⟨rfl, rfl, rfl, rfl, rfl, rfl, trivial⟩ h
    · replace h := h.2 c2
      refine v_aload_n (pc := 339) (dk dt_X12_quantile_4 28 rfl) rfl rfl ?_
      obtain ⟨v3, h⟩ := h
      refine v_getR (pc := 340) (dk dt_X12_quantile_4 29 rfl) fl_X12_121 v3 (fun _ => ?_)
      refine v_iload (pc := 343) (dk dt_X12_quantile_4 30 rfl) rfl ?_
      refine v_lload (pc := 345) (dk dt_X12_quantile_4 31 rfl) rfl ?_
      obtain ⟨v4, h⟩ := h
      obtain ⟨v5, h⟩ := h
      obtain ⟨v6, h⟩ := h
      refine v_last (pc := 347) (dk dt_X12_quantile_4 32 rfl) v4 v5 v6 ?_
      generalize hG7 : (sel G (gfd G 12 49 l0) l4 l16) = G7
      replace h := h G7 hG7.symm
      refine v_aload_n (pc := 348) (dk dt_X12_quantile_4 33 rfl) rfl rfl ?_
      obtain ⟨v8, h⟩ := h
      refine v_getR (pc := 349) (dk dt_X12_quantile_4 34 rfl) fl_X12_124 v8 (fun _ => ?_)
      refine v_iload (pc := 352) (dk dt_X12_quantile_4 35 rfl) rfl ?_
      refine v_bipush (pc := 354) (dk dt_X12_quantile_4 36 rfl) (by decide) ⟨by decide, by decide⟩ ?_
      refine v_iload (pc := 356) (dk dt_X12_quantile_4 37 rfl) rfl ?_
      obtain ⟨v9, h⟩ := h
      refine v_imul (pc := 358) (dk dt_X12_quantile_4 38 rfl) v9 ?_
      refine v_bipush (pc := 359) (dk dt_X12_quantile_4 39 rfl) (by decide) ⟨by decide, by decide⟩ ?_
      obtain ⟨v10, h⟩ := h
      refine v_iadd (pc := 361) (dk dt_X12_quantile_5 0 rfl) v10 ?_
      obtain ⟨v11, h⟩ := h
      obtain ⟨v12, h⟩ := h
      obtain ⟨v13, h⟩ := h
      refine v_iast (pc := 362) (dk dt_X12_quantile_5 1 rfl) v11 v12 v13 ?_
      generalize hG14 : (sel G7 (gfd G7 12 50 l0) l4 ((10 * l6) + 6)) = G14
      replace h := h G14 hG14.symm
      obtain ⟨v15, h⟩ := h
      refine v_iinc (pc := 363) (ls' := [some (rv l0), some (iv l1), some (iv l2), some (iv l3), some (iv (l4 + 1)), none, some (iv l6), some (iv l7), none, none, none, none, none, none, none, none, some (jv l16), none, none, none, none, none, none]) (dk dt_X12_quantile_5 2 rfl) (Nat.le_of_ble_eq_true rfl) rfl v15 rfl ?_
      refine v_iload (pc := 366) (dk dt_X12_quantile_5 3 rfl) rfl ?_
      refine v_istore (pc := 368) (ls' := [some (rv l0), some (iv l1), some (iv l2), some (iv l3), some (iv (l4 + 1)), some (iv l7), some (iv l6), some (iv l7), none, none, none, none, none, none, none, none, some (jv l16), none, none, none, none, none, none]) (dk dt_X12_quantile_5 4 rfl) (Nat.le_of_ble_eq_true rfl) rfl ?_
      refine v_goto (pc := 370) (tgt := 46) (dk dt_X12_quantile_5 5 rfl) (by decide) ?_
      exact v_less2 (ls' := [some (rv l0), some (iv l1), some (iv l2), some (iv l3), some (iv (l4 + 1)), some (iv l7), none, none, none, none, none, none, none, none, none, none, none, none, none, none, none, none, none]) ⟨rfl, rfl, rfl, rfl, rfl, rfl, trivial⟩ h
  replace h := h _ hJ1
  refine v_icmp_ge (pc := 192) (tgt := 332) (dk dt_X12_quantile_2 31 rfl) (by decide) (fun c16 => ?_) (fun c16 => ?_)
  · replace h := h.1 c16
    rw [dJ1] at h
    exact v_less2 (ls' := [some (rv l0), some (iv l1), some (iv l2), some (iv l3), some (iv l4), none, some (iv l6), some (iv l7), none, none, none, none, none, none, none, none, some (jv l16), none, none, none, none, none, none]) ⟨rfl, rfl, rfl, rfl, rfl, rfl, rfl, rfl, trivial⟩ h
  · replace h := h.2 c16
    refine v_lload (pc := 195) (dk dt_X12_quantile_2 32 rfl) rfl ?_
    refine v_lconst (x := 0) (pc := 197) (dk dt_X12_quantile_2 33 rfl) (by decide) ⟨by decide, by decide⟩ ?_
    refine v_lcmp_ge (pc := 198) (tgt := 332) (dk dt_X12_quantile_2 34 rfl) (dk dt_X12_quantile_2 35 rfl) (by decide) (fun c17 => ?_) (fun c17 => ?_)
    · replace h := h.1 c17
      rw [dJ1] at h
      exact v_less2 (ls' := [some (rv l0), some (iv l1), some (iv l2), some (iv l3), some (iv l4), none, some (iv l6), some (iv l7), none, none, none, none, none, none, none, none, some (jv l16), none, none, none, none, none, none]) ⟨rfl, rfl, rfl, rfl, rfl, rfl, rfl, rfl, trivial⟩ h
    · replace h := h.2 c17
      refine v_lload (pc := 202) (dk dt_X12_quantile_2 36 rfl) rfl ?_
      refine v_lconst (x := 0) (pc := 204) (dk dt_X12_quantile_2 37 rfl) (by decide) ⟨by decide, by decide⟩ ?_
      refine v_lcmp_le (pc := 205) (tgt := 332) (dk dt_X12_quantile_2 38 rfl) (dk dt_X12_quantile_2 39 rfl) (by decide) (fun c18 => ?_) (fun c18 => ?_)
      · replace h := h.1 c18
        rw [dJ1] at h
        exact v_less2 (ls' := [some (rv l0), some (iv l1), some (iv l2), some (iv l3), some (iv l4), none, some (iv l6), some (iv l7), none, none, none, none, none, none, none, none, some (jv l16), none, none, none, none, none, none]) ⟨rfl, rfl, rfl, rfl, rfl, rfl, rfl, rfl, trivial⟩ h
      · replace h := h.2 c18
        refine v_aload_n (pc := 209) (dk dt_X12_quantile_3 0 rfl) rfl rfl ?_
        obtain ⟨v19, h⟩ := h
        refine v_getR (pc := 210) (dk dt_X12_quantile_3 1 rfl) fl_X12_84 v19 (fun _ => ?_)
        refine v_iload_n (pc := 213) (dk dt_X12_quantile_3 2 rfl) rfl rfl ?_
        refine v_iload (pc := 214) (dk dt_X12_quantile_3 3 rfl) rfl ?_
        obtain ⟨v20, h⟩ := h
        refine v_iadd (pc := 216) (dk dt_X12_quantile_3 4 rfl) v20 ?_
        obtain ⟨v21, h⟩ := h
        obtain ⟨v22, h⟩ := h
        obtain ⟨v23, h⟩ := h
        refine v_iald (pc := 217) (dk dt_X12_quantile_3 5 rfl) (Or.inl v21) v22 v23 (fun _ => ?_)
        refine v_bipush (pc := 218) (dk dt_X12_quantile_3 6 rfl) (by decide) ⟨by decide, by decide⟩ ?_
        refine v_iremP (pc := 220) (dk dt_X12_quantile_3 7 rfl) (by decide) ?_
        refine v_istore (pc := 221) (ls' := [some (rv l0), some (iv l1), some (iv l2), some (iv l3), some (iv l4), none, some (iv l6), some (iv l7), some (jv l8), none, some (jv l10), none, some (jv l12), none, some (jv l14), none, some (jv l16), none, some (iv l18), some (iv (Int.tmod (gel G (gfd G 12 31 l0) (l2 + l18)) 10)), none, none, none]) (dk dt_X12_quantile_3 8 rfl) (Nat.le_of_ble_eq_true rfl) rfl ?_
        refine v_aload_n (pc := 223) (dk dt_X12_quantile_3 9 rfl) rfl rfl ?_
        obtain ⟨v24, h⟩ := h
        refine v_getR (pc := 224) (dk dt_X12_quantile_3 10 rfl) fl_X12_87 v24 (fun _ => ?_)
        refine v_iload_n (pc := 227) (dk dt_X12_quantile_3 11 rfl) rfl rfl ?_
        refine v_iload (pc := 228) (dk dt_X12_quantile_3 12 rfl) rfl ?_
        obtain ⟨v25, h⟩ := h
        refine v_iadd (pc := 230) (dk dt_X12_quantile_3 13 rfl) v25 ?_
        obtain ⟨v26, h⟩ := h
        obtain ⟨v27, h⟩ := h
        obtain ⟨v28, h⟩ := h
        refine v_lald (pc := 231) (dk dt_X12_quantile_3 14 rfl) v26 v27 v28 (fun _ => ?_)
        refine v_lstore (pc := 232) (ls' := [some (rv l0), some (iv l1), some (iv l2), some (iv l3), some (iv l4), none, some (iv l6), some (iv l7), some (jv l8), none, some (jv l10), none, some (jv l12), none, some (jv l14), none, some (jv l16), none, some (iv l18), some (iv (Int.tmod (gel G (gfd G 12 31 l0) (l2 + l18)) 10)), some (jv (gel G (gfd G 12 32 l0) (l2 + l18))), none, none]) (dk dt_X12_quantile_3 15 rfl) (Nat.le_of_ble_eq_true rfl) rfl ?_
        refine v_iload (pc := 234) (dk dt_X12_quantile_3 16 rfl) rfl ?_
        refine v_bipush (pc := 236) (dk dt_X12_quantile_3 17 rfl) (by decide) ⟨by decide, by decide⟩ ?_
        obtain ⟨v33, v38, v39, v40, v41, v42, v43, v44, v45, h⟩ := h
        suffices k48 : V E M_X12_quantile 326 [some (rv l0), some (iv l1), some (iv l2), some (iv l3), some (iv l4), none, some (iv l6), some (iv l7), some (jv l8), none, some (jv l10), none, some (jv (if 6 ≤ (Int.tmod (gel G (gfd G 12 31 l0) (l2 + l18)) 10) then (l12 : Int) else (if (gel G (gfd G 12 32 l0) (l2 + l18)) < l10 then ((gel G (gfd G 12 32 l0) (l2 + l18)) : Int) else l12))), none, some (jv (if 6 ≤ (Int.tmod (gel G (gfd G 12 31 l0) (l2 + l18)) 10) then (l14 : Int) else (if (gel G (gfd G 12 32 l0) (l2 + l18)) < l10 then ((mBound (Int.tmod (gel G (gfd G 12 31 l0) (l2 + l18)) 10)) : Int) else l14))), none, some (jv (if 6 ≤ (Int.tmod (gel G (gfd G 12 31 l0) (l2 + l18)) 10) then (l16 : Int) else (if (gel G (gfd G 12 32 l0) (l2 + l18)) < l10 then (l16 : Int) else (if (Int.tmod (gel G (gfd G 12 31 l0) (l2 + l18)) 10) = 5 then (l14 : Int) else (if (gel G (gfd G 12 32 l0) (l2 + l18)) = l12 then (l14 : Int) else (l14 + (Int.tdiv (((mBound (Int.tmod (gel G (gfd G 12 31 l0) (l2 + l18)) 10)) - l14) * (l10 - l12)) ((gel G (gfd G 12 32 l0) (l2 + l18)) - l12)))))))), none, some (iv l18), none, none, none, none] [] G c s Q X by
          refine v_icmp_ge (pc := 238) (tgt := 308) (dk dt_X12_quantile_3 18 rfl) (by decide) (fun c29 => ?_) (fun c29 => ?_)
          · refine v_iload (pc := 308) (dk dt_X12_quantile_4 14 rfl) rfl ?_
            refine v_bipush (pc := 310) (dk dt_X12_quantile_4 15 rfl) (by decide) ⟨by decide, by decide⟩ ?_
            refine v_icmp_ge (pc := 312) (tgt := 326) (dk dt_X12_quantile_4 16 rfl) (by decide) (fun _ => ?_) (fun z9 => absurd z9 (by omega))
            exact v_less2 (ls' := [some (rv l0), some (iv l1), some (iv l2), some (iv l3), some (iv l4), none, some (iv l6), some (iv l7), some (jv l8), none, some (jv l10), none, some (jv l12), none, some (jv l14), none, some (jv l16), none, some (iv l18), none, none, none, none]) ⟨rfl, rfl, rfl, rfl, rfl, rfl, rfl, rfl, rfl, rfl, rfl, rfl, rfl, trivial⟩ (by have hk9 := k48; try simp only [if_pos c29] at hk9 ⊢; exact hk9)
          · refine v_lload (pc := 241) (dk dt_X12_quantile_3 19 rfl) rfl ?_
            refine v_lload (pc := 243) (dk dt_X12_quantile_3 20 rfl) rfl ?_
            refine v_lcmp_lt (pc := 245) (tgt := 308) (dk dt_X12_quantile_3 21 rfl) (dk dt_X12_quantile_3 22 rfl) (by decide) (fun c31 => ?_) (fun c31 => ?_)
            · refine v_iload (pc := 308) (dk dt_X12_quantile_4 14 rfl) rfl ?_
              refine v_bipush (pc := 310) (dk dt_X12_quantile_4 15 rfl) (by decide) ⟨by decide, by decide⟩ ?_
              refine v_icmp_ge (pc := 312) (tgt := 326) (dk dt_X12_quantile_4 16 rfl) (by decide) (fun z9 => absurd z9 (by omega)) (fun _ => ?_)
              refine v_lload (pc := 315) (dk dt_X12_quantile_4 17 rfl) rfl ?_
              refine v_lstore (pc := 317) (ls' := [some (rv l0), some (iv l1), some (iv l2), some (iv l3), some (iv l4), none, some (iv l6), some (iv l7), some (jv l8), none, some (jv l10), none, some (jv (gel G (gfd G 12 32 l0) (l2 + l18))), none, some (jv l14), none, some (jv l16), none, some (iv l18), some (iv (Int.tmod (gel G (gfd G 12 31 l0) (l2 + l18)) 10)), some (jv (gel G (gfd G 12 32 l0) (l2 + l18))), none, none]) (dk dt_X12_quantile_4 18 rfl) (Nat.le_of_ble_eq_true rfl) rfl ?_
              refine v_iload (pc := 319) (dk dt_X12_quantile_4 19 rfl) rfl ?_
              refine v_csPJ (v := (mBound (Int.tmod (gel G (gfd G 12 31 l0) (l2 + l18)) 10))) (As := [iv (Int.tmod (gel G (gfd G 12 31 l0) (l2 + l18)) 10)]) (stk := []) (pc := 321) (dk dt_X12_quantile_4 20 rfl) ml_X12_278 rfl rfl (Nat.le_of_ble_eq_true rfl) rfl rfl (v33 c29 c31) ?_
              refine v_lstore (pc := 324) (ls' := [some (rv l0), some (iv l1), some (iv l2), some (iv l3), some (iv l4), none, some (iv l6), some (iv l7), some (jv l8), none, some (jv l10), none, some (jv (gel G (gfd G 12 32 l0) (l2 + l18))), none, some (jv (mBound (Int.tmod (gel G (gfd G 12 31 l0) (l2 + l18)) 10))), none, some (jv l16), none, some (iv l18), some (iv (Int.tmod (gel G (gfd G 12 31 l0) (l2 + l18)) 10)), some (jv (gel G (gfd G 12 32 l0) (l2 + l18))), none, none]) (dk dt_X12_quantile_4 21 rfl) (Nat.le_of_ble_eq_true rfl) rfl ?_
              exact v_less2 (ls' := [some (rv l0), some (iv l1), some (iv l2), some (iv l3), some (iv l4), none, some (iv l6), some (iv l7), some (jv l8), none, some (jv l10), none, some (jv (gel G (gfd G 12 32 l0) (l2 + l18))), none, some (jv (mBound (Int.tmod (gel G (gfd G 12 31 l0) (l2 + l18)) 10))), none, some (jv l16), none, some (iv l18), none, none, none, none]) ⟨rfl, rfl, rfl, rfl, rfl, rfl, rfl, rfl, rfl, rfl, rfl, rfl, rfl, trivial⟩ (by have hk9 := k48; try simp only [if_neg (Int.not_le.mpr c29)] at hk9 ⊢; try simp only [if_pos c31] at hk9 ⊢; exact hk9)
            · refine v_iload (pc := 249) (dk dt_X12_quantile_3 23 rfl) rfl ?_
              refine v_iconst (pc := 251) (dk dt_X12_quantile_3 24 rfl) ⟨by decide, by decide⟩ ?_
              refine v_icmp_eq (pc := 252) (tgt := 263) (dk dt_X12_quantile_3 25 rfl) (by decide) (fun c34 => ?_) (fun c34 => ?_)
              · refine v_iconst (pc := 263) (dk dt_X12_quantile_3 30 rfl) ⟨by decide, by decide⟩ ?_
                refine v_goto (pc := 264) (tgt := 268) (dk dt_X12_quantile_3 31 rfl) (by decide) ?_
                refine v_istore (pc := 268) (ls' := [some (rv l0), some (iv l1), some (iv l2), some (iv l3), some (iv l4), none, some (iv l6), some (iv l7), some (jv l8), none, some (jv l10), none, some (jv l12), none, some (jv l14), none, some (jv l16), none, some (iv l18), some (iv (Int.tmod (gel G (gfd G 12 31 l0) (l2 + l18)) 10)), some (jv (gel G (gfd G 12 32 l0) (l2 + l18))), none, some (iv 1)]) (dk dt_X12_quantile_3 33 rfl) (Nat.le_of_ble_eq_true rfl) rfl ?_
                refine v_iload (pc := 270) (dk dt_X12_quantile_3 34 rfl) rfl ?_
                refine v_if_eq (pc := 272) (tgt := 280) (dk dt_X12_quantile_3 35 rfl) (by decide) (fun z9 => absurd z9 (by decide)) (fun _ => ?_)
                refine v_lload (pc := 275) (dk dt_X12_quantile_3 36 rfl) rfl ?_
                refine v_goto (pc := 277) (tgt := 303) (dk dt_X12_quantile_3 37 rfl) (by decide) ?_
                refine v_lstore (pc := 303) (ls' := [some (rv l0), some (iv l1), some (iv l2), some (iv l3), some (iv l4), none, some (iv l6), some (iv l7), some (jv l8), none, some (jv l10), none, some (jv l12), none, some (jv l14), none, some (jv l14), none, some (iv l18), some (iv (Int.tmod (gel G (gfd G 12 31 l0) (l2 + l18)) 10)), some (jv (gel G (gfd G 12 32 l0) (l2 + l18))), none, some (iv 1)]) (dk dt_X12_quantile_4 12 rfl) (Nat.le_of_ble_eq_true rfl) rfl ?_
                refine v_goto (pc := 305) (tgt := 326) (dk dt_X12_quantile_4 13 rfl) (by decide) ?_
                exact v_less2 (ls' := [some (rv l0), some (iv l1), some (iv l2), some (iv l3), some (iv l4), none, some (iv l6), some (iv l7), some (jv l8), none, some (jv l10), none, some (jv l12), none, some (jv l14), none, some (jv l14), none, some (iv l18), none, none, none, none]) ⟨rfl, rfl, rfl, rfl, rfl, rfl, rfl, rfl, rfl, rfl, rfl, rfl, rfl, trivial⟩ (by have hk9 := k48; try simp only [if_neg (Int.not_le.mpr c29)] at hk9 ⊢; try simp only [if_neg (Int.not_lt.mpr c31)] at hk9 ⊢; try simp only [if_pos c34] at hk9 ⊢; exact hk9)
              · refine v_lload (pc := 255) (dk dt_X12_quantile_3 26 rfl) rfl ?_
                refine v_lload (pc := 257) (dk dt_X12_quantile_3 27 rfl) rfl ?_
                refine v_lcmp_ne (pc := 259) (tgt := 267) (dk dt_X12_quantile_3 28 rfl) (dk dt_X12_quantile_3 29 rfl) (by decide) (fun c36 => ?_) (fun c36 => ?_)
                · refine v_iconst (pc := 267) (dk dt_X12_quantile_3 32 rfl) ⟨by decide, by decide⟩ ?_
                  refine v_istore (pc := 268) (ls' := [some (rv l0), some (iv l1), some (iv l2), some (iv l3), some (iv l4), none, some (iv l6), some (iv l7), some (jv l8), none, some (jv l10), none, some (jv l12), none, some (jv l14), none, some (jv l16), none, some (iv l18), some (iv (Int.tmod (gel G (gfd G 12 31 l0) (l2 + l18)) 10)), some (jv (gel G (gfd G 12 32 l0) (l2 + l18))), none, some (iv 0)]) (dk dt_X12_quantile_3 33 rfl) (Nat.le_of_ble_eq_true rfl) rfl ?_
                  refine v_iload (pc := 270) (dk dt_X12_quantile_3 34 rfl) rfl ?_
                  refine v_if_eq (pc := 272) (tgt := 280) (dk dt_X12_quantile_3 35 rfl) (by decide) (fun _ => ?_) (fun z9 => absurd z9 (by decide))
                  refine v_lload (pc := 280) (dk dt_X12_quantile_3 38 rfl) rfl ?_
                  refine v_iload (pc := 282) (dk dt_X12_quantile_3 39 rfl) rfl ?_
                  refine v_csPJ (v := (mBound (Int.tmod (gel G (gfd G 12 31 l0) (l2 + l18)) 10))) (As := [iv (Int.tmod (gel G (gfd G 12 31 l0) (l2 + l18)) 10)]) (stk := [jv l14]) (pc := 284) (dk dt_X12_quantile_4 0 rfl) ml_X12_278 rfl rfl (Nat.le_of_ble_eq_true rfl) rfl rfl (v38 c29 c31 c34 c36) ?_
                  refine v_lload (pc := 287) (dk dt_X12_quantile_4 1 rfl) rfl ?_
                  refine v_lsub (pc := 289) (dk dt_X12_quantile_4 2 rfl) (v39 c29 c31 c34 c36) ?_
                  refine v_lload (pc := 290) (dk dt_X12_quantile_4 3 rfl) rfl ?_
                  refine v_lload (pc := 292) (dk dt_X12_quantile_4 4 rfl) rfl ?_
                  refine v_lsub (pc := 294) (dk dt_X12_quantile_4 5 rfl) (v40 c29 c31 c34 c36) ?_
                  refine v_lmul (pc := 295) (dk dt_X12_quantile_4 6 rfl) (v41 c29 c31 c34 c36) ?_
                  refine v_lload (pc := 296) (dk dt_X12_quantile_4 7 rfl) rfl ?_
                  refine v_lload (pc := 298) (dk dt_X12_quantile_4 8 rfl) rfl ?_
                  refine v_lsub (pc := 300) (dk dt_X12_quantile_4 9 rfl) (v42 c29 c31 c34 c36) ?_
                  refine v_ldiv (pc := 301) (dk dt_X12_quantile_4 10 rfl) (v43 c29 c31 c34 c36) (v44 c29 c31 c34 c36) ?_
                  refine v_ladd (pc := 302) (dk dt_X12_quantile_4 11 rfl) (v45 c29 c31 c34 c36) ?_
                  refine v_lstore (pc := 303) (ls' := [some (rv l0), some (iv l1), some (iv l2), some (iv l3), some (iv l4), none, some (iv l6), some (iv l7), some (jv l8), none, some (jv l10), none, some (jv l12), none, some (jv l14), none, some (jv (l14 + (Int.tdiv (((mBound (Int.tmod (gel G (gfd G 12 31 l0) (l2 + l18)) 10)) - l14) * (l10 - l12)) ((gel G (gfd G 12 32 l0) (l2 + l18)) - l12)))), none, some (iv l18), some (iv (Int.tmod (gel G (gfd G 12 31 l0) (l2 + l18)) 10)), some (jv (gel G (gfd G 12 32 l0) (l2 + l18))), none, some (iv 0)]) (dk dt_X12_quantile_4 12 rfl) (Nat.le_of_ble_eq_true rfl) rfl ?_
                  refine v_goto (pc := 305) (tgt := 326) (dk dt_X12_quantile_4 13 rfl) (by decide) ?_
                  exact v_less2 (ls' := [some (rv l0), some (iv l1), some (iv l2), some (iv l3), some (iv l4), none, some (iv l6), some (iv l7), some (jv l8), none, some (jv l10), none, some (jv l12), none, some (jv l14), none, some (jv (l14 + (Int.tdiv (((mBound (Int.tmod (gel G (gfd G 12 31 l0) (l2 + l18)) 10)) - l14) * (l10 - l12)) ((gel G (gfd G 12 32 l0) (l2 + l18)) - l12)))), none, some (iv l18), none, none, none, none]) ⟨rfl, rfl, rfl, rfl, rfl, rfl, rfl, rfl, rfl, rfl, rfl, rfl, rfl, trivial⟩ (by have hk9 := k48; try simp only [if_neg (Int.not_le.mpr c29)] at hk9 ⊢; try simp only [if_neg (Int.not_lt.mpr c31)] at hk9 ⊢; try simp only [if_neg c34] at hk9 ⊢; try simp only [if_neg c36] at hk9 ⊢; exact hk9)
                · refine v_iconst (pc := 263) (dk dt_X12_quantile_3 30 rfl) ⟨by decide, by decide⟩ ?_
                  refine v_goto (pc := 264) (tgt := 268) (dk dt_X12_quantile_3 31 rfl) (by decide) ?_
                  refine v_istore (pc := 268) (ls' := [some (rv l0), some (iv l1), some (iv l2), some (iv l3), some (iv l4), none, some (iv l6), some (iv l7), some (jv l8), none, some (jv l10), none, some (jv l12), none, some (jv l14), none, some (jv l16), none, some (iv l18), some (iv (Int.tmod (gel G (gfd G 12 31 l0) (l2 + l18)) 10)), some (jv (gel G (gfd G 12 32 l0) (l2 + l18))), none, some (iv 1)]) (dk dt_X12_quantile_3 33 rfl) (Nat.le_of_ble_eq_true rfl) rfl ?_
                  refine v_iload (pc := 270) (dk dt_X12_quantile_3 34 rfl) rfl ?_
                  refine v_if_eq (pc := 272) (tgt := 280) (dk dt_X12_quantile_3 35 rfl) (by decide) (fun z9 => absurd z9 (by decide)) (fun _ => ?_)
                  refine v_lload (pc := 275) (dk dt_X12_quantile_3 36 rfl) rfl ?_
                  refine v_goto (pc := 277) (tgt := 303) (dk dt_X12_quantile_3 37 rfl) (by decide) ?_
                  refine v_lstore (pc := 303) (ls' := [some (rv l0), some (iv l1), some (iv l2), some (iv l3), some (iv l4), none, some (iv l6), some (iv l7), some (jv l8), none, some (jv l10), none, some (jv l12), none, some (jv l14), none, some (jv l14), none, some (iv l18), some (iv (Int.tmod (gel G (gfd G 12 31 l0) (l2 + l18)) 10)), some (jv (gel G (gfd G 12 32 l0) (l2 + l18))), none, some (iv 1)]) (dk dt_X12_quantile_4 12 rfl) (Nat.le_of_ble_eq_true rfl) rfl ?_
                  refine v_goto (pc := 305) (tgt := 326) (dk dt_X12_quantile_4 13 rfl) (by decide) ?_
                  exact v_less2 (ls' := [some (rv l0), some (iv l1), some (iv l2), some (iv l3), some (iv l4), none, some (iv l6), some (iv l7), some (jv l8), none, some (jv l10), none, some (jv l12), none, some (jv l14), none, some (jv l14), none, some (iv l18), none, none, none, none]) ⟨rfl, rfl, rfl, rfl, rfl, rfl, rfl, rfl, rfl, rfl, rfl, rfl, rfl, trivial⟩ (by have hk9 := k48; try simp only [if_neg (Int.not_le.mpr c29)] at hk9 ⊢; try simp only [if_neg (Int.not_lt.mpr c31)] at hk9 ⊢; try simp only [if_neg c34] at hk9 ⊢; try simp only [if_pos c36] at hk9 ⊢; exact hk9)
        obtain ⟨v47, h⟩ := h
        refine v_iinc (pc := 326) (ls' := [some (rv l0), some (iv l1), some (iv l2), some (iv l3), some (iv l4), none, some (iv l6), some (iv l7), some (jv l8), none, some (jv l10), none, some (jv (if 6 ≤ (Int.tmod (gel G (gfd G 12 31 l0) (l2 + l18)) 10) then (l12 : Int) else (if (gel G (gfd G 12 32 l0) (l2 + l18)) < l10 then ((gel G (gfd G 12 32 l0) (l2 + l18)) : Int) else l12))), none, some (jv (if 6 ≤ (Int.tmod (gel G (gfd G 12 31 l0) (l2 + l18)) 10) then (l14 : Int) else (if (gel G (gfd G 12 32 l0) (l2 + l18)) < l10 then ((mBound (Int.tmod (gel G (gfd G 12 31 l0) (l2 + l18)) 10)) : Int) else l14))), none, some (jv (if 6 ≤ (Int.tmod (gel G (gfd G 12 31 l0) (l2 + l18)) 10) then (l16 : Int) else (if (gel G (gfd G 12 32 l0) (l2 + l18)) < l10 then (l16 : Int) else (if (Int.tmod (gel G (gfd G 12 31 l0) (l2 + l18)) 10) = 5 then (l14 : Int) else (if (gel G (gfd G 12 32 l0) (l2 + l18)) = l12 then (l14 : Int) else (l14 + (Int.tdiv (((mBound (Int.tmod (gel G (gfd G 12 31 l0) (l2 + l18)) 10)) - l14) * (l10 - l12)) ((gel G (gfd G 12 32 l0) (l2 + l18)) - l12)))))))), none, some (iv (l18 + 1)), none, none, none, none]) (dk dt_X12_quantile_4 22 rfl) (Nat.le_of_ble_eq_true rfl) rfl v47 rfl ?_
        refine v_goto (pc := 329) (tgt := 188) (dk dt_X12_quantile_4 23 rfl) (by decide) ?_
        exact h
set_option maxRecDepth 20000 in
theorem b_X12_quantile_401 {E : EE} {l0 l2 l4 l6 : Int} {G : Gt} {c s : Nat} {Q X : Int → Gt → Prop} (h : ((l4 ≤ l6 → Q 0 G) ∧ (l6 < l4 → (gcl G l0 = 13 ∧ i32 (l2 + l6) ∧ gcl G l0 = 13 ∧ gcl G (gfd G 12 49 l0) = 16 ∧ 0 ≤ l6 ∧ l6 < gln G (gfd G 12 49 l0) ∧ gcl G (gfd G 12 32 l0) = 16 ∧ 0 ≤ (l2 + l6) ∧ (l2 + l6) < gln G (gfd G 12 32 l0) ∧ ∀ G11 : Gt, G11 = (sel G (gfd G 12 32 l0) (l2 + l6) (gel G (gfd G 12 49 l0) l6)) → gcl G11 l0 = 13 ∧ i32 (l2 + l6) ∧ gcl G11 l0 = 13 ∧ gcl G11 (gfd G11 12 50 l0) = 15 ∧ 0 ≤ l6 ∧ l6 < gln G11 (gfd G11 12 50 l0) ∧ gcl G11 (gfd G11 12 31 l0) = 15 ∧ 0 ≤ (l2 + l6) ∧ (l2 + l6) < gln G11 (gfd G11 12 31 l0) ∧ ∀ G21 : Gt, G21 = (sel G11 (gfd G11 12 31 l0) (l2 + l6) (gel G11 (gfd G11 12 50 l0) l6)) → i32 (l6 + 1) ∧ V E M_X12_quantile 401 [some (rv l0), none, some (iv l2), none, some (iv l4), none, some (iv (l6 + 1)), none, none, none, none, none, none, none, none, none, none, none, none, none, none, none, none] [] G21 c s Q X)))) : V E M_X12_quantile 401 [some (rv l0), none, some (iv l2), none, some (iv l4), none, some (iv l6), none, none, none, none, none, none, none, none, none, none, none, none, none, none, none, none] [] G c s Q X := by
  refine v_iload (pc := 401) (dk dt_X12_quantile_5 24 rfl) rfl ?_
  refine v_iload (pc := 403) (dk dt_X12_quantile_5 25 rfl) rfl ?_
  refine v_icmp_ge (pc := 405) (tgt := 446) (dk dt_X12_quantile_5 26 rfl) (by decide) (fun c1 => ?_) (fun c1 => ?_)
  · replace h := h.1 c1
    exact v_vret (pc := 446) (dk dt_X12_quantile_6 9 rfl) rfl h
  · replace h := h.2 c1
    refine v_aload_n (pc := 408) (dk dt_X12_quantile_5 27 rfl) rfl rfl ?_
    obtain ⟨v2, h⟩ := h
    refine v_getR (pc := 409) (dk dt_X12_quantile_5 28 rfl) fl_X12_87 v2 (fun _ => ?_)
    refine v_iload_n (pc := 412) (dk dt_X12_quantile_5 29 rfl) rfl rfl ?_
    refine v_iload (pc := 413) (dk dt_X12_quantile_5 30 rfl) rfl ?_
    obtain ⟨v3, h⟩ := h
    refine v_iadd (pc := 415) (dk dt_X12_quantile_5 31 rfl) v3 ?_
    refine v_aload_n (pc := 416) (dk dt_X12_quantile_5 32 rfl) rfl rfl ?_
    obtain ⟨v4, h⟩ := h
    refine v_getR (pc := 417) (dk dt_X12_quantile_5 33 rfl) fl_X12_121 v4 (fun _ => ?_)
    refine v_iload (pc := 420) (dk dt_X12_quantile_5 34 rfl) rfl ?_
    obtain ⟨v5, h⟩ := h
    obtain ⟨v6, h⟩ := h
    obtain ⟨v7, h⟩ := h
    refine v_lald (pc := 422) (dk dt_X12_quantile_5 35 rfl) v5 v6 v7 (fun _ => ?_)
    obtain ⟨v8, h⟩ := h
    obtain ⟨v9, h⟩ := h
    obtain ⟨v10, h⟩ := h
    refine v_last (pc := 423) (dk dt_X12_quantile_5 36 rfl) v8 v9 v10 ?_
    generalize hG11 : (sel G (gfd G 12 32 l0) (l2 + l6) (gel G (gfd G 12 49 l0) l6)) = G11
    replace h := h G11 hG11.symm
    refine v_aload_n (pc := 424) (dk dt_X12_quantile_5 37 rfl) rfl rfl ?_
    obtain ⟨v12, h⟩ := h
    refine v_getR (pc := 425) (dk dt_X12_quantile_5 38 rfl) fl_X12_84 v12 (fun _ => ?_)
    refine v_iload_n (pc := 428) (dk dt_X12_quantile_5 39 rfl) rfl rfl ?_
    refine v_iload (pc := 429) (dk dt_X12_quantile_6 0 rfl) rfl ?_
    obtain ⟨v13, h⟩ := h
    refine v_iadd (pc := 431) (dk dt_X12_quantile_6 1 rfl) v13 ?_
    refine v_aload_n (pc := 432) (dk dt_X12_quantile_6 2 rfl) rfl rfl ?_
    obtain ⟨v14, h⟩ := h
    refine v_getR (pc := 433) (dk dt_X12_quantile_6 3 rfl) fl_X12_124 v14 (fun _ => ?_)
    refine v_iload (pc := 436) (dk dt_X12_quantile_6 4 rfl) rfl ?_
    obtain ⟨v15, h⟩ := h
    obtain ⟨v16, h⟩ := h
    obtain ⟨v17, h⟩ := h
    refine v_iald (pc := 438) (dk dt_X12_quantile_6 5 rfl) (Or.inl v15) v16 v17 (fun _ => ?_)
    obtain ⟨v18, h⟩ := h
    obtain ⟨v19, h⟩ := h
    obtain ⟨v20, h⟩ := h
    refine v_iast (pc := 439) (dk dt_X12_quantile_6 6 rfl) v18 v19 v20 ?_
    generalize hG21 : (sel G11 (gfd G11 12 31 l0) (l2 + l6) (gel G11 (gfd G11 12 50 l0) l6)) = G21
    replace h := h G21 hG21.symm
    obtain ⟨v22, h⟩ := h
    refine v_iinc (pc := 440) (ls' := [some (rv l0), none, some (iv l2), none, some (iv l4), none, some (iv (l6 + 1)), none, none, none, none, none, none, none, none, none, none, none, none, none, none, none, none]) (dk dt_X12_quantile_6 7 rfl) (Nat.le_of_ble_eq_true rfl) rfl v22 rfl ?_
    refine v_goto (pc := 443) (tgt := 401) (dk dt_X12_quantile_6 8 rfl) (by decide) ?_
    exact h
set_option maxRecDepth 20000 in
theorem b_X12_run_0 {E : EE} {l0 l1 l2 : Int} {G : Gt} {c s : Nat} {Q X : Int → Gt → Prop} (h : (gcl G l0 = 13 ∧ ∀ G2 : Gt, G2 = (sfd G 12 33 l0 0) → gcl G2 l0 = 13 ∧ ∀ G4 : Gt, G4 = (sfd G2 12 34 l0 0) → V E M_X12_run 12 [some (rv l0), some (iv l1), some (iv l2), some (iv 0), none, none, none] [] G4 c s Q X)) : V E M_X12_run 0 [some (rv l0), some (iv l1), some (iv l2), none, none, none, none] [] G c s Q X := by
  refine v_aload_n (pc := 0) (dk dt_X12_run 0 rfl) rfl rfl ?_
  refine v_iconst (pc := 1) (dk dt_X12_run 1 rfl) ⟨by decide, by decide⟩ ?_
  obtain ⟨v1, h⟩ := h
  refine v_putI (pc := 2) (dk dt_X12_run 2 rfl) fl_X12_237 (Or.inl rfl) v1 ?_
  generalize hG2 : (sfd G 12 33 l0 0) = G2
  replace h := h G2 hG2.symm
  refine v_aload_n (pc := 5) (dk dt_X12_run 3 rfl) rfl rfl ?_
  refine v_iconst (pc := 6) (dk dt_X12_run 4 rfl) ⟨by decide, by decide⟩ ?_
  obtain ⟨v3, h⟩ := h
  refine v_putZ (pc := 7) (dk dt_X12_run 5 rfl) fl_X12_208 (Or.inl rfl) v3 (Or.inl rfl) ?_
  generalize hG4 : (sfd G2 12 34 l0 0) = G4
  replace h := h G4 hG4.symm
  refine v_iconst (pc := 10) (dk dt_X12_run 6 rfl) ⟨by decide, by decide⟩ ?_
  refine v_istore_n (pc := 11) (ls' := [some (rv l0), some (iv l1), some (iv l2), some (iv 0), none, none, none]) (dk dt_X12_run 7 rfl) rfl (Nat.le_of_ble_eq_true rfl) rfl ?_
  exact h
set_option maxRecDepth 20000 in
theorem i_X12_run {E : EE} {l0 l1 l2 : Int} {G : Gt} {c s : Nat} {Q X : Int → Gt → Prop} (h : (gcl G l0 = 13 ∧ ∀ G2 : Gt, G2 = (sfd G 12 33 l0 0) → gcl G2 l0 = 13 ∧ ∀ G4 : Gt, G4 = (sfd G2 12 34 l0 0) → V E M_X12_run 12 [some (rv l0), some (iv l1), some (iv l2), some (iv 0), none, none, none] [] G4 c s Q X)) : Ok E M_X12_run [rv l0, iv l1, iv l2] G c s Q X := Ok.intro (k := 4) rfl rfl (Nat.le_of_ble_eq_true rfl) rfl (b_X12_run_0 h)
set_option maxRecDepth 20000 in
theorem b_X12_run_12 {E : EE} {l0 l1 l2 l3 : Int} {G : Gt} {c s : Nat} {Q X : Int → Gt → Prop} (h : (gcl G l0 = 13 ∧ gcl G (gfd G 12 22 l0) = 15 ∧ 0 ≤ l1 ∧ l1 < gln G (gfd G 12 22 l0) ∧ (((gel G (gfd G 12 22 l0) l1) ≤ l3 → Q 0 G) ∧ (l3 < (gel G (gfd G 12 22 l0) l1) → (gcl G l0 = 13 ∧ (((gfd G 12 34 l0) ≠ 0 → Q 0 G) ∧ ((gfd G 12 34 l0) = 0 → (i32 (60 * l1) ∧ i32 (6 * l3) ∧ i32 ((60 * l1) + (6 * l3)) ∧ gcl G l0 = 13 ∧ gcl G (gfd G 12 21 l0) = 15 ∧ 0 ≤ ((60 * l1) + (6 * l3)) ∧ ((60 * l1) + (6 * l3)) < gln G (gfd G 12 21 l0) ∧ ((8 ≤ (gel G (gfd G 12 21 l0) ((60 * l1) + (6 * l3))) → ((9 < (gel G (gfd G 12 21 l0) ((60 * l1) + (6 * l3))) → (((gel G (gfd G 12 21 l0) ((60 * l1) + (6 * l3))) ≠ 15 → (gcl G l0 = 13 ∧ i32 (((60 * l1) + (6 * l3)) + 1) ∧ gcl G (gfd G 12 21 l0) = 15 ∧ 0 ≤ (((60 * l1) + (6 * l3)) + 1) ∧ (((60 * l1) + (6 * l3)) + 1) < gln G (gfd G 12 21 l0) ∧ gcl G l0 = 13 ∧ Call E M_X12_joins [rv l0, iv (gel G (gfd G 12 21 l0) ((60 * l1) + (6 * l3))), iv (gel G (gfd G 12 21 l0) (((60 * l1) + (6 * l3)) + 1))] G c s X (fun r24 G25 c26 s27 => i32 (l3 + 1) ∧ V E M_X12_run 12 [some (rv l0), some (iv l1), some (iv l2), some (iv (l3 + 1)), none, none, none] [] G25 c26 s27 Q X))) ∧ ((gel G (gfd G 12 21 l0) ((60 * l1) + (6 * l3))) = 15 → (gcl G l0 = 13 ∧ i32 (((60 * l1) + (6 * l3)) + 1) ∧ gcl G (gfd G 12 21 l0) = 15 ∧ 0 ≤ (((60 * l1) + (6 * l3)) + 1) ∧ (((60 * l1) + (6 * l3)) + 1) < gln G (gfd G 12 21 l0) ∧ gcl G l0 = 13 ∧ Call E M_X12_quantile [rv l0, iv (gel G (gfd G 12 21 l0) (((60 * l1) + (6 * l3)) + 1))] G c s X (fun r35 G36 c37 s38 => i32 (l3 + 1) ∧ V E M_X12_run 12 [some (rv l0), some (iv l1), some (iv l2), some (iv (l3 + 1)), none, none, none] [] G36 c37 s38 Q X))))) ∧ ((gel G (gfd G 12 21 l0) ((60 * l1) + (6 * l3))) ≤ 9 → (gcl G l0 = 13 ∧ i32 (((60 * l1) + (6 * l3)) + 1) ∧ gcl G (gfd G 12 21 l0) = 15 ∧ 0 ≤ (((60 * l1) + (6 * l3)) + 1) ∧ (((60 * l1) + (6 * l3)) + 1) < gln G (gfd G 12 21 l0) ∧ gcl G l0 = 13 ∧ Call E M_X12_groups [rv l0, iv (gel G (gfd G 12 21 l0) ((60 * l1) + (6 * l3))), iv (gel G (gfd G 12 21 l0) (((60 * l1) + (6 * l3)) + 1))] G c s X (fun r46 G47 c48 s49 => i32 (l3 + 1) ∧ V E M_X12_run 12 [some (rv l0), some (iv l1), some (iv l2), some (iv (l3 + 1)), none, none, none] [] G47 c48 s49 Q X))))) ∧ ((gel G (gfd G 12 21 l0) ((60 * l1) + (6 * l3))) < 8 → (gcl G l0 = 13 ∧ Call E M_X12_open [rv l0, iv (if (gel G (gfd G 12 21 l0) ((60 * l1) + (6 * l3))) = 0 then (1 : Int) else 0)] G c s X (fun r53 G54 c55 s56 => ∀ J57 : Gt → Nat → Nat → Prop, (∀ (G58 : Gt) (c59 s60 : Nat), (((gel G (gfd G 12 21 l0) ((60 * l1) + (6 * l3))) ≠ 0 → (gcl G58 l0 = 13 ∧ Call E M_X12_nextSeries [rv l0, iv ((60 * l1) + (6 * l3)), iv (-1)] G58 c59 s60 X (fun r63 G64 c65 s66 => V E M_X12_run 110 [some (rv l0), some (iv l1), some (iv l2), some (iv l3), some (iv ((60 * l1) + (6 * l3))), none, some (iv r63)] [] G64 c65 s66 Q X))) ∧ ((gel G (gfd G 12 21 l0) ((60 * l1) + (6 * l3))) = 0 → V E M_X12_run 110 [some (rv l0), some (iv l1), some (iv l2), some (iv l3), some (iv ((60 * l1) + (6 * l3))), none, some (iv (-1))] [] G58 c59 s60 Q X)) → J57 G58 c59 s60) → (((gel G (gfd G 12 21 l0) ((60 * l1) + (6 * l3))) ≠ 0 → J57 G54 c55 s56) ∧ ((gel G (gfd G 12 21 l0) ((60 * l1) + (6 * l3))) = 0 → (gcl G54 l0 = 13 ∧ i32 (((60 * l1) + (6 * l3)) + 1) ∧ gcl G54 (gfd G54 12 21 l0) = 15 ∧ 0 ≤ (((60 * l1) + (6 * l3)) + 1) ∧ (((60 * l1) + (6 * l3)) + 1) < gln G54 (gfd G54 12 21 l0) ∧ gcl G54 l0 = 13 ∧ Call E M_X12_add [rv l0, iv 666, jv (gel G54 (gfd G54 12 21 l0) (((60 * l1) + (6 * l3)) + 1))] G54 c55 s56 X (fun r74 G75 c76 s77 => J57 G75 c76 s77)))))))))))))))) : V E M_X12_run 12 [some (rv l0), some (iv l1), some (iv l2), some (iv l3), none, none, none] [] G c s Q X := by
  refine v_iload_n (pc := 12) (dk dt_X12_run 8 rfl) rfl rfl ?_
  refine v_aload_n (pc := 13) (dk dt_X12_run 9 rfl) rfl rfl ?_
  obtain ⟨v1, h⟩ := h
  refine v_getR (pc := 14) (dk dt_X12_run 10 rfl) fl_X12_60 v1 (fun _ => ?_)
  refine v_iload_n (pc := 17) (dk dt_X12_run 11 rfl) rfl rfl ?_
  obtain ⟨v2, h⟩ := h
  obtain ⟨v3, h⟩ := h
  obtain ⟨v4, h⟩ := h
  refine v_iald (pc := 18) (dk dt_X12_run 12 rfl) (Or.inl v2) v3 v4 (fun _ => ?_)
  refine v_icmp_ge (pc := 19) (tgt := 214) (dk dt_X12_run 13 rfl) (by decide) (fun c5 => ?_) (fun c5 => ?_)
  · replace h := h.1 c5
    exact v_vret (pc := 214) (dk dt_X12_run_2 34 rfl) rfl h
  · replace h := h.2 c5
    refine v_aload_n (pc := 22) (dk dt_X12_run 14 rfl) rfl rfl ?_
    obtain ⟨v6, h⟩ := h
    refine v_getZ (pc := 23) (dk dt_X12_run 15 rfl) fl_X12_208 v6 (fun _ => ?_)
    refine v_if_ne (pc := 26) (tgt := 214) (dk dt_X12_run 16 rfl) (by decide) (fun c7 => ?_) (fun c7 => ?_)
    · replace h := h.1 c7
      exact v_vret (pc := 214) (dk dt_X12_run_2 34 rfl) rfl h
    · replace h := h.2 c7
      refine v_bipush (pc := 29) (dk dt_X12_run 17 rfl) (by decide) ⟨by decide, by decide⟩ ?_
      refine v_iload_n (pc := 31) (dk dt_X12_run 18 rfl) rfl rfl ?_
      obtain ⟨v8, h⟩ := h
      refine v_imul (pc := 32) (dk dt_X12_run 19 rfl) v8 ?_
      refine v_bipush (pc := 33) (dk dt_X12_run 20 rfl) (by decide) ⟨by decide, by decide⟩ ?_
      refine v_iload_n (pc := 35) (dk dt_X12_run 21 rfl) rfl rfl ?_
      obtain ⟨v9, h⟩ := h
      refine v_imul (pc := 36) (dk dt_X12_run 22 rfl) v9 ?_
      obtain ⟨v10, h⟩ := h
      refine v_iadd (pc := 37) (dk dt_X12_run 23 rfl) v10 ?_
      refine v_istore (pc := 38) (ls' := [some (rv l0), some (iv l1), some (iv l2), some (iv l3), some (iv ((60 * l1) + (6 * l3))), none, none]) (dk dt_X12_run 24 rfl) (Nat.le_of_ble_eq_true rfl) rfl ?_
      refine v_aload_n (pc := 40) (dk dt_X12_run 25 rfl) rfl rfl ?_
      obtain ⟨v11, h⟩ := h
      refine v_getR (pc := 41) (dk dt_X12_run 26 rfl) fl_X12_57 v11 (fun _ => ?_)
      refine v_iload (pc := 44) (dk dt_X12_run 27 rfl) rfl ?_
      obtain ⟨v12, h⟩ := h
      obtain ⟨v13, h⟩ := h
      obtain ⟨v14, h⟩ := h
      refine v_iald (pc := 46) (dk dt_X12_run 28 rfl) (Or.inl v12) v13 v14 (fun _ => ?_)
      refine v_istore (pc := 47) (ls' := [some (rv l0), some (iv l1), some (iv l2), some (iv l3), some (iv ((60 * l1) + (6 * l3))), some (iv (gel G (gfd G 12 21 l0) ((60 * l1) + (6 * l3)))), none]) (dk dt_X12_run 29 rfl) (Nat.le_of_ble_eq_true rfl) rfl ?_
      refine v_iload (pc := 49) (dk dt_X12_run 30 rfl) rfl ?_
      refine v_bipush (pc := 51) (dk dt_X12_run 31 rfl) (by decide) ⟨by decide, by decide⟩ ?_
      refine v_icmp_ge (pc := 53) (tgt := 145) (dk dt_X12_run 32 rfl) (by decide) (fun c15 => ?_) (fun c15 => ?_)
      · replace h := h.1 c15
        refine v_iload (pc := 145) (dk dt_X12_run_1 38 rfl) rfl ?_
        refine v_bipush (pc := 147) (dk dt_X12_run_1 39 rfl) (by decide) ⟨by decide, by decide⟩ ?_
        refine v_icmp_gt (pc := 149) (tgt := 170) (dk dt_X12_run_2 0 rfl) (by decide) (fun c16 => ?_) (fun c16 => ?_)
        · replace h := h.1 c16
          refine v_iload (pc := 170) (dk dt_X12_run_2 11 rfl) rfl ?_
          refine v_bipush (pc := 172) (dk dt_X12_run_2 12 rfl) (by decide) ⟨by decide, by decide⟩ ?_
          refine v_icmp_ne (pc := 174) (tgt := 193) (dk dt_X12_run_2 13 rfl) (by decide) (fun c17 => ?_) (fun c17 => ?_)
          · replace h := h.1 c17
            refine v_aload_n (pc := 193) (dk dt_X12_run_2 23 rfl) rfl rfl ?_
            refine v_iload (pc := 194) (dk dt_X12_run_2 24 rfl) rfl ?_
            refine v_aload_n (pc := 196) (dk dt_X12_run_2 25 rfl) rfl rfl ?_
            obtain ⟨v18, h⟩ := h
            refine v_getR (pc := 197) (dk dt_X12_run_2 26 rfl) fl_X12_57 v18 (fun _ => ?_)
            refine v_iload (pc := 200) (dk dt_X12_run_2 27 rfl) rfl ?_
            refine v_iconst (pc := 202) (dk dt_X12_run_2 28 rfl) ⟨by decide, by decide⟩ ?_
            obtain ⟨v19, h⟩ := h
            refine v_iadd (pc := 203) (dk dt_X12_run_2 29 rfl) v19 ?_
            obtain ⟨v20, h⟩ := h
            obtain ⟨v21, h⟩ := h
            obtain ⟨v22, h⟩ := h
            refine v_iald (pc := 204) (dk dt_X12_run_2 30 rfl) (Or.inl v20) v21 v22 (fun _ => ?_)
            obtain ⟨v23, h⟩ := h
            refine v_cvV (c := 12) (As := [iv (gel G (gfd G 12 21 l0) ((60 * l1) + (6 * l3))), iv (gel G (gfd G 12 21 l0) (((60 * l1) + (6 * l3)) + 1))]) (stk := []) (pc := 205) (dk dt_X12_run_2 31 rfl) ml_X12_299 rfl rfl (Nat.le_of_ble_eq_true rfl) rfl ⟨by decide, rfl⟩ v23 rfl (Call.mono h (fun r24 G25 c26 s27 h => ?_))
            obtain ⟨v28, h⟩ := h
            refine v_iinc (pc := 208) (ls' := [some (rv l0), some (iv l1), some (iv l2), some (iv (l3 + 1)), some (iv ((60 * l1) + (6 * l3))), some (iv (gel G (gfd G 12 21 l0) ((60 * l1) + (6 * l3)))), none]) (dk dt_X12_run_2 32 rfl) (Nat.le_of_ble_eq_true rfl) rfl v28 rfl ?_
            refine v_goto (pc := 211) (tgt := 12) (dk dt_X12_run_2 33 rfl) (by decide) ?_
            exact v_less2 (ls' := [some (rv l0), some (iv l1), some (iv l2), some (iv (l3 + 1)), none, none, none]) ⟨rfl, rfl, rfl, rfl, trivial⟩ h
          · replace h := h.2 c17
            refine v_aload_n (pc := 177) (dk dt_X12_run_2 14 rfl) rfl rfl ?_
            refine v_aload_n (pc := 178) (dk dt_X12_run_2 15 rfl) rfl rfl ?_
            obtain ⟨v29, h⟩ := h
            refine v_getR (pc := 179) (dk dt_X12_run_2 16 rfl) fl_X12_57 v29 (fun _ => ?_)
            refine v_iload (pc := 182) (dk dt_X12_run_2 17 rfl) rfl ?_
            refine v_iconst (pc := 184) (dk dt_X12_run_2 18 rfl) ⟨by decide, by decide⟩ ?_
            obtain ⟨v30, h⟩ := h
            refine v_iadd (pc := 185) (dk dt_X12_run_2 19 rfl) v30 ?_
            obtain ⟨v31, h⟩ := h
            obtain ⟨v32, h⟩ := h
            obtain ⟨v33, h⟩ := h
            refine v_iald (pc := 186) (dk dt_X12_run_2 20 rfl) (Or.inl v31) v32 v33 (fun _ => ?_)
            obtain ⟨v34, h⟩ := h
            refine v_cvV (c := 12) (As := [iv (gel G (gfd G 12 21 l0) (((60 * l1) + (6 * l3)) + 1))]) (stk := []) (pc := 187) (dk dt_X12_run_2 21 rfl) ml_X12_296 rfl rfl (Nat.le_of_ble_eq_true rfl) rfl ⟨by decide, rfl⟩ v34 rfl (Call.mono h (fun r35 G36 c37 s38 h => ?_))
            refine v_goto (pc := 190) (tgt := 208) (dk dt_X12_run_2 22 rfl) (by decide) ?_
            obtain ⟨v39, h⟩ := h
            refine v_iinc (pc := 208) (ls' := [some (rv l0), some (iv l1), some (iv l2), some (iv (l3 + 1)), some (iv ((60 * l1) + (6 * l3))), some (iv (gel G (gfd G 12 21 l0) ((60 * l1) + (6 * l3)))), none]) (dk dt_X12_run_2 32 rfl) (Nat.le_of_ble_eq_true rfl) rfl v39 rfl ?_
            refine v_goto (pc := 211) (tgt := 12) (dk dt_X12_run_2 33 rfl) (by decide) ?_
            exact v_less2 (ls' := [some (rv l0), some (iv l1), some (iv l2), some (iv (l3 + 1)), none, none, none]) ⟨rfl, rfl, rfl, rfl, trivial⟩ h
        · replace h := h.2 c16
          refine v_aload_n (pc := 152) (dk dt_X12_run_2 1 rfl) rfl rfl ?_
          refine v_iload (pc := 153) (dk dt_X12_run_2 2 rfl) rfl ?_
          refine v_aload_n (pc := 155) (dk dt_X12_run_2 3 rfl) rfl rfl ?_
          obtain ⟨v40, h⟩ := h
          refine v_getR (pc := 156) (dk dt_X12_run_2 4 rfl) fl_X12_57 v40 (fun _ => ?_)
          refine v_iload (pc := 159) (dk dt_X12_run_2 5 rfl) rfl ?_
          refine v_iconst (pc := 161) (dk dt_X12_run_2 6 rfl) ⟨by decide, by decide⟩ ?_
          obtain ⟨v41, h⟩ := h
          refine v_iadd (pc := 162) (dk dt_X12_run_2 7 rfl) v41 ?_
          obtain ⟨v42, h⟩ := h
          obtain ⟨v43, h⟩ := h
          obtain ⟨v44, h⟩ := h
          refine v_iald (pc := 163) (dk dt_X12_run_2 8 rfl) (Or.inl v42) v43 v44 (fun _ => ?_)
          obtain ⟨v45, h⟩ := h
          refine v_cvV (c := 12) (As := [iv (gel G (gfd G 12 21 l0) ((60 * l1) + (6 * l3))), iv (gel G (gfd G 12 21 l0) (((60 * l1) + (6 * l3)) + 1))]) (stk := []) (pc := 164) (dk dt_X12_run_2 9 rfl) ml_X12_293 rfl rfl (Nat.le_of_ble_eq_true rfl) rfl ⟨by decide, rfl⟩ v45 rfl (Call.mono h (fun r46 G47 c48 s49 h => ?_))
          refine v_goto (pc := 167) (tgt := 208) (dk dt_X12_run_2 10 rfl) (by decide) ?_
          obtain ⟨v50, h⟩ := h
          refine v_iinc (pc := 208) (ls' := [some (rv l0), some (iv l1), some (iv l2), some (iv (l3 + 1)), some (iv ((60 * l1) + (6 * l3))), some (iv (gel G (gfd G 12 21 l0) ((60 * l1) + (6 * l3)))), none]) (dk dt_X12_run_2 32 rfl) (Nat.le_of_ble_eq_true rfl) rfl v50 rfl ?_
          refine v_goto (pc := 211) (tgt := 12) (dk dt_X12_run_2 33 rfl) (by decide) ?_
          exact v_less2 (ls' := [some (rv l0), some (iv l1), some (iv l2), some (iv (l3 + 1)), none, none, none]) ⟨rfl, rfl, rfl, rfl, trivial⟩ h
      · replace h := h.2 c15
        refine v_aload_n (pc := 56) (dk dt_X12_run 33 rfl) rfl rfl ?_
        refine v_iload (pc := 57) (dk dt_X12_run 34 rfl) rfl ?_
        suffices k78 : V E M_X12_run 67 [some (rv l0), some (iv l1), some (iv l2), some (iv l3), some (iv ((60 * l1) + (6 * l3))), some (iv (gel G (gfd G 12 21 l0) ((60 * l1) + (6 * l3)))), none] [iv (if (gel G (gfd G 12 21 l0) ((60 * l1) + (6 * l3))) = 0 then (1 : Int) else 0), rv l0] G c s Q X by
          refine v_if_ne (pc := 59) (tgt := 66) (dk dt_X12_run 35 rfl) (by decide) (fun c51 => ?_) (fun c51 => ?_)
          · refine v_iconst (pc := 66) (dk dt_X12_run 38 rfl) ⟨by decide, by decide⟩ ?_
            exact v_less2 (ls' := [some (rv l0), some (iv l1), some (iv l2), some (iv l3), some (iv ((60 * l1) + (6 * l3))), some (iv (gel G (gfd G 12 21 l0) ((60 * l1) + (6 * l3)))), none]) ⟨rfl, rfl, rfl, rfl, rfl, rfl, trivial⟩ (by have hk9 := k78; try simp only [if_neg c51] at hk9 ⊢; exact hk9)
          · refine v_iconst (pc := 62) (dk dt_X12_run 36 rfl) ⟨by decide, by decide⟩ ?_
            refine v_goto (pc := 63) (tgt := 67) (dk dt_X12_run 37 rfl) (by decide) ?_
            exact v_less2 (ls' := [some (rv l0), some (iv l1), some (iv l2), some (iv l3), some (iv ((60 * l1) + (6 * l3))), some (iv (gel G (gfd G 12 21 l0) ((60 * l1) + (6 * l3)))), none]) ⟨rfl, rfl, rfl, rfl, rfl, rfl, trivial⟩ (by have hk9 := k78; try simp only [if_pos c51] at hk9 ⊢; exact hk9)
        obtain ⟨v52, h⟩ := h
        refine v_cvV (c := 12) (As := [iv (if (gel G (gfd G 12 21 l0) ((60 * l1) + (6 * l3))) = 0 then (1 : Int) else 0)]) (stk := []) (pc := 67) (dk dt_X12_run 39 rfl) ml_X12_282 rfl rfl (Nat.le_of_ble_eq_true rfl) rfl ⟨by decide, rfl⟩ v52 rfl (Call.mono h (fun r53 G54 c55 s56 h => ?_))
        refine v_iload (pc := 70) (dk dt_X12_run_1 0 rfl) rfl ?_
        obtain ⟨J57, dJ57⟩ : ∃ J9 : Gt → Nat → Nat → Prop, J9 = fun G58 c59 s60 => V E M_X12_run 92 [some (rv l0), some (iv l1), some (iv l2), some (iv l3), some (iv ((60 * l1) + (6 * l3))), some (iv (gel G (gfd G 12 21 l0) ((60 * l1) + (6 * l3)))), none] [] G58 c59 s60 Q X := ⟨_, rfl⟩
        have hJ57 : ∀ (G58 : Gt) (c59 s60 : Nat), (((gel G (gfd G 12 21 l0) ((60 * l1) + (6 * l3))) ≠ 0 → (gcl G58 l0 = 13 ∧ Call E M_X12_nextSeries [rv l0, iv ((60 * l1) + (6 * l3)), iv (-1)] G58 c59 s60 X (fun r63 G64 c65 s66 => V E M_X12_run 110 [some (rv l0), some (iv l1), some (iv l2), some (iv l3), some (iv ((60 * l1) + (6 * l3))), none, some (iv r63)] [] G64 c65 s66 Q X))) ∧ ((gel G (gfd G 12 21 l0) ((60 * l1) + (6 * l3))) = 0 → V E M_X12_run 110 [some (rv l0), some (iv l1), some (iv l2), some (iv l3), some (iv ((60 * l1) + (6 * l3))), none, some (iv (-1))] [] G58 c59 s60 Q X)) → J57 G58 c59 s60 := by
          intro G58 c59 s60 h
          rw [dJ57]
          refine v_iload (pc := 92) (dk dt_X12_run_1 12 rfl) rfl ?_
          refine v_if_ne (pc := 94) (tgt := 101) (dk dt_X12_run_1 13 rfl) (by decide) (fun c61 => ?_) (fun c61 => ?_)
          · replace h := h.1 c61
            refine v_aload_n (pc := 101) (dk dt_X12_run_1 16 rfl) rfl rfl ?_
            refine v_iload (pc := 102) (dk dt_X12_run_1 17 rfl) rfl ?_
            refine v_iconst (pc := 104) (dk dt_X12_run_1 18 rfl) ⟨by decide, by decide⟩ ?_
            obtain ⟨v62, h⟩ := h
            refine v_cvI (c := 12) (As := [iv ((60 * l1) + (6 * l3)), iv (-1)]) (stk := []) (pc := 105) (dk dt_X12_run_1 19 rfl) ml_X12_286 rfl rfl (Nat.le_of_ble_eq_true rfl) rfl ⟨by decide, rfl⟩ v62 rfl (Call.mono h (fun r63 G64 c65 s66 h => ?_))
            refine v_istore (pc := 108) (ls' := [some (rv l0), some (iv l1), some (iv l2), some (iv l3), some (iv ((60 * l1) + (6 * l3))), some (iv (gel G (gfd G 12 21 l0) ((60 * l1) + (6 * l3)))), some (iv r63)]) (dk dt_X12_run_1 20 rfl) (Nat.le_of_ble_eq_true rfl) rfl ?_
            exact v_less2 (ls' := [some (rv l0), some (iv l1), some (iv l2), some (iv l3), some (iv ((60 * l1) + (6 * l3))), none, some (iv r63)]) ⟨rfl, rfl, rfl, rfl, rfl, rfl, trivial⟩ h
          · replace h := h.2 c61
            refine v_iconst (pc := 97) (dk dt_X12_run_1 14 rfl) ⟨by decide, by decide⟩ ?_
            refine v_goto (pc := 98) (tgt := 108) (dk dt_X12_run_1 15 rfl) (by decide) ?_
            refine v_istore (pc := 108) (ls' := [some (rv l0), some (iv l1), some (iv l2), some (iv l3), some (iv ((60 * l1) + (6 * l3))), some (iv (gel G (gfd G 12 21 l0) ((60 * l1) + (6 * l3)))), some (iv (-1))]) (dk dt_X12_run_1 20 rfl) (Nat.le_of_ble_eq_true rfl) rfl ?_
            exact v_less2 (ls' := [some (rv l0), some (iv l1), some (iv l2), some (iv l3), some (iv ((60 * l1) + (6 * l3))), none, some (iv (-1))]) ⟨rfl, rfl, rfl, rfl, rfl, rfl, trivial⟩ h
        replace h := h _ hJ57
        refine v_if_ne (pc := 72) (tgt := 92) (dk dt_X12_run_1 1 rfl) (by decide) (fun c67 => ?_) (fun c67 => ?_)
        · replace h := h.1 c67
          rw [dJ57] at h
          exact h
        · replace h := h.2 c67
          refine v_aload_n (pc := 75) (dk dt_X12_run_1 2 rfl) rfl rfl ?_
          refine v_sipush (pc := 76) (dk dt_X12_run_1 3 rfl) (by decide) ⟨by decide, by decide⟩ ?_
          refine v_aload_n (pc := 79) (dk dt_X12_run_1 4 rfl) rfl rfl ?_
          obtain ⟨v68, h⟩ := h
          refine v_getR (pc := 80) (dk dt_X12_run_1 5 rfl) fl_X12_57 v68 (fun _ => ?_)
          refine v_iload (pc := 83) (dk dt_X12_run_1 6 rfl) rfl ?_
          refine v_iconst (pc := 85) (dk dt_X12_run_1 7 rfl) ⟨by decide, by decide⟩ ?_
          obtain ⟨v69, h⟩ := h
          refine v_iadd (pc := 86) (dk dt_X12_run_1 8 rfl) v69 ?_
          obtain ⟨v70, h⟩ := h
          obtain ⟨v71, h⟩ := h
          obtain ⟨v72, h⟩ := h
          refine v_iald (pc := 87) (dk dt_X12_run_1 9 rfl) (Or.inl v70) v71 v72 (fun _ => ?_)
          refine v_i2l (pc := 88) (dk dt_X12_run_1 10 rfl) ?_
          obtain ⟨v73, h⟩ := h
          refine v_cvV (c := 12) (As := [iv 666, jv (gel G54 (gfd G54 12 21 l0) (((60 * l1) + (6 * l3)) + 1))]) (stk := []) (pc := 89) (dk dt_X12_run_1 11 rfl) ml_X12_246 rfl rfl (Nat.le_of_ble_eq_true rfl) rfl ⟨by decide, rfl⟩ v73 rfl (Call.mono h (fun r74 G75 c76 s77 h => ?_))
          rw [dJ57] at h
          exact h
set_option maxRecDepth 20000 in
theorem b_X12_run_110 {E : EE} {l0 l1 l2 l3 l4 l6 : Int} {G : Gt} {c s : Nat} {Q X : Int → Gt → Prop} (h : ((l6 = (-1) → (i32 (l3 + 1) ∧ V E M_X12_run 12 [some (rv l0), some (iv l1), some (iv l2), some (iv (l3 + 1)), none, none, none] [] G c s Q X)) ∧ (l6 ≠ (-1) → (gcl G l0 = 13 ∧ Call E M_X12_looksAt [rv l0, iv l4, iv l6, iv l2] G c s X (fun r4 G5 c6 s7 => gcl G5 l0 = 13 ∧ OkP E M_X12_codeOfSeries [rv l0, iv l6] G5 (mCode G5 l0 l6) ∧ gcl G5 l0 = 13 ∧ Call E M_X12_nextSeries [rv l0, iv l4, iv (mCode G5 l0 l6)] G5 c6 s7 X (fun r11 G12 c13 s14 => V E M_X12_run 110 [some (rv l0), some (iv l1), some (iv l2), some (iv l3), some (iv l4), none, some (iv r11)] [] G12 c13 s14 Q X)))))) : V E M_X12_run 110 [some (rv l0), some (iv l1), some (iv l2), some (iv l3), some (iv l4), none, some (iv l6)] [] G c s Q X := by
  refine v_iload (pc := 110) (dk dt_X12_run_1 21 rfl) rfl ?_
  refine v_iconst (pc := 112) (dk dt_X12_run_1 22 rfl) ⟨by decide, by decide⟩ ?_
  refine v_icmp_eq (pc := 113) (tgt := 142) (dk dt_X12_run_1 23 rfl) (by decide) (fun c1 => ?_) (fun c1 => ?_)
  · replace h := h.1 c1
    refine v_goto (pc := 142) (tgt := 208) (dk dt_X12_run_1 37 rfl) (by decide) ?_
    obtain ⟨v2, h⟩ := h
    refine v_iinc (pc := 208) (ls' := [some (rv l0), some (iv l1), some (iv l2), some (iv (l3 + 1)), some (iv l4), none, some (iv l6)]) (dk dt_X12_run_2 32 rfl) (Nat.le_of_ble_eq_true rfl) rfl v2 rfl ?_
    refine v_goto (pc := 211) (tgt := 12) (dk dt_X12_run_2 33 rfl) (by decide) ?_
    exact v_less2 (ls' := [some (rv l0), some (iv l1), some (iv l2), some (iv (l3 + 1)), none, none, none]) ⟨rfl, rfl, rfl, rfl, trivial⟩ h
  · replace h := h.2 c1
    refine v_aload_n (pc := 116) (dk dt_X12_run_1 24 rfl) rfl rfl ?_
    refine v_iload (pc := 117) (dk dt_X12_run_1 25 rfl) rfl ?_
    refine v_iload (pc := 119) (dk dt_X12_run_1 26 rfl) rfl ?_
    refine v_iload_n (pc := 121) (dk dt_X12_run_1 27 rfl) rfl rfl ?_
    obtain ⟨v3, h⟩ := h
    refine v_cvV (c := 12) (As := [iv l4, iv l6, iv l2]) (stk := []) (pc := 122) (dk dt_X12_run_1 28 rfl) ml_X12_289 rfl rfl (Nat.le_of_ble_eq_true rfl) rfl ⟨by decide, rfl⟩ v3 rfl (Call.mono h (fun r4 G5 c6 s7 h => ?_))
    refine v_aload_n (pc := 125) (dk dt_X12_run_1 29 rfl) rfl rfl ?_
    refine v_iload (pc := 126) (dk dt_X12_run_1 30 rfl) rfl ?_
    refine v_aload_n (pc := 128) (dk dt_X12_run_1 31 rfl) rfl rfl ?_
    refine v_iload (pc := 129) (dk dt_X12_run_1 32 rfl) rfl ?_
    obtain ⟨v8, h⟩ := h
    obtain ⟨v9, h⟩ := h
    refine v_cvPI (c := 12) (v := (mCode G5 l0 l6)) (As := [iv l6]) (stk := [iv l4, rv l0]) (pc := 131) (dk dt_X12_run_1 33 rfl) ml_X12_134 rfl rfl (Nat.le_of_ble_eq_true rfl) rfl ⟨by decide, rfl⟩ v8 rfl v9 ?_
    obtain ⟨v10, h⟩ := h
    refine v_cvI (c := 12) (As := [iv l4, iv (mCode G5 l0 l6)]) (stk := []) (pc := 134) (dk dt_X12_run_1 34 rfl) ml_X12_286 rfl rfl (Nat.le_of_ble_eq_true rfl) rfl ⟨by decide, rfl⟩ v10 rfl (Call.mono h (fun r11 G12 c13 s14 h => ?_))
    refine v_istore (pc := 137) (ls' := [some (rv l0), some (iv l1), some (iv l2), some (iv l3), some (iv l4), none, some (iv r11)]) (dk dt_X12_run_1 35 rfl) (Nat.le_of_ble_eq_true rfl) rfl ?_
    refine v_goto (pc := 139) (tgt := 110) (dk dt_X12_run_1 36 rfl) (by decide) ?_
    exact h
set_option maxRecDepth 20000 in
theorem b_X12_ask_0 {E : EE} {l0 l1 : Int} {G : Gt} {c s : Nat} {Q X : Int → Gt → Prop} (h : (OkP E M_X12_in [iv l1, iv 0, iv 100000] G (wIn l1 0 100000) ∧ ∀ J2 : Int → Gt → Nat → Nat → Prop, (∀ (x3 : Int) (G4 : Gt) (c5 s6 : Nat), (gcl G4 l0 = 13 ∧ ∀ G8 : Gt, G8 = (sfd G4 12 0 l0 x3) → gcl G8 l0 = 13 ∧ (((gfd G8 12 0 l0) ≤ 0 → (gcl G8 l0 = 13 ∧ Call E M_X12_run [rv l0, iv 0, iv l1] G8 c5 s6 X (fun r12 G13 c14 s15 => gcl G13 l0 = 13 ∧ ((gfd G13 12 34 l0) = 0 → gcl G13 l0 = 13) ∧ ((gfd G13 12 34 l0) = 0 → gcl G13 (gfd G13 12 30 l0) = 15) ∧ ((gfd G13 12 34 l0) = 0 → 0 < gln G13 (gfd G13 12 30 l0)) ∧ gcl G13 l0 = 13 ∧ ∀ G22 : Gt, G22 = (sfd G13 12 35 l0 (if (gfd G13 12 34 l0) = 0 then ((gel G13 (gfd G13 12 30 l0) 0) : Int) else 0)) → V E M_X12_ask 70 [some (rv l0), none, some (iv 0)] [] G22 c14 s15 Q X))) ∧ (0 < (gfd G8 12 0 l0) → Q 0 G8))) → J2 x3 G4 c5 s6) → (((wIn l1 0 100000) ≠ 0 → (gcl G l0 = 13 ∧ Call E M_X12_left [rv l0, iv 0] G c s X (fun r25 G26 c27 s28 => ((r25 = 1 → J2 0 G26 c27 s28) ∧ (r25 ≠ 1 → J2 2 G26 c27 s28))))) ∧ ((wIn l1 0 100000) = 0 → J2 1 G c s)))) : V E M_X12_ask 0 [some (rv l0), some (iv l1), none] [] G c s Q X := by
  refine v_aload_n (pc := 0) (dk dt_X12_ask 0 rfl) rfl rfl ?_
  refine v_iload_n (pc := 1) (dk dt_X12_ask 1 rfl) rfl rfl ?_
  refine v_iconst (pc := 2) (dk dt_X12_ask 2 rfl) ⟨by decide, by decide⟩ ?_
  refine v_ldc (pc := 3) (dk dt_X12_ask 3 rfl) co_X12_189 ⟨by decide, by decide⟩ ?_
  obtain ⟨v1, h⟩ := h
  refine v_csPZ (v := (wIn l1 0 100000)) (As := [iv l1, iv 0, iv 100000]) (stk := [rv l0]) (pc := 5) (dk dt_X12_ask 4 rfl) ml_X12_172 rfl rfl (Nat.le_of_ble_eq_true rfl) rfl rfl v1 ?_
  obtain ⟨J2, dJ2⟩ : ∃ J9 : Int → Gt → Nat → Nat → Prop, J9 = fun x3 G4 c5 s6 => V E M_X12_ask 29 [some (rv l0), some (iv l1), none] [iv x3, rv l0] G4 c5 s6 Q X := ⟨_, rfl⟩
  have hJ2 : ∀ (x3 : Int) (G4 : Gt) (c5 s6 : Nat), (gcl G4 l0 = 13 ∧ ∀ G8 : Gt, G8 = (sfd G4 12 0 l0 x3) → gcl G8 l0 = 13 ∧ (((gfd G8 12 0 l0) ≤ 0 → (gcl G8 l0 = 13 ∧ Call E M_X12_run [rv l0, iv 0, iv l1] G8 c5 s6 X (fun r12 G13 c14 s15 => gcl G13 l0 = 13 ∧ ((gfd G13 12 34 l0) = 0 → gcl G13 l0 = 13) ∧ ((gfd G13 12 34 l0) = 0 → gcl G13 (gfd G13 12 30 l0) = 15) ∧ ((gfd G13 12 34 l0) = 0 → 0 < gln G13 (gfd G13 12 30 l0)) ∧ gcl G13 l0 = 13 ∧ ∀ G22 : Gt, G22 = (sfd G13 12 35 l0 (if (gfd G13 12 34 l0) = 0 then ((gel G13 (gfd G13 12 30 l0) 0) : Int) else 0)) → V E M_X12_ask 70 [some (rv l0), none, some (iv 0)] [] G22 c14 s15 Q X))) ∧ (0 < (gfd G8 12 0 l0) → Q 0 G8))) → J2 x3 G4 c5 s6 := by
    intro x3 G4 c5 s6 h
    rw [dJ2]
    obtain ⟨v7, h⟩ := h
    refine v_putI (pc := 29) (dk dt_X12_ask 16 rfl) fl_X12_127 (Or.inl rfl) v7 ?_
    generalize hG8 : (sfd G4 12 0 l0 x3) = G8
    replace h := h G8 hG8.symm
    refine v_aload_n (pc := 32) (dk dt_X12_ask 17 rfl) rfl rfl ?_
    obtain ⟨v9, h⟩ := h
    refine v_getI (pc := 33) (dk dt_X12_ask 18 rfl) fl_X12_127 v9 (fun _ => ?_)
    refine v_if_le (pc := 36) (tgt := 41) (dk dt_X12_ask 19 rfl) (by decide) (fun c10 => ?_) (fun c10 => ?_)
    · replace h := h.1 c10
      refine v_aload_n (pc := 41) (dk dt_X12_ask 22 rfl) rfl rfl ?_
      refine v_iconst (pc := 42) (dk dt_X12_ask 23 rfl) ⟨by decide, by decide⟩ ?_
      refine v_iload_n (pc := 43) (dk dt_X12_ask 24 rfl) rfl rfl ?_
      obtain ⟨v11, h⟩ := h
      refine v_cvV (c := 12) (As := [iv 0, iv l1]) (stk := []) (pc := 44) (dk dt_X12_ask 25 rfl) ml_X12_200 rfl rfl (Nat.le_of_ble_eq_true rfl) rfl ⟨by decide, rfl⟩ v11 rfl (Call.mono h (fun r12 G13 c14 s15 h => ?_))
      refine v_aload_n (pc := 47) (dk dt_X12_ask 26 rfl) rfl rfl ?_
      refine v_aload_n (pc := 48) (dk dt_X12_ask 27 rfl) rfl rfl ?_
      obtain ⟨v16, h⟩ := h
      refine v_getZ (pc := 49) (dk dt_X12_ask 28 rfl) fl_X12_208 v16 (fun _ => ?_)
      obtain ⟨v18, v19, v20, h⟩ := h
      suffices k30 : V E M_X12_ask 65 [some (rv l0), none, none] [iv (if (gfd G13 12 34 l0) = 0 then ((gel G13 (gfd G13 12 30 l0) 0) : Int) else 0), rv l0] G13 c14 s15 Q X by
        refine v_if_eq (pc := 52) (tgt := 59) (dk dt_X12_ask 29 rfl) (by decide) (fun c17 => ?_) (fun c17 => ?_)
        · refine v_aload_n (pc := 59) (dk dt_X12_ask 32 rfl) rfl rfl ?_
          refine v_getR (pc := 60) (dk dt_X12_ask 33 rfl) fl_X12_81 (v18 c17) (fun _ => ?_)
          refine v_iconst (pc := 63) (dk dt_X12_ask 34 rfl) ⟨by decide, by decide⟩ ?_
          refine v_iald (pc := 64) (dk dt_X12_ask 35 rfl) (Or.inl (v19 c17)) (by decide) (v20 c17) (fun _ => ?_)
          exact v_less2 (ls' := [some (rv l0), none, none]) ⟨rfl, trivial⟩ (by have hk9 := k30; try simp only [if_pos c17] at hk9 ⊢; exact hk9)
        · refine v_iconst (pc := 55) (dk dt_X12_ask 30 rfl) ⟨by decide, by decide⟩ ?_
          refine v_goto (pc := 56) (tgt := 65) (dk dt_X12_ask 31 rfl) (by decide) ?_
          exact v_less2 (ls' := [some (rv l0), none, none]) ⟨rfl, trivial⟩ (by have hk9 := k30; try simp only [if_neg c17] at hk9 ⊢; exact hk9)
      obtain ⟨v21, h⟩ := h
      refine v_putI (pc := 65) (dk dt_X12_ask 36 rfl) fl_X12_302 (Or.inl rfl) v21 ?_
      generalize hG22 : (sfd G13 12 35 l0 (if (gfd G13 12 34 l0) = 0 then ((gel G13 (gfd G13 12 30 l0) 0) : Int) else 0)) = G22
      replace h := h G22 hG22.symm
      refine v_iconst (pc := 68) (dk dt_X12_ask 37 rfl) ⟨by decide, by decide⟩ ?_
      refine v_istore_n (pc := 69) (ls' := [some (rv l0), none, some (iv 0)]) (dk dt_X12_ask 38 rfl) rfl (Nat.le_of_ble_eq_true rfl) rfl ?_
      exact h
    · replace h := h.2 c10
      refine v_iconst (pc := 39) (dk dt_X12_ask 20 rfl) ⟨by decide, by decide⟩ ?_
      exact v_iret (pc := 40) (dk dt_X12_ask 21 rfl) rfl h
  replace h := h _ hJ2
  refine v_if_ne (pc := 8) (tgt := 15) (dk dt_X12_ask 5 rfl) (by decide) (fun c23 => ?_) (fun c23 => ?_)
  · replace h := h.1 c23
    refine v_aload_n (pc := 15) (dk dt_X12_ask 8 rfl) rfl rfl ?_
    refine v_iconst (pc := 16) (dk dt_X12_ask 9 rfl) ⟨by decide, by decide⟩ ?_
    obtain ⟨v24, h⟩ := h
    refine v_cvI (c := 12) (As := [iv 0]) (stk := [rv l0]) (pc := 17) (dk dt_X12_ask 10 rfl) ml_X12_230 rfl rfl (Nat.le_of_ble_eq_true rfl) rfl ⟨by decide, rfl⟩ v24 rfl (Call.mono h (fun r25 G26 c27 s28 h => ?_))
    refine v_iconst (pc := 20) (dk dt_X12_ask 11 rfl) ⟨by decide, by decide⟩ ?_
    refine v_icmp_eq (pc := 21) (tgt := 28) (dk dt_X12_ask 12 rfl) (by decide) (fun c29 => ?_) (fun c29 => ?_)
    · replace h := h.1 c29
      refine v_iconst (pc := 28) (dk dt_X12_ask 15 rfl) ⟨by decide, by decide⟩ ?_
      rw [dJ2] at h
      exact h
    · replace h := h.2 c29
      refine v_iconst (pc := 24) (dk dt_X12_ask 13 rfl) ⟨by decide, by decide⟩ ?_
      refine v_goto (pc := 25) (tgt := 29) (dk dt_X12_ask 14 rfl) (by decide) ?_
      rw [dJ2] at h
      exact h
  · replace h := h.2 c23
    refine v_iconst (pc := 11) (dk dt_X12_ask 6 rfl) ⟨by decide, by decide⟩ ?_
    refine v_goto (pc := 12) (tgt := 29) (dk dt_X12_ask 7 rfl) (by decide) ?_
    rw [dJ2] at h
    exact h
set_option maxRecDepth 20000 in
theorem i_X12_ask {E : EE} {l0 l1 : Int} {G : Gt} {c s : Nat} {Q X : Int → Gt → Prop} (h : (OkP E M_X12_in [iv l1, iv 0, iv 100000] G (wIn l1 0 100000) ∧ ∀ J2 : Int → Gt → Nat → Nat → Prop, (∀ (x3 : Int) (G4 : Gt) (c5 s6 : Nat), (gcl G4 l0 = 13 ∧ ∀ G8 : Gt, G8 = (sfd G4 12 0 l0 x3) → gcl G8 l0 = 13 ∧ (((gfd G8 12 0 l0) ≤ 0 → (gcl G8 l0 = 13 ∧ Call E M_X12_run [rv l0, iv 0, iv l1] G8 c5 s6 X (fun r12 G13 c14 s15 => gcl G13 l0 = 13 ∧ ((gfd G13 12 34 l0) = 0 → gcl G13 l0 = 13) ∧ ((gfd G13 12 34 l0) = 0 → gcl G13 (gfd G13 12 30 l0) = 15) ∧ ((gfd G13 12 34 l0) = 0 → 0 < gln G13 (gfd G13 12 30 l0)) ∧ gcl G13 l0 = 13 ∧ ∀ G22 : Gt, G22 = (sfd G13 12 35 l0 (if (gfd G13 12 34 l0) = 0 then ((gel G13 (gfd G13 12 30 l0) 0) : Int) else 0)) → V E M_X12_ask 70 [some (rv l0), none, some (iv 0)] [] G22 c14 s15 Q X))) ∧ (0 < (gfd G8 12 0 l0) → Q 0 G8))) → J2 x3 G4 c5 s6) → (((wIn l1 0 100000) ≠ 0 → (gcl G l0 = 13 ∧ Call E M_X12_left [rv l0, iv 0] G c s X (fun r25 G26 c27 s28 => ((r25 = 1 → J2 0 G26 c27 s28) ∧ (r25 ≠ 1 → J2 2 G26 c27 s28))))) ∧ ((wIn l1 0 100000) = 0 → J2 1 G c s)))) : Ok E M_X12_ask [rv l0, iv l1] G c s Q X := Ok.intro (k := 1) rfl rfl (Nat.le_of_ble_eq_true rfl) rfl (b_X12_ask_0 h)
set_option maxRecDepth 20000 in
theorem b_X12_ask_70 {E : EE} {l0 l2 : Int} {G : Gt} {c s : Nat} {Q X : Int → Gt → Prop} (h : (gcl G l0 = 13 ∧ (((gfd G 12 35 l0) ≤ l2 → (gcl G l0 = 13 ∧ ((gfd G 12 34 l0) = 0 → gcl G l0 = 13) ∧ Q (if (gfd G 12 34 l0) = 0 then ((gfd G 12 35 l0) : Int) else (-1)) G)) ∧ (l2 < (gfd G 12 35 l0) → (gcl G l0 = 13 ∧ gcl G l0 = 13 ∧ gcl G (gfd G 12 32 l0) = 16 ∧ 0 ≤ l2 ∧ l2 < gln G (gfd G 12 32 l0) ∧ gcl G (gfd G 12 37 l0) = 16 ∧ 0 ≤ l2 ∧ l2 < gln G (gfd G 12 37 l0) ∧ ∀ G14 : Gt, G14 = (sel G (gfd G 12 37 l0) l2 (gel G (gfd G 12 32 l0) l2)) → gcl G14 l0 = 13 ∧ gcl G14 l0 = 13 ∧ gcl G14 (gfd G14 12 29 l0) = 17 ∧ 0 < gln G14 (gfd G14 12 29 l0) ∧ ((gel G14 (gfd G14 12 29 l0) 0) = 0 → gcl G14 l0 = 13) ∧ ((gel G14 (gfd G14 12 29 l0) 0) = 0 → gcl G14 (gfd G14 12 31 l0) = 15) ∧ ((gel G14 (gfd G14 12 29 l0) 0) = 0 → 0 ≤ l2) ∧ ((gel G14 (gfd G14 12 29 l0) 0) = 0 → l2 < gln G14 (gfd G14 12 31 l0)) ∧ gcl G14 (gfd G14 12 36 l0) = 15 ∧ 0 ≤ l2 ∧ l2 < gln G14 (gfd G14 12 36 l0) ∧ ∀ G27 : Gt, G27 = (sel G14 (gfd G14 12 36 l0) l2 (if (gel G14 (gfd G14 12 29 l0) 0) = 0 then ((gel G14 (gfd G14 12 31 l0) l2) : Int) else 666)) → i32 (l2 + 1) ∧ V E M_X12_ask 70 [some (rv l0), none, some (iv (l2 + 1))] [] G27 c s Q X))))) : V E M_X12_ask 70 [some (rv l0), none, some (iv l2)] [] G c s Q X := by
  refine v_iload_n (pc := 70) (dk dt_X12_ask 39 rfl) rfl rfl ?_
  refine v_aload_n (pc := 71) (dk dt_X12_ask_1 0 rfl) rfl rfl ?_
  obtain ⟨v1, h⟩ := h
  refine v_getI (pc := 72) (dk dt_X12_ask_1 1 rfl) fl_X12_302 v1 (fun _ => ?_)
  refine v_icmp_ge (pc := 75) (tgt := 123) (dk dt_X12_ask_1 2 rfl) (by decide) (fun c2 => ?_) (fun c2 => ?_)
  · replace h := h.1 c2
    refine v_aload_n (pc := 123) (dk dt_X12_ask_1 28 rfl) rfl rfl ?_
    obtain ⟨v3, h⟩ := h
    refine v_getZ (pc := 124) (dk dt_X12_ask_1 29 rfl) fl_X12_208 v3 (fun _ => ?_)
    obtain ⟨v5, h⟩ := h
    suffices k29 : V E M_X12_ask 138 [none, none, none] [iv (if (gfd G 12 34 l0) = 0 then ((gfd G 12 35 l0) : Int) else (-1))] G c s Q X by
      refine v_if_eq (pc := 127) (tgt := 134) (dk dt_X12_ask_1 30 rfl) (by decide) (fun c4 => ?_) (fun c4 => ?_)
      · refine v_aload_n (pc := 134) (dk dt_X12_ask_1 33 rfl) rfl rfl ?_
        refine v_getI (pc := 135) (dk dt_X12_ask_1 34 rfl) fl_X12_302 (v5 c4) (fun _ => ?_)
        exact v_less2 (ls' := [none, none, none]) trivial (by have hk9 := k29; try simp only [if_pos c4] at hk9 ⊢; exact hk9)
      · refine v_iconst (pc := 130) (dk dt_X12_ask_1 31 rfl) ⟨by decide, by decide⟩ ?_
        refine v_goto (pc := 131) (tgt := 138) (dk dt_X12_ask_1 32 rfl) (by decide) ?_
        exact v_less2 (ls' := [none, none, none]) trivial (by have hk9 := k29; try simp only [if_neg c4] at hk9 ⊢; exact hk9)
    exact v_iret (pc := 138) (dk dt_X12_ask_1 35 rfl) rfl h
  · replace h := h.2 c2
    refine v_aload_n (pc := 78) (dk dt_X12_ask_1 3 rfl) rfl rfl ?_
    obtain ⟨v6, h⟩ := h
    refine v_getR (pc := 79) (dk dt_X12_ask_1 4 rfl) fl_X12_94 v6 (fun _ => ?_)
    refine v_iload_n (pc := 82) (dk dt_X12_ask_1 5 rfl) rfl rfl ?_
    refine v_aload_n (pc := 83) (dk dt_X12_ask_1 6 rfl) rfl rfl ?_
    obtain ⟨v7, h⟩ := h
    refine v_getR (pc := 84) (dk dt_X12_ask_1 7 rfl) fl_X12_87 v7 (fun _ => ?_)
    refine v_iload_n (pc := 87) (dk dt_X12_ask_1 8 rfl) rfl rfl ?_
    obtain ⟨v8, h⟩ := h
    obtain ⟨v9, h⟩ := h
    obtain ⟨v10, h⟩ := h
    refine v_lald (pc := 88) (dk dt_X12_ask_1 9 rfl) v8 v9 v10 (fun _ => ?_)
    obtain ⟨v11, h⟩ := h
    obtain ⟨v12, h⟩ := h
    obtain ⟨v13, h⟩ := h
    refine v_last (pc := 89) (dk dt_X12_ask_1 10 rfl) v11 v12 v13 ?_
    generalize hG14 : (sel G (gfd G 12 37 l0) l2 (gel G (gfd G 12 32 l0) l2)) = G14
    replace h := h G14 hG14.symm
    refine v_aload_n (pc := 90) (dk dt_X12_ask_1 11 rfl) rfl rfl ?_
    obtain ⟨v15, h⟩ := h
    refine v_getR (pc := 91) (dk dt_X12_ask_1 12 rfl) fl_X12_91 v15 (fun _ => ?_)
    refine v_iload_n (pc := 94) (dk dt_X12_ask_1 13 rfl) rfl rfl ?_
    refine v_aload_n (pc := 95) (dk dt_X12_ask_1 14 rfl) rfl rfl ?_
    obtain ⟨v16, h⟩ := h
    refine v_getR (pc := 96) (dk dt_X12_ask_1 15 rfl) fl_X12_78 v16 (fun _ => ?_)
    refine v_iconst (pc := 99) (dk dt_X12_ask_1 16 rfl) ⟨by decide, by decide⟩ ?_
    obtain ⟨v17, h⟩ := h
    obtain ⟨v18, h⟩ := h
    refine v_zald (pc := 100) (dk dt_X12_ask_1 17 rfl) v17 (by decide) v18 (fun _ => ?_)
    obtain ⟨v20, v21, v22, v23, h⟩ := h
    suffices k30 : V E M_X12_ask 116 [some (rv l0), none, some (iv l2)] [iv (if (gel G14 (gfd G14 12 29 l0) 0) = 0 then ((gel G14 (gfd G14 12 31 l0) l2) : Int) else 666), iv l2, rv (gfd G14 12 36 l0)] G14 c s Q X by
      refine v_if_eq (pc := 101) (tgt := 110) (dk dt_X12_ask_1 18 rfl) (by decide) (fun c19 => ?_) (fun c19 => ?_)
      · refine v_aload_n (pc := 110) (dk dt_X12_ask_1 21 rfl) rfl rfl ?_
        refine v_getR (pc := 111) (dk dt_X12_ask_1 22 rfl) fl_X12_84 (v20 c19) (fun _ => ?_)
        refine v_iload_n (pc := 114) (dk dt_X12_ask_1 23 rfl) rfl rfl ?_
        refine v_iald (pc := 115) (dk dt_X12_ask_1 24 rfl) (Or.inl (v21 c19)) (v22 c19) (v23 c19) (fun _ => ?_)
        exact v_less2 (ls' := [some (rv l0), none, some (iv l2)]) ⟨rfl, rfl, trivial⟩ (by have hk9 := k30; try simp only [if_pos c19] at hk9 ⊢; exact hk9)
      · refine v_sipush (pc := 104) (dk dt_X12_ask_1 19 rfl) (by decide) ⟨by decide, by decide⟩ ?_
        refine v_goto (pc := 107) (tgt := 116) (dk dt_X12_ask_1 20 rfl) (by decide) ?_
        exact v_less2 (ls' := [some (rv l0), none, some (iv l2)]) ⟨rfl, rfl, trivial⟩ (by have hk9 := k30; try simp only [if_neg c19] at hk9 ⊢; exact hk9)
    obtain ⟨v24, h⟩ := h
    obtain ⟨v25, h⟩ := h
    obtain ⟨v26, h⟩ := h
    refine v_iast (pc := 116) (dk dt_X12_ask_1 25 rfl) v24 v25 v26 ?_
    generalize hG27 : (sel G14 (gfd G14 12 36 l0) l2 (if (gel G14 (gfd G14 12 29 l0) 0) = 0 then ((gel G14 (gfd G14 12 31 l0) l2) : Int) else 666)) = G27
    replace h := h G27 hG27.symm
    obtain ⟨v28, h⟩ := h
    refine v_iinc (pc := 117) (ls' := [some (rv l0), none, some (iv (l2 + 1))]) (dk dt_X12_ask_1 26 rfl) (Nat.le_of_ble_eq_true rfl) rfl v28 rfl ?_
    refine v_goto (pc := 120) (tgt := 70) (dk dt_X12_ask_1 27 rfl) (by decide) ?_
    exact h
set_option maxRecDepth 20000 in
theorem b_X12_value_0 {E : EE} {l0 l1 : Int} {G : Gt} {c s : Nat} {Q X : Int → Gt → Prop} (h : (gcl G l0 = 13 ∧ i32 ((gfd G 12 35 l0) - 1) ∧ OkP E M_X12_in [iv l1, iv 0, iv ((gfd G 12 35 l0) - 1)] G (wIn l1 0 ((gfd G 12 35 l0) - 1)) ∧ gcl G l0 = 13 ∧ ∀ G6 : Gt, G6 = (sfd G 12 0 l0 (if (wIn l1 0 ((gfd G 12 35 l0) - 1)) = 0 then (1 : Int) else 0)) → gcl G6 l0 = 13 ∧ ((gfd G6 12 0 l0) ≤ 0 → gcl G6 l0 = 13) ∧ ((gfd G6 12 0 l0) ≤ 0 → gcl G6 (gfd G6 12 37 l0) = 16) ∧ ((gfd G6 12 0 l0) ≤ 0 → 0 ≤ l1) ∧ ((gfd G6 12 0 l0) ≤ 0 → l1 < gln G6 (gfd G6 12 37 l0)) ∧ Q (if (gfd G6 12 0 l0) ≤ 0 then ((gel G6 (gfd G6 12 37 l0) l1) : Int) else 0) G6)) : V E M_X12_value 0 [some (rv l0), some (iv l1)] [] G c s Q X := by
  refine v_aload_n (pc := 0) (dk dt_X12_value 0 rfl) rfl rfl ?_
  refine v_iload_n (pc := 1) (dk dt_X12_value 1 rfl) rfl rfl ?_
  refine v_iconst (pc := 2) (dk dt_X12_value 2 rfl) ⟨by decide, by decide⟩ ?_
  refine v_aload_n (pc := 3) (dk dt_X12_value 3 rfl) rfl rfl ?_
  obtain ⟨v1, h⟩ := h
  refine v_getI (pc := 4) (dk dt_X12_value 4 rfl) fl_X12_302 v1 (fun _ => ?_)
  refine v_iconst (pc := 7) (dk dt_X12_value 5 rfl) ⟨by decide, by decide⟩ ?_
  obtain ⟨v2, h⟩ := h
  refine v_isub (pc := 8) (dk dt_X12_value 6 rfl) v2 ?_
  obtain ⟨v3, h⟩ := h
  refine v_csPZ (v := (wIn l1 0 ((gfd G 12 35 l0) - 1))) (As := [iv l1, iv 0, iv ((gfd G 12 35 l0) - 1)]) (stk := [rv l0]) (pc := 9) (dk dt_X12_value 7 rfl) ml_X12_172 rfl rfl (Nat.le_of_ble_eq_true rfl) rfl rfl v3 ?_
  suffices k13 : V E M_X12_value 20 [some (rv l0), some (iv l1)] [iv (if (wIn l1 0 ((gfd G 12 35 l0) - 1)) = 0 then (1 : Int) else 0), rv l0] G c s Q X by
    refine v_if_eq (pc := 12) (tgt := 19) (dk dt_X12_value 8 rfl) (by decide) (fun c4 => ?_) (fun c4 => ?_)
    · refine v_iconst (pc := 19) (dk dt_X12_value 11 rfl) ⟨by decide, by decide⟩ ?_
      exact v_less2 (ls' := [some (rv l0), some (iv l1)]) ⟨rfl, rfl, trivial⟩ (by have hk9 := k13; try simp only [if_pos c4] at hk9 ⊢; exact hk9)
    · refine v_iconst (pc := 15) (dk dt_X12_value 9 rfl) ⟨by decide, by decide⟩ ?_
      refine v_goto (pc := 16) (tgt := 20) (dk dt_X12_value 10 rfl) (by decide) ?_
      exact v_less2 (ls' := [some (rv l0), some (iv l1)]) ⟨rfl, rfl, trivial⟩ (by have hk9 := k13; try simp only [if_neg c4] at hk9 ⊢; exact hk9)
  obtain ⟨v5, h⟩ := h
  refine v_putI (pc := 20) (dk dt_X12_value 12 rfl) fl_X12_127 (Or.inl rfl) v5 ?_
  generalize hG6 : (sfd G 12 0 l0 (if (wIn l1 0 ((gfd G 12 35 l0) - 1)) = 0 then (1 : Int) else 0)) = G6
  replace h := h G6 hG6.symm
  refine v_aload_n (pc := 23) (dk dt_X12_value 13 rfl) rfl rfl ?_
  obtain ⟨v7, h⟩ := h
  refine v_getI (pc := 24) (dk dt_X12_value 14 rfl) fl_X12_127 v7 (fun _ => ?_)
  obtain ⟨v9, v10, v11, v12, h⟩ := h
  suffices k14 : V E M_X12_value 40 [none, none] [jv (if (gfd G6 12 0 l0) ≤ 0 then ((gel G6 (gfd G6 12 37 l0) l1) : Int) else 0)] G6 c s Q X by
    refine v_if_le (pc := 27) (tgt := 34) (dk dt_X12_value 15 rfl) (by decide) (fun c8 => ?_) (fun c8 => ?_)
    · refine v_aload_n (pc := 34) (dk dt_X12_value 18 rfl) rfl rfl ?_
      refine v_getR (pc := 35) (dk dt_X12_value 19 rfl) fl_X12_94 (v9 c8) (fun _ => ?_)
      refine v_iload_n (pc := 38) (dk dt_X12_value 20 rfl) rfl rfl ?_
      refine v_lald (pc := 39) (dk dt_X12_value 21 rfl) (v10 c8) (v11 c8) (v12 c8) (fun _ => ?_)
      exact v_less2 (ls' := [none, none]) trivial (by have hk9 := k14; try simp only [if_pos c8] at hk9 ⊢; exact hk9)
    · refine v_lconst (x := 0) (pc := 30) (dk dt_X12_value 16 rfl) (by decide) ⟨by decide, by decide⟩ ?_
      refine v_goto (pc := 31) (tgt := 40) (dk dt_X12_value 17 rfl) (by decide) ?_
      exact v_less2 (ls' := [none, none]) trivial (by have hk9 := k14; try simp only [if_neg (Int.not_le.mpr c8)] at hk9 ⊢; exact hk9)
  exact v_lret (pc := 40) (dk dt_X12_value 22 rfl) rfl h
set_option maxRecDepth 20000 in
theorem i_X12_value {E : EE} {l0 l1 : Int} {G : Gt} {c s : Nat} {Q X : Int → Gt → Prop} (h : (gcl G l0 = 13 ∧ i32 ((gfd G 12 35 l0) - 1) ∧ OkP E M_X12_in [iv l1, iv 0, iv ((gfd G 12 35 l0) - 1)] G (wIn l1 0 ((gfd G 12 35 l0) - 1)) ∧ gcl G l0 = 13 ∧ ∀ G6 : Gt, G6 = (sfd G 12 0 l0 (if (wIn l1 0 ((gfd G 12 35 l0) - 1)) = 0 then (1 : Int) else 0)) → gcl G6 l0 = 13 ∧ ((gfd G6 12 0 l0) ≤ 0 → gcl G6 l0 = 13) ∧ ((gfd G6 12 0 l0) ≤ 0 → gcl G6 (gfd G6 12 37 l0) = 16) ∧ ((gfd G6 12 0 l0) ≤ 0 → 0 ≤ l1) ∧ ((gfd G6 12 0 l0) ≤ 0 → l1 < gln G6 (gfd G6 12 37 l0)) ∧ Q (if (gfd G6 12 0 l0) ≤ 0 then ((gel G6 (gfd G6 12 37 l0) l1) : Int) else 0) G6)) : Ok E M_X12_value [rv l0, iv l1] G c s Q X := Ok.intro (k := 0) rfl rfl (Nat.le_of_ble_eq_true rfl) rfl (b_X12_value_0 h)
set_option maxRecDepth 20000 in
theorem b_X12_labelsOf_0 {E : EE} {l0 l1 : Int} {G : Gt} {c s : Nat} {Q X : Int → Gt → Prop} (h : (gcl G l0 = 13 ∧ i32 ((gfd G 12 35 l0) - 1) ∧ OkP E M_X12_in [iv l1, iv 0, iv ((gfd G 12 35 l0) - 1)] G (wIn l1 0 ((gfd G 12 35 l0) - 1)) ∧ gcl G l0 = 13 ∧ ∀ G6 : Gt, G6 = (sfd G 12 0 l0 (if (wIn l1 0 ((gfd G 12 35 l0) - 1)) = 0 then (1 : Int) else 0)) → gcl G6 l0 = 13 ∧ ((gfd G6 12 0 l0) ≤ 0 → gcl G6 l0 = 13) ∧ ((gfd G6 12 0 l0) ≤ 0 → gcl G6 (gfd G6 12 36 l0) = 15) ∧ ((gfd G6 12 0 l0) ≤ 0 → 0 ≤ l1) ∧ ((gfd G6 12 0 l0) ≤ 0 → l1 < gln G6 (gfd G6 12 36 l0)) ∧ Q (if (gfd G6 12 0 l0) ≤ 0 then ((gel G6 (gfd G6 12 36 l0) l1) : Int) else 0) G6)) : V E M_X12_labelsOf 0 [some (rv l0), some (iv l1)] [] G c s Q X := by
  refine v_aload_n (pc := 0) (dk dt_X12_labelsOf 0 rfl) rfl rfl ?_
  refine v_iload_n (pc := 1) (dk dt_X12_labelsOf 1 rfl) rfl rfl ?_
  refine v_iconst (pc := 2) (dk dt_X12_labelsOf 2 rfl) ⟨by decide, by decide⟩ ?_
  refine v_aload_n (pc := 3) (dk dt_X12_labelsOf 3 rfl) rfl rfl ?_
  obtain ⟨v1, h⟩ := h
  refine v_getI (pc := 4) (dk dt_X12_labelsOf 4 rfl) fl_X12_302 v1 (fun _ => ?_)
  refine v_iconst (pc := 7) (dk dt_X12_labelsOf 5 rfl) ⟨by decide, by decide⟩ ?_
  obtain ⟨v2, h⟩ := h
  refine v_isub (pc := 8) (dk dt_X12_labelsOf 6 rfl) v2 ?_
  obtain ⟨v3, h⟩ := h
  refine v_csPZ (v := (wIn l1 0 ((gfd G 12 35 l0) - 1))) (As := [iv l1, iv 0, iv ((gfd G 12 35 l0) - 1)]) (stk := [rv l0]) (pc := 9) (dk dt_X12_labelsOf 7 rfl) ml_X12_172 rfl rfl (Nat.le_of_ble_eq_true rfl) rfl rfl v3 ?_
  suffices k13 : V E M_X12_labelsOf 20 [some (rv l0), some (iv l1)] [iv (if (wIn l1 0 ((gfd G 12 35 l0) - 1)) = 0 then (1 : Int) else 0), rv l0] G c s Q X by
    refine v_if_eq (pc := 12) (tgt := 19) (dk dt_X12_labelsOf 8 rfl) (by decide) (fun c4 => ?_) (fun c4 => ?_)
    · refine v_iconst (pc := 19) (dk dt_X12_labelsOf 11 rfl) ⟨by decide, by decide⟩ ?_
      exact v_less2 (ls' := [some (rv l0), some (iv l1)]) ⟨rfl, rfl, trivial⟩ (by have hk9 := k13; try simp only [if_pos c4] at hk9 ⊢; exact hk9)
    · refine v_iconst (pc := 15) (dk dt_X12_labelsOf 9 rfl) ⟨by decide, by decide⟩ ?_
      refine v_goto (pc := 16) (tgt := 20) (dk dt_X12_labelsOf 10 rfl) (by decide) ?_
      exact v_less2 (ls' := [some (rv l0), some (iv l1)]) ⟨rfl, rfl, trivial⟩ (by have hk9 := k13; try simp only [if_neg c4] at hk9 ⊢; exact hk9)
  obtain ⟨v5, h⟩ := h
  refine v_putI (pc := 20) (dk dt_X12_labelsOf 12 rfl) fl_X12_127 (Or.inl rfl) v5 ?_
  generalize hG6 : (sfd G 12 0 l0 (if (wIn l1 0 ((gfd G 12 35 l0) - 1)) = 0 then (1 : Int) else 0)) = G6
  replace h := h G6 hG6.symm
  refine v_aload_n (pc := 23) (dk dt_X12_labelsOf 13 rfl) rfl rfl ?_
  obtain ⟨v7, h⟩ := h
  refine v_getI (pc := 24) (dk dt_X12_labelsOf 14 rfl) fl_X12_127 v7 (fun _ => ?_)
  obtain ⟨v9, v10, v11, v12, h⟩ := h
  suffices k14 : V E M_X12_labelsOf 40 [none, none] [iv (if (gfd G6 12 0 l0) ≤ 0 then ((gel G6 (gfd G6 12 36 l0) l1) : Int) else 0)] G6 c s Q X by
    refine v_if_le (pc := 27) (tgt := 34) (dk dt_X12_labelsOf 15 rfl) (by decide) (fun c8 => ?_) (fun c8 => ?_)
    · refine v_aload_n (pc := 34) (dk dt_X12_labelsOf 18 rfl) rfl rfl ?_
      refine v_getR (pc := 35) (dk dt_X12_labelsOf 19 rfl) fl_X12_91 (v9 c8) (fun _ => ?_)
      refine v_iload_n (pc := 38) (dk dt_X12_labelsOf 20 rfl) rfl rfl ?_
      refine v_iald (pc := 39) (dk dt_X12_labelsOf 21 rfl) (Or.inl (v10 c8)) (v11 c8) (v12 c8) (fun _ => ?_)
      exact v_less2 (ls' := [none, none]) trivial (by have hk9 := k14; try simp only [if_pos c8] at hk9 ⊢; exact hk9)
    · refine v_iconst (pc := 30) (dk dt_X12_labelsOf 16 rfl) ⟨by decide, by decide⟩ ?_
      refine v_goto (pc := 31) (tgt := 40) (dk dt_X12_labelsOf 17 rfl) (by decide) ?_
      exact v_less2 (ls' := [none, none]) trivial (by have hk9 := k14; try simp only [if_neg (Int.not_le.mpr c8)] at hk9 ⊢; exact hk9)
  exact v_iret (pc := 40) (dk dt_X12_labelsOf 22 rfl) rfl h
set_option maxRecDepth 20000 in
theorem i_X12_labelsOf {E : EE} {l0 l1 : Int} {G : Gt} {c s : Nat} {Q X : Int → Gt → Prop} (h : (gcl G l0 = 13 ∧ i32 ((gfd G 12 35 l0) - 1) ∧ OkP E M_X12_in [iv l1, iv 0, iv ((gfd G 12 35 l0) - 1)] G (wIn l1 0 ((gfd G 12 35 l0) - 1)) ∧ gcl G l0 = 13 ∧ ∀ G6 : Gt, G6 = (sfd G 12 0 l0 (if (wIn l1 0 ((gfd G 12 35 l0) - 1)) = 0 then (1 : Int) else 0)) → gcl G6 l0 = 13 ∧ ((gfd G6 12 0 l0) ≤ 0 → gcl G6 l0 = 13) ∧ ((gfd G6 12 0 l0) ≤ 0 → gcl G6 (gfd G6 12 36 l0) = 15) ∧ ((gfd G6 12 0 l0) ≤ 0 → 0 ≤ l1) ∧ ((gfd G6 12 0 l0) ≤ 0 → l1 < gln G6 (gfd G6 12 36 l0)) ∧ Q (if (gfd G6 12 0 l0) ≤ 0 then ((gel G6 (gfd G6 12 36 l0) l1) : Int) else 0) G6)) : Ok E M_X12_labelsOf [rv l0, iv l1] G c s Q X := Ok.intro (k := 0) rfl rfl (Nat.le_of_ble_eq_true rfl) rfl (b_X12_labelsOf_0 h)
set_option maxRecDepth 20000 in
theorem b_X12_keep_0 {E : EE} {l0 l1 : Int} {G : Gt} {c s : Nat} {Q X : Int → Gt → Prop} (h : (gcl G l0 = 13 ∧ i32 ((gfd G 12 23 l0) + 1) ∧ i32 (60 * ((gfd G 12 23 l0) + 1)) ∧ V E M_X12_keep 12 [some (rv l0), some (iv l1), some (iv (60 * ((gfd G 12 23 l0) + 1))), some (iv 0)] [] G c s Q X)) : V E M_X12_keep 0 [some (rv l0), some (iv l1), none, none] [] G c s Q X := by
  refine v_bipush (pc := 0) (dk dt_X12_keep 0 rfl) (by decide) ⟨by decide, by decide⟩ ?_
  refine v_aload_n (pc := 2) (dk dt_X12_keep 1 rfl) rfl rfl ?_
  obtain ⟨v1, h⟩ := h
  refine v_getI (pc := 3) (dk dt_X12_keep 2 rfl) fl_X12_197 v1 (fun _ => ?_)
  refine v_iconst (pc := 6) (dk dt_X12_keep 3 rfl) ⟨by decide, by decide⟩ ?_
  obtain ⟨v2, h⟩ := h
  refine v_iadd (pc := 7) (dk dt_X12_keep 4 rfl) v2 ?_
  obtain ⟨v3, h⟩ := h
  refine v_imul (pc := 8) (dk dt_X12_keep 5 rfl) v3 ?_
  refine v_istore_n (pc := 9) (ls' := [some (rv l0), some (iv l1), some (iv (60 * ((gfd G 12 23 l0) + 1))), none]) (dk dt_X12_keep 6 rfl) rfl (Nat.le_of_ble_eq_true rfl) rfl ?_
  refine v_iconst (pc := 10) (dk dt_X12_keep 7 rfl) ⟨by decide, by decide⟩ ?_
  refine v_istore_n (pc := 11) (ls' := [some (rv l0), some (iv l1), some (iv (60 * ((gfd G 12 23 l0) + 1))), some (iv 0)]) (dk dt_X12_keep 8 rfl) rfl (Nat.le_of_ble_eq_true rfl) rfl ?_
  exact h
set_option maxRecDepth 20000 in
theorem i_X12_keep {E : EE} {l0 l1 : Int} {G : Gt} {c s : Nat} {Q X : Int → Gt → Prop} (h : (gcl G l0 = 13 ∧ i32 ((gfd G 12 23 l0) + 1) ∧ i32 (60 * ((gfd G 12 23 l0) + 1)) ∧ V E M_X12_keep 12 [some (rv l0), some (iv l1), some (iv (60 * ((gfd G 12 23 l0) + 1))), some (iv 0)] [] G c s Q X)) : Ok E M_X12_keep [rv l0, iv l1] G c s Q X := Ok.intro (k := 2) rfl rfl (Nat.le_of_ble_eq_true rfl) rfl (b_X12_keep_0 h)
set_option maxRecDepth 20000 in
theorem b_X12_keep_12 {E : EE} {l0 l1 l2 l3 : Int} {G : Gt} {c s : Nat} {Q X : Int → Gt → Prop} (h : ((60 ≤ l3 → (gcl G l0 = 13 ∧ gcl G l0 = 13 ∧ i32 ((gfd G 12 23 l0) + 1) ∧ gcl G l0 = 13 ∧ gcl G (gfd G 12 22 l0) = 15 ∧ 0 < gln G (gfd G 12 22 l0) ∧ gcl G (gfd G 12 22 l0) = 15 ∧ 0 ≤ ((gfd G 12 23 l0) + 1) ∧ ((gfd G 12 23 l0) + 1) < gln G (gfd G 12 22 l0) ∧ ∀ G11 : Gt, G11 = (sel G (gfd G 12 22 l0) ((gfd G 12 23 l0) + 1) (gel G (gfd G 12 22 l0) 0)) → gcl G11 l0 = 13 ∧ gcl G11 (gfd G11 12 22 l0) = 15 ∧ 0 < gln G11 (gfd G11 12 22 l0) ∧ ∀ G15 : Gt, G15 = (sel G11 (gfd G11 12 22 l0) 0 0) → gcl G15 l0 = 13 ∧ gcl G15 l0 = 13 ∧ gcl G15 (gfd G15 12 24 l0) = 17 ∧ 0 ≤ (gfd G15 12 23 l0) ∧ (gfd G15 12 23 l0) < gln G15 (gfd G15 12 24 l0) ∧ (l1 = 0 ∨ l1 = 1) ∧ ∀ G22 : Gt, G22 = (sel G15 (gfd G15 12 24 l0) (gfd G15 12 23 l0) l1) → gcl G22 l0 = 13 ∧ i32 ((gfd G22 12 23 l0) + 1) ∧ gcl G22 l0 = 13 ∧ ∀ G26 : Gt, G26 = (sfd G22 12 23 l0 ((gfd G22 12 23 l0) + 1)) → gcl G26 l0 = 13 ∧ i32 ((gfd G26 12 23 l0) - 1) ∧ Q ((gfd G26 12 23 l0) - 1) G26)) ∧ (l3 < 60 → (gcl G l0 = 13 ∧ i32 (l2 + l3) ∧ gcl G l0 = 13 ∧ gcl G (gfd G 12 21 l0) = 15 ∧ 0 ≤ l3 ∧ l3 < gln G (gfd G 12 21 l0) ∧ gcl G (gfd G 12 21 l0) = 15 ∧ 0 ≤ (l2 + l3) ∧ (l2 + l3) < gln G (gfd G 12 21 l0) ∧ ∀ G38 : Gt, G38 = (sel G (gfd G 12 21 l0) (l2 + l3) (gel G (gfd G 12 21 l0) l3)) → i32 (l3 + 1) ∧ V E M_X12_keep 12 [some (rv l0), some (iv l1), some (iv l2), some (iv (l3 + 1))] [] G38 c s Q X)))) : V E M_X12_keep 12 [some (rv l0), some (iv l1), some (iv l2), some (iv l3)] [] G c s Q X := by
  refine v_iload_n (pc := 12) (dk dt_X12_keep 9 rfl) rfl rfl ?_
  refine v_bipush (pc := 13) (dk dt_X12_keep 10 rfl) (by decide) ⟨by decide, by decide⟩ ?_
  refine v_icmp_ge (pc := 15) (tgt := 38) (dk dt_X12_keep 11 rfl) (by decide) (fun c1 => ?_) (fun c1 => ?_)
  · replace h := h.1 c1
    refine v_aload_n (pc := 38) (dk dt_X12_keep 24 rfl) rfl rfl ?_
    obtain ⟨v2, h⟩ := h
    refine v_getR (pc := 39) (dk dt_X12_keep 25 rfl) fl_X12_60 v2 (fun _ => ?_)
    refine v_aload_n (pc := 42) (dk dt_X12_keep 26 rfl) rfl rfl ?_
    obtain ⟨v3, h⟩ := h
    refine v_getI (pc := 43) (dk dt_X12_keep 27 rfl) fl_X12_197 v3 (fun _ => ?_)
    refine v_iconst (pc := 46) (dk dt_X12_keep 28 rfl) ⟨by decide, by decide⟩ ?_
    obtain ⟨v4, h⟩ := h
    refine v_iadd (pc := 47) (dk dt_X12_keep 29 rfl) v4 ?_
    refine v_aload_n (pc := 48) (dk dt_X12_keep 30 rfl) rfl rfl ?_
    obtain ⟨v5, h⟩ := h
    refine v_getR (pc := 49) (dk dt_X12_keep 31 rfl) fl_X12_60 v5 (fun _ => ?_)
    refine v_iconst (pc := 52) (dk dt_X12_keep 32 rfl) ⟨by decide, by decide⟩ ?_
    obtain ⟨v6, h⟩ := h
    obtain ⟨v7, h⟩ := h
    refine v_iald (pc := 53) (dk dt_X12_keep 33 rfl) (Or.inl v6) (by decide) v7 (fun _ => ?_)
    obtain ⟨v8, h⟩ := h
    obtain ⟨v9, h⟩ := h
    obtain ⟨v10, h⟩ := h
    refine v_iast (pc := 54) (dk dt_X12_keep 34 rfl) v8 v9 v10 ?_
    generalize hG11 : (sel G (gfd G 12 22 l0) ((gfd G 12 23 l0) + 1) (gel G (gfd G 12 22 l0) 0)) = G11
    replace h := h G11 hG11.symm
    refine v_aload_n (pc := 55) (dk dt_X12_keep 35 rfl) rfl rfl ?_
    obtain ⟨v12, h⟩ := h
    refine v_getR (pc := 56) (dk dt_X12_keep 36 rfl) fl_X12_60 v12 (fun _ => ?_)
    refine v_iconst (pc := 59) (dk dt_X12_keep 37 rfl) ⟨by decide, by decide⟩ ?_
    refine v_iconst (pc := 60) (dk dt_X12_keep 38 rfl) ⟨by decide, by decide⟩ ?_
    obtain ⟨v13, h⟩ := h
    obtain ⟨v14, h⟩ := h
    refine v_iast (pc := 61) (dk dt_X12_keep 39 rfl) v13 (by decide) v14 ?_
    generalize hG15 : (sel G11 (gfd G11 12 22 l0) 0 0) = G15
    replace h := h G15 hG15.symm
    refine v_aload_n (pc := 62) (dk dt_X12_keep_1 0 rfl) rfl rfl ?_
    obtain ⟨v16, h⟩ := h
    refine v_getR (pc := 63) (dk dt_X12_keep_1 1 rfl) fl_X12_63 v16 (fun _ => ?_)
    refine v_aload_n (pc := 66) (dk dt_X12_keep_1 2 rfl) rfl rfl ?_
    obtain ⟨v17, h⟩ := h
    refine v_getI (pc := 67) (dk dt_X12_keep_1 3 rfl) fl_X12_197 v17 (fun _ => ?_)
    refine v_iload_n (pc := 70) (dk dt_X12_keep_1 4 rfl) rfl rfl ?_
    obtain ⟨v18, h⟩ := h
    obtain ⟨v19, h⟩ := h
    obtain ⟨v20, h⟩ := h
    obtain ⟨v21, h⟩ := h
    refine v_zast (pc := 71) (dk dt_X12_keep_1 5 rfl) v18 v19 v20 v21 ?_
    generalize hG22 : (sel G15 (gfd G15 12 24 l0) (gfd G15 12 23 l0) l1) = G22
    replace h := h G22 hG22.symm
    refine v_aload_n (pc := 72) (dk dt_X12_keep_1 6 rfl) rfl rfl ?_
    refine v_dup (pc := 73) (dk dt_X12_keep_1 7 rfl) (by intro h9; cases h9) ?_
    obtain ⟨v23, h⟩ := h
    refine v_getI (pc := 74) (dk dt_X12_keep_1 8 rfl) fl_X12_197 v23 (fun _ => ?_)
    refine v_iconst (pc := 77) (dk dt_X12_keep_1 9 rfl) ⟨by decide, by decide⟩ ?_
    obtain ⟨v24, h⟩ := h
    refine v_iadd (pc := 78) (dk dt_X12_keep_1 10 rfl) v24 ?_
    obtain ⟨v25, h⟩ := h
    refine v_putI (pc := 79) (dk dt_X12_keep_1 11 rfl) fl_X12_197 (Or.inl rfl) v25 ?_
    generalize hG26 : (sfd G22 12 23 l0 ((gfd G22 12 23 l0) + 1)) = G26
    replace h := h G26 hG26.symm
    refine v_aload_n (pc := 82) (dk dt_X12_keep_1 12 rfl) rfl rfl ?_
    obtain ⟨v27, h⟩ := h
    refine v_getI (pc := 83) (dk dt_X12_keep_1 13 rfl) fl_X12_197 v27 (fun _ => ?_)
    refine v_iconst (pc := 86) (dk dt_X12_keep_1 14 rfl) ⟨by decide, by decide⟩ ?_
    obtain ⟨v28, h⟩ := h
    refine v_isub (pc := 87) (dk dt_X12_keep_1 15 rfl) v28 ?_
    exact v_iret (pc := 88) (dk dt_X12_keep_1 16 rfl) rfl h
  · replace h := h.2 c1
    refine v_aload_n (pc := 18) (dk dt_X12_keep 12 rfl) rfl rfl ?_
    obtain ⟨v29, h⟩ := h
    refine v_getR (pc := 19) (dk dt_X12_keep 13 rfl) fl_X12_57 v29 (fun _ => ?_)
    refine v_iload_n (pc := 22) (dk dt_X12_keep 14 rfl) rfl rfl ?_
    refine v_iload_n (pc := 23) (dk dt_X12_keep 15 rfl) rfl rfl ?_
    obtain ⟨v30, h⟩ := h
    refine v_iadd (pc := 24) (dk dt_X12_keep 16 rfl) v30 ?_
    refine v_aload_n (pc := 25) (dk dt_X12_keep 17 rfl) rfl rfl ?_
    obtain ⟨v31, h⟩ := h
    refine v_getR (pc := 26) (dk dt_X12_keep 18 rfl) fl_X12_57 v31 (fun _ => ?_)
    refine v_iload_n (pc := 29) (dk dt_X12_keep 19 rfl) rfl rfl ?_
    obtain ⟨v32, h⟩ := h
    obtain ⟨v33, h⟩ := h
    obtain ⟨v34, h⟩ := h
    refine v_iald (pc := 30) (dk dt_X12_keep 20 rfl) (Or.inl v32) v33 v34 (fun _ => ?_)
    obtain ⟨v35, h⟩ := h
    obtain ⟨v36, h⟩ := h
    obtain ⟨v37, h⟩ := h
    refine v_iast (pc := 31) (dk dt_X12_keep 21 rfl) v35 v36 v37 ?_
    generalize hG38 : (sel G (gfd G 12 21 l0) (l2 + l3) (gel G (gfd G 12 21 l0) l3)) = G38
    replace h := h G38 hG38.symm
    obtain ⟨v39, h⟩ := h
    refine v_iinc (pc := 32) (ls' := [some (rv l0), some (iv l1), some (iv l2), some (iv (l3 + 1))]) (dk dt_X12_keep 22 rfl) (Nat.le_of_ble_eq_true rfl) rfl v39 rfl ?_
    refine v_goto (pc := 35) (tgt := 12) (dk dt_X12_keep 23 rfl) (by decide) ?_
    exact h
set_option maxRecDepth 20000 in
theorem b_X12_record_0 {E : EE} {l0 l1 : Int} {G : Gt} {c s : Nat} {Q X : Int → Gt → Prop} (h : (OkP E M_X12_in [iv l1, iv 0, iv 5] G (wIn l1 0 5) ∧ ∀ J2 : Int → Gt → Nat → Nat → Prop, (∀ (x3 : Int) (G4 : Gt) (c5 s6 : Nat), (gcl G4 l0 = 13 ∧ ∀ G8 : Gt, G8 = (sfd G4 12 0 l0 x3) → gcl G8 l0 = 13 ∧ (((gfd G8 12 0 l0) ≤ 0 → (gcl G8 l0 = 13 ∧ gcl G8 l0 = 13 ∧ Call E M_X12_keep [rv l0, iv 0] G8 c5 s6 X (fun r13 G14 c15 s16 => gcl G14 (gfd G8 12 25 l0) = 15 ∧ 0 ≤ r13 ∧ r13 < gln G14 (gfd G8 12 25 l0) ∧ ∀ G20 : Gt, G20 = (sel G14 (gfd G8 12 25 l0) r13 l1) → gcl G20 l0 = 13 ∧ Q (gfd G20 12 23 l0) G20))) ∧ (0 < (gfd G8 12 0 l0) → Q 0 G8))) → J2 x3 G4 c5 s6) → (((wIn l1 0 5) ≠ 0 → (gcl G l0 = 13 ∧ Call E M_X12_left [rv l0, iv 0] G c s X (fun r24 G25 c26 s27 => ∀ J28 : Prop, (J2 2 G25 c26 s27 → J28) → ((r24 ≠ 1 → J28) ∧ (r24 = 1 → (gcl G25 l0 = 13 ∧ (((gfd G25 12 23 l0) ≠ 8 → J2 0 G25 c26 s27) ∧ ((gfd G25 12 23 l0) = 8 → J28)))))))) ∧ ((wIn l1 0 5) = 0 → J2 1 G c s)))) : V E M_X12_record 0 [some (rv l0), some (iv l1)] [] G c s Q X := by
  refine v_aload_n (pc := 0) (dk dt_X12_record 0 rfl) rfl rfl ?_
  refine v_iload_n (pc := 1) (dk dt_X12_record 1 rfl) rfl rfl ?_
  refine v_iconst (pc := 2) (dk dt_X12_record 2 rfl) ⟨by decide, by decide⟩ ?_
  refine v_iconst (pc := 3) (dk dt_X12_record 3 rfl) ⟨by decide, by decide⟩ ?_
  obtain ⟨v1, h⟩ := h
  refine v_csPZ (v := (wIn l1 0 5)) (As := [iv l1, iv 0, iv 5]) (stk := [rv l0]) (pc := 4) (dk dt_X12_record 4 rfl) ml_X12_172 rfl rfl (Nat.le_of_ble_eq_true rfl) rfl rfl v1 ?_
  obtain ⟨J2, dJ2⟩ : ∃ J9 : Int → Gt → Nat → Nat → Prop, J9 = fun x3 G4 c5 s6 => V E M_X12_record 37 [some (rv l0), some (iv l1)] [iv x3, rv l0] G4 c5 s6 Q X := ⟨_, rfl⟩
  have hJ2 : ∀ (x3 : Int) (G4 : Gt) (c5 s6 : Nat), (gcl G4 l0 = 13 ∧ ∀ G8 : Gt, G8 = (sfd G4 12 0 l0 x3) → gcl G8 l0 = 13 ∧ (((gfd G8 12 0 l0) ≤ 0 → (gcl G8 l0 = 13 ∧ gcl G8 l0 = 13 ∧ Call E M_X12_keep [rv l0, iv 0] G8 c5 s6 X (fun r13 G14 c15 s16 => gcl G14 (gfd G8 12 25 l0) = 15 ∧ 0 ≤ r13 ∧ r13 < gln G14 (gfd G8 12 25 l0) ∧ ∀ G20 : Gt, G20 = (sel G14 (gfd G8 12 25 l0) r13 l1) → gcl G20 l0 = 13 ∧ Q (gfd G20 12 23 l0) G20))) ∧ (0 < (gfd G8 12 0 l0) → Q 0 G8))) → J2 x3 G4 c5 s6 := by
    intro x3 G4 c5 s6 h
    rw [dJ2]
    obtain ⟨v7, h⟩ := h
    refine v_putI (pc := 37) (dk dt_X12_record 20 rfl) fl_X12_127 (Or.inl rfl) v7 ?_
    generalize hG8 : (sfd G4 12 0 l0 x3) = G8
    replace h := h G8 hG8.symm
    refine v_aload_n (pc := 40) (dk dt_X12_record 21 rfl) rfl rfl ?_
    obtain ⟨v9, h⟩ := h
    refine v_getI (pc := 41) (dk dt_X12_record 22 rfl) fl_X12_127 v9 (fun _ => ?_)
    refine v_if_le (pc := 44) (tgt := 49) (dk dt_X12_record 23 rfl) (by decide) (fun c10 => ?_) (fun c10 => ?_)
    · replace h := h.1 c10
      refine v_aload_n (pc := 49) (dk dt_X12_record 26 rfl) rfl rfl ?_
      obtain ⟨v11, h⟩ := h
      refine v_getR (pc := 50) (dk dt_X12_record 27 rfl) fl_X12_66 v11 (fun _ => ?_)
      refine v_aload_n (pc := 53) (dk dt_X12_record 28 rfl) rfl rfl ?_
      refine v_iconst (pc := 54) (dk dt_X12_record 29 rfl) ⟨by decide, by decide⟩ ?_
      obtain ⟨v12, h⟩ := h
      refine v_cvI (c := 12) (As := [iv 0]) (stk := [rv (gfd G8 12 25 l0)]) (pc := 55) (dk dt_X12_record 30 rfl) ml_X12_305 rfl rfl (Nat.le_of_ble_eq_true rfl) rfl ⟨by decide, rfl⟩ v12 rfl (Call.mono h (fun r13 G14 c15 s16 h => ?_))
      refine v_iload_n (pc := 58) (dk dt_X12_record 31 rfl) rfl rfl ?_
      obtain ⟨v17, h⟩ := h
      obtain ⟨v18, h⟩ := h
      obtain ⟨v19, h⟩ := h
      refine v_iast (pc := 59) (dk dt_X12_record 32 rfl) v17 v18 v19 ?_
      generalize hG20 : (sel G14 (gfd G8 12 25 l0) r13 l1) = G20
      replace h := h G20 hG20.symm
      refine v_aload_n (pc := 60) (dk dt_X12_record 33 rfl) rfl rfl ?_
      obtain ⟨v21, h⟩ := h
      refine v_getI (pc := 61) (dk dt_X12_record 34 rfl) fl_X12_197 v21 (fun _ => ?_)
      exact v_iret (pc := 64) (dk dt_X12_record 35 rfl) rfl h
    · replace h := h.2 c10
      refine v_iconst (pc := 47) (dk dt_X12_record 24 rfl) ⟨by decide, by decide⟩ ?_
      exact v_iret (pc := 48) (dk dt_X12_record 25 rfl) rfl h
  replace h := h _ hJ2
  refine v_if_ne (pc := 7) (tgt := 14) (dk dt_X12_record 5 rfl) (by decide) (fun c22 => ?_) (fun c22 => ?_)
  · replace h := h.1 c22
    refine v_aload_n (pc := 14) (dk dt_X12_record 8 rfl) rfl rfl ?_
    refine v_iconst (pc := 15) (dk dt_X12_record 9 rfl) ⟨by decide, by decide⟩ ?_
    obtain ⟨v23, h⟩ := h
    refine v_cvI (c := 12) (As := [iv 0]) (stk := [rv l0]) (pc := 16) (dk dt_X12_record 10 rfl) ml_X12_230 rfl rfl (Nat.le_of_ble_eq_true rfl) rfl ⟨by decide, rfl⟩ v23 rfl (Call.mono h (fun r24 G25 c26 s27 h => ?_))
    refine v_iconst (pc := 19) (dk dt_X12_record 11 rfl) ⟨by decide, by decide⟩ ?_
    obtain ⟨J28, dJ28⟩ : ∃ J9 : Prop, J9 = V E M_X12_record 32 [some (rv l0), some (iv l1)] [rv l0] G25 c26 s27 Q X := ⟨_, rfl⟩
    have hJ28 : J2 2 G25 c26 s27 → J28 := by
      intro h
      rw [dJ28]
      refine v_iconst (pc := 32) (dk dt_X12_record 17 rfl) ⟨by decide, by decide⟩ ?_
      refine v_goto (pc := 33) (tgt := 37) (dk dt_X12_record 18 rfl) (by decide) ?_
      rw [dJ2] at h
      exact h
    replace h := h _ hJ28
    refine v_icmp_ne (pc := 20) (tgt := 32) (dk dt_X12_record 12 rfl) (by decide) (fun c29 => ?_) (fun c29 => ?_)
    · replace h := h.1 c29
      rw [dJ28] at h
      exact h
    · replace h := h.2 c29
      refine v_aload_n (pc := 23) (dk dt_X12_record 13 rfl) rfl rfl ?_
      obtain ⟨v30, h⟩ := h
      refine v_getI (pc := 24) (dk dt_X12_record 14 rfl) fl_X12_197 v30 (fun _ => ?_)
      refine v_bipush (pc := 27) (dk dt_X12_record 15 rfl) (by decide) ⟨by decide, by decide⟩ ?_
      refine v_icmp_ne (pc := 29) (tgt := 36) (dk dt_X12_record 16 rfl) (by decide) (fun c31 => ?_) (fun c31 => ?_)
      · replace h := h.1 c31
        refine v_iconst (pc := 36) (dk dt_X12_record 19 rfl) ⟨by decide, by decide⟩ ?_
        rw [dJ2] at h
        exact h
      · replace h := h.2 c31
        rw [dJ28] at h
        exact h
  · replace h := h.2 c22
    refine v_iconst (pc := 10) (dk dt_X12_record 6 rfl) ⟨by decide, by decide⟩ ?_
    refine v_goto (pc := 11) (tgt := 37) (dk dt_X12_record 7 rfl) (by decide) ?_
    rw [dJ2] at h
    exact h
set_option maxRecDepth 20000 in
theorem i_X12_record {E : EE} {l0 l1 : Int} {G : Gt} {c s : Nat} {Q X : Int → Gt → Prop} (h : (OkP E M_X12_in [iv l1, iv 0, iv 5] G (wIn l1 0 5) ∧ ∀ J2 : Int → Gt → Nat → Nat → Prop, (∀ (x3 : Int) (G4 : Gt) (c5 s6 : Nat), (gcl G4 l0 = 13 ∧ ∀ G8 : Gt, G8 = (sfd G4 12 0 l0 x3) → gcl G8 l0 = 13 ∧ (((gfd G8 12 0 l0) ≤ 0 → (gcl G8 l0 = 13 ∧ gcl G8 l0 = 13 ∧ Call E M_X12_keep [rv l0, iv 0] G8 c5 s6 X (fun r13 G14 c15 s16 => gcl G14 (gfd G8 12 25 l0) = 15 ∧ 0 ≤ r13 ∧ r13 < gln G14 (gfd G8 12 25 l0) ∧ ∀ G20 : Gt, G20 = (sel G14 (gfd G8 12 25 l0) r13 l1) → gcl G20 l0 = 13 ∧ Q (gfd G20 12 23 l0) G20))) ∧ (0 < (gfd G8 12 0 l0) → Q 0 G8))) → J2 x3 G4 c5 s6) → (((wIn l1 0 5) ≠ 0 → (gcl G l0 = 13 ∧ Call E M_X12_left [rv l0, iv 0] G c s X (fun r24 G25 c26 s27 => ∀ J28 : Prop, (J2 2 G25 c26 s27 → J28) → ((r24 ≠ 1 → J28) ∧ (r24 = 1 → (gcl G25 l0 = 13 ∧ (((gfd G25 12 23 l0) ≠ 8 → J2 0 G25 c26 s27) ∧ ((gfd G25 12 23 l0) = 8 → J28)))))))) ∧ ((wIn l1 0 5) = 0 → J2 1 G c s)))) : Ok E M_X12_record [rv l0, iv l1] G c s Q X := Ok.intro (k := 0) rfl rfl (Nat.le_of_ble_eq_true rfl) rfl (b_X12_record_0 h)
set_option maxRecDepth 20000 in
theorem b_X12_alert_0 {E : EE} {l0 l1 l2 : Int} {G : Gt} {c s : Nat} {Q X : Int → Gt → Prop} (h : (OkP E M_X12_in [iv l1, iv 0, iv 1000] G (wIn l1 0 1000) ∧ ∀ J2 : Int → Gt → Nat → Nat → Prop, (∀ (x3 : Int) (G4 : Gt) (c5 s6 : Nat), (gcl G4 l0 = 13 ∧ ∀ G8 : Gt, G8 = (sfd G4 12 0 l0 x3) → gcl G8 l0 = 13 ∧ (((gfd G8 12 0 l0) ≤ 0 → (gcl G8 l0 = 13 ∧ Call E M_X12_keep [rv l0, iv 1] G8 c5 s6 X (fun r12 G13 c14 s15 => gcl G13 l0 = 13 ∧ gcl G13 (gfd G13 12 26 l0) = 15 ∧ 0 ≤ r12 ∧ r12 < gln G13 (gfd G13 12 26 l0) ∧ ∀ G20 : Gt, G20 = (sel G13 (gfd G13 12 26 l0) r12 l1) → gcl G20 l0 = 13 ∧ gcl G20 (gfd G20 12 27 l0) = 15 ∧ 0 ≤ r12 ∧ r12 < gln G20 (gfd G20 12 27 l0) ∧ ∀ G25 : Gt, G25 = (sel G20 (gfd G20 12 27 l0) r12 l2) → Q r12 G25))) ∧ (0 < (gfd G8 12 0 l0) → Q 0 G8))) → J2 x3 G4 c5 s6) → ∀ J26 : Prop, (J2 1 G c s → J26) → (((wIn l1 0 1000) = 0 → J26) ∧ ((wIn l1 0 1000) ≠ 0 → (OkP E M_X12_in [iv l2, iv 0, iv 1000] G (wIn l2 0 1000) ∧ (((wIn l2 0 1000) ≠ 0 → (gcl G l0 = 13 ∧ Call E M_X12_left [rv l0, iv 0] G c s X (fun r31 G32 c33 s34 => ∀ J35 : Prop, (J2 2 G32 c33 s34 → J35) → ((r31 ≠ 1 → J35) ∧ (r31 = 1 → (gcl G32 l0 = 13 ∧ (((gfd G32 12 23 l0) ≠ 8 → J2 0 G32 c33 s34) ∧ ((gfd G32 12 23 l0) = 8 → J35)))))))) ∧ ((wIn l2 0 1000) = 0 → J26))))))) : V E M_X12_alert 0 [some (rv l0), some (iv l1), some (iv l2), none] [] G c s Q X := by
  refine v_aload_n (pc := 0) (dk dt_X12_alert 0 rfl) rfl rfl ?_
  refine v_iload_n (pc := 1) (dk dt_X12_alert 1 rfl) rfl rfl ?_
  refine v_iconst (pc := 2) (dk dt_X12_alert 2 rfl) ⟨by decide, by decide⟩ ?_
  refine v_sipush (pc := 3) (dk dt_X12_alert 3 rfl) (by decide) ⟨by decide, by decide⟩ ?_
  obtain ⟨v1, h⟩ := h
  refine v_csPZ (v := (wIn l1 0 1000)) (As := [iv l1, iv 0, iv 1000]) (stk := [rv l0]) (pc := 6) (dk dt_X12_alert 4 rfl) ml_X12_172 rfl rfl (Nat.le_of_ble_eq_true rfl) rfl rfl v1 ?_
  obtain ⟨J2, dJ2⟩ : ∃ J9 : Int → Gt → Nat → Nat → Prop, J9 = fun x3 G4 c5 s6 => V E M_X12_alert 50 [some (rv l0), some (iv l1), some (iv l2), none] [iv x3, rv l0] G4 c5 s6 Q X := ⟨_, rfl⟩
  have hJ2 : ∀ (x3 : Int) (G4 : Gt) (c5 s6 : Nat), (gcl G4 l0 = 13 ∧ ∀ G8 : Gt, G8 = (sfd G4 12 0 l0 x3) → gcl G8 l0 = 13 ∧ (((gfd G8 12 0 l0) ≤ 0 → (gcl G8 l0 = 13 ∧ Call E M_X12_keep [rv l0, iv 1] G8 c5 s6 X (fun r12 G13 c14 s15 => gcl G13 l0 = 13 ∧ gcl G13 (gfd G13 12 26 l0) = 15 ∧ 0 ≤ r12 ∧ r12 < gln G13 (gfd G13 12 26 l0) ∧ ∀ G20 : Gt, G20 = (sel G13 (gfd G13 12 26 l0) r12 l1) → gcl G20 l0 = 13 ∧ gcl G20 (gfd G20 12 27 l0) = 15 ∧ 0 ≤ r12 ∧ r12 < gln G20 (gfd G20 12 27 l0) ∧ ∀ G25 : Gt, G25 = (sel G20 (gfd G20 12 27 l0) r12 l2) → Q r12 G25))) ∧ (0 < (gfd G8 12 0 l0) → Q 0 G8))) → J2 x3 G4 c5 s6 := by
    intro x3 G4 c5 s6 h
    rw [dJ2]
    obtain ⟨v7, h⟩ := h
    refine v_putI (pc := 50) (dk dt_X12_alert 25 rfl) fl_X12_127 (Or.inl rfl) v7 ?_
    generalize hG8 : (sfd G4 12 0 l0 x3) = G8
    replace h := h G8 hG8.symm
    refine v_aload_n (pc := 53) (dk dt_X12_alert 26 rfl) rfl rfl ?_
    obtain ⟨v9, h⟩ := h
    refine v_getI (pc := 54) (dk dt_X12_alert 27 rfl) fl_X12_127 v9 (fun _ => ?_)
    refine v_if_le (pc := 57) (tgt := 62) (dk dt_X12_alert 28 rfl) (by decide) (fun c10 => ?_) (fun c10 => ?_)
    · replace h := h.1 c10
      refine v_aload_n (pc := 62) (dk dt_X12_alert 31 rfl) rfl rfl ?_
      refine v_iconst (pc := 63) (dk dt_X12_alert 32 rfl) ⟨by decide, by decide⟩ ?_
      obtain ⟨v11, h⟩ := h
      refine v_cvI (c := 12) (As := [iv 1]) (stk := []) (pc := 64) (dk dt_X12_alert 33 rfl) ml_X12_305 rfl rfl (Nat.le_of_ble_eq_true rfl) rfl ⟨by decide, rfl⟩ v11 rfl (Call.mono h (fun r12 G13 c14 s15 h => ?_))
      refine v_istore_n (pc := 67) (ls' := [some (rv l0), some (iv l1), some (iv l2), some (iv r12)]) (dk dt_X12_alert 34 rfl) rfl (Nat.le_of_ble_eq_true rfl) rfl ?_
      refine v_aload_n (pc := 68) (dk dt_X12_alert 35 rfl) rfl rfl ?_
      obtain ⟨v16, h⟩ := h
      refine v_getR (pc := 69) (dk dt_X12_alert 36 rfl) fl_X12_69 v16 (fun _ => ?_)
      refine v_iload_n (pc := 72) (dk dt_X12_alert 37 rfl) rfl rfl ?_
      refine v_iload_n (pc := 73) (dk dt_X12_alert 38 rfl) rfl rfl ?_
      obtain ⟨v17, h⟩ := h
      obtain ⟨v18, h⟩ := h
      obtain ⟨v19, h⟩ := h
      refine v_iast (pc := 74) (dk dt_X12_alert 39 rfl) v17 v18 v19 ?_
      generalize hG20 : (sel G13 (gfd G13 12 26 l0) r12 l1) = G20
      replace h := h G20 hG20.symm
      refine v_aload_n (pc := 75) (dk dt_X12_alert_1 0 rfl) rfl rfl ?_
      obtain ⟨v21, h⟩ := h
      refine v_getR (pc := 76) (dk dt_X12_alert_1 1 rfl) fl_X12_72 v21 (fun _ => ?_)
      refine v_iload_n (pc := 79) (dk dt_X12_alert_1 2 rfl) rfl rfl ?_
      refine v_iload_n (pc := 80) (dk dt_X12_alert_1 3 rfl) rfl rfl ?_
      obtain ⟨v22, h⟩ := h
      obtain ⟨v23, h⟩ := h
      obtain ⟨v24, h⟩ := h
      refine v_iast (pc := 81) (dk dt_X12_alert_1 4 rfl) v22 v23 v24 ?_
      generalize hG25 : (sel G20 (gfd G20 12 27 l0) r12 l2) = G25
      replace h := h G25 hG25.symm
      refine v_iload_n (pc := 82) (dk dt_X12_alert_1 5 rfl) rfl rfl ?_
      exact v_iret (pc := 83) (dk dt_X12_alert_1 6 rfl) rfl h
    · replace h := h.2 c10
      refine v_iconst (pc := 60) (dk dt_X12_alert 29 rfl) ⟨by decide, by decide⟩ ?_
      exact v_iret (pc := 61) (dk dt_X12_alert 30 rfl) rfl h
  replace h := h _ hJ2
  obtain ⟨J26, dJ26⟩ : ∃ J9 : Prop, J9 = V E M_X12_alert 23 [some (rv l0), some (iv l1), some (iv l2), none] [rv l0] G c s Q X := ⟨_, rfl⟩
  have hJ26 : J2 1 G c s → J26 := by
    intro h
    rw [dJ26]
    refine v_iconst (pc := 23) (dk dt_X12_alert 11 rfl) ⟨by decide, by decide⟩ ?_
    refine v_goto (pc := 24) (tgt := 50) (dk dt_X12_alert 12 rfl) (by decide) ?_
    rw [dJ2] at h
    exact h
  replace h := h _ hJ26
  refine v_if_eq (pc := 9) (tgt := 23) (dk dt_X12_alert 5 rfl) (by decide) (fun c27 => ?_) (fun c27 => ?_)
  · replace h := h.1 c27
    rw [dJ26] at h
    exact h
  · replace h := h.2 c27
    refine v_iload_n (pc := 12) (dk dt_X12_alert 6 rfl) rfl rfl ?_
    refine v_iconst (pc := 13) (dk dt_X12_alert 7 rfl) ⟨by decide, by decide⟩ ?_
    refine v_sipush (pc := 14) (dk dt_X12_alert 8 rfl) (by decide) ⟨by decide, by decide⟩ ?_
    obtain ⟨v28, h⟩ := h
    refine v_csPZ (v := (wIn l2 0 1000)) (As := [iv l2, iv 0, iv 1000]) (stk := [rv l0]) (pc := 17) (dk dt_X12_alert 9 rfl) ml_X12_172 rfl rfl (Nat.le_of_ble_eq_true rfl) rfl rfl v28 ?_
    refine v_if_ne (pc := 20) (tgt := 27) (dk dt_X12_alert 10 rfl) (by decide) (fun c29 => ?_) (fun c29 => ?_)
    · replace h := h.1 c29
      refine v_aload_n (pc := 27) (dk dt_X12_alert 13 rfl) rfl rfl ?_
      refine v_iconst (pc := 28) (dk dt_X12_alert 14 rfl) ⟨by decide, by decide⟩ ?_
      obtain ⟨v30, h⟩ := h
      refine v_cvI (c := 12) (As := [iv 0]) (stk := [rv l0]) (pc := 29) (dk dt_X12_alert 15 rfl) ml_X12_230 rfl rfl (Nat.le_of_ble_eq_true rfl) rfl ⟨by decide, rfl⟩ v30 rfl (Call.mono h (fun r31 G32 c33 s34 h => ?_))
      refine v_iconst (pc := 32) (dk dt_X12_alert 16 rfl) ⟨by decide, by decide⟩ ?_
      obtain ⟨J35, dJ35⟩ : ∃ J9 : Prop, J9 = V E M_X12_alert 45 [some (rv l0), some (iv l1), some (iv l2), none] [rv l0] G32 c33 s34 Q X := ⟨_, rfl⟩
      have hJ35 : J2 2 G32 c33 s34 → J35 := by
        intro h
        rw [dJ35]
        refine v_iconst (pc := 45) (dk dt_X12_alert 22 rfl) ⟨by decide, by decide⟩ ?_
        refine v_goto (pc := 46) (tgt := 50) (dk dt_X12_alert 23 rfl) (by decide) ?_
        rw [dJ2] at h
        exact h
      replace h := h _ hJ35
      refine v_icmp_ne (pc := 33) (tgt := 45) (dk dt_X12_alert 17 rfl) (by decide) (fun c36 => ?_) (fun c36 => ?_)
      · replace h := h.1 c36
        rw [dJ35] at h
        exact h
      · replace h := h.2 c36
        refine v_aload_n (pc := 36) (dk dt_X12_alert 18 rfl) rfl rfl ?_
        obtain ⟨v37, h⟩ := h
        refine v_getI (pc := 37) (dk dt_X12_alert 19 rfl) fl_X12_197 v37 (fun _ => ?_)
        refine v_bipush (pc := 40) (dk dt_X12_alert 20 rfl) (by decide) ⟨by decide, by decide⟩ ?_
        refine v_icmp_ne (pc := 42) (tgt := 49) (dk dt_X12_alert 21 rfl) (by decide) (fun c38 => ?_) (fun c38 => ?_)
        · replace h := h.1 c38
          refine v_iconst (pc := 49) (dk dt_X12_alert 24 rfl) ⟨by decide, by decide⟩ ?_
          rw [dJ2] at h
          exact h
        · replace h := h.2 c38
          rw [dJ35] at h
          exact h
    · replace h := h.2 c29
      rw [dJ26] at h
      exact h
set_option maxRecDepth 20000 in
theorem i_X12_alert {E : EE} {l0 l1 l2 : Int} {G : Gt} {c s : Nat} {Q X : Int → Gt → Prop} (h : (OkP E M_X12_in [iv l1, iv 0, iv 1000] G (wIn l1 0 1000) ∧ ∀ J2 : Int → Gt → Nat → Nat → Prop, (∀ (x3 : Int) (G4 : Gt) (c5 s6 : Nat), (gcl G4 l0 = 13 ∧ ∀ G8 : Gt, G8 = (sfd G4 12 0 l0 x3) → gcl G8 l0 = 13 ∧ (((gfd G8 12 0 l0) ≤ 0 → (gcl G8 l0 = 13 ∧ Call E M_X12_keep [rv l0, iv 1] G8 c5 s6 X (fun r12 G13 c14 s15 => gcl G13 l0 = 13 ∧ gcl G13 (gfd G13 12 26 l0) = 15 ∧ 0 ≤ r12 ∧ r12 < gln G13 (gfd G13 12 26 l0) ∧ ∀ G20 : Gt, G20 = (sel G13 (gfd G13 12 26 l0) r12 l1) → gcl G20 l0 = 13 ∧ gcl G20 (gfd G20 12 27 l0) = 15 ∧ 0 ≤ r12 ∧ r12 < gln G20 (gfd G20 12 27 l0) ∧ ∀ G25 : Gt, G25 = (sel G20 (gfd G20 12 27 l0) r12 l2) → Q r12 G25))) ∧ (0 < (gfd G8 12 0 l0) → Q 0 G8))) → J2 x3 G4 c5 s6) → ∀ J26 : Prop, (J2 1 G c s → J26) → (((wIn l1 0 1000) = 0 → J26) ∧ ((wIn l1 0 1000) ≠ 0 → (OkP E M_X12_in [iv l2, iv 0, iv 1000] G (wIn l2 0 1000) ∧ (((wIn l2 0 1000) ≠ 0 → (gcl G l0 = 13 ∧ Call E M_X12_left [rv l0, iv 0] G c s X (fun r31 G32 c33 s34 => ∀ J35 : Prop, (J2 2 G32 c33 s34 → J35) → ((r31 ≠ 1 → J35) ∧ (r31 = 1 → (gcl G32 l0 = 13 ∧ (((gfd G32 12 23 l0) ≠ 8 → J2 0 G32 c33 s34) ∧ ((gfd G32 12 23 l0) = 8 → J35)))))))) ∧ ((wIn l2 0 1000) = 0 → J26))))))) : Ok E M_X12_alert [rv l0, iv l1, iv l2] G c s Q X := Ok.intro (k := 1) rfl rfl (Nat.le_of_ble_eq_true rfl) rfl (b_X12_alert_0 h)
set_option maxRecDepth 20000 in
theorem b_X12_isAlert_0 {E : EE} {l0 l1 : Int} {G : Gt} {c s : Nat} {Q X : Int → Gt → Prop} (h : (gcl G l0 = 13 ∧ i32 ((gfd G 12 23 l0) - 1) ∧ OkP E M_X12_in [iv l1, iv 0, iv ((gfd G 12 23 l0) - 1)] G (wIn l1 0 ((gfd G 12 23 l0) - 1)) ∧ ((wIn l1 0 ((gfd G 12 23 l0) - 1)) ≠ 0 → gcl G l0 = 13) ∧ ((wIn l1 0 ((gfd G 12 23 l0) - 1)) ≠ 0 → gcl G (gfd G 12 24 l0) = 17) ∧ ((wIn l1 0 ((gfd G 12 23 l0) - 1)) ≠ 0 → 0 ≤ l1) ∧ ((wIn l1 0 ((gfd G 12 23 l0) - 1)) ≠ 0 → l1 < gln G (gfd G 12 24 l0)) ∧ ((if (wIn l1 0 ((gfd G 12 23 l0) - 1)) = 0 then (0 : Int) else (if (gel G (gfd G 12 24 l0) l1) = 0 then (0 : Int) else 1)) = 0 ∨ (if (wIn l1 0 ((gfd G 12 23 l0) - 1)) = 0 then (0 : Int) else (if (gel G (gfd G 12 24 l0) l1) = 0 then (0 : Int) else 1)) = 1) ∧ Q (if (wIn l1 0 ((gfd G 12 23 l0) - 1)) = 0 then (0 : Int) else (if (gel G (gfd G 12 24 l0) l1) = 0 then (0 : Int) else 1)) G)) : V E M_X12_isAlert 0 [some (rv l0), some (iv l1)] [] G c s Q X := by
  refine v_iload_n (pc := 0) (dk dt_X12_isAlert 0 rfl) rfl rfl ?_
  refine v_iconst (pc := 1) (dk dt_X12_isAlert 1 rfl) ⟨by decide, by decide⟩ ?_
  refine v_aload_n (pc := 2) (dk dt_X12_isAlert 2 rfl) rfl rfl ?_
  obtain ⟨v1, h⟩ := h
  refine v_getI (pc := 3) (dk dt_X12_isAlert 3 rfl) fl_X12_197 v1 (fun _ => ?_)
  refine v_iconst (pc := 6) (dk dt_X12_isAlert 4 rfl) ⟨by decide, by decide⟩ ?_
  obtain ⟨v2, h⟩ := h
  refine v_isub (pc := 7) (dk dt_X12_isAlert 5 rfl) v2 ?_
  obtain ⟨v3, h⟩ := h
  refine v_csPZ (v := (wIn l1 0 ((gfd G 12 23 l0) - 1))) (As := [iv l1, iv 0, iv ((gfd G 12 23 l0) - 1)]) (stk := []) (pc := 8) (dk dt_X12_isAlert 6 rfl) ml_X12_172 rfl rfl (Nat.le_of_ble_eq_true rfl) rfl rfl v3 ?_
  obtain ⟨v5, v6, v7, v8, h⟩ := h
  suffices k11 : V E M_X12_isAlert 28 [none, none] [iv (if (wIn l1 0 ((gfd G 12 23 l0) - 1)) = 0 then (0 : Int) else (if (gel G (gfd G 12 24 l0) l1) = 0 then (0 : Int) else 1))] G c s Q X by
    refine v_if_eq (pc := 11) (tgt := 27) (dk dt_X12_isAlert 7 rfl) (by decide) (fun c4 => ?_) (fun c4 => ?_)
    · refine v_iconst (pc := 27) (dk dt_X12_isAlert 15 rfl) ⟨by decide, by decide⟩ ?_
      exact v_less2 (ls' := [none, none]) trivial (by have hk9 := k11; try simp only [if_pos c4] at hk9 ⊢; exact hk9)
    · refine v_aload_n (pc := 14) (dk dt_X12_isAlert 8 rfl) rfl rfl ?_
      refine v_getR (pc := 15) (dk dt_X12_isAlert 9 rfl) fl_X12_63 (v5 c4) (fun _ => ?_)
      refine v_iload_n (pc := 18) (dk dt_X12_isAlert 10 rfl) rfl rfl ?_
      refine v_zald (pc := 19) (dk dt_X12_isAlert 11 rfl) (v6 c4) (v7 c4) (v8 c4) (fun _ => ?_)
      refine v_if_eq (pc := 20) (tgt := 27) (dk dt_X12_isAlert 12 rfl) (by decide) (fun c9 => ?_) (fun c9 => ?_)
      · refine v_iconst (pc := 27) (dk dt_X12_isAlert 15 rfl) ⟨by decide, by decide⟩ ?_
        exact v_less2 (ls' := [none, none]) trivial (by have hk9 := k11; try simp only [if_neg c4] at hk9 ⊢; try simp only [if_pos c9] at hk9 ⊢; exact hk9)
      · refine v_iconst (pc := 23) (dk dt_X12_isAlert 13 rfl) ⟨by decide, by decide⟩ ?_
        refine v_goto (pc := 24) (tgt := 28) (dk dt_X12_isAlert 14 rfl) (by decide) ?_
        exact v_less2 (ls' := [none, none]) trivial (by have hk9 := k11; try simp only [if_neg c4] at hk9 ⊢; try simp only [if_neg c9] at hk9 ⊢; exact hk9)
  obtain ⟨v10, h⟩ := h
  exact v_zret (pc := 28) (dk dt_X12_isAlert 16 rfl) rfl v10 h
set_option maxRecDepth 20000 in
theorem i_X12_isAlert {E : EE} {l0 l1 : Int} {G : Gt} {c s : Nat} {Q X : Int → Gt → Prop} (h : (gcl G l0 = 13 ∧ i32 ((gfd G 12 23 l0) - 1) ∧ OkP E M_X12_in [iv l1, iv 0, iv ((gfd G 12 23 l0) - 1)] G (wIn l1 0 ((gfd G 12 23 l0) - 1)) ∧ ((wIn l1 0 ((gfd G 12 23 l0) - 1)) ≠ 0 → gcl G l0 = 13) ∧ ((wIn l1 0 ((gfd G 12 23 l0) - 1)) ≠ 0 → gcl G (gfd G 12 24 l0) = 17) ∧ ((wIn l1 0 ((gfd G 12 23 l0) - 1)) ≠ 0 → 0 ≤ l1) ∧ ((wIn l1 0 ((gfd G 12 23 l0) - 1)) ≠ 0 → l1 < gln G (gfd G 12 24 l0)) ∧ ((if (wIn l1 0 ((gfd G 12 23 l0) - 1)) = 0 then (0 : Int) else (if (gel G (gfd G 12 24 l0) l1) = 0 then (0 : Int) else 1)) = 0 ∨ (if (wIn l1 0 ((gfd G 12 23 l0) - 1)) = 0 then (0 : Int) else (if (gel G (gfd G 12 24 l0) l1) = 0 then (0 : Int) else 1)) = 1) ∧ Q (if (wIn l1 0 ((gfd G 12 23 l0) - 1)) = 0 then (0 : Int) else (if (gel G (gfd G 12 24 l0) l1) = 0 then (0 : Int) else 1)) G)) : Ok E M_X12_isAlert [rv l0, iv l1] G c s Q X := Ok.intro (k := 0) rfl rfl (Nat.le_of_ble_eq_true rfl) rfl (b_X12_isAlert_0 h)
set_option maxRecDepth 20000 in
theorem b_X12_inhibit_0 {E : EE} {l0 l1 l2 : Int} {G : Gt} {c s : Nat} {Q X : Int → Gt → Prop} (h : (gcl G l0 = 13 ∧ Call E M_X12_isAlert [rv l0, iv l1] G c s X (fun r2 G3 c4 s5 => ∀ J6 : Int → Gt → Nat → Nat → Prop, (∀ (x7 : Int) (G8 : Gt) (c9 s10 : Nat), (gcl G8 l0 = 13 ∧ ∀ G12 : Gt, G12 = (sfd G8 12 0 l0 x7) → gcl G12 l0 = 13 ∧ (((gfd G12 12 0 l0) ≤ 0 → (gcl G12 l0 = 13 ∧ gcl G12 (gfd G12 12 28 l0) = 15 ∧ 0 ≤ l1 ∧ l1 < gln G12 (gfd G12 12 28 l0) ∧ gcl G12 l0 = 13 ∧ gcl G12 (gfd G12 12 28 l0) = 15 ∧ 0 ≤ l1 ∧ l1 < gln G12 (gfd G12 12 28 l0) ∧ ∀ G23 : Gt, G23 = (sel G12 (gfd G12 12 28 l0) l1 l2) → Q (gel G12 (gfd G12 12 28 l0) l1) G23)) ∧ (0 < (gfd G12 12 0 l0) → Q 0 G12))) → J6 x7 G8 c9 s10) → ∀ J24 : Gt → Nat → Nat → Prop, (∀ (G25 : Gt) (c26 s27 : Nat), J6 1 G25 c26 s27 → J24 G25 c26 s27) → ((r2 = 0 → J24 G3 c4 s5) ∧ (r2 ≠ 0 → (∀ J29 : Gt → Nat → Nat → Prop, (∀ (G30 : Gt) (c31 s32 : Nat), J6 0 G30 c31 s32 → J29 G30 c31 s32) → ((l2 = (-1) → J29 G3 c4 s5) ∧ (l2 ≠ (-1) → (gcl G3 l0 = 13 ∧ Call E M_X12_isAlert [rv l0, iv l2] G3 c4 s5 X (fun r35 G36 c37 s38 => ((r35 = 0 → J24 G36 c37 s38) ∧ (r35 ≠ 0 → ((l1 ≤ l2 → J24 G36 c37 s38) ∧ (l2 < l1 → J29 G36 c37 s38)))))))))))))) : V E M_X12_inhibit 0 [some (rv l0), some (iv l1), some (iv l2), none] [] G c s Q X := by
  refine v_aload_n (pc := 0) (dk dt_X12_inhibit 0 rfl) rfl rfl ?_
  refine v_aload_n (pc := 1) (dk dt_X12_inhibit 1 rfl) rfl rfl ?_
  refine v_iload_n (pc := 2) (dk dt_X12_inhibit 2 rfl) rfl rfl ?_
  obtain ⟨v1, h⟩ := h
  refine v_cvZ (c := 12) (As := [iv l1]) (stk := [rv l0]) (pc := 3) (dk dt_X12_inhibit 3 rfl) ml_X12_309 rfl rfl (Nat.le_of_ble_eq_true rfl) rfl ⟨by decide, rfl⟩ v1 rfl (Call.mono h (fun r2 G3 c4 s5 h => ?_))
  obtain ⟨J6, dJ6⟩ : ∃ J9 : Int → Gt → Nat → Nat → Prop, J9 = fun x7 G8 c9 s10 => V E M_X12_inhibit 32 [some (rv l0), some (iv l1), some (iv l2), none] [iv x7, rv l0] G8 c9 s10 Q X := ⟨_, rfl⟩
  have hJ6 : ∀ (x7 : Int) (G8 : Gt) (c9 s10 : Nat), (gcl G8 l0 = 13 ∧ ∀ G12 : Gt, G12 = (sfd G8 12 0 l0 x7) → gcl G12 l0 = 13 ∧ (((gfd G12 12 0 l0) ≤ 0 → (gcl G12 l0 = 13 ∧ gcl G12 (gfd G12 12 28 l0) = 15 ∧ 0 ≤ l1 ∧ l1 < gln G12 (gfd G12 12 28 l0) ∧ gcl G12 l0 = 13 ∧ gcl G12 (gfd G12 12 28 l0) = 15 ∧ 0 ≤ l1 ∧ l1 < gln G12 (gfd G12 12 28 l0) ∧ ∀ G23 : Gt, G23 = (sel G12 (gfd G12 12 28 l0) l1 l2) → Q (gel G12 (gfd G12 12 28 l0) l1) G23)) ∧ (0 < (gfd G12 12 0 l0) → Q 0 G12))) → J6 x7 G8 c9 s10 := by
    intro x7 G8 c9 s10 h
    rw [dJ6]
    obtain ⟨v11, h⟩ := h
    refine v_putI (pc := 32) (dk dt_X12_inhibit 18 rfl) fl_X12_127 (Or.inl rfl) v11 ?_
    generalize hG12 : (sfd G8 12 0 l0 x7) = G12
    replace h := h G12 hG12.symm
    refine v_aload_n (pc := 35) (dk dt_X12_inhibit 19 rfl) rfl rfl ?_
    obtain ⟨v13, h⟩ := h
    refine v_getI (pc := 36) (dk dt_X12_inhibit 20 rfl) fl_X12_127 v13 (fun _ => ?_)
    refine v_if_le (pc := 39) (tgt := 44) (dk dt_X12_inhibit 21 rfl) (by decide) (fun c14 => ?_) (fun c14 => ?_)
    · replace h := h.1 c14
      refine v_aload_n (pc := 44) (dk dt_X12_inhibit 24 rfl) rfl rfl ?_
      obtain ⟨v15, h⟩ := h
      refine v_getR (pc := 45) (dk dt_X12_inhibit 25 rfl) fl_X12_75 v15 (fun _ => ?_)
      refine v_iload_n (pc := 48) (dk dt_X12_inhibit 26 rfl) rfl rfl ?_
      obtain ⟨v16, h⟩ := h
      obtain ⟨v17, h⟩ := h
      obtain ⟨v18, h⟩ := h
      refine v_iald (pc := 49) (dk dt_X12_inhibit 27 rfl) (Or.inl v16) v17 v18 (fun _ => ?_)
      refine v_istore_n (pc := 50) (ls' := [some (rv l0), some (iv l1), some (iv l2), some (iv (gel G12 (gfd G12 12 28 l0) l1))]) (dk dt_X12_inhibit 28 rfl) rfl (Nat.le_of_ble_eq_true rfl) rfl ?_
      refine v_aload_n (pc := 51) (dk dt_X12_inhibit 29 rfl) rfl rfl ?_
      obtain ⟨v19, h⟩ := h
      refine v_getR (pc := 52) (dk dt_X12_inhibit 30 rfl) fl_X12_75 v19 (fun _ => ?_)
      refine v_iload_n (pc := 55) (dk dt_X12_inhibit 31 rfl) rfl rfl ?_
      refine v_iload_n (pc := 56) (dk dt_X12_inhibit 32 rfl) rfl rfl ?_
      obtain ⟨v20, h⟩ := h
      obtain ⟨v21, h⟩ := h
      obtain ⟨v22, h⟩ := h
      refine v_iast (pc := 57) (dk dt_X12_inhibit 33 rfl) v20 v21 v22 ?_
      generalize hG23 : (sel G12 (gfd G12 12 28 l0) l1 l2) = G23
      replace h := h G23 hG23.symm
      refine v_iload_n (pc := 58) (dk dt_X12_inhibit 34 rfl) rfl rfl ?_
      exact v_iret (pc := 59) (dk dt_X12_inhibit 35 rfl) rfl h
    · replace h := h.2 c14
      refine v_iconst (pc := 42) (dk dt_X12_inhibit 22 rfl) ⟨by decide, by decide⟩ ?_
      exact v_iret (pc := 43) (dk dt_X12_inhibit 23 rfl) rfl h
  replace h := h _ hJ6
  obtain ⟨J24, dJ24⟩ : ∃ J9 : Gt → Nat → Nat → Prop, J9 = fun G25 c26 s27 => V E M_X12_inhibit 31 [some (rv l0), some (iv l1), some (iv l2), none] [rv l0] G25 c26 s27 Q X := ⟨_, rfl⟩
  have hJ24 : ∀ (G25 : Gt) (c26 s27 : Nat), J6 1 G25 c26 s27 → J24 G25 c26 s27 := by
    intro G25 c26 s27 h
    rw [dJ24]
    refine v_iconst (pc := 31) (dk dt_X12_inhibit 17 rfl) ⟨by decide, by decide⟩ ?_
    rw [dJ6] at h
    exact h
  replace h := h _ hJ24
  refine v_if_eq (pc := 6) (tgt := 31) (dk dt_X12_inhibit 4 rfl) (by decide) (fun c28 => ?_) (fun c28 => ?_)
  · replace h := h.1 c28
    rw [dJ24] at h
    exact h
  · replace h := h.2 c28
    refine v_iload_n (pc := 9) (dk dt_X12_inhibit 5 rfl) rfl rfl ?_
    refine v_iconst (pc := 10) (dk dt_X12_inhibit 6 rfl) ⟨by decide, by decide⟩ ?_
    obtain ⟨J29, dJ29⟩ : ∃ J9 : Gt → Nat → Nat → Prop, J9 = fun G30 c31 s32 => V E M_X12_inhibit 27 [some (rv l0), some (iv l1), some (iv l2), none] [rv l0] G30 c31 s32 Q X := ⟨_, rfl⟩
    have hJ29 : ∀ (G30 : Gt) (c31 s32 : Nat), J6 0 G30 c31 s32 → J29 G30 c31 s32 := by
      intro G30 c31 s32 h
      rw [dJ29]
      refine v_iconst (pc := 27) (dk dt_X12_inhibit 15 rfl) ⟨by decide, by decide⟩ ?_
      refine v_goto (pc := 28) (tgt := 32) (dk dt_X12_inhibit 16 rfl) (by decide) ?_
      rw [dJ6] at h
      exact h
    replace h := h _ hJ29
    refine v_icmp_eq (pc := 11) (tgt := 27) (dk dt_X12_inhibit 7 rfl) (by decide) (fun c33 => ?_) (fun c33 => ?_)
    · replace h := h.1 c33
      rw [dJ29] at h
      exact h
    · replace h := h.2 c33
      refine v_aload_n (pc := 14) (dk dt_X12_inhibit 8 rfl) rfl rfl ?_
      refine v_iload_n (pc := 15) (dk dt_X12_inhibit 9 rfl) rfl rfl ?_
      obtain ⟨v34, h⟩ := h
      refine v_cvZ (c := 12) (As := [iv l2]) (stk := [rv l0]) (pc := 16) (dk dt_X12_inhibit 10 rfl) ml_X12_309 rfl rfl (Nat.le_of_ble_eq_true rfl) rfl ⟨by decide, rfl⟩ v34 rfl (Call.mono h (fun r35 G36 c37 s38 h => ?_))
      refine v_if_eq (pc := 19) (tgt := 31) (dk dt_X12_inhibit 11 rfl) (by decide) (fun c39 => ?_) (fun c39 => ?_)
      · replace h := h.1 c39
        rw [dJ24] at h
        exact h
      · replace h := h.2 c39
        refine v_iload_n (pc := 22) (dk dt_X12_inhibit 12 rfl) rfl rfl ?_
        refine v_iload_n (pc := 23) (dk dt_X12_inhibit 13 rfl) rfl rfl ?_
        refine v_icmp_ge (pc := 24) (tgt := 31) (dk dt_X12_inhibit 14 rfl) (by decide) (fun c40 => ?_) (fun c40 => ?_)
        · replace h := h.1 c40
          rw [dJ24] at h
          exact h
        · replace h := h.2 c40
          rw [dJ29] at h
          exact h
set_option maxRecDepth 20000 in
theorem i_X12_inhibit {E : EE} {l0 l1 l2 : Int} {G : Gt} {c s : Nat} {Q X : Int → Gt → Prop} (h : (gcl G l0 = 13 ∧ Call E M_X12_isAlert [rv l0, iv l1] G c s X (fun r2 G3 c4 s5 => ∀ J6 : Int → Gt → Nat → Nat → Prop, (∀ (x7 : Int) (G8 : Gt) (c9 s10 : Nat), (gcl G8 l0 = 13 ∧ ∀ G12 : Gt, G12 = (sfd G8 12 0 l0 x7) → gcl G12 l0 = 13 ∧ (((gfd G12 12 0 l0) ≤ 0 → (gcl G12 l0 = 13 ∧ gcl G12 (gfd G12 12 28 l0) = 15 ∧ 0 ≤ l1 ∧ l1 < gln G12 (gfd G12 12 28 l0) ∧ gcl G12 l0 = 13 ∧ gcl G12 (gfd G12 12 28 l0) = 15 ∧ 0 ≤ l1 ∧ l1 < gln G12 (gfd G12 12 28 l0) ∧ ∀ G23 : Gt, G23 = (sel G12 (gfd G12 12 28 l0) l1 l2) → Q (gel G12 (gfd G12 12 28 l0) l1) G23)) ∧ (0 < (gfd G12 12 0 l0) → Q 0 G12))) → J6 x7 G8 c9 s10) → ∀ J24 : Gt → Nat → Nat → Prop, (∀ (G25 : Gt) (c26 s27 : Nat), J6 1 G25 c26 s27 → J24 G25 c26 s27) → ((r2 = 0 → J24 G3 c4 s5) ∧ (r2 ≠ 0 → (∀ J29 : Gt → Nat → Nat → Prop, (∀ (G30 : Gt) (c31 s32 : Nat), J6 0 G30 c31 s32 → J29 G30 c31 s32) → ((l2 = (-1) → J29 G3 c4 s5) ∧ (l2 ≠ (-1) → (gcl G3 l0 = 13 ∧ Call E M_X12_isAlert [rv l0, iv l2] G3 c4 s5 X (fun r35 G36 c37 s38 => ((r35 = 0 → J24 G36 c37 s38) ∧ (r35 ≠ 0 → ((l1 ≤ l2 → J24 G36 c37 s38) ∧ (l2 < l1 → J29 G36 c37 s38)))))))))))))) : Ok E M_X12_inhibit [rv l0, iv l1, iv l2] G c s Q X := Ok.intro (k := 1) rfl rfl (Nat.le_of_ble_eq_true rfl) rfl (b_X12_inhibit_0 h)
set_option maxRecDepth 20000 in
theorem b_X12_silence_0 {E : EE} {l0 l1 l2 : Int} {G : Gt} {c s : Nat} {Q X : Int → Gt → Prop} (h : (OkP E M_X12_in [iv l1, iv 0, iv 3] G (wIn l1 0 3) ∧ ((wIn l1 0 3) ≠ 0 → OkP E M_X12_in [iv l2, iv 0, iv 100000] G (wIn l2 0 100000)) ∧ ((wIn l1 0 3) ≠ 0 → (wIn l2 0 100000) ≠ 0 → gcl G l0 = 13) ∧ gcl G l0 = 13 ∧ ∀ G8 : Gt, G8 = (sfd G 12 0 l0 (if (wIn l1 0 3) = 0 then (1 : Int) else (if (wIn l2 0 100000) = 0 then (2 : Int) else (if (gfd G 12 45 l0) = 10 then (3 : Int) else 0)))) → gcl G8 l0 = 13 ∧ (((gfd G8 12 0 l0) ≤ 0 → V E M_X12_silence 56 [some (rv l0), some (iv l1), some (iv l2), some (iv 0)] [] G8 c s Q X) ∧ (0 < (gfd G8 12 0 l0) → Q 0 G8)))) : V E M_X12_silence 0 [some (rv l0), some (iv l1), some (iv l2), none] [] G c s Q X := by
  refine v_aload_n (pc := 0) (dk dt_X12_silence 0 rfl) rfl rfl ?_
  refine v_iload_n (pc := 1) (dk dt_X12_silence 1 rfl) rfl rfl ?_
  refine v_iconst (pc := 2) (dk dt_X12_silence 2 rfl) ⟨by decide, by decide⟩ ?_
  refine v_iconst (pc := 3) (dk dt_X12_silence 3 rfl) ⟨by decide, by decide⟩ ?_
  obtain ⟨v1, h⟩ := h
  refine v_csPZ (v := (wIn l1 0 3)) (As := [iv l1, iv 0, iv 3]) (stk := [rv l0]) (pc := 4) (dk dt_X12_silence 4 rfl) ml_X12_172 rfl rfl (Nat.le_of_ble_eq_true rfl) rfl rfl v1 ?_
  obtain ⟨v3, v5, h⟩ := h
  suffices k11 : V E M_X12_silence 42 [some (rv l0), some (iv l1), some (iv l2), none] [iv (if (wIn l1 0 3) = 0 then (1 : Int) else (if (wIn l2 0 100000) = 0 then (2 : Int) else (if (gfd G 12 45 l0) = 10 then (3 : Int) else 0))), rv l0] G c s Q X by
    refine v_if_ne (pc := 7) (tgt := 14) (dk dt_X12_silence 5 rfl) (by decide) (fun c2 => ?_) (fun c2 => ?_)
    · refine v_iload_n (pc := 14) (dk dt_X12_silence 8 rfl) rfl rfl ?_
      refine v_iconst (pc := 15) (dk dt_X12_silence 9 rfl) ⟨by decide, by decide⟩ ?_
      refine v_ldc (pc := 16) (dk dt_X12_silence 10 rfl) co_X12_189 ⟨by decide, by decide⟩ ?_
      refine v_csPZ (v := (wIn l2 0 100000)) (As := [iv l2, iv 0, iv 100000]) (stk := [rv l0]) (pc := 18) (dk dt_X12_silence 11 rfl) ml_X12_172 rfl rfl (Nat.le_of_ble_eq_true rfl) rfl rfl (v3 c2) ?_
      refine v_if_ne (pc := 21) (tgt := 28) (dk dt_X12_silence 12 rfl) (by decide) (fun c4 => ?_) (fun c4 => ?_)
      · refine v_aload_n (pc := 28) (dk dt_X12_silence 15 rfl) rfl rfl ?_
        refine v_getI (pc := 29) (dk dt_X12_silence 16 rfl) fl_X12_311 (v5 c2 c4) (fun _ => ?_)
        refine v_bipush (pc := 32) (dk dt_X12_silence 17 rfl) (by decide) ⟨by decide, by decide⟩ ?_
        refine v_icmp_ne (pc := 34) (tgt := 41) (dk dt_X12_silence 18 rfl) (by decide) (fun c6 => ?_) (fun c6 => ?_)
        · refine v_iconst (pc := 41) (dk dt_X12_silence 21 rfl) ⟨by decide, by decide⟩ ?_
          exact v_less2 (ls' := [some (rv l0), some (iv l1), some (iv l2), none]) ⟨rfl, rfl, rfl, trivial⟩ (by have hk9 := k11; try simp only [if_neg c2] at hk9 ⊢; try simp only [if_neg c4] at hk9 ⊢; try simp only [if_neg c6] at hk9 ⊢; exact hk9)
        · refine v_iconst (pc := 37) (dk dt_X12_silence 19 rfl) ⟨by decide, by decide⟩ ?_
          refine v_goto (pc := 38) (tgt := 42) (dk dt_X12_silence 20 rfl) (by decide) ?_
          exact v_less2 (ls' := [some (rv l0), some (iv l1), some (iv l2), none]) ⟨rfl, rfl, rfl, trivial⟩ (by have hk9 := k11; try simp only [if_neg c2] at hk9 ⊢; try simp only [if_neg c4] at hk9 ⊢; try simp only [if_pos c6] at hk9 ⊢; exact hk9)
      · refine v_iconst (pc := 24) (dk dt_X12_silence 13 rfl) ⟨by decide, by decide⟩ ?_
        refine v_goto (pc := 25) (tgt := 42) (dk dt_X12_silence 14 rfl) (by decide) ?_
        exact v_less2 (ls' := [some (rv l0), some (iv l1), some (iv l2), none]) ⟨rfl, rfl, rfl, trivial⟩ (by have hk9 := k11; try simp only [if_neg c2] at hk9 ⊢; try simp only [if_pos c4] at hk9 ⊢; exact hk9)
    · refine v_iconst (pc := 10) (dk dt_X12_silence 6 rfl) ⟨by decide, by decide⟩ ?_
      refine v_goto (pc := 11) (tgt := 42) (dk dt_X12_silence 7 rfl) (by decide) ?_
      exact v_less2 (ls' := [some (rv l0), some (iv l1), some (iv l2), none]) ⟨rfl, rfl, rfl, trivial⟩ (by have hk9 := k11; try simp only [if_pos c2] at hk9 ⊢; exact hk9)
  obtain ⟨v7, h⟩ := h
  refine v_putI (pc := 42) (dk dt_X12_silence 22 rfl) fl_X12_127 (Or.inl rfl) v7 ?_
  generalize hG8 : (sfd G 12 0 l0 (if (wIn l1 0 3) = 0 then (1 : Int) else (if (wIn l2 0 100000) = 0 then (2 : Int) else (if (gfd G 12 45 l0) = 10 then (3 : Int) else 0)))) = G8
  replace h := h G8 hG8.symm
  refine v_aload_n (pc := 45) (dk dt_X12_silence 23 rfl) rfl rfl ?_
  obtain ⟨v9, h⟩ := h
  refine v_getI (pc := 46) (dk dt_X12_silence 24 rfl) fl_X12_127 v9 (fun _ => ?_)
  refine v_if_le (pc := 49) (tgt := 54) (dk dt_X12_silence 25 rfl) (by decide) (fun c10 => ?_) (fun c10 => ?_)
  · replace h := h.1 c10
    refine v_iconst (pc := 54) (dk dt_X12_silence 28 rfl) ⟨by decide, by decide⟩ ?_
    refine v_istore_n (pc := 55) (ls' := [some (rv l0), some (iv l1), some (iv l2), some (iv 0)]) (dk dt_X12_silence 29 rfl) rfl (Nat.le_of_ble_eq_true rfl) rfl ?_
    exact h
  · replace h := h.2 c10
    refine v_iconst (pc := 52) (dk dt_X12_silence 26 rfl) ⟨by decide, by decide⟩ ?_
    exact v_iret (pc := 53) (dk dt_X12_silence 27 rfl) rfl h
set_option maxRecDepth 20000 in
theorem i_X12_silence {E : EE} {l0 l1 l2 : Int} {G : Gt} {c s : Nat} {Q X : Int → Gt → Prop} (h : (OkP E M_X12_in [iv l1, iv 0, iv 3] G (wIn l1 0 3) ∧ ((wIn l1 0 3) ≠ 0 → OkP E M_X12_in [iv l2, iv 0, iv 100000] G (wIn l2 0 100000)) ∧ ((wIn l1 0 3) ≠ 0 → (wIn l2 0 100000) ≠ 0 → gcl G l0 = 13) ∧ gcl G l0 = 13 ∧ ∀ G8 : Gt, G8 = (sfd G 12 0 l0 (if (wIn l1 0 3) = 0 then (1 : Int) else (if (wIn l2 0 100000) = 0 then (2 : Int) else (if (gfd G 12 45 l0) = 10 then (3 : Int) else 0)))) → gcl G8 l0 = 13 ∧ (((gfd G8 12 0 l0) ≤ 0 → V E M_X12_silence 56 [some (rv l0), some (iv l1), some (iv l2), some (iv 0)] [] G8 c s Q X) ∧ (0 < (gfd G8 12 0 l0) → Q 0 G8)))) : Ok E M_X12_silence [rv l0, iv l1, iv l2] G c s Q X := Ok.intro (k := 1) rfl rfl (Nat.le_of_ble_eq_true rfl) rfl (b_X12_silence_0 h)
set_option maxRecDepth 20000 in
theorem b_X12_silence_56 {E : EE} {l0 l1 l2 l3 : Int} {G : Gt} {c s : Nat} {Q X : Int → Gt → Prop} (h : ((3 ≤ l3 → (gcl G l0 = 13 ∧ gcl G l0 = 13 ∧ i32 (4 * (gfd G 12 45 l0)) ∧ i32 ((4 * (gfd G 12 45 l0)) + 3) ∧ gcl G (gfd G 12 44 l0) = 15 ∧ 0 ≤ ((4 * (gfd G 12 45 l0)) + 3) ∧ ((4 * (gfd G 12 45 l0)) + 3) < gln G (gfd G 12 44 l0) ∧ ∀ G9 : Gt, G9 = (sel G (gfd G 12 44 l0) ((4 * (gfd G 12 45 l0)) + 3) l2) → gcl G9 l0 = 13 ∧ i32 ((gfd G9 12 45 l0) + 1) ∧ gcl G9 l0 = 13 ∧ ∀ G13 : Gt, G13 = (sfd G9 12 45 l0 ((gfd G9 12 45 l0) + 1)) → gcl G13 l0 = 13 ∧ Q (gfd G13 12 45 l0) G13)) ∧ (l3 < 3 → (gcl G l0 = 13 ∧ gcl G l0 = 13 ∧ i32 (4 * (gfd G 12 45 l0)) ∧ i32 ((4 * (gfd G 12 45 l0)) + l3) ∧ gcl G l0 = 13 ∧ i32 (3 * l1) ∧ i32 ((3 * l1) + l3) ∧ gcl G (gfd G 12 20 l0) = 15 ∧ 0 ≤ ((3 * l1) + l3) ∧ ((3 * l1) + l3) < gln G (gfd G 12 20 l0) ∧ gcl G (gfd G 12 44 l0) = 15 ∧ 0 ≤ ((4 * (gfd G 12 45 l0)) + l3) ∧ ((4 * (gfd G 12 45 l0)) + l3) < gln G (gfd G 12 44 l0) ∧ ∀ G28 : Gt, G28 = (sel G (gfd G 12 44 l0) ((4 * (gfd G 12 45 l0)) + l3) (gel G (gfd G 12 20 l0) ((3 * l1) + l3))) → i32 (l3 + 1) ∧ V E M_X12_silence 56 [some (rv l0), some (iv l1), some (iv l2), some (iv (l3 + 1))] [] G28 c s Q X)))) : V E M_X12_silence 56 [some (rv l0), some (iv l1), some (iv l2), some (iv l3)] [] G c s Q X := by
  refine v_iload_n (pc := 56) (dk dt_X12_silence 30 rfl) rfl rfl ?_
  refine v_iconst (pc := 57) (dk dt_X12_silence 31 rfl) ⟨by decide, by decide⟩ ?_
  refine v_icmp_ge (pc := 58) (tgt := 90) (dk dt_X12_silence 32 rfl) (by decide) (fun c1 => ?_) (fun c1 => ?_)
  · replace h := h.1 c1
    refine v_aload_n (pc := 90) (dk dt_X12_silence_1 12 rfl) rfl rfl ?_
    obtain ⟨v2, h⟩ := h
    refine v_getR (pc := 91) (dk dt_X12_silence_1 13 rfl) fl_X12_115 v2 (fun _ => ?_)
    refine v_iconst (pc := 94) (dk dt_X12_silence_1 14 rfl) ⟨by decide, by decide⟩ ?_
    refine v_aload_n (pc := 95) (dk dt_X12_silence_1 15 rfl) rfl rfl ?_
    obtain ⟨v3, h⟩ := h
    refine v_getI (pc := 96) (dk dt_X12_silence_1 16 rfl) fl_X12_311 v3 (fun _ => ?_)
    obtain ⟨v4, h⟩ := h
    refine v_imul (pc := 99) (dk dt_X12_silence_1 17 rfl) v4 ?_
    refine v_iconst (pc := 100) (dk dt_X12_silence_1 18 rfl) ⟨by decide, by decide⟩ ?_
    obtain ⟨v5, h⟩ := h
    refine v_iadd (pc := 101) (dk dt_X12_silence_1 19 rfl) v5 ?_
    refine v_iload_n (pc := 102) (dk dt_X12_silence_1 20 rfl) rfl rfl ?_
    obtain ⟨v6, h⟩ := h
    obtain ⟨v7, h⟩ := h
    obtain ⟨v8, h⟩ := h
    refine v_iast (pc := 103) (dk dt_X12_silence_1 21 rfl) v6 v7 v8 ?_
    generalize hG9 : (sel G (gfd G 12 44 l0) ((4 * (gfd G 12 45 l0)) + 3) l2) = G9
    replace h := h G9 hG9.symm
    refine v_aload_n (pc := 104) (dk dt_X12_silence_1 22 rfl) rfl rfl ?_
    refine v_dup (pc := 105) (dk dt_X12_silence_1 23 rfl) (by intro h9; cases h9) ?_
    obtain ⟨v10, h⟩ := h
    refine v_getI (pc := 106) (dk dt_X12_silence_1 24 rfl) fl_X12_311 v10 (fun _ => ?_)
    refine v_iconst (pc := 109) (dk dt_X12_silence_1 25 rfl) ⟨by decide, by decide⟩ ?_
    obtain ⟨v11, h⟩ := h
    refine v_iadd (pc := 110) (dk dt_X12_silence_1 26 rfl) v11 ?_
    obtain ⟨v12, h⟩ := h
    refine v_putI (pc := 111) (dk dt_X12_silence_1 27 rfl) fl_X12_311 (Or.inl rfl) v12 ?_
    generalize hG13 : (sfd G9 12 45 l0 ((gfd G9 12 45 l0) + 1)) = G13
    replace h := h G13 hG13.symm
    refine v_aload_n (pc := 114) (dk dt_X12_silence_1 28 rfl) rfl rfl ?_
    obtain ⟨v14, h⟩ := h
    refine v_getI (pc := 115) (dk dt_X12_silence_1 29 rfl) fl_X12_311 v14 (fun _ => ?_)
    exact v_iret (pc := 118) (dk dt_X12_silence_1 30 rfl) rfl h
  · replace h := h.2 c1
    refine v_aload_n (pc := 61) (dk dt_X12_silence 33 rfl) rfl rfl ?_
    obtain ⟨v15, h⟩ := h
    refine v_getR (pc := 62) (dk dt_X12_silence 34 rfl) fl_X12_115 v15 (fun _ => ?_)
    refine v_iconst (pc := 65) (dk dt_X12_silence 35 rfl) ⟨by decide, by decide⟩ ?_
    refine v_aload_n (pc := 66) (dk dt_X12_silence 36 rfl) rfl rfl ?_
    obtain ⟨v16, h⟩ := h
    refine v_getI (pc := 67) (dk dt_X12_silence 37 rfl) fl_X12_311 v16 (fun _ => ?_)
    obtain ⟨v17, h⟩ := h
    refine v_imul (pc := 70) (dk dt_X12_silence 38 rfl) v17 ?_
    refine v_iload_n (pc := 71) (dk dt_X12_silence 39 rfl) rfl rfl ?_
    obtain ⟨v18, h⟩ := h
    refine v_iadd (pc := 72) (dk dt_X12_silence_1 0 rfl) v18 ?_
    refine v_aload_n (pc := 73) (dk dt_X12_silence_1 1 rfl) rfl rfl ?_
    obtain ⟨v19, h⟩ := h
    refine v_getR (pc := 74) (dk dt_X12_silence_1 2 rfl) fl_X12_54 v19 (fun _ => ?_)
    refine v_iconst (pc := 77) (dk dt_X12_silence_1 3 rfl) ⟨by decide, by decide⟩ ?_
    refine v_iload_n (pc := 78) (dk dt_X12_silence_1 4 rfl) rfl rfl ?_
    obtain ⟨v20, h⟩ := h
    refine v_imul (pc := 79) (dk dt_X12_silence_1 5 rfl) v20 ?_
    refine v_iload_n (pc := 80) (dk dt_X12_silence_1 6 rfl) rfl rfl ?_
    obtain ⟨v21, h⟩ := h
    refine v_iadd (pc := 81) (dk dt_X12_silence_1 7 rfl) v21 ?_
    obtain ⟨v22, h⟩ := h
    obtain ⟨v23, h⟩ := h
    obtain ⟨v24, h⟩ := h
    refine v_iald (pc := 82) (dk dt_X12_silence_1 8 rfl) (Or.inl v22) v23 v24 (fun _ => ?_)
    obtain ⟨v25, h⟩ := h
    obtain ⟨v26, h⟩ := h
    obtain ⟨v27, h⟩ := h
    refine v_iast (pc := 83) (dk dt_X12_silence_1 9 rfl) v25 v26 v27 ?_
    generalize hG28 : (sel G (gfd G 12 44 l0) ((4 * (gfd G 12 45 l0)) + l3) (gel G (gfd G 12 20 l0) ((3 * l1) + l3))) = G28
    replace h := h G28 hG28.symm
    obtain ⟨v29, h⟩ := h
    refine v_iinc (pc := 84) (ls' := [some (rv l0), some (iv l1), some (iv l2), some (iv (l3 + 1))]) (dk dt_X12_silence_1 10 rfl) (Nat.le_of_ble_eq_true rfl) rfl v29 rfl ?_
    refine v_goto (pc := 87) (tgt := 56) (dk dt_X12_silence_1 11 rfl) (by decide) ?_
    exact h
set_option maxRecDepth 20000 in
theorem b_X12_notes_0 {E : EE} {l0 l1 : Int} {G : Gt} {c s : Nat} {Q X : Int → Gt → Prop} (h : (gcl G l0 = 13 ∧ gcl G (gfd G 12 30 l0) = 15 ∧ 0 < gln G (gfd G 12 30 l0) ∧ V E M_X12_notes 9 [some (rv l0), some (iv l1), some (iv (gel G (gfd G 12 30 l0) 0)), some (iv 0), none, none, none] [] G c s Q X)) : V E M_X12_notes 0 [some (rv l0), some (iv l1), none, none, none, none, none] [] G c s Q X := by
  refine v_aload_n (pc := 0) (dk dt_X12_notes 0 rfl) rfl rfl ?_
  obtain ⟨v1, h⟩ := h
  refine v_getR (pc := 1) (dk dt_X12_notes 1 rfl) fl_X12_81 v1 (fun _ => ?_)
  refine v_iconst (pc := 4) (dk dt_X12_notes 2 rfl) ⟨by decide, by decide⟩ ?_
  obtain ⟨v2, h⟩ := h
  obtain ⟨v3, h⟩ := h
  refine v_iald (pc := 5) (dk dt_X12_notes 3 rfl) (Or.inl v2) (by decide) v3 (fun _ => ?_)
  refine v_istore_n (pc := 6) (ls' := [some (rv l0), some (iv l1), some (iv (gel G (gfd G 12 30 l0) 0)), none, none, none, none]) (dk dt_X12_notes 4 rfl) rfl (Nat.le_of_ble_eq_true rfl) rfl ?_
  refine v_iconst (pc := 7) (dk dt_X12_notes 5 rfl) ⟨by decide, by decide⟩ ?_
  refine v_istore_n (pc := 8) (ls' := [some (rv l0), some (iv l1), some (iv (gel G (gfd G 12 30 l0) 0)), some (iv 0), none, none, none]) (dk dt_X12_notes 6 rfl) rfl (Nat.le_of_ble_eq_true rfl) rfl ?_
  exact h
set_option maxRecDepth 20000 in
theorem i_X12_notes {E : EE} {l0 l1 : Int} {G : Gt} {c s : Nat} {Q X : Int → Gt → Prop} (h : (gcl G l0 = 13 ∧ gcl G (gfd G 12 30 l0) = 15 ∧ 0 < gln G (gfd G 12 30 l0) ∧ V E M_X12_notes 9 [some (rv l0), some (iv l1), some (iv (gel G (gfd G 12 30 l0) 0)), some (iv 0), none, none, none] [] G c s Q X)) : Ok E M_X12_notes [rv l0, iv l1] G c s Q X := Ok.intro (k := 5) rfl rfl (Nat.le_of_ble_eq_true rfl) rfl (b_X12_notes_0 h)
set_option maxRecDepth 20000 in
theorem b_X12_notes_9 {E : EE} {l0 l1 l2 l3 : Int} {G : Gt} {c s : Nat} {Q X : Int → Gt → Prop} (h : ((l2 ≤ l3 → Q 0 G) ∧ (l3 < l2 → (gcl G l0 = 13 ∧ gcl G (gfd G 12 32 l0) = 16 ∧ 0 ≤ l3 ∧ l3 < gln G (gfd G 12 32 l0) ∧ gcl G l0 = 13 ∧ gcl G (gfd G 12 29 l0) = 17 ∧ 0 < gln G (gfd G 12 29 l0) ∧ ((gel G (gfd G 12 29 l0) 0) = 0 → gcl G l0 = 13) ∧ ((gel G (gfd G 12 29 l0) 0) = 0 → gcl G (gfd G 12 31 l0) = 15) ∧ ((gel G (gfd G 12 29 l0) 0) = 0 → 0 ≤ l3) ∧ ((gel G (gfd G 12 29 l0) 0) = 0 → l3 < gln G (gfd G 12 31 l0)) ∧ gcl G l0 = 13 ∧ gcl G (gfd G 12 25 l0) = 15 ∧ 0 ≤ l1 ∧ l1 < gln G (gfd G 12 25 l0) ∧ gcl G l0 = 13 ∧ i32 (if (Int.tdiv (gel G (gfd G 12 32 l0) l3) 1000) ≤ 1000000 then ((if (-1000000) ≤ (Int.tdiv (gel G (gfd G 12 32 l0) l3) 1000) then ((Int.tdiv (gel G (gfd G 12 32 l0) l3) 1000) : Int) else (-1000000)) : Int) else 1000000) ∧ gcl G l0 = 13 ∧ Call E M_X12_take [rv l0, iv (Int.tdiv (if (gel G (gfd G 12 29 l0) 0) = 0 then ((gel G (gfd G 12 31 l0) l3) : Int) else 666) 100), iv (Int.tmod (Int.tdiv (if (gel G (gfd G 12 29 l0) 0) = 0 then ((gel G (gfd G 12 31 l0) l3) : Int) else 666) 10) 10), iv (gel G (gfd G 12 25 l0) l1), iv (gfd G 12 1 l0), iv (if (Int.tdiv (gel G (gfd G 12 32 l0) l3) 1000) ≤ 1000000 then ((if (-1000000) ≤ (Int.tdiv (gel G (gfd G 12 32 l0) l3) 1000) then ((Int.tdiv (gel G (gfd G 12 32 l0) l3) 1000) : Int) else (-1000000)) : Int) else 1000000)] G c s X (fun r23 G24 c25 s26 => i32 (l3 + 1) ∧ V E M_X12_notes 9 [some (rv l0), some (iv l1), some (iv l2), some (iv (l3 + 1)), none, none, none] [] G24 c25 s26 Q X))))) : V E M_X12_notes 9 [some (rv l0), some (iv l1), some (iv l2), some (iv l3), none, none, none] [] G c s Q X := by
  refine v_iload_n (pc := 9) (dk dt_X12_notes 7 rfl) rfl rfl ?_
  refine v_iload_n (pc := 10) (dk dt_X12_notes 8 rfl) rfl rfl ?_
  refine v_icmp_ge (pc := 11) (tgt := 120) (dk dt_X12_notes 9 rfl) (by decide) (fun c1 => ?_) (fun c1 => ?_)
  · replace h := h.1 c1
    exact v_vret (pc := 120) (dk dt_X12_notes_1 24 rfl) rfl h
  · replace h := h.2 c1
    refine v_aload_n (pc := 14) (dk dt_X12_notes 10 rfl) rfl rfl ?_
    obtain ⟨v2, h⟩ := h
    refine v_getR (pc := 15) (dk dt_X12_notes 11 rfl) fl_X12_87 v2 (fun _ => ?_)
    refine v_iload_n (pc := 18) (dk dt_X12_notes 12 rfl) rfl rfl ?_
    obtain ⟨v3, h⟩ := h
    obtain ⟨v4, h⟩ := h
    obtain ⟨v5, h⟩ := h
    refine v_lald (pc := 19) (dk dt_X12_notes 13 rfl) v3 v4 v5 (fun _ => ?_)
    refine v_ldc2 (pc := 20) (dk dt_X12_notes 14 rfl) co_X12_244 ⟨by decide, by decide⟩ ?_
    refine v_ldivP (pc := 23) (dk dt_X12_notes 15 rfl) (by decide) ?_
    refine v_lstore (pc := 24) (ls' := [some (rv l0), some (iv l1), some (iv l2), some (iv l3), some (jv (Int.tdiv (gel G (gfd G 12 32 l0) l3) 1000)), none, none]) (dk dt_X12_notes 16 rfl) (Nat.le_of_ble_eq_true rfl) rfl ?_
    refine v_lload (pc := 26) (dk dt_X12_notes 17 rfl) rfl ?_
    refine v_ldc2 (pc := 28) (dk dt_X12_notes 18 rfl) co_X12_314 ⟨by decide, by decide⟩ ?_
    suffices k28 : V E M_X12_notes 58 [some (rv l0), some (iv l1), some (iv l2), some (iv l3), none, none, none] [jv (if (Int.tdiv (gel G (gfd G 12 32 l0) l3) 1000) ≤ 1000000 then ((if (-1000000) ≤ (Int.tdiv (gel G (gfd G 12 32 l0) l3) 1000) then ((Int.tdiv (gel G (gfd G 12 32 l0) l3) 1000) : Int) else (-1000000)) : Int) else 1000000)] G c s Q X by
      refine v_lcmp_le (pc := 31) (tgt := 41) (dk dt_X12_notes 19 rfl) (dk dt_X12_notes 20 rfl) (by decide) (fun c6 => ?_) (fun c6 => ?_)
      · refine v_lload (pc := 41) (dk dt_X12_notes 23 rfl) rfl ?_
        refine v_ldc2 (pc := 43) (dk dt_X12_notes 24 rfl) co_X12_316 ⟨by decide, by decide⟩ ?_
        refine v_lcmp_ge (pc := 46) (tgt := 56) (dk dt_X12_notes 25 rfl) (dk dt_X12_notes 26 rfl) (by decide) (fun c7 => ?_) (fun c7 => ?_)
        · refine v_lload (pc := 56) (dk dt_X12_notes 29 rfl) rfl ?_
          exact v_less2 (ls' := [some (rv l0), some (iv l1), some (iv l2), some (iv l3), none, none, none]) ⟨rfl, rfl, rfl, rfl, trivial⟩ (by have hk9 := k28; try simp only [if_pos c6] at hk9 ⊢; try simp only [if_pos c7] at hk9 ⊢; exact hk9)
        · refine v_ldc2 (pc := 50) (dk dt_X12_notes 27 rfl) co_X12_316 ⟨by decide, by decide⟩ ?_
          refine v_goto (pc := 53) (tgt := 58) (dk dt_X12_notes 28 rfl) (by decide) ?_
          exact v_less2 (ls' := [some (rv l0), some (iv l1), some (iv l2), some (iv l3), none, none, none]) ⟨rfl, rfl, rfl, rfl, trivial⟩ (by have hk9 := k28; try simp only [if_pos c6] at hk9 ⊢; try simp only [if_neg (Int.not_le.mpr c7)] at hk9 ⊢; exact hk9)
      · refine v_ldc2 (pc := 35) (dk dt_X12_notes 21 rfl) co_X12_314 ⟨by decide, by decide⟩ ?_
        refine v_goto (pc := 38) (tgt := 58) (dk dt_X12_notes 22 rfl) (by decide) ?_
        exact v_less2 (ls' := [some (rv l0), some (iv l1), some (iv l2), some (iv l3), none, none, none]) ⟨rfl, rfl, rfl, rfl, trivial⟩ (by have hk9 := k28; try simp only [if_neg (Int.not_le.mpr c6)] at hk9 ⊢; exact hk9)
    refine v_lstore (pc := 58) (ls' := [some (rv l0), some (iv l1), some (iv l2), some (iv l3), some (jv (if (Int.tdiv (gel G (gfd G 12 32 l0) l3) 1000) ≤ 1000000 then ((if (-1000000) ≤ (Int.tdiv (gel G (gfd G 12 32 l0) l3) 1000) then ((Int.tdiv (gel G (gfd G 12 32 l0) l3) 1000) : Int) else (-1000000)) : Int) else 1000000)), none, none]) (dk dt_X12_notes 30 rfl) (Nat.le_of_ble_eq_true rfl) rfl ?_
    refine v_aload_n (pc := 60) (dk dt_X12_notes 31 rfl) rfl rfl ?_
    obtain ⟨v8, h⟩ := h
    refine v_getR (pc := 61) (dk dt_X12_notes 32 rfl) fl_X12_78 v8 (fun _ => ?_)
    refine v_iconst (pc := 64) (dk dt_X12_notes 33 rfl) ⟨by decide, by decide⟩ ?_
    obtain ⟨v9, h⟩ := h
    obtain ⟨v10, h⟩ := h
    refine v_zald (pc := 65) (dk dt_X12_notes 34 rfl) v9 (by decide) v10 (fun _ => ?_)
    obtain ⟨v12, v13, v14, v15, h⟩ := h
    suffices k29 : V E M_X12_notes 81 [some (rv l0), some (iv l1), some (iv l2), some (iv l3), some (jv (if (Int.tdiv (gel G (gfd G 12 32 l0) l3) 1000) ≤ 1000000 then ((if (-1000000) ≤ (Int.tdiv (gel G (gfd G 12 32 l0) l3) 1000) then ((Int.tdiv (gel G (gfd G 12 32 l0) l3) 1000) : Int) else (-1000000)) : Int) else 1000000)), none, none] [iv (if (gel G (gfd G 12 29 l0) 0) = 0 then ((gel G (gfd G 12 31 l0) l3) : Int) else 666)] G c s Q X by
      refine v_if_eq (pc := 66) (tgt := 75) (dk dt_X12_notes 35 rfl) (by decide) (fun c11 => ?_) (fun c11 => ?_)
      · refine v_aload_n (pc := 75) (dk dt_X12_notes 38 rfl) rfl rfl ?_
        refine v_getR (pc := 76) (dk dt_X12_notes 39 rfl) fl_X12_84 (v12 c11) (fun _ => ?_)
        refine v_iload_n (pc := 79) (dk dt_X12_notes_1 0 rfl) rfl rfl ?_
        refine v_iald (pc := 80) (dk dt_X12_notes_1 1 rfl) (Or.inl (v13 c11)) (v14 c11) (v15 c11) (fun _ => ?_)
        exact v_less2 (ls' := [some (rv l0), some (iv l1), some (iv l2), some (iv l3), some (jv (if (Int.tdiv (gel G (gfd G 12 32 l0) l3) 1000) ≤ 1000000 then ((if (-1000000) ≤ (Int.tdiv (gel G (gfd G 12 32 l0) l3) 1000) then ((Int.tdiv (gel G (gfd G 12 32 l0) l3) 1000) : Int) else (-1000000)) : Int) else 1000000)), none, none]) ⟨rfl, rfl, rfl, rfl, rfl, trivial⟩ (by have hk9 := k29; try simp only [if_pos c11] at hk9 ⊢; exact hk9)
      · refine v_sipush (pc := 69) (dk dt_X12_notes 36 rfl) (by decide) ⟨by decide, by decide⟩ ?_
        refine v_goto (pc := 72) (tgt := 81) (dk dt_X12_notes 37 rfl) (by decide) ?_
        exact v_less2 (ls' := [some (rv l0), some (iv l1), some (iv l2), some (iv l3), some (jv (if (Int.tdiv (gel G (gfd G 12 32 l0) l3) 1000) ≤ 1000000 then ((if (-1000000) ≤ (Int.tdiv (gel G (gfd G 12 32 l0) l3) 1000) then ((Int.tdiv (gel G (gfd G 12 32 l0) l3) 1000) : Int) else (-1000000)) : Int) else 1000000)), none, none]) ⟨rfl, rfl, rfl, rfl, rfl, trivial⟩ (by have hk9 := k29; try simp only [if_neg c11] at hk9 ⊢; exact hk9)
    refine v_istore (pc := 81) (ls' := [some (rv l0), some (iv l1), some (iv l2), some (iv l3), some (jv (if (Int.tdiv (gel G (gfd G 12 32 l0) l3) 1000) ≤ 1000000 then ((if (-1000000) ≤ (Int.tdiv (gel G (gfd G 12 32 l0) l3) 1000) then ((Int.tdiv (gel G (gfd G 12 32 l0) l3) 1000) : Int) else (-1000000)) : Int) else 1000000)), none, some (iv (if (gel G (gfd G 12 29 l0) 0) = 0 then ((gel G (gfd G 12 31 l0) l3) : Int) else 666))]) (dk dt_X12_notes_1 2 rfl) (Nat.le_of_ble_eq_true rfl) rfl ?_
    refine v_aload_n (pc := 83) (dk dt_X12_notes_1 3 rfl) rfl rfl ?_
    refine v_iload (pc := 84) (dk dt_X12_notes_1 4 rfl) rfl ?_
    refine v_bipush (pc := 86) (dk dt_X12_notes_1 5 rfl) (by decide) ⟨by decide, by decide⟩ ?_
    refine v_idivP (pc := 88) (dk dt_X12_notes_1 6 rfl) (by decide) ?_
    refine v_iload (pc := 89) (dk dt_X12_notes_1 7 rfl) rfl ?_
    refine v_bipush (pc := 91) (dk dt_X12_notes_1 8 rfl) (by decide) ⟨by decide, by decide⟩ ?_
    refine v_idivP (pc := 93) (dk dt_X12_notes_1 9 rfl) (by decide) ?_
    refine v_bipush (pc := 94) (dk dt_X12_notes_1 10 rfl) (by decide) ⟨by decide, by decide⟩ ?_
    refine v_iremP (pc := 96) (dk dt_X12_notes_1 11 rfl) (by decide) ?_
    refine v_aload_n (pc := 97) (dk dt_X12_notes_1 12 rfl) rfl rfl ?_
    obtain ⟨v16, h⟩ := h
    refine v_getR (pc := 98) (dk dt_X12_notes_1 13 rfl) fl_X12_66 v16 (fun _ => ?_)
    refine v_iload_n (pc := 101) (dk dt_X12_notes_1 14 rfl) rfl rfl ?_
    obtain ⟨v17, h⟩ := h
    obtain ⟨v18, h⟩ := h
    obtain ⟨v19, h⟩ := h
    refine v_iald (pc := 102) (dk dt_X12_notes_1 15 rfl) (Or.inl v17) v18 v19 (fun _ => ?_)
    refine v_aload_n (pc := 103) (dk dt_X12_notes_1 16 rfl) rfl rfl ?_
    obtain ⟨v20, h⟩ := h
    refine v_getI (pc := 104) (dk dt_X12_notes_1 17 rfl) fl_X12_176 v20 (fun _ => ?_)
    refine v_lload (pc := 107) (dk dt_X12_notes_1 18 rfl) rfl ?_
    obtain ⟨v21, h⟩ := h
    refine v_l2i (pc := 109) (dk dt_X12_notes_1 19 rfl) v21 ?_
    obtain ⟨v22, h⟩ := h
    refine v_cvI (c := 12) (As := [iv (Int.tdiv (if (gel G (gfd G 12 29 l0) 0) = 0 then ((gel G (gfd G 12 31 l0) l3) : Int) else 666) 100), iv (Int.tmod (Int.tdiv (if (gel G (gfd G 12 29 l0) 0) = 0 then ((gel G (gfd G 12 31 l0) l3) : Int) else 666) 10) 10), iv (gel G (gfd G 12 25 l0) l1), iv (gfd G 12 1 l0), iv (if (Int.tdiv (gel G (gfd G 12 32 l0) l3) 1000) ≤ 1000000 then ((if (-1000000) ≤ (Int.tdiv (gel G (gfd G 12 32 l0) l3) 1000) then ((Int.tdiv (gel G (gfd G 12 32 l0) l3) 1000) : Int) else (-1000000)) : Int) else 1000000)]) (stk := []) (pc := 110) (dk dt_X12_notes_1 20 rfl) ml_X12_182 rfl rfl (Nat.le_of_ble_eq_true rfl) rfl ⟨by decide, rfl⟩ v22 rfl (Call.mono h (fun r23 G24 c25 s26 h => ?_))
    refine v_pop (pc := 113) (dk dt_X12_notes_1 21 rfl) (by intro h9; cases h9) ?_
    obtain ⟨v27, h⟩ := h
    refine v_iinc (pc := 114) (ls' := [some (rv l0), some (iv l1), some (iv l2), some (iv (l3 + 1)), some (jv (if (Int.tdiv (gel G (gfd G 12 32 l0) l3) 1000) ≤ 1000000 then ((if (-1000000) ≤ (Int.tdiv (gel G (gfd G 12 32 l0) l3) 1000) then ((Int.tdiv (gel G (gfd G 12 32 l0) l3) 1000) : Int) else (-1000000)) : Int) else 1000000)), none, some (iv (if (gel G (gfd G 12 29 l0) 0) = 0 then ((gel G (gfd G 12 31 l0) l3) : Int) else 666))]) (dk dt_X12_notes_1 22 rfl) (Nat.le_of_ble_eq_true rfl) rfl v27 rfl ?_
    refine v_goto (pc := 117) (tgt := 9) (dk dt_X12_notes_1 23 rfl) (by decide) ?_
    exact v_less2 (ls' := [some (rv l0), some (iv l1), some (iv l2), some (iv (l3 + 1)), none, none, none]) ⟨rfl, rfl, rfl, rfl, trivial⟩ h
set_option maxRecDepth 20000 in
theorem b_X12_looks_0 {E : EE} {l0 l1 : Int} {G : Gt} {c s : Nat} {Q X : Int → Gt → Prop} (h : (gcl G l0 = 13 ∧ ((gfd G 12 34 l0) = 0 → gcl G l0 = 13) ∧ ((gfd G 12 34 l0) = 0 → gcl G (gfd G 12 29 l0) = 17) ∧ ((gfd G 12 34 l0) = 0 → 0 < gln G (gfd G 12 29 l0)) ∧ ((gfd G 12 34 l0) = 0 → (gel G (gfd G 12 29 l0) 0) ≠ 0 → gcl G l0 = 13) ∧ ((gfd G 12 34 l0) = 0 → (gel G (gfd G 12 29 l0) 0) ≠ 0 → gcl G (gfd G 12 32 l0) = 16) ∧ ((gfd G 12 34 l0) = 0 → (gel G (gfd G 12 29 l0) 0) ≠ 0 → 0 < gln G (gfd G 12 32 l0)) ∧ ((if (gfd G 12 34 l0) = 0 then ((if (gel G (gfd G 12 29 l0) 0) = 0 then (0 : Int) else (if 0 < (gel G (gfd G 12 32 l0) 0) then (0 : Int) else 1)) : Int) else 1) = 0 → gcl G l0 = 13) ∧ ((if (gfd G 12 34 l0) = 0 then ((if (gel G (gfd G 12 29 l0) 0) = 0 then (0 : Int) else (if 0 < (gel G (gfd G 12 32 l0) 0) then (0 : Int) else 1)) : Int) else 1) = 0 → gcl G (gfd G 12 30 l0) = 15) ∧ ((if (gfd G 12 34 l0) = 0 then ((if (gel G (gfd G 12 29 l0) 0) = 0 then (0 : Int) else (if 0 < (gel G (gfd G 12 32 l0) 0) then (0 : Int) else 1)) : Int) else 1) = 0 → 0 < gln G (gfd G 12 30 l0)) ∧ gcl G l0 = 13 ∧ gcl G (gfd G 12 38 l0) = 15 ∧ 0 ≤ l1 ∧ l1 < gln G (gfd G 12 38 l0) ∧ i32 ((gel G (gfd G 12 38 l0) l1) - 1) ∧ V E M_X12_looks 58 [some (rv l0), some (iv l1), none, some (iv (if (if (gfd G 12 34 l0) = 0 then ((if (gel G (gfd G 12 29 l0) 0) = 0 then (0 : Int) else (if 0 < (gel G (gfd G 12 32 l0) 0) then (0 : Int) else 1)) : Int) else 1) = 0 then ((gel G (gfd G 12 30 l0) 0) : Int) else 0)), some (iv ((gel G (gfd G 12 38 l0) l1) - 1)), none, none, none, none] [] G c s Q X)) : V E M_X12_looks 0 [some (rv l0), some (iv l1), none, none, none, none, none, none, none] [] G c s Q X := by
  refine v_aload_n (pc := 0) (dk dt_X12_looks 0 rfl) rfl rfl ?_
  obtain ⟨v1, h⟩ := h
  refine v_getZ (pc := 1) (dk dt_X12_looks 1 rfl) fl_X12_208 v1 (fun _ => ?_)
  obtain ⟨v3, v4, v5, v7, v8, v9, h⟩ := h
  suffices k20 : V E M_X12_looks 32 [some (rv l0), some (iv l1), none, none, none, none, none, none, none] [iv (if (gfd G 12 34 l0) = 0 then ((if (gel G (gfd G 12 29 l0) 0) = 0 then (0 : Int) else (if 0 < (gel G (gfd G 12 32 l0) 0) then (0 : Int) else 1)) : Int) else 1)] G c s Q X by
    refine v_if_ne (pc := 4) (tgt := 27) (dk dt_X12_looks 2 rfl) (by decide) (fun c2 => ?_) (fun c2 => ?_)
    · refine v_iconst (pc := 27) (dk dt_X12_looks 15 rfl) ⟨by decide, by decide⟩ ?_
      refine v_goto (pc := 28) (tgt := 32) (dk dt_X12_looks 16 rfl) (by decide) ?_
      exact v_less2 (ls' := [some (rv l0), some (iv l1), none, none, none, none, none, none, none]) ⟨rfl, rfl, trivial⟩ (by have hk9 := k20; try simp only [if_neg c2] at hk9 ⊢; exact hk9)
    · refine v_aload_n (pc := 7) (dk dt_X12_looks 3 rfl) rfl rfl ?_
      refine v_getR (pc := 8) (dk dt_X12_looks 4 rfl) fl_X12_78 (v3 c2) (fun _ => ?_)
      refine v_iconst (pc := 11) (dk dt_X12_looks 5 rfl) ⟨by decide, by decide⟩ ?_
      refine v_zald (pc := 12) (dk dt_X12_looks 6 rfl) (v4 c2) (by decide) (v5 c2) (fun _ => ?_)
      refine v_if_eq (pc := 13) (tgt := 31) (dk dt_X12_looks 7 rfl) (by decide) (fun c6 => ?_) (fun c6 => ?_)
      · refine v_iconst (pc := 31) (dk dt_X12_looks 17 rfl) ⟨by decide, by decide⟩ ?_
        exact v_less2 (ls' := [some (rv l0), some (iv l1), none, none, none, none, none, none, none]) ⟨rfl, rfl, trivial⟩ (by have hk9 := k20; try simp only [if_pos c2] at hk9 ⊢; try simp only [if_pos c6] at hk9 ⊢; exact hk9)
      · refine v_aload_n (pc := 16) (dk dt_X12_looks 8 rfl) rfl rfl ?_
        refine v_getR (pc := 17) (dk dt_X12_looks 9 rfl) fl_X12_87 (v7 c2 c6) (fun _ => ?_)
        refine v_iconst (pc := 20) (dk dt_X12_looks 10 rfl) ⟨by decide, by decide⟩ ?_
        refine v_lald (pc := 21) (dk dt_X12_looks 11 rfl) (v8 c2 c6) (by decide) (v9 c2 c6) (fun _ => ?_)
        refine v_lconst (x := 0) (pc := 22) (dk dt_X12_looks 12 rfl) (by decide) ⟨by decide, by decide⟩ ?_
        refine v_lcmp_gt (pc := 23) (tgt := 31) (dk dt_X12_looks 13 rfl) (dk dt_X12_looks 14 rfl) (by decide) (fun c10 => ?_) (fun c10 => ?_)
        · refine v_iconst (pc := 31) (dk dt_X12_looks 17 rfl) ⟨by decide, by decide⟩ ?_
          exact v_less2 (ls' := [some (rv l0), some (iv l1), none, none, none, none, none, none, none]) ⟨rfl, rfl, trivial⟩ (by have hk9 := k20; try simp only [if_pos c2] at hk9 ⊢; try simp only [if_neg c6] at hk9 ⊢; try simp only [if_pos c10] at hk9 ⊢; exact hk9)
        · refine v_iconst (pc := 27) (dk dt_X12_looks 15 rfl) ⟨by decide, by decide⟩ ?_
          refine v_goto (pc := 28) (tgt := 32) (dk dt_X12_looks 16 rfl) (by decide) ?_
          exact v_less2 (ls' := [some (rv l0), some (iv l1), none, none, none, none, none, none, none]) ⟨rfl, rfl, trivial⟩ (by have hk9 := k20; try simp only [if_pos c2] at hk9 ⊢; try simp only [if_neg c6] at hk9 ⊢; try simp only [if_neg (Int.not_lt.mpr c10)] at hk9 ⊢; exact hk9)
  refine v_istore_n (pc := 32) (ls' := [some (rv l0), some (iv l1), some (iv (if (gfd G 12 34 l0) = 0 then ((if (gel G (gfd G 12 29 l0) 0) = 0 then (0 : Int) else (if 0 < (gel G (gfd G 12 32 l0) 0) then (0 : Int) else 1)) : Int) else 1)), none, none, none, none, none, none]) (dk dt_X12_looks 18 rfl) rfl (Nat.le_of_ble_eq_true rfl) rfl ?_
  refine v_iload_n (pc := 33) (dk dt_X12_looks 19 rfl) rfl rfl ?_
  obtain ⟨v12, v13, v14, h⟩ := h
  suffices k21 : V E M_X12_looks 47 [some (rv l0), some (iv l1), none, none, none, none, none, none, none] [iv (if (if (gfd G 12 34 l0) = 0 then ((if (gel G (gfd G 12 29 l0) 0) = 0 then (0 : Int) else (if 0 < (gel G (gfd G 12 32 l0) 0) then (0 : Int) else 1)) : Int) else 1) = 0 then ((gel G (gfd G 12 30 l0) 0) : Int) else 0)] G c s Q X by
    refine v_if_eq (pc := 34) (tgt := 41) (dk dt_X12_looks 20 rfl) (by decide) (fun c11 => ?_) (fun c11 => ?_)
    · refine v_aload_n (pc := 41) (dk dt_X12_looks 23 rfl) rfl rfl ?_
      refine v_getR (pc := 42) (dk dt_X12_looks 24 rfl) fl_X12_81 (v12 c11) (fun _ => ?_)
      refine v_iconst (pc := 45) (dk dt_X12_looks 25 rfl) ⟨by decide, by decide⟩ ?_
      refine v_iald (pc := 46) (dk dt_X12_looks 26 rfl) (Or.inl (v13 c11)) (by decide) (v14 c11) (fun _ => ?_)
      exact v_less2 (ls' := [some (rv l0), some (iv l1), none, none, none, none, none, none, none]) ⟨rfl, rfl, trivial⟩ (by have hk9 := k21; try simp only [if_pos c11] at hk9 ⊢; exact hk9)
    · refine v_iconst (pc := 37) (dk dt_X12_looks 21 rfl) ⟨by decide, by decide⟩ ?_
      refine v_goto (pc := 38) (tgt := 47) (dk dt_X12_looks 22 rfl) (by decide) ?_
      exact v_less2 (ls' := [some (rv l0), some (iv l1), none, none, none, none, none, none, none]) ⟨rfl, rfl, trivial⟩ (by have hk9 := k21; try simp only [if_neg c11] at hk9 ⊢; exact hk9)
  refine v_istore_n (pc := 47) (ls' := [some (rv l0), some (iv l1), none, some (iv (if (if (gfd G 12 34 l0) = 0 then ((if (gel G (gfd G 12 29 l0) 0) = 0 then (0 : Int) else (if 0 < (gel G (gfd G 12 32 l0) 0) then (0 : Int) else 1)) : Int) else 1) = 0 then ((gel G (gfd G 12 30 l0) 0) : Int) else 0)), none, none, none, none, none]) (dk dt_X12_looks 27 rfl) rfl (Nat.le_of_ble_eq_true rfl) rfl ?_
  refine v_aload_n (pc := 48) (dk dt_X12_looks 28 rfl) rfl rfl ?_
  obtain ⟨v15, h⟩ := h
  refine v_getR (pc := 49) (dk dt_X12_looks 29 rfl) fl_X12_97 v15 (fun _ => ?_)
  refine v_iload_n (pc := 52) (dk dt_X12_looks 30 rfl) rfl rfl ?_
  obtain ⟨v16, h⟩ := h
  obtain ⟨v17, h⟩ := h
  obtain ⟨v18, h⟩ := h
  refine v_iald (pc := 53) (dk dt_X12_looks 31 rfl) (Or.inl v16) v17 v18 (fun _ => ?_)
  refine v_iconst (pc := 54) (dk dt_X12_looks 32 rfl) ⟨by decide, by decide⟩ ?_
  obtain ⟨v19, h⟩ := h
  refine v_isub (pc := 55) (dk dt_X12_looks 33 rfl) v19 ?_
  refine v_istore (pc := 56) (ls' := [some (rv l0), some (iv l1), none, some (iv (if (if (gfd G 12 34 l0) = 0 then ((if (gel G (gfd G 12 29 l0) 0) = 0 then (0 : Int) else (if 0 < (gel G (gfd G 12 32 l0) 0) then (0 : Int) else 1)) : Int) else 1) = 0 then ((gel G (gfd G 12 30 l0) 0) : Int) else 0)), some (iv ((gel G (gfd G 12 38 l0) l1) - 1)), none, none, none, none]) (dk dt_X12_looks 34 rfl) (Nat.le_of_ble_eq_true rfl) rfl ?_
  exact h
set_option maxRecDepth 20000 in
theorem i_X12_looks {E : EE} {l0 l1 : Int} {G : Gt} {c s : Nat} {Q X : Int → Gt → Prop} (h : (gcl G l0 = 13 ∧ ((gfd G 12 34 l0) = 0 → gcl G l0 = 13) ∧ ((gfd G 12 34 l0) = 0 → gcl G (gfd G 12 29 l0) = 17) ∧ ((gfd G 12 34 l0) = 0 → 0 < gln G (gfd G 12 29 l0)) ∧ ((gfd G 12 34 l0) = 0 → (gel G (gfd G 12 29 l0) 0) ≠ 0 → gcl G l0 = 13) ∧ ((gfd G 12 34 l0) = 0 → (gel G (gfd G 12 29 l0) 0) ≠ 0 → gcl G (gfd G 12 32 l0) = 16) ∧ ((gfd G 12 34 l0) = 0 → (gel G (gfd G 12 29 l0) 0) ≠ 0 → 0 < gln G (gfd G 12 32 l0)) ∧ ((if (gfd G 12 34 l0) = 0 then ((if (gel G (gfd G 12 29 l0) 0) = 0 then (0 : Int) else (if 0 < (gel G (gfd G 12 32 l0) 0) then (0 : Int) else 1)) : Int) else 1) = 0 → gcl G l0 = 13) ∧ ((if (gfd G 12 34 l0) = 0 then ((if (gel G (gfd G 12 29 l0) 0) = 0 then (0 : Int) else (if 0 < (gel G (gfd G 12 32 l0) 0) then (0 : Int) else 1)) : Int) else 1) = 0 → gcl G (gfd G 12 30 l0) = 15) ∧ ((if (gfd G 12 34 l0) = 0 then ((if (gel G (gfd G 12 29 l0) 0) = 0 then (0 : Int) else (if 0 < (gel G (gfd G 12 32 l0) 0) then (0 : Int) else 1)) : Int) else 1) = 0 → 0 < gln G (gfd G 12 30 l0)) ∧ gcl G l0 = 13 ∧ gcl G (gfd G 12 38 l0) = 15 ∧ 0 ≤ l1 ∧ l1 < gln G (gfd G 12 38 l0) ∧ i32 ((gel G (gfd G 12 38 l0) l1) - 1) ∧ V E M_X12_looks 58 [some (rv l0), some (iv l1), none, some (iv (if (if (gfd G 12 34 l0) = 0 then ((if (gel G (gfd G 12 29 l0) 0) = 0 then (0 : Int) else (if 0 < (gel G (gfd G 12 32 l0) 0) then (0 : Int) else 1)) : Int) else 1) = 0 then ((gel G (gfd G 12 30 l0) 0) : Int) else 0)), some (iv ((gel G (gfd G 12 38 l0) l1) - 1)), none, none, none, none] [] G c s Q X)) : Ok E M_X12_looks [rv l0, iv l1] G c s Q X := Ok.intro (k := 7) rfl rfl (Nat.le_of_ble_eq_true rfl) rfl (b_X12_looks_0 h)
set_option maxRecDepth 20000 in
theorem b_X12_looks_58 {E : EE} {l0 l1 l3 l4 : Int} {G : Gt} {c s : Nat} {Q X : Int → Gt → Prop} (h : ((l4 < 0 → V E M_X12_looks 268 [some (rv l0), some (iv l1), none, some (iv l3), some (iv 0), none, none, none, none] [] G c s Q X) ∧ (0 ≤ l4 → (i32 (24 * l1) ∧ i32 ((24 * l1) + l4) ∧ V E M_X12_looks 78 [some (rv l0), some (iv l1), none, some (iv l3), some (iv l4), some (iv ((24 * l1) + l4)), some (iv 0), some (iv 0), none] [] G c s Q X)))) : V E M_X12_looks 58 [some (rv l0), some (iv l1), none, some (iv l3), some (iv l4), none, none, none, none] [] G c s Q X := by
  refine v_iload (pc := 58) (dk dt_X12_looks 35 rfl) rfl ?_
  refine v_if_lt (pc := 60) (tgt := 265) (dk dt_X12_looks 36 rfl) (by decide) (fun c1 => ?_) (fun c1 => ?_)
  · replace h := h.1 c1
    refine v_iconst (pc := 265) (dk dt_X12_looks_3 26 rfl) ⟨by decide, by decide⟩ ?_
    refine v_istore (pc := 266) (ls' := [some (rv l0), some (iv l1), none, some (iv l3), some (iv 0), none, none, none, none]) (dk dt_X12_looks_3 27 rfl) (Nat.le_of_ble_eq_true rfl) rfl ?_
    exact h
  · replace h := h.2 c1
    refine v_bipush (pc := 63) (dk dt_X12_looks 37 rfl) (by decide) ⟨by decide, by decide⟩ ?_
    refine v_iload_n (pc := 65) (dk dt_X12_looks 38 rfl) rfl rfl ?_
    obtain ⟨v2, h⟩ := h
    refine v_imul (pc := 66) (dk dt_X12_looks 39 rfl) v2 ?_
    refine v_iload (pc := 67) (dk dt_X12_looks_1 0 rfl) rfl ?_
    obtain ⟨v3, h⟩ := h
    refine v_iadd (pc := 69) (dk dt_X12_looks_1 1 rfl) v3 ?_
    refine v_istore (pc := 70) (ls' := [some (rv l0), some (iv l1), none, some (iv l3), some (iv l4), some (iv ((24 * l1) + l4)), none, none, none]) (dk dt_X12_looks_1 2 rfl) (Nat.le_of_ble_eq_true rfl) rfl ?_
    refine v_iconst (pc := 72) (dk dt_X12_looks_1 3 rfl) ⟨by decide, by decide⟩ ?_
    refine v_istore (pc := 73) (ls' := [some (rv l0), some (iv l1), none, some (iv l3), some (iv l4), some (iv ((24 * l1) + l4)), some (iv 0), none, none]) (dk dt_X12_looks_1 4 rfl) (Nat.le_of_ble_eq_true rfl) rfl ?_
    refine v_iconst (pc := 75) (dk dt_X12_looks_1 5 rfl) ⟨by decide, by decide⟩ ?_
    refine v_istore (pc := 76) (ls' := [some (rv l0), some (iv l1), none, some (iv l3), some (iv l4), some (iv ((24 * l1) + l4)), some (iv 0), some (iv 0), none]) (dk dt_X12_looks_1 6 rfl) (Nat.le_of_ble_eq_true rfl) rfl ?_
    exact h
set_option maxRecDepth 20000 in
theorem b_X12_looks_78 {E : EE} {l0 l1 l3 l4 l5 l6 l7 : Int} {G : Gt} {c s : Nat} {Q X : Int → Gt → Prop} (h : ((l3 ≤ l7 → (gcl G l0 = 13 ∧ (l6 = 0 → gcl G l0 = 13) ∧ (l6 = 0 → gcl G (gfd G 12 42 l0) = 15) ∧ (l6 = 0 → 0 ≤ l5) ∧ (l6 = 0 → l5 < gln G (gfd G 12 42 l0)) ∧ (l6 ≠ 0 → gcl G l0 = 13) ∧ gcl G (gfd G 12 42 l0) = 15 ∧ 0 ≤ l5 ∧ l5 < gln G (gfd G 12 42 l0) ∧ ∀ G12 : Gt, G12 = (sel G (gfd G 12 42 l0) l5 (if l6 = 0 then ((gel G (gfd G 12 42 l0) l5) : Int) else (gfd G 12 1 l0))) → (l6 = 0 → gcl G12 l0 = 13) ∧ (l6 = 0 → gcl G12 (gfd G12 12 40 l0) = 15) ∧ (l6 = 0 → 0 ≤ l5) ∧ (l6 = 0 → l5 < gln G12 (gfd G12 12 40 l0)) ∧ (l6 = 0 → (gel G12 (gfd G12 12 40 l0) l5) ≠ 0 → gcl G12 l0 = 13) ∧ (l6 = 0 → (gel G12 (gfd G12 12 40 l0) l5) ≠ 0 → gcl G12 l0 = 13) ∧ (l6 = 0 → (gel G12 (gfd G12 12 40 l0) l5) ≠ 0 → gcl G12 (gfd G12 12 42 l0) = 15) ∧ (l6 = 0 → (gel G12 (gfd G12 12 40 l0) l5) ≠ 0 → 0 ≤ l5) ∧ (l6 = 0 → (gel G12 (gfd G12 12 40 l0) l5) ≠ 0 → l5 < gln G12 (gfd G12 12 42 l0)) ∧ (l6 = 0 → (gel G12 (gfd G12 12 40 l0) l5) ≠ 0 → i32 ((gfd G12 12 1 l0) - (gel G12 (gfd G12 12 42 l0) l5))) ∧ (l6 = 0 → (gel G12 (gfd G12 12 40 l0) l5) ≠ 0 → gcl G12 l0 = 13) ∧ (l6 = 0 → (gel G12 (gfd G12 12 40 l0) l5) ≠ 0 → gcl G12 (gfd G12 12 27 l0) = 15) ∧ (l6 = 0 → (gel G12 (gfd G12 12 40 l0) l5) ≠ 0 → 0 ≤ l1) ∧ (l6 = 0 → (gel G12 (gfd G12 12 40 l0) l5) ≠ 0 → l1 < gln G12 (gfd G12 12 27 l0)) ∧ (((if l6 = 0 then ((if (gel G12 (gfd G12 12 40 l0) l5) = 0 then (1 : Int) else (if ((gfd G12 12 1 l0) - (gel G12 (gfd G12 12 42 l0) l5)) ≤ (gel G12 (gfd G12 12 27 l0) l1) then (0 : Int) else 1)) : Int) else 0) = 0 → (i32 (l4 + (-1)) ∧ V E M_X12_looks 58 [some (rv l0), some (iv l1), none, some (iv l3), some (iv (l4 + (-1))), none, none, none, none] [] G12 c s Q X)) ∧ ((if l6 = 0 then ((if (gel G12 (gfd G12 12 40 l0) l5) = 0 then (1 : Int) else (if ((gfd G12 12 1 l0) - (gel G12 (gfd G12 12 42 l0) l5)) ≤ (gel G12 (gfd G12 12 27 l0) l1) then (0 : Int) else 1)) : Int) else 0) ≠ 0 → (gcl G12 l0 = 13 ∧ gcl G12 (gfd G12 12 38 l0) = 15 ∧ 0 ≤ l1 ∧ l1 < gln G12 (gfd G12 12 38 l0) ∧ i32 ((gel G12 (gfd G12 12 38 l0) l1) - 1) ∧ gcl G12 (gfd G12 12 38 l0) = 15 ∧ 0 ≤ l1 ∧ l1 < gln G12 (gfd G12 12 38 l0) ∧ ∀ G40 : Gt, G40 = (sel G12 (gfd G12 12 38 l0) l1 ((gel G12 (gfd G12 12 38 l0) l1) - 1)) → V E M_X12_looks 222 [some (rv l0), some (iv l1), none, some (iv l3), some (iv l4), none, none, none, some (iv l4)] [] G40 c s Q X))))) ∧ (l7 < l3 → ((l6 = 0 → gcl G l0 = 13) ∧ (l6 = 0 → gcl G (gfd G 12 29 l0) = 17) ∧ (l6 = 0 → 0 < gln G (gfd G 12 29 l0)) ∧ (l6 = 0 → (gel G (gfd G 12 29 l0) 0) = 0 → gcl G l0 = 13) ∧ (l6 = 0 → (gel G (gfd G 12 29 l0) 0) = 0 → gcl G (gfd G 12 31 l0) = 15) ∧ (l6 = 0 → (gel G (gfd G 12 29 l0) 0) = 0 → 0 ≤ l7) ∧ (l6 = 0 → (gel G (gfd G 12 29 l0) 0) = 0 → l7 < gln G (gfd G 12 31 l0)) ∧ (l6 = 0 → (gel G (gfd G 12 29 l0) 0) = 0 → gcl G l0 = 13) ∧ (l6 = 0 → (gel G (gfd G 12 29 l0) 0) = 0 → gcl G (gfd G 12 39 l0) = 15) ∧ (l6 = 0 → (gel G (gfd G 12 29 l0) 0) = 0 → 0 ≤ l5) ∧ (l6 = 0 → (gel G (gfd G 12 29 l0) 0) = 0 → l5 < gln G (gfd G 12 39 l0)) ∧ (l6 = 0 → (gel G (gfd G 12 29 l0) 0) ≠ 0 → gcl G l0 = 13) ∧ (l6 = 0 → (gel G (gfd G 12 29 l0) 0) ≠ 0 → gcl G (gfd G 12 39 l0) = 15) ∧ (l6 = 0 → (gel G (gfd G 12 29 l0) 0) ≠ 0 → 0 ≤ l5) ∧ (l6 = 0 → (gel G (gfd G 12 29 l0) 0) ≠ 0 → l5 < gln G (gfd G 12 39 l0)) ∧ i32 (l7 + 1) ∧ V E M_X12_looks 78 [some (rv l0), some (iv l1), none, some (iv l3), some (iv l4), some (iv l5), some (iv (if l6 = 0 then ((if (gel G (gfd G 12 29 l0) 0) = 0 then ((if (gel G (gfd G 12 31 l0) l7) = (gel G (gfd G 12 39 l0) l5) then (1 : Int) else 0) : Int) else (if 666 = (gel G (gfd G 12 39 l0) l5) then (1 : Int) else 0)) : Int) else 1)), some (iv (l7 + 1)), none] [] G c s Q X)))) : V E M_X12_looks 78 [some (rv l0), some (iv l1), none, some (iv l3), some (iv l4), some (iv l5), some (iv l6), some (iv l7), none] [] G c s Q X := by
  refine v_iload (pc := 78) (dk dt_X12_looks_1 7 rfl) rfl ?_
  refine v_iload_n (pc := 80) (dk dt_X12_looks_1 8 rfl) rfl rfl ?_
  refine v_icmp_ge (pc := 81) (tgt := 134) (dk dt_X12_looks_1 9 rfl) (by decide) (fun c1 => ?_) (fun c1 => ?_)
  · replace h := h.1 c1
    refine v_aload_n (pc := 134) (dk dt_X12_looks_1 34 rfl) rfl rfl ?_
    obtain ⟨v2, h⟩ := h
    refine v_getR (pc := 135) (dk dt_X12_looks_1 35 rfl) fl_X12_109 v2 (fun _ => ?_)
    refine v_iload (pc := 138) (dk dt_X12_looks_1 36 rfl) rfl ?_
    refine v_iload (pc := 140) (dk dt_X12_looks_1 37 rfl) rfl ?_
    obtain ⟨v4, v5, v6, v7, v8, h⟩ := h
    suffices k61 : V E M_X12_looks 159 [some (rv l0), some (iv l1), none, some (iv l3), some (iv l4), some (iv l5), some (iv l6), none, none] [iv (if l6 = 0 then ((gel G (gfd G 12 42 l0) l5) : Int) else (gfd G 12 1 l0)), iv l5, rv (gfd G 12 42 l0)] G c s Q X by
      refine v_if_eq (pc := 142) (tgt := 152) (dk dt_X12_looks_1 38 rfl) (by decide) (fun c3 => ?_) (fun c3 => ?_)
      · refine v_aload_n (pc := 152) (dk dt_X12_looks_2 2 rfl) rfl rfl ?_
        refine v_getR (pc := 153) (dk dt_X12_looks_2 3 rfl) fl_X12_109 (v4 c3) (fun _ => ?_)
        refine v_iload (pc := 156) (dk dt_X12_looks_2 4 rfl) rfl ?_
        refine v_iald (pc := 158) (dk dt_X12_looks_2 5 rfl) (Or.inl (v5 c3)) (v6 c3) (v7 c3) (fun _ => ?_)
        exact v_less2 (ls' := [some (rv l0), some (iv l1), none, some (iv l3), some (iv l4), some (iv l5), some (iv l6), none, none]) ⟨rfl, rfl, rfl, rfl, rfl, rfl, trivial⟩ (by have hk9 := k61; try simp only [if_pos c3] at hk9 ⊢; exact hk9)
      · refine v_aload_n (pc := 145) (dk dt_X12_looks_1 39 rfl) rfl rfl ?_
        refine v_getI (pc := 146) (dk dt_X12_looks_2 0 rfl) fl_X12_176 (v8 c3) (fun _ => ?_)
        refine v_goto (pc := 149) (tgt := 159) (dk dt_X12_looks_2 1 rfl) (by decide) ?_
        exact v_less2 (ls' := [some (rv l0), some (iv l1), none, some (iv l3), some (iv l4), some (iv l5), some (iv l6), none, none]) ⟨rfl, rfl, rfl, rfl, rfl, rfl, trivial⟩ (by have hk9 := k61; try simp only [if_neg c3] at hk9 ⊢; exact hk9)
    obtain ⟨v9, h⟩ := h
    obtain ⟨v10, h⟩ := h
    obtain ⟨v11, h⟩ := h
    refine v_iast (pc := 159) (dk dt_X12_looks_2 6 rfl) v9 v10 v11 ?_
    generalize hG12 : (sel G (gfd G 12 42 l0) l5 (if l6 = 0 then ((gel G (gfd G 12 42 l0) l5) : Int) else (gfd G 12 1 l0))) = G12
    replace h := h G12 hG12.symm
    refine v_iload (pc := 160) (dk dt_X12_looks_2 7 rfl) rfl ?_
    obtain ⟨v14, v15, v16, v17, v19, v20, v21, v22, v23, v24, v25, v26, v27, v28, h⟩ := h
    suffices k62 : V E M_X12_looks 201 [some (rv l0), some (iv l1), none, some (iv l3), some (iv l4), none, none, none, none] [iv (if l6 = 0 then ((if (gel G12 (gfd G12 12 40 l0) l5) = 0 then (1 : Int) else (if ((gfd G12 12 1 l0) - (gel G12 (gfd G12 12 42 l0) l5)) ≤ (gel G12 (gfd G12 12 27 l0) l1) then (0 : Int) else 1)) : Int) else 0)] G12 c s Q X by
      refine v_if_ne (pc := 162) (tgt := 200) (dk dt_X12_looks_2 8 rfl) (by decide) (fun c13 => ?_) (fun c13 => ?_)
      · refine v_iconst (pc := 200) (dk dt_X12_looks_2 28 rfl) ⟨by decide, by decide⟩ ?_
        exact v_less2 (ls' := [some (rv l0), some (iv l1), none, some (iv l3), some (iv l4), none, none, none, none]) ⟨rfl, rfl, rfl, rfl, trivial⟩ (by have hk9 := k62; try simp only [if_neg c13] at hk9 ⊢; exact hk9)
      · refine v_aload_n (pc := 165) (dk dt_X12_looks_2 9 rfl) rfl rfl ?_
        refine v_getR (pc := 166) (dk dt_X12_looks_2 10 rfl) fl_X12_103 (v14 c13) (fun _ => ?_)
        refine v_iload (pc := 169) (dk dt_X12_looks_2 11 rfl) rfl ?_
        refine v_iald (pc := 171) (dk dt_X12_looks_2 12 rfl) (Or.inl (v15 c13)) (v16 c13) (v17 c13) (fun _ => ?_)
        refine v_if_eq (pc := 172) (tgt := 196) (dk dt_X12_looks_2 13 rfl) (by decide) (fun c18 => ?_) (fun c18 => ?_)
        · refine v_iconst (pc := 196) (dk dt_X12_looks_2 26 rfl) ⟨by decide, by decide⟩ ?_
          refine v_goto (pc := 197) (tgt := 201) (dk dt_X12_looks_2 27 rfl) (by decide) ?_
          exact v_less2 (ls' := [some (rv l0), some (iv l1), none, some (iv l3), some (iv l4), none, none, none, none]) ⟨rfl, rfl, rfl, rfl, trivial⟩ (by have hk9 := k62; try simp only [if_pos c13] at hk9 ⊢; try simp only [if_pos c18] at hk9 ⊢; exact hk9)
        · refine v_aload_n (pc := 175) (dk dt_X12_looks_2 14 rfl) rfl rfl ?_
          refine v_getI (pc := 176) (dk dt_X12_looks_2 15 rfl) fl_X12_176 (v19 c13 c18) (fun _ => ?_)
          refine v_aload_n (pc := 179) (dk dt_X12_looks_2 16 rfl) rfl rfl ?_
          refine v_getR (pc := 180) (dk dt_X12_looks_2 17 rfl) fl_X12_109 (v20 c13 c18) (fun _ => ?_)
          refine v_iload (pc := 183) (dk dt_X12_looks_2 18 rfl) rfl ?_
          refine v_iald (pc := 185) (dk dt_X12_looks_2 19 rfl) (Or.inl (v21 c13 c18)) (v22 c13 c18) (v23 c13 c18) (fun _ => ?_)
          refine v_isub (pc := 186) (dk dt_X12_looks_2 20 rfl) (v24 c13 c18) ?_
          refine v_aload_n (pc := 187) (dk dt_X12_looks_2 21 rfl) rfl rfl ?_
          refine v_getR (pc := 188) (dk dt_X12_looks_2 22 rfl) fl_X12_72 (v25 c13 c18) (fun _ => ?_)
          refine v_iload_n (pc := 191) (dk dt_X12_looks_2 23 rfl) rfl rfl ?_
          refine v_iald (pc := 192) (dk dt_X12_looks_2 24 rfl) (Or.inl (v26 c13 c18)) (v27 c13 c18) (v28 c13 c18) (fun _ => ?_)
          refine v_icmp_le (pc := 193) (tgt := 200) (dk dt_X12_looks_2 25 rfl) (by decide) (fun c29 => ?_) (fun c29 => ?_)
          · refine v_iconst (pc := 200) (dk dt_X12_looks_2 28 rfl) ⟨by decide, by decide⟩ ?_
            exact v_less2 (ls' := [some (rv l0), some (iv l1), none, some (iv l3), some (iv l4), none, none, none, none]) ⟨rfl, rfl, rfl, rfl, trivial⟩ (by have hk9 := k62; try simp only [if_pos c13] at hk9 ⊢; try simp only [if_neg c18] at hk9 ⊢; try simp only [if_pos c29] at hk9 ⊢; exact hk9)
          · refine v_iconst (pc := 196) (dk dt_X12_looks_2 26 rfl) ⟨by decide, by decide⟩ ?_
            refine v_goto (pc := 197) (tgt := 201) (dk dt_X12_looks_2 27 rfl) (by decide) ?_
            exact v_less2 (ls' := [some (rv l0), some (iv l1), none, some (iv l3), some (iv l4), none, none, none, none]) ⟨rfl, rfl, rfl, rfl, trivial⟩ (by have hk9 := k62; try simp only [if_pos c13] at hk9 ⊢; try simp only [if_neg c18] at hk9 ⊢; try simp only [if_neg (Int.not_le.mpr c29)] at hk9 ⊢; exact hk9)
    refine v_istore (pc := 201) (ls' := [some (rv l0), some (iv l1), none, some (iv l3), some (iv l4), none, none, some (iv (if l6 = 0 then ((if (gel G12 (gfd G12 12 40 l0) l5) = 0 then (1 : Int) else (if ((gfd G12 12 1 l0) - (gel G12 (gfd G12 12 42 l0) l5)) ≤ (gel G12 (gfd G12 12 27 l0) l1) then (0 : Int) else 1)) : Int) else 0)), none]) (dk dt_X12_looks_2 29 rfl) (Nat.le_of_ble_eq_true rfl) rfl ?_
    refine v_iload (pc := 203) (dk dt_X12_looks_2 30 rfl) rfl ?_
    refine v_if_eq (pc := 205) (tgt := 259) (dk dt_X12_looks_2 31 rfl) (by decide) (fun c30 => ?_) (fun c30 => ?_)
    · replace h := h.1 c30
      obtain ⟨v31, h⟩ := h
      refine v_iinc (pc := 259) (ls' := [some (rv l0), some (iv l1), none, some (iv l3), some (iv (l4 + (-1))), none, none, some (iv (if l6 = 0 then ((if (gel G12 (gfd G12 12 40 l0) l5) = 0 then (1 : Int) else (if ((gfd G12 12 1 l0) - (gel G12 (gfd G12 12 42 l0) l5)) ≤ (gel G12 (gfd G12 12 27 l0) l1) then (0 : Int) else 1)) : Int) else 0)), none]) (dk dt_X12_looks_3 24 rfl) (Nat.le_of_ble_eq_true rfl) rfl v31 rfl ?_
      refine v_goto (pc := 262) (tgt := 58) (dk dt_X12_looks_3 25 rfl) (by decide) ?_
      exact v_less2 (ls' := [some (rv l0), some (iv l1), none, some (iv l3), some (iv (l4 + (-1))), none, none, none, none]) ⟨rfl, rfl, rfl, rfl, trivial⟩ h
    · replace h := h.2 c30
      refine v_aload_n (pc := 208) (dk dt_X12_looks_2 32 rfl) rfl rfl ?_
      obtain ⟨v32, h⟩ := h
      refine v_getR (pc := 209) (dk dt_X12_looks_2 33 rfl) fl_X12_97 v32 (fun _ => ?_)
      refine v_iload_n (pc := 212) (dk dt_X12_looks_2 34 rfl) rfl rfl ?_
      refine v_dup2 (pc := 213) (dk dt_X12_looks_2 35 rfl) (by intro h9; cases h9) (by intro h9; cases h9) ?_
      obtain ⟨v33, h⟩ := h
      obtain ⟨v34, h⟩ := h
      obtain ⟨v35, h⟩ := h
      refine v_iald (pc := 214) (dk dt_X12_looks_2 36 rfl) (Or.inl v33) v34 v35 (fun _ => ?_)
      refine v_iconst (pc := 215) (dk dt_X12_looks_2 37 rfl) ⟨by decide, by decide⟩ ?_
      obtain ⟨v36, h⟩ := h
      refine v_isub (pc := 216) (dk dt_X12_looks_2 38 rfl) v36 ?_
      obtain ⟨v37, h⟩ := h
      obtain ⟨v38, h⟩ := h
      obtain ⟨v39, h⟩ := h
      refine v_iast (pc := 217) (dk dt_X12_looks_2 39 rfl) v37 v38 v39 ?_
      generalize hG40 : (sel G12 (gfd G12 12 38 l0) l1 ((gel G12 (gfd G12 12 38 l0) l1) - 1)) = G40
      replace h := h G40 hG40.symm
      refine v_iload (pc := 218) (dk dt_X12_looks_3 0 rfl) rfl ?_
      refine v_istore (pc := 220) (ls' := [some (rv l0), some (iv l1), none, some (iv l3), some (iv l4), none, none, some (iv (if l6 = 0 then ((if (gel G12 (gfd G12 12 40 l0) l5) = 0 then (1 : Int) else (if ((gfd G12 12 1 l0) - (gel G12 (gfd G12 12 42 l0) l5)) ≤ (gel G12 (gfd G12 12 27 l0) l1) then (0 : Int) else 1)) : Int) else 0)), some (iv l4)]) (dk dt_X12_looks_3 1 rfl) (Nat.le_of_ble_eq_true rfl) rfl ?_
      exact v_less2 (ls' := [some (rv l0), some (iv l1), none, some (iv l3), some (iv l4), none, none, none, some (iv l4)]) ⟨rfl, rfl, rfl, rfl, rfl, trivial⟩ h
  · replace h := h.2 c1
    refine v_iload (pc := 84) (dk dt_X12_looks_1 10 rfl) rfl ?_
    obtain ⟨v42, v43, v44, v46, v47, v48, v49, v50, v51, v52, v53, v55, v56, v57, v58, h⟩ := h
    suffices k63 : V E M_X12_looks 126 [some (rv l0), some (iv l1), none, some (iv l3), some (iv l4), some (iv l5), none, some (iv l7), none] [iv (if l6 = 0 then ((if (gel G (gfd G 12 29 l0) 0) = 0 then ((if (gel G (gfd G 12 31 l0) l7) = (gel G (gfd G 12 39 l0) l5) then (1 : Int) else 0) : Int) else (if 666 = (gel G (gfd G 12 39 l0) l5) then (1 : Int) else 0)) : Int) else 1)] G c s Q X by
      refine v_if_ne (pc := 86) (tgt := 121) (dk dt_X12_looks_1 11 rfl) (by decide) (fun c41 => ?_) (fun c41 => ?_)
      · refine v_iconst (pc := 121) (dk dt_X12_looks_1 28 rfl) ⟨by decide, by decide⟩ ?_
        refine v_goto (pc := 122) (tgt := 126) (dk dt_X12_looks_1 29 rfl) (by decide) ?_
        exact v_less2 (ls' := [some (rv l0), some (iv l1), none, some (iv l3), some (iv l4), some (iv l5), none, some (iv l7), none]) ⟨rfl, rfl, rfl, rfl, rfl, rfl, trivial⟩ (by have hk9 := k63; try simp only [if_neg c41] at hk9 ⊢; exact hk9)
      · refine v_aload_n (pc := 89) (dk dt_X12_looks_1 12 rfl) rfl rfl ?_
        refine v_getR (pc := 90) (dk dt_X12_looks_1 13 rfl) fl_X12_78 (v42 c41) (fun _ => ?_)
        refine v_iconst (pc := 93) (dk dt_X12_looks_1 14 rfl) ⟨by decide, by decide⟩ ?_
        refine v_zald (pc := 94) (dk dt_X12_looks_1 15 rfl) (v43 c41) (by decide) (v44 c41) (fun _ => ?_)
        refine v_if_eq (pc := 95) (tgt := 104) (dk dt_X12_looks_1 16 rfl) (by decide) (fun c45 => ?_) (fun c45 => ?_)
        · refine v_aload_n (pc := 104) (dk dt_X12_looks_1 19 rfl) rfl rfl ?_
          refine v_getR (pc := 105) (dk dt_X12_looks_1 20 rfl) fl_X12_84 (v46 c41 c45) (fun _ => ?_)
          refine v_iload (pc := 108) (dk dt_X12_looks_1 21 rfl) rfl ?_
          refine v_iald (pc := 110) (dk dt_X12_looks_1 22 rfl) (Or.inl (v47 c41 c45)) (v48 c41 c45) (v49 c41 c45) (fun _ => ?_)
          refine v_aload_n (pc := 111) (dk dt_X12_looks_1 23 rfl) rfl rfl ?_
          refine v_getR (pc := 112) (dk dt_X12_looks_1 24 rfl) fl_X12_100 (v50 c41 c45) (fun _ => ?_)
          refine v_iload (pc := 115) (dk dt_X12_looks_1 25 rfl) rfl ?_
          refine v_iald (pc := 117) (dk dt_X12_looks_1 26 rfl) (Or.inl (v51 c41 c45)) (v52 c41 c45) (v53 c41 c45) (fun _ => ?_)
          refine v_icmp_ne (pc := 118) (tgt := 125) (dk dt_X12_looks_1 27 rfl) (by decide) (fun c54 => ?_) (fun c54 => ?_)
          · refine v_iconst (pc := 125) (dk dt_X12_looks_1 30 rfl) ⟨by decide, by decide⟩ ?_
            exact v_less2 (ls' := [some (rv l0), some (iv l1), none, some (iv l3), some (iv l4), some (iv l5), none, some (iv l7), none]) ⟨rfl, rfl, rfl, rfl, rfl, rfl, trivial⟩ (by have hk9 := k63; try simp only [if_pos c41] at hk9 ⊢; try simp only [if_pos c45] at hk9 ⊢; try simp only [if_neg c54] at hk9 ⊢; exact hk9)
          · refine v_iconst (pc := 121) (dk dt_X12_looks_1 28 rfl) ⟨by decide, by decide⟩ ?_
            refine v_goto (pc := 122) (tgt := 126) (dk dt_X12_looks_1 29 rfl) (by decide) ?_
            exact v_less2 (ls' := [some (rv l0), some (iv l1), none, some (iv l3), some (iv l4), some (iv l5), none, some (iv l7), none]) ⟨rfl, rfl, rfl, rfl, rfl, rfl, trivial⟩ (by have hk9 := k63; try simp only [if_pos c41] at hk9 ⊢; try simp only [if_pos c45] at hk9 ⊢; try simp only [if_pos c54] at hk9 ⊢; exact hk9)
        · refine v_sipush (pc := 98) (dk dt_X12_looks_1 17 rfl) (by decide) ⟨by decide, by decide⟩ ?_
          refine v_goto (pc := 101) (tgt := 111) (dk dt_X12_looks_1 18 rfl) (by decide) ?_
          refine v_aload_n (pc := 111) (dk dt_X12_looks_1 23 rfl) rfl rfl ?_
          refine v_getR (pc := 112) (dk dt_X12_looks_1 24 rfl) fl_X12_100 (v55 c41 c45) (fun _ => ?_)
          refine v_iload (pc := 115) (dk dt_X12_looks_1 25 rfl) rfl ?_
          refine v_iald (pc := 117) (dk dt_X12_looks_1 26 rfl) (Or.inl (v56 c41 c45)) (v57 c41 c45) (v58 c41 c45) (fun _ => ?_)
          refine v_icmp_ne (pc := 118) (tgt := 125) (dk dt_X12_looks_1 27 rfl) (by decide) (fun c59 => ?_) (fun c59 => ?_)
          · refine v_iconst (pc := 125) (dk dt_X12_looks_1 30 rfl) ⟨by decide, by decide⟩ ?_
            exact v_less2 (ls' := [some (rv l0), some (iv l1), none, some (iv l3), some (iv l4), some (iv l5), none, some (iv l7), none]) ⟨rfl, rfl, rfl, rfl, rfl, rfl, trivial⟩ (by have hk9 := k63; try simp only [if_pos c41] at hk9 ⊢; try simp only [if_neg c45] at hk9 ⊢; try simp only [if_neg c59] at hk9 ⊢; exact hk9)
          · refine v_iconst (pc := 121) (dk dt_X12_looks_1 28 rfl) ⟨by decide, by decide⟩ ?_
            refine v_goto (pc := 122) (tgt := 126) (dk dt_X12_looks_1 29 rfl) (by decide) ?_
            exact v_less2 (ls' := [some (rv l0), some (iv l1), none, some (iv l3), some (iv l4), some (iv l5), none, some (iv l7), none]) ⟨rfl, rfl, rfl, rfl, rfl, rfl, trivial⟩ (by have hk9 := k63; try simp only [if_pos c41] at hk9 ⊢; try simp only [if_neg c45] at hk9 ⊢; try simp only [if_pos c59] at hk9 ⊢; exact hk9)
    refine v_istore (pc := 126) (ls' := [some (rv l0), some (iv l1), none, some (iv l3), some (iv l4), some (iv l5), some (iv (if l6 = 0 then ((if (gel G (gfd G 12 29 l0) 0) = 0 then ((if (gel G (gfd G 12 31 l0) l7) = (gel G (gfd G 12 39 l0) l5) then (1 : Int) else 0) : Int) else (if 666 = (gel G (gfd G 12 39 l0) l5) then (1 : Int) else 0)) : Int) else 1)), some (iv l7), none]) (dk dt_X12_looks_1 31 rfl) (Nat.le_of_ble_eq_true rfl) rfl ?_
    obtain ⟨v60, h⟩ := h
    refine v_iinc (pc := 128) (ls' := [some (rv l0), some (iv l1), none, some (iv l3), some (iv l4), some (iv l5), some (iv (if l6 = 0 then ((if (gel G (gfd G 12 29 l0) 0) = 0 then ((if (gel G (gfd G 12 31 l0) l7) = (gel G (gfd G 12 39 l0) l5) then (1 : Int) else 0) : Int) else (if 666 = (gel G (gfd G 12 39 l0) l5) then (1 : Int) else 0)) : Int) else 1)), some (iv (l7 + 1)), none]) (dk dt_X12_looks_1 32 rfl) (Nat.le_of_ble_eq_true rfl) rfl v60 rfl ?_
    refine v_goto (pc := 131) (tgt := 78) (dk dt_X12_looks_1 33 rfl) (by decide) ?_
    exact h
set_option maxRecDepth 20000 in
theorem b_X12_looks_222 {E : EE} {l0 l1 l3 l4 l8 : Int} {G : Gt} {c s : Nat} {Q X : Int → Gt → Prop} (h : (gcl G l0 = 13 ∧ gcl G (gfd G 12 38 l0) = 15 ∧ 0 ≤ l1 ∧ l1 < gln G (gfd G 12 38 l0) ∧ (((gel G (gfd G 12 38 l0) l1) ≤ l8 → (i32 (l4 + (-1)) ∧ V E M_X12_looks 58 [some (rv l0), some (iv l1), none, some (iv l3), some (iv (l4 + (-1))), none, none, none, none] [] G c s Q X)) ∧ (l8 < (gel G (gfd G 12 38 l0) l1) → (i32 (24 * l1) ∧ i32 ((24 * l1) + l8) ∧ i32 (24 * l1) ∧ i32 ((24 * l1) + l8) ∧ i32 (((24 * l1) + l8) + 1) ∧ gcl G l0 = 13 ∧ Call E M_X12_moves [rv l0, iv ((24 * l1) + l8), iv (((24 * l1) + l8) + 1)] G c s X (fun r13 G14 c15 s16 => i32 (l8 + 1) ∧ V E M_X12_looks 222 [some (rv l0), some (iv l1), none, some (iv l3), some (iv l4), none, none, none, some (iv (l8 + 1))] [] G14 c15 s16 Q X)))))) : V E M_X12_looks 222 [some (rv l0), some (iv l1), none, some (iv l3), some (iv l4), none, none, none, some (iv l8)] [] G c s Q X := by
  refine v_iload (pc := 222) (dk dt_X12_looks_3 2 rfl) rfl ?_
  refine v_aload_n (pc := 224) (dk dt_X12_looks_3 3 rfl) rfl rfl ?_
  obtain ⟨v1, h⟩ := h
  refine v_getR (pc := 225) (dk dt_X12_looks_3 4 rfl) fl_X12_97 v1 (fun _ => ?_)
  refine v_iload_n (pc := 228) (dk dt_X12_looks_3 5 rfl) rfl rfl ?_
  obtain ⟨v2, h⟩ := h
  obtain ⟨v3, h⟩ := h
  obtain ⟨v4, h⟩ := h
  refine v_iald (pc := 229) (dk dt_X12_looks_3 6 rfl) (Or.inl v2) v3 v4 (fun _ => ?_)
  refine v_icmp_ge (pc := 230) (tgt := 259) (dk dt_X12_looks_3 7 rfl) (by decide) (fun c5 => ?_) (fun c5 => ?_)
  · replace h := h.1 c5
    obtain ⟨v6, h⟩ := h
    refine v_iinc (pc := 259) (ls' := [some (rv l0), some (iv l1), none, some (iv l3), some (iv (l4 + (-1))), none, none, none, some (iv l8)]) (dk dt_X12_looks_3 24 rfl) (Nat.le_of_ble_eq_true rfl) rfl v6 rfl ?_
    refine v_goto (pc := 262) (tgt := 58) (dk dt_X12_looks_3 25 rfl) (by decide) ?_
    exact v_less2 (ls' := [some (rv l0), some (iv l1), none, some (iv l3), some (iv (l4 + (-1))), none, none, none, none]) ⟨rfl, rfl, rfl, rfl, trivial⟩ h
  · replace h := h.2 c5
    refine v_aload_n (pc := 233) (dk dt_X12_looks_3 8 rfl) rfl rfl ?_
    refine v_bipush (pc := 234) (dk dt_X12_looks_3 9 rfl) (by decide) ⟨by decide, by decide⟩ ?_
    refine v_iload_n (pc := 236) (dk dt_X12_looks_3 10 rfl) rfl rfl ?_
    obtain ⟨v7, h⟩ := h
    refine v_imul (pc := 237) (dk dt_X12_looks_3 11 rfl) v7 ?_
    refine v_iload (pc := 238) (dk dt_X12_looks_3 12 rfl) rfl ?_
    obtain ⟨v8, h⟩ := h
    refine v_iadd (pc := 240) (dk dt_X12_looks_3 13 rfl) v8 ?_
    refine v_bipush (pc := 241) (dk dt_X12_looks_3 14 rfl) (by decide) ⟨by decide, by decide⟩ ?_
    refine v_iload_n (pc := 243) (dk dt_X12_looks_3 15 rfl) rfl rfl ?_
    obtain ⟨v9, h⟩ := h
    refine v_imul (pc := 244) (dk dt_X12_looks_3 16 rfl) v9 ?_
    refine v_iload (pc := 245) (dk dt_X12_looks_3 17 rfl) rfl ?_
    obtain ⟨v10, h⟩ := h
    refine v_iadd (pc := 247) (dk dt_X12_looks_3 18 rfl) v10 ?_
    refine v_iconst (pc := 248) (dk dt_X12_looks_3 19 rfl) ⟨by decide, by decide⟩ ?_
    obtain ⟨v11, h⟩ := h
    refine v_iadd (pc := 249) (dk dt_X12_looks_3 20 rfl) v11 ?_
    obtain ⟨v12, h⟩ := h
    refine v_cvV (c := 12) (As := [iv ((24 * l1) + l8), iv (((24 * l1) + l8) + 1)]) (stk := []) (pc := 250) (dk dt_X12_looks_3 21 rfl) ml_X12_318 rfl rfl (Nat.le_of_ble_eq_true rfl) rfl ⟨by decide, rfl⟩ v12 rfl (Call.mono h (fun r13 G14 c15 s16 h => ?_))
    obtain ⟨v17, h⟩ := h
    refine v_iinc (pc := 253) (ls' := [some (rv l0), some (iv l1), none, some (iv l3), some (iv l4), none, none, none, some (iv (l8 + 1))]) (dk dt_X12_looks_3 22 rfl) (Nat.le_of_ble_eq_true rfl) rfl v17 rfl ?_
    refine v_goto (pc := 256) (tgt := 222) (dk dt_X12_looks_3 23 rfl) (by decide) ?_
    exact h
set_option maxRecDepth 20000 in
theorem b_X12_looks_268 {E : EE} {l0 l1 l3 l4 : Int} {G : Gt} {c s : Nat} {Q X : Int → Gt → Prop} (h : ((l3 ≤ l4 → V E M_X12_looks 479 [some (rv l0), some (iv l1), none, none, some (iv 0), none, none, none, none] [] G c s Q X) ∧ (l4 < l3 → (gcl G l0 = 13 ∧ gcl G (gfd G 12 29 l0) = 17 ∧ 0 < gln G (gfd G 12 29 l0) ∧ ((gel G (gfd G 12 29 l0) 0) = 0 → gcl G l0 = 13) ∧ ((gel G (gfd G 12 29 l0) 0) = 0 → gcl G (gfd G 12 31 l0) = 15) ∧ ((gel G (gfd G 12 29 l0) 0) = 0 → 0 ≤ l4) ∧ ((gel G (gfd G 12 29 l0) 0) = 0 → l4 < gln G (gfd G 12 31 l0)) ∧ V E M_X12_looks 301 [some (rv l0), some (iv l1), none, some (iv l3), some (iv l4), some (iv (if (gel G (gfd G 12 29 l0) 0) = 0 then ((gel G (gfd G 12 31 l0) l4) : Int) else 666)), some (iv 0), none, none] [] G c s Q X)))) : V E M_X12_looks 268 [some (rv l0), some (iv l1), none, some (iv l3), some (iv l4), none, none, none, none] [] G c s Q X := by
  refine v_iload (pc := 268) (dk dt_X12_looks_3 28 rfl) rfl ?_
  refine v_iload_n (pc := 270) (dk dt_X12_looks_3 29 rfl) rfl rfl ?_
  refine v_icmp_ge (pc := 271) (tgt := 476) (dk dt_X12_looks_3 30 rfl) (by decide) (fun c1 => ?_) (fun c1 => ?_)
  · replace h := h.1 c1
    refine v_iconst (pc := 476) (dk dt_X12_looks_6 26 rfl) ⟨by decide, by decide⟩ ?_
    refine v_istore (pc := 477) (ls' := [some (rv l0), some (iv l1), none, some (iv l3), some (iv 0), none, none, none, none]) (dk dt_X12_looks_6 27 rfl) (Nat.le_of_ble_eq_true rfl) rfl ?_
    exact v_less2 (ls' := [some (rv l0), some (iv l1), none, none, some (iv 0), none, none, none, none]) ⟨rfl, rfl, rfl, trivial⟩ h
  · replace h := h.2 c1
    refine v_aload_n (pc := 274) (dk dt_X12_looks_3 31 rfl) rfl rfl ?_
    obtain ⟨v2, h⟩ := h
    refine v_getR (pc := 275) (dk dt_X12_looks_3 32 rfl) fl_X12_78 v2 (fun _ => ?_)
    refine v_iconst (pc := 278) (dk dt_X12_looks_3 33 rfl) ⟨by decide, by decide⟩ ?_
    obtain ⟨v3, h⟩ := h
    obtain ⟨v4, h⟩ := h
    refine v_zald (pc := 279) (dk dt_X12_looks_3 34 rfl) v3 (by decide) v4 (fun _ => ?_)
    obtain ⟨v6, v7, v8, v9, h⟩ := h
    suffices k10 : V E M_X12_looks 296 [some (rv l0), some (iv l1), none, some (iv l3), some (iv l4), none, none, none, none] [iv (if (gel G (gfd G 12 29 l0) 0) = 0 then ((gel G (gfd G 12 31 l0) l4) : Int) else 666)] G c s Q X by
      refine v_if_eq (pc := 280) (tgt := 289) (dk dt_X12_looks_3 35 rfl) (by decide) (fun c5 => ?_) (fun c5 => ?_)
      · refine v_aload_n (pc := 289) (dk dt_X12_looks_3 38 rfl) rfl rfl ?_
        refine v_getR (pc := 290) (dk dt_X12_looks_3 39 rfl) fl_X12_84 (v6 c5) (fun _ => ?_)
        refine v_iload (pc := 293) (dk dt_X12_looks_4 0 rfl) rfl ?_
        refine v_iald (pc := 295) (dk dt_X12_looks_4 1 rfl) (Or.inl (v7 c5)) (v8 c5) (v9 c5) (fun _ => ?_)
        exact v_less2 (ls' := [some (rv l0), some (iv l1), none, some (iv l3), some (iv l4), none, none, none, none]) ⟨rfl, rfl, rfl, rfl, trivial⟩ (by have hk9 := k10; try simp only [if_pos c5] at hk9 ⊢; exact hk9)
      · refine v_sipush (pc := 283) (dk dt_X12_looks_3 36 rfl) (by decide) ⟨by decide, by decide⟩ ?_
        refine v_goto (pc := 286) (tgt := 296) (dk dt_X12_looks_3 37 rfl) (by decide) ?_
        exact v_less2 (ls' := [some (rv l0), some (iv l1), none, some (iv l3), some (iv l4), none, none, none, none]) ⟨rfl, rfl, rfl, rfl, trivial⟩ (by have hk9 := k10; try simp only [if_neg c5] at hk9 ⊢; exact hk9)
    refine v_istore (pc := 296) (ls' := [some (rv l0), some (iv l1), none, some (iv l3), some (iv l4), some (iv (if (gel G (gfd G 12 29 l0) 0) = 0 then ((gel G (gfd G 12 31 l0) l4) : Int) else 666)), none, none, none]) (dk dt_X12_looks_4 2 rfl) (Nat.le_of_ble_eq_true rfl) rfl ?_
    refine v_iconst (pc := 298) (dk dt_X12_looks_4 3 rfl) ⟨by decide, by decide⟩ ?_
    refine v_istore (pc := 299) (ls' := [some (rv l0), some (iv l1), none, some (iv l3), some (iv l4), some (iv (if (gel G (gfd G 12 29 l0) 0) = 0 then ((gel G (gfd G 12 31 l0) l4) : Int) else 666)), some (iv 0), none, none]) (dk dt_X12_looks_4 4 rfl) (Nat.le_of_ble_eq_true rfl) rfl ?_
    exact h
set_option maxRecDepth 20000 in
theorem b_X12_looks_301 {E : EE} {l0 l1 l3 l4 l5 l6 : Int} {G : Gt} {c s : Nat} {Q X : Int → Gt → Prop} (h : (gcl G l0 = 13 ∧ gcl G (gfd G 12 38 l0) = 15 ∧ 0 ≤ l1 ∧ l1 < gln G (gfd G 12 38 l0) ∧ ∀ J5 : Prop, ((gcl G l0 = 13 ∧ gcl G (gfd G 12 38 l0) = 15 ∧ 0 ≤ l1 ∧ l1 < gln G (gfd G 12 38 l0) ∧ ((l6 = (gel G (gfd G 12 38 l0) l1) → (gcl G l0 = 13 ∧ gcl G (gfd G 12 38 l0) = 15 ∧ 0 ≤ l1 ∧ l1 < gln G (gfd G 12 38 l0) ∧ V E M_X12_looks 371 [some (rv l0), some (iv l1), none, some (iv l3), some (iv l4), some (iv l5), some (iv l6), some (iv (gel G (gfd G 12 38 l0) l1)), none] [] G c s Q X)) ∧ (l6 ≠ (gel G (gfd G 12 38 l0) l1) → (gcl G l0 = 13 ∧ i32 (24 * l1) ∧ i32 ((24 * l1) + l6) ∧ gcl G (gfd G 12 39 l0) = 15 ∧ 0 ≤ ((24 * l1) + l6) ∧ ((24 * l1) + l6) < gln G (gfd G 12 39 l0) ∧ (((gel G (gfd G 12 39 l0) ((24 * l1) + l6)) = l5 → (i32 (l4 + 1) ∧ V E M_X12_looks 268 [some (rv l0), some (iv l1), none, some (iv l3), some (iv (l4 + 1)), none, none, none, none] [] G c s Q X)) ∧ ((gel G (gfd G 12 39 l0) ((24 * l1) + l6)) ≠ l5 → (gcl G l0 = 13 ∧ gcl G (gfd G 12 38 l0) = 15 ∧ 0 ≤ l1 ∧ l1 < gln G (gfd G 12 38 l0) ∧ V E M_X12_looks 371 [some (rv l0), some (iv l1), none, some (iv l3), some (iv l4), some (iv l5), some (iv l6), some (iv (gel G (gfd G 12 38 l0) l1)), none] [] G c s Q X))))))) → J5) → (((gel G (gfd G 12 38 l0) l1) ≤ l6 → J5) ∧ (l6 < (gel G (gfd G 12 38 l0) l1) → (gcl G l0 = 13 ∧ i32 (24 * l1) ∧ i32 ((24 * l1) + l6) ∧ gcl G (gfd G 12 39 l0) = 15 ∧ 0 ≤ ((24 * l1) + l6) ∧ ((24 * l1) + l6) < gln G (gfd G 12 39 l0) ∧ ((l5 ≤ (gel G (gfd G 12 39 l0) ((24 * l1) + l6)) → J5) ∧ ((gel G (gfd G 12 39 l0) ((24 * l1) + l6)) < l5 → (i32 (l6 + 1) ∧ V E M_X12_looks 301 [some (rv l0), some (iv l1), none, some (iv l3), some (iv l4), some (iv l5), some (iv (l6 + 1)), none, none] [] G c s Q X)))))))) : V E M_X12_looks 301 [some (rv l0), some (iv l1), none, some (iv l3), some (iv l4), some (iv l5), some (iv l6), none, none] [] G c s Q X := by
  refine v_iload (pc := 301) (dk dt_X12_looks_4 5 rfl) rfl ?_
  refine v_aload_n (pc := 303) (dk dt_X12_looks_4 6 rfl) rfl rfl ?_
  obtain ⟨v1, h⟩ := h
  refine v_getR (pc := 304) (dk dt_X12_looks_4 7 rfl) fl_X12_97 v1 (fun _ => ?_)
  refine v_iload_n (pc := 307) (dk dt_X12_looks_4 8 rfl) rfl rfl ?_
  obtain ⟨v2, h⟩ := h
  obtain ⟨v3, h⟩ := h
  obtain ⟨v4, h⟩ := h
  refine v_iald (pc := 308) (dk dt_X12_looks_4 9 rfl) (Or.inl v2) v3 v4 (fun _ => ?_)
  obtain ⟨J5, dJ5⟩ : ∃ J9 : Prop, J9 = V E M_X12_looks 335 [some (rv l0), some (iv l1), none, some (iv l3), some (iv l4), some (iv l5), some (iv l6), none, none] [] G c s Q X := ⟨_, rfl⟩
  have hJ5 : (gcl G l0 = 13 ∧ gcl G (gfd G 12 38 l0) = 15 ∧ 0 ≤ l1 ∧ l1 < gln G (gfd G 12 38 l0) ∧ ((l6 = (gel G (gfd G 12 38 l0) l1) → (gcl G l0 = 13 ∧ gcl G (gfd G 12 38 l0) = 15 ∧ 0 ≤ l1 ∧ l1 < gln G (gfd G 12 38 l0) ∧ V E M_X12_looks 371 [some (rv l0), some (iv l1), none, some (iv l3), some (iv l4), some (iv l5), some (iv l6), some (iv (gel G (gfd G 12 38 l0) l1)), none] [] G c s Q X)) ∧ (l6 ≠ (gel G (gfd G 12 38 l0) l1) → (gcl G l0 = 13 ∧ i32 (24 * l1) ∧ i32 ((24 * l1) + l6) ∧ gcl G (gfd G 12 39 l0) = 15 ∧ 0 ≤ ((24 * l1) + l6) ∧ ((24 * l1) + l6) < gln G (gfd G 12 39 l0) ∧ (((gel G (gfd G 12 39 l0) ((24 * l1) + l6)) = l5 → (i32 (l4 + 1) ∧ V E M_X12_looks 268 [some (rv l0), some (iv l1), none, some (iv l3), some (iv (l4 + 1)), none, none, none, none] [] G c s Q X)) ∧ ((gel G (gfd G 12 39 l0) ((24 * l1) + l6)) ≠ l5 → (gcl G l0 = 13 ∧ gcl G (gfd G 12 38 l0) = 15 ∧ 0 ≤ l1 ∧ l1 < gln G (gfd G 12 38 l0) ∧ V E M_X12_looks 371 [some (rv l0), some (iv l1), none, some (iv l3), some (iv l4), some (iv l5), some (iv l6), some (iv (gel G (gfd G 12 38 l0) l1)), none] [] G c s Q X))))))) → J5 := by
    intro h
    rw [dJ5]
    refine v_iload (pc := 335) (dk dt_X12_looks_4 23 rfl) rfl ?_
    refine v_aload_n (pc := 337) (dk dt_X12_looks_4 24 rfl) rfl rfl ?_
    obtain ⟨v6, h⟩ := h
    refine v_getR (pc := 338) (dk dt_X12_looks_4 25 rfl) fl_X12_97 v6 (fun _ => ?_)
    refine v_iload_n (pc := 341) (dk dt_X12_looks_4 26 rfl) rfl rfl ?_
    obtain ⟨v7, h⟩ := h
    obtain ⟨v8, h⟩ := h
    obtain ⟨v9, h⟩ := h
    refine v_iald (pc := 342) (dk dt_X12_looks_4 27 rfl) (Or.inl v7) v8 v9 (fun _ => ?_)
    refine v_icmp_eq (pc := 343) (tgt := 363) (dk dt_X12_looks_4 28 rfl) (by decide) (fun c10 => ?_) (fun c10 => ?_)
    · replace h := h.1 c10
      refine v_aload_n (pc := 363) (dk dt_X12_looks_4 39 rfl) rfl rfl ?_
      obtain ⟨v11, h⟩ := h
      refine v_getR (pc := 364) (dk dt_X12_looks_5 0 rfl) fl_X12_97 v11 (fun _ => ?_)
      refine v_iload_n (pc := 367) (dk dt_X12_looks_5 1 rfl) rfl rfl ?_
      obtain ⟨v12, h⟩ := h
      obtain ⟨v13, h⟩ := h
      obtain ⟨v14, h⟩ := h
      refine v_iald (pc := 368) (dk dt_X12_looks_5 2 rfl) (Or.inl v12) v13 v14 (fun _ => ?_)
      refine v_istore (pc := 369) (ls' := [some (rv l0), some (iv l1), none, some (iv l3), some (iv l4), some (iv l5), some (iv l6), some (iv (gel G (gfd G 12 38 l0) l1)), none]) (dk dt_X12_looks_5 3 rfl) (Nat.le_of_ble_eq_true rfl) rfl ?_
      exact h
    · replace h := h.2 c10
      refine v_aload_n (pc := 346) (dk dt_X12_looks_4 29 rfl) rfl rfl ?_
      obtain ⟨v15, h⟩ := h
      refine v_getR (pc := 347) (dk dt_X12_looks_4 30 rfl) fl_X12_100 v15 (fun _ => ?_)
      refine v_bipush (pc := 350) (dk dt_X12_looks_4 31 rfl) (by decide) ⟨by decide, by decide⟩ ?_
      refine v_iload_n (pc := 352) (dk dt_X12_looks_4 32 rfl) rfl rfl ?_
      obtain ⟨v16, h⟩ := h
      refine v_imul (pc := 353) (dk dt_X12_looks_4 33 rfl) v16 ?_
      refine v_iload (pc := 354) (dk dt_X12_looks_4 34 rfl) rfl ?_
      obtain ⟨v17, h⟩ := h
      refine v_iadd (pc := 356) (dk dt_X12_looks_4 35 rfl) v17 ?_
      obtain ⟨v18, h⟩ := h
      obtain ⟨v19, h⟩ := h
      obtain ⟨v20, h⟩ := h
      refine v_iald (pc := 357) (dk dt_X12_looks_4 36 rfl) (Or.inl v18) v19 v20 (fun _ => ?_)
      refine v_iload (pc := 358) (dk dt_X12_looks_4 37 rfl) rfl ?_
      refine v_icmp_eq (pc := 360) (tgt := 470) (dk dt_X12_looks_4 38 rfl) (by decide) (fun c21 => ?_) (fun c21 => ?_)
      · replace h := h.1 c21
        obtain ⟨v22, h⟩ := h
        refine v_iinc (pc := 470) (ls' := [some (rv l0), some (iv l1), none, some (iv l3), some (iv (l4 + 1)), some (iv l5), some (iv l6), none, none]) (dk dt_X12_looks_6 24 rfl) (Nat.le_of_ble_eq_true rfl) rfl v22 rfl ?_
        refine v_goto (pc := 473) (tgt := 268) (dk dt_X12_looks_6 25 rfl) (by decide) ?_
        exact v_less2 (ls' := [some (rv l0), some (iv l1), none, some (iv l3), some (iv (l4 + 1)), none, none, none, none]) ⟨rfl, rfl, rfl, rfl, trivial⟩ h
      · replace h := h.2 c21
        refine v_aload_n (pc := 363) (dk dt_X12_looks_4 39 rfl) rfl rfl ?_
        obtain ⟨v23, h⟩ := h
        refine v_getR (pc := 364) (dk dt_X12_looks_5 0 rfl) fl_X12_97 v23 (fun _ => ?_)
        refine v_iload_n (pc := 367) (dk dt_X12_looks_5 1 rfl) rfl rfl ?_
        obtain ⟨v24, h⟩ := h
        obtain ⟨v25, h⟩ := h
        obtain ⟨v26, h⟩ := h
        refine v_iald (pc := 368) (dk dt_X12_looks_5 2 rfl) (Or.inl v24) v25 v26 (fun _ => ?_)
        refine v_istore (pc := 369) (ls' := [some (rv l0), some (iv l1), none, some (iv l3), some (iv l4), some (iv l5), some (iv l6), some (iv (gel G (gfd G 12 38 l0) l1)), none]) (dk dt_X12_looks_5 3 rfl) (Nat.le_of_ble_eq_true rfl) rfl ?_
        exact h
  replace h := h _ hJ5
  refine v_icmp_ge (pc := 309) (tgt := 335) (dk dt_X12_looks_4 10 rfl) (by decide) (fun c27 => ?_) (fun c27 => ?_)
  · replace h := h.1 c27
    rw [dJ5] at h
    exact h
  · replace h := h.2 c27
    refine v_aload_n (pc := 312) (dk dt_X12_looks_4 11 rfl) rfl rfl ?_
    obtain ⟨v28, h⟩ := h
    refine v_getR (pc := 313) (dk dt_X12_looks_4 12 rfl) fl_X12_100 v28 (fun _ => ?_)
    refine v_bipush (pc := 316) (dk dt_X12_looks_4 13 rfl) (by decide) ⟨by decide, by decide⟩ ?_
    refine v_iload_n (pc := 318) (dk dt_X12_looks_4 14 rfl) rfl rfl ?_
    obtain ⟨v29, h⟩ := h
    refine v_imul (pc := 319) (dk dt_X12_looks_4 15 rfl) v29 ?_
    refine v_iload (pc := 320) (dk dt_X12_looks_4 16 rfl) rfl ?_
    obtain ⟨v30, h⟩ := h
    refine v_iadd (pc := 322) (dk dt_X12_looks_4 17 rfl) v30 ?_
    obtain ⟨v31, h⟩ := h
    obtain ⟨v32, h⟩ := h
    obtain ⟨v33, h⟩ := h
    refine v_iald (pc := 323) (dk dt_X12_looks_4 18 rfl) (Or.inl v31) v32 v33 (fun _ => ?_)
    refine v_iload (pc := 324) (dk dt_X12_looks_4 19 rfl) rfl ?_
    refine v_icmp_ge (pc := 326) (tgt := 335) (dk dt_X12_looks_4 20 rfl) (by decide) (fun c34 => ?_) (fun c34 => ?_)
    · replace h := h.1 c34
      rw [dJ5] at h
      exact h
    · replace h := h.2 c34
      obtain ⟨v35, h⟩ := h
      refine v_iinc (pc := 329) (ls' := [some (rv l0), some (iv l1), none, some (iv l3), some (iv l4), some (iv l5), some (iv (l6 + 1)), none, none]) (dk dt_X12_looks_4 21 rfl) (Nat.le_of_ble_eq_true rfl) rfl v35 rfl ?_
      refine v_goto (pc := 332) (tgt := 301) (dk dt_X12_looks_4 22 rfl) (by decide) ?_
      exact h
set_option maxRecDepth 20000 in
theorem b_X12_looks_371 {E : EE} {l0 l1 l3 l4 l5 l6 l7 : Int} {G : Gt} {c s : Nat} {Q X : Int → Gt → Prop} (h : ((l7 ≤ l6 → (gcl G l0 = 13 ∧ gcl G (gfd G 12 38 l0) = 15 ∧ 0 ≤ l1 ∧ l1 < gln G (gfd G 12 38 l0) ∧ i32 ((gel G (gfd G 12 38 l0) l1) + 1) ∧ gcl G (gfd G 12 38 l0) = 15 ∧ 0 ≤ l1 ∧ l1 < gln G (gfd G 12 38 l0) ∧ ∀ G10 : Gt, G10 = (sel G (gfd G 12 38 l0) l1 ((gel G (gfd G 12 38 l0) l1) + 1)) → i32 (24 * l1) ∧ i32 ((24 * l1) + l6) ∧ gcl G10 l0 = 13 ∧ gcl G10 (gfd G10 12 39 l0) = 15 ∧ 0 ≤ ((24 * l1) + l6) ∧ ((24 * l1) + l6) < gln G10 (gfd G10 12 39 l0) ∧ ∀ G17 : Gt, G17 = (sel G10 (gfd G10 12 39 l0) ((24 * l1) + l6) l5) → gcl G17 l0 = 13 ∧ gcl G17 (gfd G17 12 40 l0) = 15 ∧ 0 ≤ ((24 * l1) + l6) ∧ ((24 * l1) + l6) < gln G17 (gfd G17 12 40 l0) ∧ ∀ G22 : Gt, G22 = (sel G17 (gfd G17 12 40 l0) ((24 * l1) + l6) 0) → gcl G22 l0 = 13 ∧ gcl G22 l0 = 13 ∧ gcl G22 (gfd G22 12 41 l0) = 15 ∧ 0 ≤ ((24 * l1) + l6) ∧ ((24 * l1) + l6) < gln G22 (gfd G22 12 41 l0) ∧ ∀ G28 : Gt, G28 = (sel G22 (gfd G22 12 41 l0) ((24 * l1) + l6) (gfd G22 12 1 l0)) → gcl G28 l0 = 13 ∧ gcl G28 l0 = 13 ∧ gcl G28 (gfd G28 12 42 l0) = 15 ∧ 0 ≤ ((24 * l1) + l6) ∧ ((24 * l1) + l6) < gln G28 (gfd G28 12 42 l0) ∧ ∀ G34 : Gt, G34 = (sel G28 (gfd G28 12 42 l0) ((24 * l1) + l6) (gfd G28 12 1 l0)) → gcl G34 l0 = 13 ∧ gcl G34 (gfd G34 12 43 l0) = 17 ∧ 0 ≤ ((24 * l1) + l6) ∧ ((24 * l1) + l6) < gln G34 (gfd G34 12 43 l0) ∧ ∀ G39 : Gt, G39 = (sel G34 (gfd G34 12 43 l0) ((24 * l1) + l6) 0) → i32 (l4 + 1) ∧ V E M_X12_looks 268 [some (rv l0), some (iv l1), none, some (iv l3), some (iv (l4 + 1)), none, none, none, none] [] G39 c s Q X)) ∧ (l6 < l7 → (i32 (24 * l1) ∧ i32 ((24 * l1) + l7) ∧ i32 (24 * l1) ∧ i32 ((24 * l1) + l7) ∧ i32 (((24 * l1) + l7) - 1) ∧ gcl G l0 = 13 ∧ Call E M_X12_moves [rv l0, iv ((24 * l1) + l7), iv (((24 * l1) + l7) - 1)] G c s X (fun r47 G48 c49 s50 => i32 (l7 + (-1)) ∧ V E M_X12_looks 371 [some (rv l0), some (iv l1), none, some (iv l3), some (iv l4), some (iv l5), some (iv l6), some (iv (l7 + (-1))), none] [] G48 c49 s50 Q X))))) : V E M_X12_looks 371 [some (rv l0), some (iv l1), none, some (iv l3), some (iv l4), some (iv l5), some (iv l6), some (iv l7), none] [] G c s Q X := by
  refine v_iload (pc := 371) (dk dt_X12_looks_5 4 rfl) rfl ?_
  refine v_iload (pc := 373) (dk dt_X12_looks_5 5 rfl) rfl ?_
  refine v_icmp_le (pc := 375) (tgt := 404) (dk dt_X12_looks_5 6 rfl) (by decide) (fun c1 => ?_) (fun c1 => ?_)
  · replace h := h.1 c1
    refine v_aload_n (pc := 404) (dk dt_X12_looks_5 23 rfl) rfl rfl ?_
    obtain ⟨v2, h⟩ := h
    refine v_getR (pc := 405) (dk dt_X12_looks_5 24 rfl) fl_X12_97 v2 (fun _ => ?_)
    refine v_iload_n (pc := 408) (dk dt_X12_looks_5 25 rfl) rfl rfl ?_
    refine v_dup2 (pc := 409) (dk dt_X12_looks_5 26 rfl) (by intro h9; cases h9) (by intro h9; cases h9) ?_
    obtain ⟨v3, h⟩ := h
    obtain ⟨v4, h⟩ := h
    obtain ⟨v5, h⟩ := h
    refine v_iald (pc := 410) (dk dt_X12_looks_5 27 rfl) (Or.inl v3) v4 v5 (fun _ => ?_)
    refine v_iconst (pc := 411) (dk dt_X12_looks_5 28 rfl) ⟨by decide, by decide⟩ ?_
    obtain ⟨v6, h⟩ := h
    refine v_iadd (pc := 412) (dk dt_X12_looks_5 29 rfl) v6 ?_
    obtain ⟨v7, h⟩ := h
    obtain ⟨v8, h⟩ := h
    obtain ⟨v9, h⟩ := h
    refine v_iast (pc := 413) (dk dt_X12_looks_5 30 rfl) v7 v8 v9 ?_
    generalize hG10 : (sel G (gfd G 12 38 l0) l1 ((gel G (gfd G 12 38 l0) l1) + 1)) = G10
    replace h := h G10 hG10.symm
    refine v_bipush (pc := 414) (dk dt_X12_looks_5 31 rfl) (by decide) ⟨by decide, by decide⟩ ?_
    refine v_iload_n (pc := 416) (dk dt_X12_looks_5 32 rfl) rfl rfl ?_
    obtain ⟨v11, h⟩ := h
    refine v_imul (pc := 417) (dk dt_X12_looks_5 33 rfl) v11 ?_
    refine v_iload (pc := 418) (dk dt_X12_looks_5 34 rfl) rfl ?_
    obtain ⟨v12, h⟩ := h
    refine v_iadd (pc := 420) (dk dt_X12_looks_5 35 rfl) v12 ?_
    refine v_istore (pc := 421) (ls' := [some (rv l0), some (iv l1), none, some (iv l3), some (iv l4), some (iv l5), some (iv l6), some (iv ((24 * l1) + l6)), none]) (dk dt_X12_looks_5 36 rfl) (Nat.le_of_ble_eq_true rfl) rfl ?_
    refine v_aload_n (pc := 423) (dk dt_X12_looks_5 37 rfl) rfl rfl ?_
    obtain ⟨v13, h⟩ := h
    refine v_getR (pc := 424) (dk dt_X12_looks_5 38 rfl) fl_X12_100 v13 (fun _ => ?_)
    refine v_iload (pc := 427) (dk dt_X12_looks_5 39 rfl) rfl ?_
    refine v_iload (pc := 429) (dk dt_X12_looks_6 0 rfl) rfl ?_
    obtain ⟨v14, h⟩ := h
    obtain ⟨v15, h⟩ := h
    obtain ⟨v16, h⟩ := h
    refine v_iast (pc := 431) (dk dt_X12_looks_6 1 rfl) v14 v15 v16 ?_
    generalize hG17 : (sel G10 (gfd G10 12 39 l0) ((24 * l1) + l6) l5) = G17
    replace h := h G17 hG17.symm
    refine v_aload_n (pc := 432) (dk dt_X12_looks_6 2 rfl) rfl rfl ?_
    obtain ⟨v18, h⟩ := h
    refine v_getR (pc := 433) (dk dt_X12_looks_6 3 rfl) fl_X12_103 v18 (fun _ => ?_)
    refine v_iload (pc := 436) (dk dt_X12_looks_6 4 rfl) rfl ?_
    refine v_iconst (pc := 438) (dk dt_X12_looks_6 5 rfl) ⟨by decide, by decide⟩ ?_
    obtain ⟨v19, h⟩ := h
    obtain ⟨v20, h⟩ := h
    obtain ⟨v21, h⟩ := h
    refine v_iast (pc := 439) (dk dt_X12_looks_6 6 rfl) v19 v20 v21 ?_
    generalize hG22 : (sel G17 (gfd G17 12 40 l0) ((24 * l1) + l6) 0) = G22
    replace h := h G22 hG22.symm
    refine v_aload_n (pc := 440) (dk dt_X12_looks_6 7 rfl) rfl rfl ?_
    obtain ⟨v23, h⟩ := h
    refine v_getR (pc := 441) (dk dt_X12_looks_6 8 rfl) fl_X12_106 v23 (fun _ => ?_)
    refine v_iload (pc := 444) (dk dt_X12_looks_6 9 rfl) rfl ?_
    refine v_aload_n (pc := 446) (dk dt_X12_looks_6 10 rfl) rfl rfl ?_
    obtain ⟨v24, h⟩ := h
    refine v_getI (pc := 447) (dk dt_X12_looks_6 11 rfl) fl_X12_176 v24 (fun _ => ?_)
    obtain ⟨v25, h⟩ := h
    obtain ⟨v26, h⟩ := h
    obtain ⟨v27, h⟩ := h
    refine v_iast (pc := 450) (dk dt_X12_looks_6 12 rfl) v25 v26 v27 ?_
    generalize hG28 : (sel G22 (gfd G22 12 41 l0) ((24 * l1) + l6) (gfd G22 12 1 l0)) = G28
    replace h := h G28 hG28.symm
    refine v_aload_n (pc := 451) (dk dt_X12_looks_6 13 rfl) rfl rfl ?_
    obtain ⟨v29, h⟩ := h
    refine v_getR (pc := 452) (dk dt_X12_looks_6 14 rfl) fl_X12_109 v29 (fun _ => ?_)
    refine v_iload (pc := 455) (dk dt_X12_looks_6 15 rfl) rfl ?_
    refine v_aload_n (pc := 457) (dk dt_X12_looks_6 16 rfl) rfl rfl ?_
    obtain ⟨v30, h⟩ := h
    refine v_getI (pc := 458) (dk dt_X12_looks_6 17 rfl) fl_X12_176 v30 (fun _ => ?_)
    obtain ⟨v31, h⟩ := h
    obtain ⟨v32, h⟩ := h
    obtain ⟨v33, h⟩ := h
    refine v_iast (pc := 461) (dk dt_X12_looks_6 18 rfl) v31 v32 v33 ?_
    generalize hG34 : (sel G28 (gfd G28 12 42 l0) ((24 * l1) + l6) (gfd G28 12 1 l0)) = G34
    replace h := h G34 hG34.symm
    refine v_aload_n (pc := 462) (dk dt_X12_looks_6 19 rfl) rfl rfl ?_
    obtain ⟨v35, h⟩ := h
    refine v_getR (pc := 463) (dk dt_X12_looks_6 20 rfl) fl_X12_112 v35 (fun _ => ?_)
    refine v_iload (pc := 466) (dk dt_X12_looks_6 21 rfl) rfl ?_
    refine v_iconst (pc := 468) (dk dt_X12_looks_6 22 rfl) ⟨by decide, by decide⟩ ?_
    obtain ⟨v36, h⟩ := h
    obtain ⟨v37, h⟩ := h
    obtain ⟨v38, h⟩ := h
    refine v_zast (pc := 469) (dk dt_X12_looks_6 23 rfl) v36 v37 v38 (Or.inl rfl) ?_
    generalize hG39 : (sel G34 (gfd G34 12 43 l0) ((24 * l1) + l6) 0) = G39
    replace h := h G39 hG39.symm
    obtain ⟨v40, h⟩ := h
    refine v_iinc (pc := 470) (ls' := [some (rv l0), some (iv l1), none, some (iv l3), some (iv (l4 + 1)), some (iv l5), some (iv l6), some (iv ((24 * l1) + l6)), none]) (dk dt_X12_looks_6 24 rfl) (Nat.le_of_ble_eq_true rfl) rfl v40 rfl ?_
    refine v_goto (pc := 473) (tgt := 268) (dk dt_X12_looks_6 25 rfl) (by decide) ?_
    exact v_less2 (ls' := [some (rv l0), some (iv l1), none, some (iv l3), some (iv (l4 + 1)), none, none, none, none]) ⟨rfl, rfl, rfl, rfl, trivial⟩ h
  · replace h := h.2 c1
    refine v_aload_n (pc := 378) (dk dt_X12_looks_5 7 rfl) rfl rfl ?_
    refine v_bipush (pc := 379) (dk dt_X12_looks_5 8 rfl) (by decide) ⟨by decide, by decide⟩ ?_
    refine v_iload_n (pc := 381) (dk dt_X12_looks_5 9 rfl) rfl rfl ?_
    obtain ⟨v41, h⟩ := h
    refine v_imul (pc := 382) (dk dt_X12_looks_5 10 rfl) v41 ?_
    refine v_iload (pc := 383) (dk dt_X12_looks_5 11 rfl) rfl ?_
    obtain ⟨v42, h⟩ := h
    refine v_iadd (pc := 385) (dk dt_X12_looks_5 12 rfl) v42 ?_
    refine v_bipush (pc := 386) (dk dt_X12_looks_5 13 rfl) (by decide) ⟨by decide, by decide⟩ ?_
    refine v_iload_n (pc := 388) (dk dt_X12_looks_5 14 rfl) rfl rfl ?_
    obtain ⟨v43, h⟩ := h
    refine v_imul (pc := 389) (dk dt_X12_looks_5 15 rfl) v43 ?_
    refine v_iload (pc := 390) (dk dt_X12_looks_5 16 rfl) rfl ?_
    obtain ⟨v44, h⟩ := h
    refine v_iadd (pc := 392) (dk dt_X12_looks_5 17 rfl) v44 ?_
    refine v_iconst (pc := 393) (dk dt_X12_looks_5 18 rfl) ⟨by decide, by decide⟩ ?_
    obtain ⟨v45, h⟩ := h
    refine v_isub (pc := 394) (dk dt_X12_looks_5 19 rfl) v45 ?_
    obtain ⟨v46, h⟩ := h
    refine v_cvV (c := 12) (As := [iv ((24 * l1) + l7), iv (((24 * l1) + l7) - 1)]) (stk := []) (pc := 395) (dk dt_X12_looks_5 20 rfl) ml_X12_318 rfl rfl (Nat.le_of_ble_eq_true rfl) rfl ⟨by decide, rfl⟩ v46 rfl (Call.mono h (fun r47 G48 c49 s50 h => ?_))
    obtain ⟨v51, h⟩ := h
    refine v_iinc (pc := 398) (ls' := [some (rv l0), some (iv l1), none, some (iv l3), some (iv l4), some (iv l5), some (iv l6), some (iv (l7 + (-1))), none]) (dk dt_X12_looks_5 21 rfl) (Nat.le_of_ble_eq_true rfl) rfl v51 rfl ?_
    refine v_goto (pc := 401) (tgt := 371) (dk dt_X12_looks_5 22 rfl) (by decide) ?_
    exact h
set_option maxRecDepth 20000 in
theorem b_X12_looks_479 {E : EE} {l0 l1 l4 : Int} {G : Gt} {c s : Nat} {Q X : Int → Gt → Prop} (h : (gcl G l0 = 13 ∧ gcl G (gfd G 12 38 l0) = 15 ∧ 0 ≤ l1 ∧ l1 < gln G (gfd G 12 38 l0) ∧ (((gel G (gfd G 12 38 l0) l1) ≤ l4 → V E M_X12_looks 558 [some (rv l0), some (iv l1), none, none, some (iv 0), none, none, none, none] [] G c s Q X) ∧ (l4 < (gel G (gfd G 12 38 l0) l1) → (i32 (24 * l1) ∧ i32 ((24 * l1) + l4) ∧ gcl G l0 = 13 ∧ gcl G (gfd G 12 40 l0) = 15 ∧ 0 ≤ ((24 * l1) + l4) ∧ ((24 * l1) + l4) < gln G (gfd G 12 40 l0) ∧ (((gel G (gfd G 12 40 l0) ((24 * l1) + l4)) ≠ 0 → (i32 (l4 + 1) ∧ V E M_X12_looks 479 [some (rv l0), some (iv l1), none, none, some (iv (l4 + 1)), none, none, none, none] [] G c s Q X)) ∧ ((gel G (gfd G 12 40 l0) ((24 * l1) + l4)) = 0 → (gcl G l0 = 13 ∧ gcl G l0 = 13 ∧ gcl G (gfd G 12 41 l0) = 15 ∧ 0 ≤ ((24 * l1) + l4) ∧ ((24 * l1) + l4) < gln G (gfd G 12 41 l0) ∧ i32 ((gfd G 12 1 l0) - (gel G (gfd G 12 41 l0) ((24 * l1) + l4))) ∧ gcl G l0 = 13 ∧ gcl G (gfd G 12 26 l0) = 15 ∧ 0 ≤ l1 ∧ l1 < gln G (gfd G 12 26 l0) ∧ ((((gfd G 12 1 l0) - (gel G (gfd G 12 41 l0) ((24 * l1) + l4))) < (gel G (gfd G 12 26 l0) l1) → (i32 (l4 + 1) ∧ V E M_X12_looks 479 [some (rv l0), some (iv l1), none, none, some (iv (l4 + 1)), none, none, none, none] [] G c s Q X)) ∧ ((gel G (gfd G 12 26 l0) l1) ≤ ((gfd G 12 1 l0) - (gel G (gfd G 12 41 l0) ((24 * l1) + l4))) → (gcl G l0 = 13 ∧ gcl G (gfd G 12 40 l0) = 15 ∧ 0 ≤ ((24 * l1) + l4) ∧ ((24 * l1) + l4) < gln G (gfd G 12 40 l0) ∧ ∀ G30 : Gt, G30 = (sel G (gfd G 12 40 l0) ((24 * l1) + l4) 1) → gcl G30 l0 = 13 ∧ gcl G30 l0 = 13 ∧ gcl G30 (gfd G30 12 41 l0) = 15 ∧ 0 ≤ ((24 * l1) + l4) ∧ ((24 * l1) + l4) < gln G30 (gfd G30 12 41 l0) ∧ ∀ G36 : Gt, G36 = (sel G30 (gfd G30 12 41 l0) ((24 * l1) + l4) (gfd G30 12 1 l0)) → i32 (l4 + 1) ∧ V E M_X12_looks 479 [some (rv l0), some (iv l1), none, none, some (iv (l4 + 1)), none, none, none, none] [] G36 c s Q X))))))))))) : V E M_X12_looks 479 [some (rv l0), some (iv l1), none, none, some (iv l4), none, none, none, none] [] G c s Q X := by
  refine v_iload (pc := 479) (dk dt_X12_looks_6 28 rfl) rfl ?_
  refine v_aload_n (pc := 481) (dk dt_X12_looks_6 29 rfl) rfl rfl ?_
  obtain ⟨v1, h⟩ := h
  refine v_getR (pc := 482) (dk dt_X12_looks_6 30 rfl) fl_X12_97 v1 (fun _ => ?_)
  refine v_iload_n (pc := 485) (dk dt_X12_looks_6 31 rfl) rfl rfl ?_
  obtain ⟨v2, h⟩ := h
  obtain ⟨v3, h⟩ := h
  obtain ⟨v4, h⟩ := h
  refine v_iald (pc := 486) (dk dt_X12_looks_6 32 rfl) (Or.inl v2) v3 v4 (fun _ => ?_)
  refine v_icmp_ge (pc := 487) (tgt := 555) (dk dt_X12_looks_6 33 rfl) (by decide) (fun c5 => ?_) (fun c5 => ?_)
  · replace h := h.1 c5
    refine v_iconst (pc := 555) (dk dt_X12_looks_7 30 rfl) ⟨by decide, by decide⟩ ?_
    refine v_istore (pc := 556) (ls' := [some (rv l0), some (iv l1), none, none, some (iv 0), none, none, none, none]) (dk dt_X12_looks_7 31 rfl) (Nat.le_of_ble_eq_true rfl) rfl ?_
    exact h
  · replace h := h.2 c5
    refine v_bipush (pc := 490) (dk dt_X12_looks_6 34 rfl) (by decide) ⟨by decide, by decide⟩ ?_
    refine v_iload_n (pc := 492) (dk dt_X12_looks_6 35 rfl) rfl rfl ?_
    obtain ⟨v6, h⟩ := h
    refine v_imul (pc := 493) (dk dt_X12_looks_6 36 rfl) v6 ?_
    refine v_iload (pc := 494) (dk dt_X12_looks_6 37 rfl) rfl ?_
    obtain ⟨v7, h⟩ := h
    refine v_iadd (pc := 496) (dk dt_X12_looks_6 38 rfl) v7 ?_
    refine v_istore (pc := 497) (ls' := [some (rv l0), some (iv l1), none, none, some (iv l4), some (iv ((24 * l1) + l4)), none, none, none]) (dk dt_X12_looks_6 39 rfl) (Nat.le_of_ble_eq_true rfl) rfl ?_
    refine v_aload_n (pc := 499) (dk dt_X12_looks_7 0 rfl) rfl rfl ?_
    obtain ⟨v8, h⟩ := h
    refine v_getR (pc := 500) (dk dt_X12_looks_7 1 rfl) fl_X12_103 v8 (fun _ => ?_)
    refine v_iload (pc := 503) (dk dt_X12_looks_7 2 rfl) rfl ?_
    obtain ⟨v9, h⟩ := h
    obtain ⟨v10, h⟩ := h
    obtain ⟨v11, h⟩ := h
    refine v_iald (pc := 505) (dk dt_X12_looks_7 3 rfl) (Or.inl v9) v10 v11 (fun _ => ?_)
    refine v_if_ne (pc := 506) (tgt := 549) (dk dt_X12_looks_7 4 rfl) (by decide) (fun c12 => ?_) (fun c12 => ?_)
    · replace h := h.1 c12
      obtain ⟨v13, h⟩ := h
      refine v_iinc (pc := 549) (ls' := [some (rv l0), some (iv l1), none, none, some (iv (l4 + 1)), some (iv ((24 * l1) + l4)), none, none, none]) (dk dt_X12_looks_7 28 rfl) (Nat.le_of_ble_eq_true rfl) rfl v13 rfl ?_
      refine v_goto (pc := 552) (tgt := 479) (dk dt_X12_looks_7 29 rfl) (by decide) ?_
      exact v_less2 (ls' := [some (rv l0), some (iv l1), none, none, some (iv (l4 + 1)), none, none, none, none]) ⟨rfl, rfl, rfl, trivial⟩ h
    · replace h := h.2 c12
      refine v_aload_n (pc := 509) (dk dt_X12_looks_7 5 rfl) rfl rfl ?_
      obtain ⟨v14, h⟩ := h
      refine v_getI (pc := 510) (dk dt_X12_looks_7 6 rfl) fl_X12_176 v14 (fun _ => ?_)
      refine v_aload_n (pc := 513) (dk dt_X12_looks_7 7 rfl) rfl rfl ?_
      obtain ⟨v15, h⟩ := h
      refine v_getR (pc := 514) (dk dt_X12_looks_7 8 rfl) fl_X12_106 v15 (fun _ => ?_)
      refine v_iload (pc := 517) (dk dt_X12_looks_7 9 rfl) rfl ?_
      obtain ⟨v16, h⟩ := h
      obtain ⟨v17, h⟩ := h
      obtain ⟨v18, h⟩ := h
      refine v_iald (pc := 519) (dk dt_X12_looks_7 10 rfl) (Or.inl v16) v17 v18 (fun _ => ?_)
      obtain ⟨v19, h⟩ := h
      refine v_isub (pc := 520) (dk dt_X12_looks_7 11 rfl) v19 ?_
      refine v_aload_n (pc := 521) (dk dt_X12_looks_7 12 rfl) rfl rfl ?_
      obtain ⟨v20, h⟩ := h
      refine v_getR (pc := 522) (dk dt_X12_looks_7 13 rfl) fl_X12_69 v20 (fun _ => ?_)
      refine v_iload_n (pc := 525) (dk dt_X12_looks_7 14 rfl) rfl rfl ?_
      obtain ⟨v21, h⟩ := h
      obtain ⟨v22, h⟩ := h
      obtain ⟨v23, h⟩ := h
      refine v_iald (pc := 526) (dk dt_X12_looks_7 15 rfl) (Or.inl v21) v22 v23 (fun _ => ?_)
      refine v_icmp_lt (pc := 527) (tgt := 549) (dk dt_X12_looks_7 16 rfl) (by decide) (fun c24 => ?_) (fun c24 => ?_)
      · replace h := h.1 c24
        obtain ⟨v25, h⟩ := h
        refine v_iinc (pc := 549) (ls' := [some (rv l0), some (iv l1), none, none, some (iv (l4 + 1)), some (iv ((24 * l1) + l4)), none, none, none]) (dk dt_X12_looks_7 28 rfl) (Nat.le_of_ble_eq_true rfl) rfl v25 rfl ?_
        refine v_goto (pc := 552) (tgt := 479) (dk dt_X12_looks_7 29 rfl) (by decide) ?_
        exact v_less2 (ls' := [some (rv l0), some (iv l1), none, none, some (iv (l4 + 1)), none, none, none, none]) ⟨rfl, rfl, rfl, trivial⟩ h
      · replace h := h.2 c24
        refine v_aload_n (pc := 530) (dk dt_X12_looks_7 17 rfl) rfl rfl ?_
        obtain ⟨v26, h⟩ := h
        refine v_getR (pc := 531) (dk dt_X12_looks_7 18 rfl) fl_X12_103 v26 (fun _ => ?_)
        refine v_iload (pc := 534) (dk dt_X12_looks_7 19 rfl) rfl ?_
        refine v_iconst (pc := 536) (dk dt_X12_looks_7 20 rfl) ⟨by decide, by decide⟩ ?_
        obtain ⟨v27, h⟩ := h
        obtain ⟨v28, h⟩ := h
        obtain ⟨v29, h⟩ := h
        refine v_iast (pc := 537) (dk dt_X12_looks_7 21 rfl) v27 v28 v29 ?_
        generalize hG30 : (sel G (gfd G 12 40 l0) ((24 * l1) + l4) 1) = G30
        replace h := h G30 hG30.symm
        refine v_aload_n (pc := 538) (dk dt_X12_looks_7 22 rfl) rfl rfl ?_
        obtain ⟨v31, h⟩ := h
        refine v_getR (pc := 539) (dk dt_X12_looks_7 23 rfl) fl_X12_106 v31 (fun _ => ?_)
        refine v_iload (pc := 542) (dk dt_X12_looks_7 24 rfl) rfl ?_
        refine v_aload_n (pc := 544) (dk dt_X12_looks_7 25 rfl) rfl rfl ?_
        obtain ⟨v32, h⟩ := h
        refine v_getI (pc := 545) (dk dt_X12_looks_7 26 rfl) fl_X12_176 v32 (fun _ => ?_)
        obtain ⟨v33, h⟩ := h
        obtain ⟨v34, h⟩ := h
        obtain ⟨v35, h⟩ := h
        refine v_iast (pc := 548) (dk dt_X12_looks_7 27 rfl) v33 v34 v35 ?_
        generalize hG36 : (sel G30 (gfd G30 12 41 l0) ((24 * l1) + l4) (gfd G30 12 1 l0)) = G36
        replace h := h G36 hG36.symm
        obtain ⟨v37, h⟩ := h
        refine v_iinc (pc := 549) (ls' := [some (rv l0), some (iv l1), none, none, some (iv (l4 + 1)), some (iv ((24 * l1) + l4)), none, none, none]) (dk dt_X12_looks_7 28 rfl) (Nat.le_of_ble_eq_true rfl) rfl v37 rfl ?_
        refine v_goto (pc := 552) (tgt := 479) (dk dt_X12_looks_7 29 rfl) (by decide) ?_
        exact v_less2 (ls' := [some (rv l0), some (iv l1), none, none, some (iv (l4 + 1)), none, none, none, none]) ⟨rfl, rfl, rfl, trivial⟩ h
set_option maxRecDepth 20000 in
theorem b_X12_looks_558 {E : EE} {l0 l1 l4 : Int} {G : Gt} {c s : Nat} {Q X : Int → Gt → Prop} (h : (gcl G l0 = 13 ∧ gcl G (gfd G 12 38 l0) = 15 ∧ 0 ≤ l1 ∧ l1 < gln G (gfd G 12 38 l0) ∧ (((gel G (gfd G 12 38 l0) l1) ≤ l4 → Q 0 G) ∧ (l4 < (gel G (gfd G 12 38 l0) l1) → (i32 (24 * l1) ∧ i32 ((24 * l1) + l4) ∧ gcl G l0 = 13 ∧ gcl G (gfd G 12 40 l0) = 15 ∧ 0 ≤ ((24 * l1) + l4) ∧ ((24 * l1) + l4) < gln G (gfd G 12 40 l0) ∧ (((gel G (gfd G 12 40 l0) ((24 * l1) + l4)) ≠ 1 → (i32 (l4 + 1) ∧ V E M_X12_looks 558 [some (rv l0), some (iv l1), none, none, some (iv (l4 + 1)), none, none, none, none] [] G c s Q X)) ∧ ((gel G (gfd G 12 40 l0) ((24 * l1) + l4)) = 1 → (gcl G l0 = 13 ∧ gcl G (gfd G 12 43 l0) = 17 ∧ 0 ≤ ((24 * l1) + l4) ∧ ((24 * l1) + l4) < gln G (gfd G 12 43 l0) ∧ (((gel G (gfd G 12 43 l0) ((24 * l1) + l4)) ≠ 0 → (i32 (l4 + 1) ∧ V E M_X12_looks 558 [some (rv l0), some (iv l1), none, none, some (iv (l4 + 1)), none, none, none, none] [] G c s Q X)) ∧ ((gel G (gfd G 12 43 l0) ((24 * l1) + l4)) = 0 → (gcl G l0 = 13 ∧ gcl G (gfd G 12 39 l0) = 15 ∧ 0 ≤ ((24 * l1) + l4) ∧ ((24 * l1) + l4) < gln G (gfd G 12 39 l0) ∧ gcl G l0 = 13 ∧ Call E M_X12_isKept [rv l0, iv l1, iv (gel G (gfd G 12 39 l0) ((24 * l1) + l4))] G c s X (fun r25 G26 c27 s28 => ((r25 ≠ 0 → (i32 (l4 + 1) ∧ V E M_X12_looks 558 [some (rv l0), some (iv l1), none, none, some (iv (l4 + 1)), none, none, none, none] [] G26 c27 s28 Q X)) ∧ (r25 = 0 → (gcl G26 l0 = 13 ∧ gcl G26 (gfd G26 12 43 l0) = 17 ∧ 0 ≤ ((24 * l1) + l4) ∧ ((24 * l1) + l4) < gln G26 (gfd G26 12 43 l0) ∧ ∀ G35 : Gt, G35 = (sel G26 (gfd G26 12 43 l0) ((24 * l1) + l4) 1) → gcl G35 l0 = 13 ∧ ((60 ≤ (gfd G35 12 46 l0) → (gcl G35 l0 = 13 ∧ i32 ((gfd G35 12 46 l0) + 1) ∧ gcl G35 l0 = 13 ∧ ∀ G41 : Gt, G41 = (sfd G35 12 46 l0 ((gfd G35 12 46 l0) + 1)) → i32 (l4 + 1) ∧ V E M_X12_looks 558 [some (rv l0), some (iv l1), none, none, some (iv (l4 + 1)), none, none, none, none] [] G41 c27 s28 Q X)) ∧ ((gfd G35 12 46 l0) < 60 → (gcl G35 l0 = 13 ∧ gcl G35 l0 = 13 ∧ i32 (3 * (gfd G35 12 46 l0)) ∧ gcl G35 (gfd G35 12 47 l0) = 15 ∧ 0 ≤ (3 * (gfd G35 12 46 l0)) ∧ (3 * (gfd G35 12 46 l0)) < gln G35 (gfd G35 12 47 l0) ∧ ∀ G49 : Gt, G49 = (sel G35 (gfd G35 12 47 l0) (3 * (gfd G35 12 46 l0)) l1) → gcl G49 l0 = 13 ∧ gcl G49 l0 = 13 ∧ i32 (3 * (gfd G49 12 46 l0)) ∧ i32 ((3 * (gfd G49 12 46 l0)) + 1) ∧ gcl G49 l0 = 13 ∧ gcl G49 (gfd G49 12 39 l0) = 15 ∧ 0 ≤ ((24 * l1) + l4) ∧ ((24 * l1) + l4) < gln G49 (gfd G49 12 39 l0) ∧ gcl G49 (gfd G49 12 47 l0) = 15 ∧ 0 ≤ ((3 * (gfd G49 12 46 l0)) + 1) ∧ ((3 * (gfd G49 12 46 l0)) + 1) < gln G49 (gfd G49 12 47 l0) ∧ ∀ G61 : Gt, G61 = (sel G49 (gfd G49 12 47 l0) ((3 * (gfd G49 12 46 l0)) + 1) (gel G49 (gfd G49 12 39 l0) ((24 * l1) + l4))) → gcl G61 l0 = 13 ∧ gcl G61 l0 = 13 ∧ i32 (3 * (gfd G61 12 46 l0)) ∧ i32 ((3 * (gfd G61 12 46 l0)) + 2) ∧ gcl G61 l0 = 13 ∧ gcl G61 (gfd G61 12 47 l0) = 15 ∧ 0 ≤ ((3 * (gfd G61 12 46 l0)) + 2) ∧ ((3 * (gfd G61 12 46 l0)) + 2) < gln G61 (gfd G61 12 47 l0) ∧ ∀ G70 : Gt, G70 = (sel G61 (gfd G61 12 47 l0) ((3 * (gfd G61 12 46 l0)) + 2) (gfd G61 12 1 l0)) → gcl G70 l0 = 13 ∧ i32 ((gfd G70 12 46 l0) + 1) ∧ gcl G70 l0 = 13 ∧ ∀ G74 : Gt, G74 = (sfd G70 12 46 l0 ((gfd G70 12 46 l0) + 1)) → i32 (l4 + 1) ∧ V E M_X12_looks 558 [some (rv l0), some (iv l1), none, none, some (iv (l4 + 1)), none, none, none, none] [] G74 c27 s28 Q X)))))))))))))))))) : V E M_X12_looks 558 [some (rv l0), some (iv l1), none, none, some (iv l4), none, none, none, none] [] G c s Q X := by
  refine v_iload (pc := 558) (dk dt_X12_looks_7 32 rfl) rfl ?_
  refine v_aload_n (pc := 560) (dk dt_X12_looks_7 33 rfl) rfl rfl ?_
  obtain ⟨v1, h⟩ := h
  refine v_getR (pc := 561) (dk dt_X12_looks_7 34 rfl) fl_X12_97 v1 (fun _ => ?_)
  refine v_iload_n (pc := 564) (dk dt_X12_looks_7 35 rfl) rfl rfl ?_
  obtain ⟨v2, h⟩ := h
  obtain ⟨v3, h⟩ := h
  obtain ⟨v4, h⟩ := h
  refine v_iald (pc := 565) (dk dt_X12_looks_7 36 rfl) (Or.inl v2) v3 v4 (fun _ => ?_)
  refine v_icmp_ge (pc := 566) (tgt := 696) (dk dt_X12_looks_7 37 rfl) (by decide) (fun c5 => ?_) (fun c5 => ?_)
  · replace h := h.1 c5
    exact v_vret (pc := 696) (dk dt_X12_looks_9 32 rfl) rfl h
  · replace h := h.2 c5
    refine v_bipush (pc := 569) (dk dt_X12_looks_7 38 rfl) (by decide) ⟨by decide, by decide⟩ ?_
    refine v_iload_n (pc := 571) (dk dt_X12_looks_7 39 rfl) rfl rfl ?_
    obtain ⟨v6, h⟩ := h
    refine v_imul (pc := 572) (dk dt_X12_looks_8 0 rfl) v6 ?_
    refine v_iload (pc := 573) (dk dt_X12_looks_8 1 rfl) rfl ?_
    obtain ⟨v7, h⟩ := h
    refine v_iadd (pc := 575) (dk dt_X12_looks_8 2 rfl) v7 ?_
    refine v_istore (pc := 576) (ls' := [some (rv l0), some (iv l1), none, none, some (iv l4), some (iv ((24 * l1) + l4)), none, none, none]) (dk dt_X12_looks_8 3 rfl) (Nat.le_of_ble_eq_true rfl) rfl ?_
    refine v_aload_n (pc := 578) (dk dt_X12_looks_8 4 rfl) rfl rfl ?_
    obtain ⟨v8, h⟩ := h
    refine v_getR (pc := 579) (dk dt_X12_looks_8 5 rfl) fl_X12_103 v8 (fun _ => ?_)
    refine v_iload (pc := 582) (dk dt_X12_looks_8 6 rfl) rfl ?_
    obtain ⟨v9, h⟩ := h
    obtain ⟨v10, h⟩ := h
    obtain ⟨v11, h⟩ := h
    refine v_iald (pc := 584) (dk dt_X12_looks_8 7 rfl) (Or.inl v9) v10 v11 (fun _ => ?_)
    refine v_iconst (pc := 585) (dk dt_X12_looks_8 8 rfl) ⟨by decide, by decide⟩ ?_
    refine v_icmp_ne (pc := 586) (tgt := 690) (dk dt_X12_looks_8 9 rfl) (by decide) (fun c12 => ?_) (fun c12 => ?_)
    · replace h := h.1 c12
      obtain ⟨v13, h⟩ := h
      refine v_iinc (pc := 690) (ls' := [some (rv l0), some (iv l1), none, none, some (iv (l4 + 1)), some (iv ((24 * l1) + l4)), none, none, none]) (dk dt_X12_looks_9 30 rfl) (Nat.le_of_ble_eq_true rfl) rfl v13 rfl ?_
      refine v_goto (pc := 693) (tgt := 558) (dk dt_X12_looks_9 31 rfl) (by decide) ?_
      exact v_less2 (ls' := [some (rv l0), some (iv l1), none, none, some (iv (l4 + 1)), none, none, none, none]) ⟨rfl, rfl, rfl, trivial⟩ h
    · replace h := h.2 c12
      refine v_aload_n (pc := 589) (dk dt_X12_looks_8 10 rfl) rfl rfl ?_
      obtain ⟨v14, h⟩ := h
      refine v_getR (pc := 590) (dk dt_X12_looks_8 11 rfl) fl_X12_112 v14 (fun _ => ?_)
      refine v_iload (pc := 593) (dk dt_X12_looks_8 12 rfl) rfl ?_
      obtain ⟨v15, h⟩ := h
      obtain ⟨v16, h⟩ := h
      obtain ⟨v17, h⟩ := h
      refine v_zald (pc := 595) (dk dt_X12_looks_8 13 rfl) v15 v16 v17 (fun _ => ?_)
      refine v_if_ne (pc := 596) (tgt := 690) (dk dt_X12_looks_8 14 rfl) (by decide) (fun c18 => ?_) (fun c18 => ?_)
      · replace h := h.1 c18
        obtain ⟨v19, h⟩ := h
        refine v_iinc (pc := 690) (ls' := [some (rv l0), some (iv l1), none, none, some (iv (l4 + 1)), some (iv ((24 * l1) + l4)), none, none, none]) (dk dt_X12_looks_9 30 rfl) (Nat.le_of_ble_eq_true rfl) rfl v19 rfl ?_
        refine v_goto (pc := 693) (tgt := 558) (dk dt_X12_looks_9 31 rfl) (by decide) ?_
        exact v_less2 (ls' := [some (rv l0), some (iv l1), none, none, some (iv (l4 + 1)), none, none, none, none]) ⟨rfl, rfl, rfl, trivial⟩ h
      · replace h := h.2 c18
        refine v_aload_n (pc := 599) (dk dt_X12_looks_8 15 rfl) rfl rfl ?_
        refine v_iload_n (pc := 600) (dk dt_X12_looks_8 16 rfl) rfl rfl ?_
        refine v_aload_n (pc := 601) (dk dt_X12_looks_8 17 rfl) rfl rfl ?_
        obtain ⟨v20, h⟩ := h
        refine v_getR (pc := 602) (dk dt_X12_looks_8 18 rfl) fl_X12_100 v20 (fun _ => ?_)
        refine v_iload (pc := 605) (dk dt_X12_looks_8 19 rfl) rfl ?_
        obtain ⟨v21, h⟩ := h
        obtain ⟨v22, h⟩ := h
        obtain ⟨v23, h⟩ := h
        refine v_iald (pc := 607) (dk dt_X12_looks_8 20 rfl) (Or.inl v21) v22 v23 (fun _ => ?_)
        obtain ⟨v24, h⟩ := h
        refine v_cvZ (c := 12) (As := [iv l1, iv (gel G (gfd G 12 39 l0) ((24 * l1) + l4))]) (stk := []) (pc := 608) (dk dt_X12_looks_8 21 rfl) ml_X12_321 rfl rfl (Nat.le_of_ble_eq_true rfl) rfl ⟨by decide, rfl⟩ v24 rfl (Call.mono h (fun r25 G26 c27 s28 h => ?_))
        refine v_if_ne (pc := 611) (tgt := 690) (dk dt_X12_looks_8 22 rfl) (by decide) (fun c29 => ?_) (fun c29 => ?_)
        · replace h := h.1 c29
          obtain ⟨v30, h⟩ := h
          refine v_iinc (pc := 690) (ls' := [some (rv l0), some (iv l1), none, none, some (iv (l4 + 1)), some (iv ((24 * l1) + l4)), none, none, none]) (dk dt_X12_looks_9 30 rfl) (Nat.le_of_ble_eq_true rfl) rfl v30 rfl ?_
          refine v_goto (pc := 693) (tgt := 558) (dk dt_X12_looks_9 31 rfl) (by decide) ?_
          exact v_less2 (ls' := [some (rv l0), some (iv l1), none, none, some (iv (l4 + 1)), none, none, none, none]) ⟨rfl, rfl, rfl, trivial⟩ h
        · replace h := h.2 c29
          refine v_aload_n (pc := 614) (dk dt_X12_looks_8 23 rfl) rfl rfl ?_
          obtain ⟨v31, h⟩ := h
          refine v_getR (pc := 615) (dk dt_X12_looks_8 24 rfl) fl_X12_112 v31 (fun _ => ?_)
          refine v_iload (pc := 618) (dk dt_X12_looks_8 25 rfl) rfl ?_
          refine v_iconst (pc := 620) (dk dt_X12_looks_8 26 rfl) ⟨by decide, by decide⟩ ?_
          obtain ⟨v32, h⟩ := h
          obtain ⟨v33, h⟩ := h
          obtain ⟨v34, h⟩ := h
          refine v_zast (pc := 621) (dk dt_X12_looks_8 27 rfl) v32 v33 v34 (Or.inr rfl) ?_
          generalize hG35 : (sel G26 (gfd G26 12 43 l0) ((24 * l1) + l4) 1) = G35
          replace h := h G35 hG35.symm
          refine v_aload_n (pc := 622) (dk dt_X12_looks_8 28 rfl) rfl rfl ?_
          obtain ⟨v36, h⟩ := h
          refine v_getI (pc := 623) (dk dt_X12_looks_8 29 rfl) fl_X12_324 v36 (fun _ => ?_)
          refine v_bipush (pc := 626) (dk dt_X12_looks_8 30 rfl) (by decide) ⟨by decide, by decide⟩ ?_
          refine v_icmp_ge (pc := 628) (tgt := 680) (dk dt_X12_looks_8 31 rfl) (by decide) (fun c37 => ?_) (fun c37 => ?_)
          · replace h := h.1 c37
            refine v_aload_n (pc := 680) (dk dt_X12_looks_9 24 rfl) rfl rfl ?_
            refine v_dup (pc := 681) (dk dt_X12_looks_9 25 rfl) (by intro h9; cases h9) ?_
            obtain ⟨v38, h⟩ := h
            refine v_getI (pc := 682) (dk dt_X12_looks_9 26 rfl) fl_X12_324 v38 (fun _ => ?_)
            refine v_iconst (pc := 685) (dk dt_X12_looks_9 27 rfl) ⟨by decide, by decide⟩ ?_
            obtain ⟨v39, h⟩ := h
            refine v_iadd (pc := 686) (dk dt_X12_looks_9 28 rfl) v39 ?_
            obtain ⟨v40, h⟩ := h
            refine v_putI (pc := 687) (dk dt_X12_looks_9 29 rfl) fl_X12_324 (Or.inl rfl) v40 ?_
            generalize hG41 : (sfd G35 12 46 l0 ((gfd G35 12 46 l0) + 1)) = G41
            replace h := h G41 hG41.symm
            obtain ⟨v42, h⟩ := h
            refine v_iinc (pc := 690) (ls' := [some (rv l0), some (iv l1), none, none, some (iv (l4 + 1)), some (iv ((24 * l1) + l4)), none, none, none]) (dk dt_X12_looks_9 30 rfl) (Nat.le_of_ble_eq_true rfl) rfl v42 rfl ?_
            refine v_goto (pc := 693) (tgt := 558) (dk dt_X12_looks_9 31 rfl) (by decide) ?_
            exact v_less2 (ls' := [some (rv l0), some (iv l1), none, none, some (iv (l4 + 1)), none, none, none, none]) ⟨rfl, rfl, rfl, trivial⟩ h
          · replace h := h.2 c37
            refine v_aload_n (pc := 631) (dk dt_X12_looks_8 32 rfl) rfl rfl ?_
            obtain ⟨v43, h⟩ := h
            refine v_getR (pc := 632) (dk dt_X12_looks_8 33 rfl) fl_X12_118 v43 (fun _ => ?_)
            refine v_iconst (pc := 635) (dk dt_X12_looks_8 34 rfl) ⟨by decide, by decide⟩ ?_
            refine v_aload_n (pc := 636) (dk dt_X12_looks_8 35 rfl) rfl rfl ?_
            obtain ⟨v44, h⟩ := h
            refine v_getI (pc := 637) (dk dt_X12_looks_8 36 rfl) fl_X12_324 v44 (fun _ => ?_)
            obtain ⟨v45, h⟩ := h
            refine v_imul (pc := 640) (dk dt_X12_looks_8 37 rfl) v45 ?_
            refine v_iload_n (pc := 641) (dk dt_X12_looks_8 38 rfl) rfl rfl ?_
            obtain ⟨v46, h⟩ := h
            obtain ⟨v47, h⟩ := h
            obtain ⟨v48, h⟩ := h
            refine v_iast (pc := 642) (dk dt_X12_looks_8 39 rfl) v46 v47 v48 ?_
            generalize hG49 : (sel G35 (gfd G35 12 47 l0) (3 * (gfd G35 12 46 l0)) l1) = G49
            replace h := h G49 hG49.symm
            refine v_aload_n (pc := 643) (dk dt_X12_looks_9 0 rfl) rfl rfl ?_
            obtain ⟨v50, h⟩ := h
            refine v_getR (pc := 644) (dk dt_X12_looks_9 1 rfl) fl_X12_118 v50 (fun _ => ?_)
            refine v_iconst (pc := 647) (dk dt_X12_looks_9 2 rfl) ⟨by decide, by decide⟩ ?_
            refine v_aload_n (pc := 648) (dk dt_X12_looks_9 3 rfl) rfl rfl ?_
            obtain ⟨v51, h⟩ := h
            refine v_getI (pc := 649) (dk dt_X12_looks_9 4 rfl) fl_X12_324 v51 (fun _ => ?_)
            obtain ⟨v52, h⟩ := h
            refine v_imul (pc := 652) (dk dt_X12_looks_9 5 rfl) v52 ?_
            refine v_iconst (pc := 653) (dk dt_X12_looks_9 6 rfl) ⟨by decide, by decide⟩ ?_
            obtain ⟨v53, h⟩ := h
            refine v_iadd (pc := 654) (dk dt_X12_looks_9 7 rfl) v53 ?_
            refine v_aload_n (pc := 655) (dk dt_X12_looks_9 8 rfl) rfl rfl ?_
            obtain ⟨v54, h⟩ := h
            refine v_getR (pc := 656) (dk dt_X12_looks_9 9 rfl) fl_X12_100 v54 (fun _ => ?_)
            refine v_iload (pc := 659) (dk dt_X12_looks_9 10 rfl) rfl ?_
            obtain ⟨v55, h⟩ := h
            obtain ⟨v56, h⟩ := h
            obtain ⟨v57, h⟩ := h
            refine v_iald (pc := 661) (dk dt_X12_looks_9 11 rfl) (Or.inl v55) v56 v57 (fun _ => ?_)
            obtain ⟨v58, h⟩ := h
            obtain ⟨v59, h⟩ := h
            obtain ⟨v60, h⟩ := h
            refine v_iast (pc := 662) (dk dt_X12_looks_9 12 rfl) v58 v59 v60 ?_
            generalize hG61 : (sel G49 (gfd G49 12 47 l0) ((3 * (gfd G49 12 46 l0)) + 1) (gel G49 (gfd G49 12 39 l0) ((24 * l1) + l4))) = G61
            replace h := h G61 hG61.symm
            refine v_aload_n (pc := 663) (dk dt_X12_looks_9 13 rfl) rfl rfl ?_
            obtain ⟨v62, h⟩ := h
            refine v_getR (pc := 664) (dk dt_X12_looks_9 14 rfl) fl_X12_118 v62 (fun _ => ?_)
            refine v_iconst (pc := 667) (dk dt_X12_looks_9 15 rfl) ⟨by decide, by decide⟩ ?_
            refine v_aload_n (pc := 668) (dk dt_X12_looks_9 16 rfl) rfl rfl ?_
            obtain ⟨v63, h⟩ := h
            refine v_getI (pc := 669) (dk dt_X12_looks_9 17 rfl) fl_X12_324 v63 (fun _ => ?_)
            obtain ⟨v64, h⟩ := h
            refine v_imul (pc := 672) (dk dt_X12_looks_9 18 rfl) v64 ?_
            refine v_iconst (pc := 673) (dk dt_X12_looks_9 19 rfl) ⟨by decide, by decide⟩ ?_
            obtain ⟨v65, h⟩ := h
            refine v_iadd (pc := 674) (dk dt_X12_looks_9 20 rfl) v65 ?_
            refine v_aload_n (pc := 675) (dk dt_X12_looks_9 21 rfl) rfl rfl ?_
            obtain ⟨v66, h⟩ := h
            refine v_getI (pc := 676) (dk dt_X12_looks_9 22 rfl) fl_X12_176 v66 (fun _ => ?_)
            obtain ⟨v67, h⟩ := h
            obtain ⟨v68, h⟩ := h
            obtain ⟨v69, h⟩ := h
            refine v_iast (pc := 679) (dk dt_X12_looks_9 23 rfl) v67 v68 v69 ?_
            generalize hG70 : (sel G61 (gfd G61 12 47 l0) ((3 * (gfd G61 12 46 l0)) + 2) (gfd G61 12 1 l0)) = G70
            replace h := h G70 hG70.symm
            refine v_aload_n (pc := 680) (dk dt_X12_looks_9 24 rfl) rfl rfl ?_
            refine v_dup (pc := 681) (dk dt_X12_looks_9 25 rfl) (by intro h9; cases h9) ?_
            obtain ⟨v71, h⟩ := h
            refine v_getI (pc := 682) (dk dt_X12_looks_9 26 rfl) fl_X12_324 v71 (fun _ => ?_)
            refine v_iconst (pc := 685) (dk dt_X12_looks_9 27 rfl) ⟨by decide, by decide⟩ ?_
            obtain ⟨v72, h⟩ := h
            refine v_iadd (pc := 686) (dk dt_X12_looks_9 28 rfl) v72 ?_
            obtain ⟨v73, h⟩ := h
            refine v_putI (pc := 687) (dk dt_X12_looks_9 29 rfl) fl_X12_324 (Or.inl rfl) v73 ?_
            generalize hG74 : (sfd G70 12 46 l0 ((gfd G70 12 46 l0) + 1)) = G74
            replace h := h G74 hG74.symm
            obtain ⟨v75, h⟩ := h
            refine v_iinc (pc := 690) (ls' := [some (rv l0), some (iv l1), none, none, some (iv (l4 + 1)), some (iv ((24 * l1) + l4)), none, none, none]) (dk dt_X12_looks_9 30 rfl) (Nat.le_of_ble_eq_true rfl) rfl v75 rfl ?_
            refine v_goto (pc := 693) (tgt := 558) (dk dt_X12_looks_9 31 rfl) (by decide) ?_
            exact v_less2 (ls' := [some (rv l0), some (iv l1), none, none, some (iv (l4 + 1)), none, none, none, none]) ⟨rfl, rfl, rfl, trivial⟩ h
set_option maxRecDepth 20000 in
theorem b_X12_moves_0 {E : EE} {l0 l1 l2 : Int} {G : Gt} {c s : Nat} {Q X : Int → Gt → Prop} (h : (gcl G l0 = 13 ∧ gcl G l0 = 13 ∧ gcl G (gfd G 12 39 l0) = 15 ∧ 0 ≤ l2 ∧ l2 < gln G (gfd G 12 39 l0) ∧ gcl G (gfd G 12 39 l0) = 15 ∧ 0 ≤ l1 ∧ l1 < gln G (gfd G 12 39 l0) ∧ ∀ G9 : Gt, G9 = (sel G (gfd G 12 39 l0) l1 (gel G (gfd G 12 39 l0) l2)) → gcl G9 l0 = 13 ∧ gcl G9 l0 = 13 ∧ gcl G9 (gfd G9 12 40 l0) = 15 ∧ 0 ≤ l2 ∧ l2 < gln G9 (gfd G9 12 40 l0) ∧ gcl G9 (gfd G9 12 40 l0) = 15 ∧ 0 ≤ l1 ∧ l1 < gln G9 (gfd G9 12 40 l0) ∧ ∀ G18 : Gt, G18 = (sel G9 (gfd G9 12 40 l0) l1 (gel G9 (gfd G9 12 40 l0) l2)) → gcl G18 l0 = 13 ∧ gcl G18 l0 = 13 ∧ gcl G18 (gfd G18 12 41 l0) = 15 ∧ 0 ≤ l2 ∧ l2 < gln G18 (gfd G18 12 41 l0) ∧ gcl G18 (gfd G18 12 41 l0) = 15 ∧ 0 ≤ l1 ∧ l1 < gln G18 (gfd G18 12 41 l0) ∧ ∀ G27 : Gt, G27 = (sel G18 (gfd G18 12 41 l0) l1 (gel G18 (gfd G18 12 41 l0) l2)) → gcl G27 l0 = 13 ∧ gcl G27 l0 = 13 ∧ gcl G27 (gfd G27 12 42 l0) = 15 ∧ 0 ≤ l2 ∧ l2 < gln G27 (gfd G27 12 42 l0) ∧ gcl G27 (gfd G27 12 42 l0) = 15 ∧ 0 ≤ l1 ∧ l1 < gln G27 (gfd G27 12 42 l0) ∧ ∀ G36 : Gt, G36 = (sel G27 (gfd G27 12 42 l0) l1 (gel G27 (gfd G27 12 42 l0) l2)) → gcl G36 l0 = 13 ∧ gcl G36 l0 = 13 ∧ gcl G36 (gfd G36 12 43 l0) = 17 ∧ 0 ≤ l2 ∧ l2 < gln G36 (gfd G36 12 43 l0) ∧ gcl G36 (gfd G36 12 43 l0) = 17 ∧ 0 ≤ l1 ∧ l1 < gln G36 (gfd G36 12 43 l0) ∧ ((gel G36 (gfd G36 12 43 l0) l2) = 0 ∨ (gel G36 (gfd G36 12 43 l0) l2) = 1) ∧ ∀ G46 : Gt, G46 = (sel G36 (gfd G36 12 43 l0) l1 (gel G36 (gfd G36 12 43 l0) l2)) → Q 0 G46)) : V E M_X12_moves 0 [some (rv l0), some (iv l1), some (iv l2)] [] G c s Q X := by
  refine v_aload_n (pc := 0) (dk dt_X12_moves 0 rfl) rfl rfl ?_
  obtain ⟨v1, h⟩ := h
  refine v_getR (pc := 1) (dk dt_X12_moves 1 rfl) fl_X12_100 v1 (fun _ => ?_)
  refine v_iload_n (pc := 4) (dk dt_X12_moves 2 rfl) rfl rfl ?_
  refine v_aload_n (pc := 5) (dk dt_X12_moves 3 rfl) rfl rfl ?_
  obtain ⟨v2, h⟩ := h
  refine v_getR (pc := 6) (dk dt_X12_moves 4 rfl) fl_X12_100 v2 (fun _ => ?_)
  refine v_iload_n (pc := 9) (dk dt_X12_moves 5 rfl) rfl rfl ?_
  obtain ⟨v3, h⟩ := h
  obtain ⟨v4, h⟩ := h
  obtain ⟨v5, h⟩ := h
  refine v_iald (pc := 10) (dk dt_X12_moves 6 rfl) (Or.inl v3) v4 v5 (fun _ => ?_)
  obtain ⟨v6, h⟩ := h
  obtain ⟨v7, h⟩ := h
  obtain ⟨v8, h⟩ := h
  refine v_iast (pc := 11) (dk dt_X12_moves 7 rfl) v6 v7 v8 ?_
  generalize hG9 : (sel G (gfd G 12 39 l0) l1 (gel G (gfd G 12 39 l0) l2)) = G9
  replace h := h G9 hG9.symm
  refine v_aload_n (pc := 12) (dk dt_X12_moves 8 rfl) rfl rfl ?_
  obtain ⟨v10, h⟩ := h
  refine v_getR (pc := 13) (dk dt_X12_moves 9 rfl) fl_X12_103 v10 (fun _ => ?_)
  refine v_iload_n (pc := 16) (dk dt_X12_moves 10 rfl) rfl rfl ?_
  refine v_aload_n (pc := 17) (dk dt_X12_moves 11 rfl) rfl rfl ?_
  obtain ⟨v11, h⟩ := h
  refine v_getR (pc := 18) (dk dt_X12_moves 12 rfl) fl_X12_103 v11 (fun _ => ?_)
  refine v_iload_n (pc := 21) (dk dt_X12_moves 13 rfl) rfl rfl ?_
  obtain ⟨v12, h⟩ := h
  obtain ⟨v13, h⟩ := h
  obtain ⟨v14, h⟩ := h
  refine v_iald (pc := 22) (dk dt_X12_moves 14 rfl) (Or.inl v12) v13 v14 (fun _ => ?_)
  obtain ⟨v15, h⟩ := h
  obtain ⟨v16, h⟩ := h
  obtain ⟨v17, h⟩ := h
  refine v_iast (pc := 23) (dk dt_X12_moves 15 rfl) v15 v16 v17 ?_
  generalize hG18 : (sel G9 (gfd G9 12 40 l0) l1 (gel G9 (gfd G9 12 40 l0) l2)) = G18
  replace h := h G18 hG18.symm
  refine v_aload_n (pc := 24) (dk dt_X12_moves 16 rfl) rfl rfl ?_
  obtain ⟨v19, h⟩ := h
  refine v_getR (pc := 25) (dk dt_X12_moves 17 rfl) fl_X12_106 v19 (fun _ => ?_)
  refine v_iload_n (pc := 28) (dk dt_X12_moves 18 rfl) rfl rfl ?_
  refine v_aload_n (pc := 29) (dk dt_X12_moves 19 rfl) rfl rfl ?_
  obtain ⟨v20, h⟩ := h
  refine v_getR (pc := 30) (dk dt_X12_moves 20 rfl) fl_X12_106 v20 (fun _ => ?_)
  refine v_iload_n (pc := 33) (dk dt_X12_moves 21 rfl) rfl rfl ?_
  obtain ⟨v21, h⟩ := h
  obtain ⟨v22, h⟩ := h
  obtain ⟨v23, h⟩ := h
  refine v_iald (pc := 34) (dk dt_X12_moves 22 rfl) (Or.inl v21) v22 v23 (fun _ => ?_)
  obtain ⟨v24, h⟩ := h
  obtain ⟨v25, h⟩ := h
  obtain ⟨v26, h⟩ := h
  refine v_iast (pc := 35) (dk dt_X12_moves 23 rfl) v24 v25 v26 ?_
  generalize hG27 : (sel G18 (gfd G18 12 41 l0) l1 (gel G18 (gfd G18 12 41 l0) l2)) = G27
  replace h := h G27 hG27.symm
  refine v_aload_n (pc := 36) (dk dt_X12_moves 24 rfl) rfl rfl ?_
  obtain ⟨v28, h⟩ := h
  refine v_getR (pc := 37) (dk dt_X12_moves 25 rfl) fl_X12_109 v28 (fun _ => ?_)
  refine v_iload_n (pc := 40) (dk dt_X12_moves 26 rfl) rfl rfl ?_
  refine v_aload_n (pc := 41) (dk dt_X12_moves 27 rfl) rfl rfl ?_
  obtain ⟨v29, h⟩ := h
  refine v_getR (pc := 42) (dk dt_X12_moves 28 rfl) fl_X12_109 v29 (fun _ => ?_)
  refine v_iload_n (pc := 45) (dk dt_X12_moves 29 rfl) rfl rfl ?_
  obtain ⟨v30, h⟩ := h
  obtain ⟨v31, h⟩ := h
  obtain ⟨v32, h⟩ := h
  refine v_iald (pc := 46) (dk dt_X12_moves 30 rfl) (Or.inl v30) v31 v32 (fun _ => ?_)
  obtain ⟨v33, h⟩ := h
  obtain ⟨v34, h⟩ := h
  obtain ⟨v35, h⟩ := h
  refine v_iast (pc := 47) (dk dt_X12_moves 31 rfl) v33 v34 v35 ?_
  generalize hG36 : (sel G27 (gfd G27 12 42 l0) l1 (gel G27 (gfd G27 12 42 l0) l2)) = G36
  replace h := h G36 hG36.symm
  refine v_aload_n (pc := 48) (dk dt_X12_moves 32 rfl) rfl rfl ?_
  obtain ⟨v37, h⟩ := h
  refine v_getR (pc := 49) (dk dt_X12_moves 33 rfl) fl_X12_112 v37 (fun _ => ?_)
  refine v_iload_n (pc := 52) (dk dt_X12_moves 34 rfl) rfl rfl ?_
  refine v_aload_n (pc := 53) (dk dt_X12_moves 35 rfl) rfl rfl ?_
  obtain ⟨v38, h⟩ := h
  refine v_getR (pc := 54) (dk dt_X12_moves 36 rfl) fl_X12_112 v38 (fun _ => ?_)
  refine v_iload_n (pc := 57) (dk dt_X12_moves 37 rfl) rfl rfl ?_
  obtain ⟨v39, h⟩ := h
  obtain ⟨v40, h⟩ := h
  obtain ⟨v41, h⟩ := h
  refine v_zald (pc := 58) (dk dt_X12_moves 38 rfl) v39 v40 v41 (fun _ => ?_)
  obtain ⟨v42, h⟩ := h
  obtain ⟨v43, h⟩ := h
  obtain ⟨v44, h⟩ := h
  obtain ⟨v45, h⟩ := h
  refine v_zast (pc := 59) (dk dt_X12_moves 39 rfl) v42 v43 v44 v45 ?_
  generalize hG46 : (sel G36 (gfd G36 12 43 l0) l1 (gel G36 (gfd G36 12 43 l0) l2)) = G46
  replace h := h G46 hG46.symm
  exact v_vret (pc := 60) (dk dt_X12_moves_1 0 rfl) rfl h
set_option maxRecDepth 20000 in
theorem i_X12_moves {E : EE} {l0 l1 l2 : Int} {G : Gt} {c s : Nat} {Q X : Int → Gt → Prop} (h : (gcl G l0 = 13 ∧ gcl G l0 = 13 ∧ gcl G (gfd G 12 39 l0) = 15 ∧ 0 ≤ l2 ∧ l2 < gln G (gfd G 12 39 l0) ∧ gcl G (gfd G 12 39 l0) = 15 ∧ 0 ≤ l1 ∧ l1 < gln G (gfd G 12 39 l0) ∧ ∀ G9 : Gt, G9 = (sel G (gfd G 12 39 l0) l1 (gel G (gfd G 12 39 l0) l2)) → gcl G9 l0 = 13 ∧ gcl G9 l0 = 13 ∧ gcl G9 (gfd G9 12 40 l0) = 15 ∧ 0 ≤ l2 ∧ l2 < gln G9 (gfd G9 12 40 l0) ∧ gcl G9 (gfd G9 12 40 l0) = 15 ∧ 0 ≤ l1 ∧ l1 < gln G9 (gfd G9 12 40 l0) ∧ ∀ G18 : Gt, G18 = (sel G9 (gfd G9 12 40 l0) l1 (gel G9 (gfd G9 12 40 l0) l2)) → gcl G18 l0 = 13 ∧ gcl G18 l0 = 13 ∧ gcl G18 (gfd G18 12 41 l0) = 15 ∧ 0 ≤ l2 ∧ l2 < gln G18 (gfd G18 12 41 l0) ∧ gcl G18 (gfd G18 12 41 l0) = 15 ∧ 0 ≤ l1 ∧ l1 < gln G18 (gfd G18 12 41 l0) ∧ ∀ G27 : Gt, G27 = (sel G18 (gfd G18 12 41 l0) l1 (gel G18 (gfd G18 12 41 l0) l2)) → gcl G27 l0 = 13 ∧ gcl G27 l0 = 13 ∧ gcl G27 (gfd G27 12 42 l0) = 15 ∧ 0 ≤ l2 ∧ l2 < gln G27 (gfd G27 12 42 l0) ∧ gcl G27 (gfd G27 12 42 l0) = 15 ∧ 0 ≤ l1 ∧ l1 < gln G27 (gfd G27 12 42 l0) ∧ ∀ G36 : Gt, G36 = (sel G27 (gfd G27 12 42 l0) l1 (gel G27 (gfd G27 12 42 l0) l2)) → gcl G36 l0 = 13 ∧ gcl G36 l0 = 13 ∧ gcl G36 (gfd G36 12 43 l0) = 17 ∧ 0 ≤ l2 ∧ l2 < gln G36 (gfd G36 12 43 l0) ∧ gcl G36 (gfd G36 12 43 l0) = 17 ∧ 0 ≤ l1 ∧ l1 < gln G36 (gfd G36 12 43 l0) ∧ ((gel G36 (gfd G36 12 43 l0) l2) = 0 ∨ (gel G36 (gfd G36 12 43 l0) l2) = 1) ∧ ∀ G46 : Gt, G46 = (sel G36 (gfd G36 12 43 l0) l1 (gel G36 (gfd G36 12 43 l0) l2)) → Q 0 G46)) : Ok E M_X12_moves [rv l0, iv l1, iv l2] G c s Q X := Ok.intro (k := 0) rfl rfl (Nat.le_of_ble_eq_true rfl) rfl (b_X12_moves_0 h)
set_option maxRecDepth 20000 in
theorem b_X12_isKept_0 {E : EE} {l0 l1 l2 : Int} {G : Gt} {c s : Nat} {Q X : Int → Gt → Prop} (h : (gcl G l0 = 13 ∧ gcl G (gfd G 12 28 l0) = 15 ∧ 0 ≤ l1 ∧ l1 < gln G (gfd G 12 28 l0) ∧ V E M_X12_isKept 13 [some (rv l0), none, some (iv l2), some (iv 0), some (iv (gel G (gfd G 12 28 l0) l1)), some (iv 0)] [] G c s Q X)) : V E M_X12_isKept 0 [some (rv l0), some (iv l1), some (iv l2), none, none, none] [] G c s Q X := by
  refine v_iconst (pc := 0) (dk dt_X12_isKept 0 rfl) ⟨by decide, by decide⟩ ?_
  refine v_istore_n (pc := 1) (ls' := [some (rv l0), some (iv l1), some (iv l2), some (iv 0), none, none]) (dk dt_X12_isKept 1 rfl) rfl (Nat.le_of_ble_eq_true rfl) rfl ?_
  refine v_aload_n (pc := 2) (dk dt_X12_isKept 2 rfl) rfl rfl ?_
  obtain ⟨v1, h⟩ := h
  refine v_getR (pc := 3) (dk dt_X12_isKept 3 rfl) fl_X12_75 v1 (fun _ => ?_)
  refine v_iload_n (pc := 6) (dk dt_X12_isKept 4 rfl) rfl rfl ?_
  obtain ⟨v2, h⟩ := h
  obtain ⟨v3, h⟩ := h
  obtain ⟨v4, h⟩ := h
  refine v_iald (pc := 7) (dk dt_X12_isKept 5 rfl) (Or.inl v2) v3 v4 (fun _ => ?_)
  refine v_istore (pc := 8) (ls' := [some (rv l0), some (iv l1), some (iv l2), some (iv 0), some (iv (gel G (gfd G 12 28 l0) l1)), none]) (dk dt_X12_isKept 6 rfl) (Nat.le_of_ble_eq_true rfl) rfl ?_
  refine v_iconst (pc := 10) (dk dt_X12_isKept 7 rfl) ⟨by decide, by decide⟩ ?_
  refine v_istore (pc := 11) (ls' := [some (rv l0), some (iv l1), some (iv l2), some (iv 0), some (iv (gel G (gfd G 12 28 l0) l1)), some (iv 0)]) (dk dt_X12_isKept 8 rfl) (Nat.le_of_ble_eq_true rfl) rfl ?_
  exact v_less2 (ls' := [some (rv l0), none, some (iv l2), some (iv 0), some (iv (gel G (gfd G 12 28 l0) l1)), some (iv 0)]) ⟨rfl, rfl, rfl, rfl, rfl, trivial⟩ h
set_option maxRecDepth 20000 in
theorem i_X12_isKept {E : EE} {l0 l1 l2 : Int} {G : Gt} {c s : Nat} {Q X : Int → Gt → Prop} (h : (gcl G l0 = 13 ∧ gcl G (gfd G 12 28 l0) = 15 ∧ 0 ≤ l1 ∧ l1 < gln G (gfd G 12 28 l0) ∧ V E M_X12_isKept 13 [some (rv l0), none, some (iv l2), some (iv 0), some (iv (gel G (gfd G 12 28 l0) l1)), some (iv 0)] [] G c s Q X)) : Ok E M_X12_isKept [rv l0, iv l1, iv l2] G c s Q X := Ok.intro (k := 3) rfl rfl (Nat.le_of_ble_eq_true rfl) rfl (b_X12_isKept_0 h)
set_option maxRecDepth 20000 in
theorem b_X12_isKept_13 {E : EE} {l0 l2 l3 l4 l5 : Int} {G : Gt} {c s : Nat} {Q X : Int → Gt → Prop} (h : ((l4 = (-1) → V E M_X12_isKept 90 [some (rv l0), none, some (iv l2), some (iv l3), none, some (iv 0)] [] G c s Q X) ∧ (l4 ≠ (-1) → (gcl G l0 = 13 ∧ gcl G (gfd G 12 38 l0) = 15 ∧ 0 ≤ l4 ∧ l4 < gln G (gfd G 12 38 l0) ∧ (((gel G (gfd G 12 38 l0) l4) ≤ l5 → V E M_X12_isKept 90 [some (rv l0), none, some (iv l2), some (iv l3), none, some (iv 0)] [] G c s Q X) ∧ (l5 < (gel G (gfd G 12 38 l0) l4) → ((l3 = 0 → gcl G l0 = 13) ∧ (l3 = 0 → i32 (24 * l4)) ∧ (l3 = 0 → i32 ((24 * l4) + l5)) ∧ (l3 = 0 → gcl G (gfd G 12 40 l0) = 15) ∧ (l3 = 0 → 0 ≤ ((24 * l4) + l5)) ∧ (l3 = 0 → ((24 * l4) + l5) < gln G (gfd G 12 40 l0)) ∧ (l3 = 0 → (gel G (gfd G 12 40 l0) ((24 * l4) + l5)) = 1 → gcl G l0 = 13) ∧ (l3 = 0 → (gel G (gfd G 12 40 l0) ((24 * l4) + l5)) = 1 → i32 (24 * l4)) ∧ (l3 = 0 → (gel G (gfd G 12 40 l0) ((24 * l4) + l5)) = 1 → i32 ((24 * l4) + l5)) ∧ (l3 = 0 → (gel G (gfd G 12 40 l0) ((24 * l4) + l5)) = 1 → gcl G (gfd G 12 39 l0) = 15) ∧ (l3 = 0 → (gel G (gfd G 12 40 l0) ((24 * l4) + l5)) = 1 → 0 ≤ ((24 * l4) + l5)) ∧ (l3 = 0 → (gel G (gfd G 12 40 l0) ((24 * l4) + l5)) = 1 → ((24 * l4) + l5) < gln G (gfd G 12 39 l0)) ∧ i32 (l5 + 1) ∧ V E M_X12_isKept 13 [some (rv l0), none, some (iv l2), some (iv (if l3 = 0 then ((if (gel G (gfd G 12 40 l0) ((24 * l4) + l5)) = 1 then ((if (Int.tdiv (gel G (gfd G 12 39 l0) ((24 * l4) + l5)) 100) = (Int.tdiv l2 100) then (1 : Int) else 0) : Int) else 0) : Int) else 1)), some (iv l4), some (iv (l5 + 1))] [] G c s Q X))))))) : V E M_X12_isKept 13 [some (rv l0), none, some (iv l2), some (iv l3), some (iv l4), some (iv l5)] [] G c s Q X := by
  refine v_iload (pc := 13) (dk dt_X12_isKept 9 rfl) rfl ?_
  refine v_iconst (pc := 15) (dk dt_X12_isKept 10 rfl) ⟨by decide, by decide⟩ ?_
  refine v_icmp_eq (pc := 16) (tgt := 87) (dk dt_X12_isKept 11 rfl) (by decide) (fun c1 => ?_) (fun c1 => ?_)
  · replace h := h.1 c1
    refine v_iconst (pc := 87) (dk dt_X12_isKept_1 10 rfl) ⟨by decide, by decide⟩ ?_
    refine v_istore (pc := 88) (ls' := [some (rv l0), none, some (iv l2), some (iv l3), some (iv l4), some (iv 0)]) (dk dt_X12_isKept_1 11 rfl) (Nat.le_of_ble_eq_true rfl) rfl ?_
    exact v_less2 (ls' := [some (rv l0), none, some (iv l2), some (iv l3), none, some (iv 0)]) ⟨rfl, rfl, rfl, rfl, trivial⟩ h
  · replace h := h.2 c1
    refine v_iload (pc := 19) (dk dt_X12_isKept 12 rfl) rfl ?_
    refine v_aload_n (pc := 21) (dk dt_X12_isKept 13 rfl) rfl rfl ?_
    obtain ⟨v2, h⟩ := h
    refine v_getR (pc := 22) (dk dt_X12_isKept 14 rfl) fl_X12_97 v2 (fun _ => ?_)
    refine v_iload (pc := 25) (dk dt_X12_isKept 15 rfl) rfl ?_
    obtain ⟨v3, h⟩ := h
    obtain ⟨v4, h⟩ := h
    obtain ⟨v5, h⟩ := h
    refine v_iald (pc := 27) (dk dt_X12_isKept 16 rfl) (Or.inl v3) v4 v5 (fun _ => ?_)
    refine v_icmp_ge (pc := 28) (tgt := 87) (dk dt_X12_isKept 17 rfl) (by decide) (fun c6 => ?_) (fun c6 => ?_)
    · replace h := h.1 c6
      refine v_iconst (pc := 87) (dk dt_X12_isKept_1 10 rfl) ⟨by decide, by decide⟩ ?_
      refine v_istore (pc := 88) (ls' := [some (rv l0), none, some (iv l2), some (iv l3), some (iv l4), some (iv 0)]) (dk dt_X12_isKept_1 11 rfl) (Nat.le_of_ble_eq_true rfl) rfl ?_
      exact v_less2 (ls' := [some (rv l0), none, some (iv l2), some (iv l3), none, some (iv 0)]) ⟨rfl, rfl, rfl, rfl, trivial⟩ h
    · replace h := h.2 c6
      refine v_iload_n (pc := 31) (dk dt_X12_isKept 18 rfl) rfl rfl ?_
      obtain ⟨v8, v9, v10, v11, v12, v13, v15, v16, v17, v18, v19, v20, h⟩ := h
      suffices k23 : V E M_X12_isKept 80 [some (rv l0), none, some (iv l2), none, some (iv l4), some (iv l5)] [iv (if l3 = 0 then ((if (gel G (gfd G 12 40 l0) ((24 * l4) + l5)) = 1 then ((if (Int.tdiv (gel G (gfd G 12 39 l0) ((24 * l4) + l5)) 100) = (Int.tdiv l2 100) then (1 : Int) else 0) : Int) else 0) : Int) else 1)] G c s Q X by
        refine v_if_ne (pc := 32) (tgt := 75) (dk dt_X12_isKept 19 rfl) (by decide) (fun c7 => ?_) (fun c7 => ?_)
        · refine v_iconst (pc := 75) (dk dt_X12_isKept_1 4 rfl) ⟨by decide, by decide⟩ ?_
          refine v_goto (pc := 76) (tgt := 80) (dk dt_X12_isKept_1 5 rfl) (by decide) ?_
          exact v_less2 (ls' := [some (rv l0), none, some (iv l2), none, some (iv l4), some (iv l5)]) ⟨rfl, rfl, rfl, rfl, trivial⟩ (by have hk9 := k23; try simp only [if_neg c7] at hk9 ⊢; exact hk9)
        · refine v_aload_n (pc := 35) (dk dt_X12_isKept 20 rfl) rfl rfl ?_
          refine v_getR (pc := 36) (dk dt_X12_isKept 21 rfl) fl_X12_103 (v8 c7) (fun _ => ?_)
          refine v_bipush (pc := 39) (dk dt_X12_isKept 22 rfl) (by decide) ⟨by decide, by decide⟩ ?_
          refine v_iload (pc := 41) (dk dt_X12_isKept 23 rfl) rfl ?_
          refine v_imul (pc := 43) (dk dt_X12_isKept 24 rfl) (v9 c7) ?_
          refine v_iload (pc := 44) (dk dt_X12_isKept 25 rfl) rfl ?_
          refine v_iadd (pc := 46) (dk dt_X12_isKept 26 rfl) (v10 c7) ?_
          refine v_iald (pc := 47) (dk dt_X12_isKept 27 rfl) (Or.inl (v11 c7)) (v12 c7) (v13 c7) (fun _ => ?_)
          refine v_iconst (pc := 48) (dk dt_X12_isKept 28 rfl) ⟨by decide, by decide⟩ ?_
          refine v_icmp_ne (pc := 49) (tgt := 79) (dk dt_X12_isKept 29 rfl) (by decide) (fun c14 => ?_) (fun c14 => ?_)
          · refine v_iconst (pc := 79) (dk dt_X12_isKept_1 6 rfl) ⟨by decide, by decide⟩ ?_
            exact v_less2 (ls' := [some (rv l0), none, some (iv l2), none, some (iv l4), some (iv l5)]) ⟨rfl, rfl, rfl, rfl, trivial⟩ (by have hk9 := k23; try simp only [if_pos c7] at hk9 ⊢; try simp only [if_neg c14] at hk9 ⊢; exact hk9)
          · refine v_aload_n (pc := 52) (dk dt_X12_isKept 30 rfl) rfl rfl ?_
            refine v_getR (pc := 53) (dk dt_X12_isKept 31 rfl) fl_X12_100 (v15 c7 c14) (fun _ => ?_)
            refine v_bipush (pc := 56) (dk dt_X12_isKept 32 rfl) (by decide) ⟨by decide, by decide⟩ ?_
            refine v_iload (pc := 58) (dk dt_X12_isKept 33 rfl) rfl ?_
            refine v_imul (pc := 60) (dk dt_X12_isKept 34 rfl) (v16 c7 c14) ?_
            refine v_iload (pc := 61) (dk dt_X12_isKept 35 rfl) rfl ?_
            refine v_iadd (pc := 63) (dk dt_X12_isKept 36 rfl) (v17 c7 c14) ?_
            refine v_iald (pc := 64) (dk dt_X12_isKept 37 rfl) (Or.inl (v18 c7 c14)) (v19 c7 c14) (v20 c7 c14) (fun _ => ?_)
            refine v_bipush (pc := 65) (dk dt_X12_isKept 38 rfl) (by decide) ⟨by decide, by decide⟩ ?_
            refine v_idivP (pc := 67) (dk dt_X12_isKept 39 rfl) (by decide) ?_
            refine v_iload_n (pc := 68) (dk dt_X12_isKept_1 0 rfl) rfl rfl ?_
            refine v_bipush (pc := 69) (dk dt_X12_isKept_1 1 rfl) (by decide) ⟨by decide, by decide⟩ ?_
            refine v_idivP (pc := 71) (dk dt_X12_isKept_1 2 rfl) (by decide) ?_
            refine v_icmp_ne (pc := 72) (tgt := 79) (dk dt_X12_isKept_1 3 rfl) (by decide) (fun c21 => ?_) (fun c21 => ?_)
            · refine v_iconst (pc := 79) (dk dt_X12_isKept_1 6 rfl) ⟨by decide, by decide⟩ ?_
              exact v_less2 (ls' := [some (rv l0), none, some (iv l2), none, some (iv l4), some (iv l5)]) ⟨rfl, rfl, rfl, rfl, trivial⟩ (by have hk9 := k23; try simp only [if_pos c7] at hk9 ⊢; try simp only [if_pos c14] at hk9 ⊢; try simp only [if_neg c21] at hk9 ⊢; exact hk9)
            · refine v_iconst (pc := 75) (dk dt_X12_isKept_1 4 rfl) ⟨by decide, by decide⟩ ?_
              refine v_goto (pc := 76) (tgt := 80) (dk dt_X12_isKept_1 5 rfl) (by decide) ?_
              exact v_less2 (ls' := [some (rv l0), none, some (iv l2), none, some (iv l4), some (iv l5)]) ⟨rfl, rfl, rfl, rfl, trivial⟩ (by have hk9 := k23; try simp only [if_pos c7] at hk9 ⊢; try simp only [if_pos c14] at hk9 ⊢; try simp only [if_pos c21] at hk9 ⊢; exact hk9)
      refine v_istore_n (pc := 80) (ls' := [some (rv l0), none, some (iv l2), some (iv (if l3 = 0 then ((if (gel G (gfd G 12 40 l0) ((24 * l4) + l5)) = 1 then ((if (Int.tdiv (gel G (gfd G 12 39 l0) ((24 * l4) + l5)) 100) = (Int.tdiv l2 100) then (1 : Int) else 0) : Int) else 0) : Int) else 1)), some (iv l4), some (iv l5)]) (dk dt_X12_isKept_1 7 rfl) rfl (Nat.le_of_ble_eq_true rfl) rfl ?_
      obtain ⟨v22, h⟩ := h
      refine v_iinc (pc := 81) (ls' := [some (rv l0), none, some (iv l2), some (iv (if l3 = 0 then ((if (gel G (gfd G 12 40 l0) ((24 * l4) + l5)) = 1 then ((if (Int.tdiv (gel G (gfd G 12 39 l0) ((24 * l4) + l5)) 100) = (Int.tdiv l2 100) then (1 : Int) else 0) : Int) else 0) : Int) else 1)), some (iv l4), some (iv (l5 + 1))]) (dk dt_X12_isKept_1 8 rfl) (Nat.le_of_ble_eq_true rfl) rfl v22 rfl ?_
      refine v_goto (pc := 84) (tgt := 13) (dk dt_X12_isKept_1 9 rfl) (by decide) ?_
      exact h
set_option maxRecDepth 20000 in
theorem b_X12_isKept_90 {E : EE} {l0 l2 l3 l5 : Int} {G : Gt} {c s : Nat} {Q X : Int → Gt → Prop} (h : (gcl G l0 = 13 ∧ (((gfd G 12 45 l0) ≤ l5 → ((l3 = 0 ∨ l3 = 1) ∧ Q l3 G)) ∧ (l5 < (gfd G 12 45 l0) → ((l3 = 0 → gcl G l0 = 13) ∧ (l3 = 0 → gcl G l0 = 13) ∧ (l3 = 0 → i32 (4 * l5)) ∧ (l3 = 0 → i32 ((4 * l5) + 3)) ∧ (l3 = 0 → gcl G (gfd G 12 44 l0) = 15) ∧ (l3 = 0 → 0 ≤ ((4 * l5) + 3)) ∧ (l3 = 0 → ((4 * l5) + 3) < gln G (gfd G 12 44 l0)) ∧ (l3 = 0 → (gfd G 12 1 l0) ≤ (gel G (gfd G 12 44 l0) ((4 * l5) + 3)) → gcl G l0 = 13) ∧ (l3 = 0 → (gfd G 12 1 l0) ≤ (gel G (gfd G 12 44 l0) ((4 * l5) + 3)) → i32 (4 * l5)) ∧ (l3 = 0 → (gfd G 12 1 l0) ≤ (gel G (gfd G 12 44 l0) ((4 * l5) + 3)) → gcl G (gfd G 12 44 l0) = 15) ∧ (l3 = 0 → (gfd G 12 1 l0) ≤ (gel G (gfd G 12 44 l0) ((4 * l5) + 3)) → 0 ≤ (4 * l5)) ∧ (l3 = 0 → (gfd G 12 1 l0) ≤ (gel G (gfd G 12 44 l0) ((4 * l5) + 3)) → (4 * l5) < gln G (gfd G 12 44 l0)) ∧ (l3 = 0 → (gfd G 12 1 l0) ≤ (gel G (gfd G 12 44 l0) ((4 * l5) + 3)) → gcl G l0 = 13) ∧ (l3 = 0 → (gfd G 12 1 l0) ≤ (gel G (gfd G 12 44 l0) ((4 * l5) + 3)) → i32 (4 * l5)) ∧ (l3 = 0 → (gfd G 12 1 l0) ≤ (gel G (gfd G 12 44 l0) ((4 * l5) + 3)) → i32 ((4 * l5) + 1)) ∧ (l3 = 0 → (gfd G 12 1 l0) ≤ (gel G (gfd G 12 44 l0) ((4 * l5) + 3)) → gcl G (gfd G 12 44 l0) = 15) ∧ (l3 = 0 → (gfd G 12 1 l0) ≤ (gel G (gfd G 12 44 l0) ((4 * l5) + 3)) → 0 ≤ ((4 * l5) + 1)) ∧ (l3 = 0 → (gfd G 12 1 l0) ≤ (gel G (gfd G 12 44 l0) ((4 * l5) + 3)) → ((4 * l5) + 1) < gln G (gfd G 12 44 l0)) ∧ (l3 = 0 → (gfd G 12 1 l0) ≤ (gel G (gfd G 12 44 l0) ((4 * l5) + 3)) → gcl G l0 = 13) ∧ (l3 = 0 → (gfd G 12 1 l0) ≤ (gel G (gfd G 12 44 l0) ((4 * l5) + 3)) → i32 (4 * l5)) ∧ (l3 = 0 → (gfd G 12 1 l0) ≤ (gel G (gfd G 12 44 l0) ((4 * l5) + 3)) → i32 ((4 * l5) + 2)) ∧ (l3 = 0 → (gfd G 12 1 l0) ≤ (gel G (gfd G 12 44 l0) ((4 * l5) + 3)) → gcl G (gfd G 12 44 l0) = 15) ∧ (l3 = 0 → (gfd G 12 1 l0) ≤ (gel G (gfd G 12 44 l0) ((4 * l5) + 3)) → 0 ≤ ((4 * l5) + 2)) ∧ (l3 = 0 → (gfd G 12 1 l0) ≤ (gel G (gfd G 12 44 l0) ((4 * l5) + 3)) → ((4 * l5) + 2) < gln G (gfd G 12 44 l0)) ∧ (l3 = 0 → (gfd G 12 1 l0) ≤ (gel G (gfd G 12 44 l0) ((4 * l5) + 3)) → OkP E M_X12_isIn [iv (gel G (gfd G 12 44 l0) (4 * l5)), iv (gel G (gfd G 12 44 l0) ((4 * l5) + 1)), iv (gel G (gfd G 12 44 l0) ((4 * l5) + 2)), iv l2] G (mIn (gel G (gfd G 12 44 l0) (4 * l5)) (gel G (gfd G 12 44 l0) ((4 * l5) + 1)) (gel G (gfd G 12 44 l0) ((4 * l5) + 2)) l2)) ∧ i32 (l5 + 1) ∧ V E M_X12_isKept 90 [some (rv l0), none, some (iv l2), some (iv (if l3 = 0 then ((if (gel G (gfd G 12 44 l0) ((4 * l5) + 3)) < (gfd G 12 1 l0) then (0 : Int) else (if (mIn (gel G (gfd G 12 44 l0) (4 * l5)) (gel G (gfd G 12 44 l0) ((4 * l5) + 1)) (gel G (gfd G 12 44 l0) ((4 * l5) + 2)) l2) = 0 then (0 : Int) else 1)) : Int) else 1)), none, some (iv (l5 + 1))] [] G c s Q X))))) : V E M_X12_isKept 90 [some (rv l0), none, some (iv l2), some (iv l3), none, some (iv l5)] [] G c s Q X := by
  refine v_iload (pc := 90) (dk dt_X12_isKept_1 12 rfl) rfl ?_
  refine v_aload_n (pc := 92) (dk dt_X12_isKept_1 13 rfl) rfl rfl ?_
  obtain ⟨v1, h⟩ := h
  refine v_getI (pc := 93) (dk dt_X12_isKept_1 14 rfl) fl_X12_311 v1 (fun _ => ?_)
  refine v_icmp_ge (pc := 96) (tgt := 171) (dk dt_X12_isKept_1 15 rfl) (by decide) (fun c2 => ?_) (fun c2 => ?_)
  · replace h := h.1 c2
    refine v_iload_n (pc := 171) (dk dt_X12_isKept_2 20 rfl) rfl rfl ?_
    obtain ⟨v3, h⟩ := h
    exact v_zret (pc := 172) (dk dt_X12_isKept_2 21 rfl) rfl v3 h
  · replace h := h.2 c2
    refine v_iload_n (pc := 99) (dk dt_X12_isKept_1 16 rfl) rfl rfl ?_
    obtain ⟨v5, v6, v7, v8, v9, v10, v11, v13, v14, v15, v16, v17, v18, v19, v20, v21, v22, v23, v24, v25, v26, v27, v28, v29, v30, h⟩ := h
    suffices k33 : V E M_X12_isKept 164 [some (rv l0), none, some (iv l2), none, none, some (iv l5)] [iv (if l3 = 0 then ((if (gel G (gfd G 12 44 l0) ((4 * l5) + 3)) < (gfd G 12 1 l0) then (0 : Int) else (if (mIn (gel G (gfd G 12 44 l0) (4 * l5)) (gel G (gfd G 12 44 l0) ((4 * l5) + 1)) (gel G (gfd G 12 44 l0) ((4 * l5) + 2)) l2) = 0 then (0 : Int) else 1)) : Int) else 1)] G c s Q X by
      refine v_if_ne (pc := 100) (tgt := 159) (dk dt_X12_isKept_1 17 rfl) (by decide) (fun c4 => ?_) (fun c4 => ?_)
      · refine v_iconst (pc := 159) (dk dt_X12_isKept_2 14 rfl) ⟨by decide, by decide⟩ ?_
        refine v_goto (pc := 160) (tgt := 164) (dk dt_X12_isKept_2 15 rfl) (by decide) ?_
        exact v_less2 (ls' := [some (rv l0), none, some (iv l2), none, none, some (iv l5)]) ⟨rfl, rfl, rfl, trivial⟩ (by have hk9 := k33; try simp only [if_neg c4] at hk9 ⊢; exact hk9)
      · refine v_aload_n (pc := 103) (dk dt_X12_isKept_1 18 rfl) rfl rfl ?_
        refine v_getI (pc := 104) (dk dt_X12_isKept_1 19 rfl) fl_X12_176 (v5 c4) (fun _ => ?_)
        refine v_aload_n (pc := 107) (dk dt_X12_isKept_1 20 rfl) rfl rfl ?_
        refine v_getR (pc := 108) (dk dt_X12_isKept_1 21 rfl) fl_X12_115 (v6 c4) (fun _ => ?_)
        refine v_iconst (pc := 111) (dk dt_X12_isKept_1 22 rfl) ⟨by decide, by decide⟩ ?_
        refine v_iload (pc := 112) (dk dt_X12_isKept_1 23 rfl) rfl ?_
        refine v_imul (pc := 114) (dk dt_X12_isKept_1 24 rfl) (v7 c4) ?_
        refine v_iconst (pc := 115) (dk dt_X12_isKept_1 25 rfl) ⟨by decide, by decide⟩ ?_
        refine v_iadd (pc := 116) (dk dt_X12_isKept_1 26 rfl) (v8 c4) ?_
        refine v_iald (pc := 117) (dk dt_X12_isKept_1 27 rfl) (Or.inl (v9 c4)) (v10 c4) (v11 c4) (fun _ => ?_)
        refine v_icmp_gt (pc := 118) (tgt := 163) (dk dt_X12_isKept_1 28 rfl) (by decide) (fun c12 => ?_) (fun c12 => ?_)
        · refine v_iconst (pc := 163) (dk dt_X12_isKept_2 16 rfl) ⟨by decide, by decide⟩ ?_
          exact v_less2 (ls' := [some (rv l0), none, some (iv l2), none, none, some (iv l5)]) ⟨rfl, rfl, rfl, trivial⟩ (by have hk9 := k33; try simp only [if_pos c4] at hk9 ⊢; try simp only [if_pos c12] at hk9 ⊢; exact hk9)
        · refine v_aload_n (pc := 121) (dk dt_X12_isKept_1 29 rfl) rfl rfl ?_
          refine v_getR (pc := 122) (dk dt_X12_isKept_1 30 rfl) fl_X12_115 (v13 c4 c12) (fun _ => ?_)
          refine v_iconst (pc := 125) (dk dt_X12_isKept_1 31 rfl) ⟨by decide, by decide⟩ ?_
          refine v_iload (pc := 126) (dk dt_X12_isKept_1 32 rfl) rfl ?_
          refine v_imul (pc := 128) (dk dt_X12_isKept_1 33 rfl) (v14 c4 c12) ?_
          refine v_iald (pc := 129) (dk dt_X12_isKept_1 34 rfl) (Or.inl (v15 c4 c12)) (v16 c4 c12) (v17 c4 c12) (fun _ => ?_)
          refine v_aload_n (pc := 130) (dk dt_X12_isKept_1 35 rfl) rfl rfl ?_
          refine v_getR (pc := 131) (dk dt_X12_isKept_1 36 rfl) fl_X12_115 (v18 c4 c12) (fun _ => ?_)
          refine v_iconst (pc := 134) (dk dt_X12_isKept_1 37 rfl) ⟨by decide, by decide⟩ ?_
          refine v_iload (pc := 135) (dk dt_X12_isKept_1 38 rfl) rfl ?_
          refine v_imul (pc := 137) (dk dt_X12_isKept_1 39 rfl) (v19 c4 c12) ?_
          refine v_iconst (pc := 138) (dk dt_X12_isKept_2 0 rfl) ⟨by decide, by decide⟩ ?_
          refine v_iadd (pc := 139) (dk dt_X12_isKept_2 1 rfl) (v20 c4 c12) ?_
          refine v_iald (pc := 140) (dk dt_X12_isKept_2 2 rfl) (Or.inl (v21 c4 c12)) (v22 c4 c12) (v23 c4 c12) (fun _ => ?_)
          refine v_aload_n (pc := 141) (dk dt_X12_isKept_2 3 rfl) rfl rfl ?_
          refine v_getR (pc := 142) (dk dt_X12_isKept_2 4 rfl) fl_X12_115 (v24 c4 c12) (fun _ => ?_)
          refine v_iconst (pc := 145) (dk dt_X12_isKept_2 5 rfl) ⟨by decide, by decide⟩ ?_
          refine v_iload (pc := 146) (dk dt_X12_isKept_2 6 rfl) rfl ?_
          refine v_imul (pc := 148) (dk dt_X12_isKept_2 7 rfl) (v25 c4 c12) ?_
          refine v_iconst (pc := 149) (dk dt_X12_isKept_2 8 rfl) ⟨by decide, by decide⟩ ?_
          refine v_iadd (pc := 150) (dk dt_X12_isKept_2 9 rfl) (v26 c4 c12) ?_
          refine v_iald (pc := 151) (dk dt_X12_isKept_2 10 rfl) (Or.inl (v27 c4 c12)) (v28 c4 c12) (v29 c4 c12) (fun _ => ?_)
          refine v_iload_n (pc := 152) (dk dt_X12_isKept_2 11 rfl) rfl rfl ?_
          refine v_csPZ (v := (mIn (gel G (gfd G 12 44 l0) (4 * l5)) (gel G (gfd G 12 44 l0) ((4 * l5) + 1)) (gel G (gfd G 12 44 l0) ((4 * l5) + 2)) l2)) (As := [iv (gel G (gfd G 12 44 l0) (4 * l5)), iv (gel G (gfd G 12 44 l0) ((4 * l5) + 1)), iv (gel G (gfd G 12 44 l0) ((4 * l5) + 2)), iv l2]) (stk := []) (pc := 153) (dk dt_X12_isKept_2 12 rfl) ml_X12_138 rfl rfl (Nat.le_of_ble_eq_true rfl) rfl rfl (v30 c4 c12) ?_
          refine v_if_eq (pc := 156) (tgt := 163) (dk dt_X12_isKept_2 13 rfl) (by decide) (fun c31 => ?_) (fun c31 => ?_)
          · refine v_iconst (pc := 163) (dk dt_X12_isKept_2 16 rfl) ⟨by decide, by decide⟩ ?_
            exact v_less2 (ls' := [some (rv l0), none, some (iv l2), none, none, some (iv l5)]) ⟨rfl, rfl, rfl, trivial⟩ (by have hk9 := k33; try simp only [if_pos c4] at hk9 ⊢; try simp only [if_neg (Int.not_lt.mpr c12)] at hk9 ⊢; try simp only [if_pos c31] at hk9 ⊢; exact hk9)
          · refine v_iconst (pc := 159) (dk dt_X12_isKept_2 14 rfl) ⟨by decide, by decide⟩ ?_
            refine v_goto (pc := 160) (tgt := 164) (dk dt_X12_isKept_2 15 rfl) (by decide) ?_
            exact v_less2 (ls' := [some (rv l0), none, some (iv l2), none, none, some (iv l5)]) ⟨rfl, rfl, rfl, trivial⟩ (by have hk9 := k33; try simp only [if_pos c4] at hk9 ⊢; try simp only [if_neg (Int.not_lt.mpr c12)] at hk9 ⊢; try simp only [if_neg c31] at hk9 ⊢; exact hk9)
    refine v_istore_n (pc := 164) (ls' := [some (rv l0), none, some (iv l2), some (iv (if l3 = 0 then ((if (gel G (gfd G 12 44 l0) ((4 * l5) + 3)) < (gfd G 12 1 l0) then (0 : Int) else (if (mIn (gel G (gfd G 12 44 l0) (4 * l5)) (gel G (gfd G 12 44 l0) ((4 * l5) + 1)) (gel G (gfd G 12 44 l0) ((4 * l5) + 2)) l2) = 0 then (0 : Int) else 1)) : Int) else 1)), none, some (iv l5)]) (dk dt_X12_isKept_2 17 rfl) rfl (Nat.le_of_ble_eq_true rfl) rfl ?_
    obtain ⟨v32, h⟩ := h
    refine v_iinc (pc := 165) (ls' := [some (rv l0), none, some (iv l2), some (iv (if l3 = 0 then ((if (gel G (gfd G 12 44 l0) ((4 * l5) + 3)) < (gfd G 12 1 l0) then (0 : Int) else (if (mIn (gel G (gfd G 12 44 l0) (4 * l5)) (gel G (gfd G 12 44 l0) ((4 * l5) + 1)) (gel G (gfd G 12 44 l0) ((4 * l5) + 2)) l2) = 0 then (0 : Int) else 1)) : Int) else 1)), none, some (iv (l5 + 1))]) (dk dt_X12_isKept_2 18 rfl) (Nat.le_of_ble_eq_true rfl) rfl v32 rfl ?_
    refine v_goto (pc := 168) (tgt := 90) (dk dt_X12_isKept_2 19 rfl) (by decide) ?_
    exact h
set_option maxRecDepth 20000 in
theorem b_X12_entries_0 {E : EE} {l0 l1 l2 : Int} {G : Gt} {c s : Nat} {Q X : Int → Gt → Prop} (h : (gcl G l0 = 13 ∧ Call E M_X12_isAlert [rv l0, iv l1] G c s X (fun r2 G3 c4 s5 => gcl G3 l0 = 13 ∧ ∀ G8 : Gt, G8 = (sfd G3 12 0 l0 (if r2 = 0 then (1 : Int) else 0)) → V E M_X12_entries 22 [some (rv l0), some (iv l1), some (iv l2), some (iv 0), some (iv 0)] [] G8 c4 s5 Q X))) : V E M_X12_entries 0 [some (rv l0), some (iv l1), some (iv l2), none, none] [] G c s Q X := by
  refine v_aload_n (pc := 0) (dk dt_X12_entries 0 rfl) rfl rfl ?_
  refine v_aload_n (pc := 1) (dk dt_X12_entries 1 rfl) rfl rfl ?_
  refine v_iload_n (pc := 2) (dk dt_X12_entries 2 rfl) rfl rfl ?_
  obtain ⟨v1, h⟩ := h
  refine v_cvZ (c := 12) (As := [iv l1]) (stk := [rv l0]) (pc := 3) (dk dt_X12_entries 3 rfl) ml_X12_309 rfl rfl (Nat.le_of_ble_eq_true rfl) rfl ⟨by decide, rfl⟩ v1 rfl (Call.mono h (fun r2 G3 c4 s5 h => ?_))
  suffices k9 : V E M_X12_entries 14 [some (rv l0), some (iv l1), some (iv l2), none, none] [iv (if r2 = 0 then (1 : Int) else 0), rv l0] G3 c4 s5 Q X by
    refine v_if_eq (pc := 6) (tgt := 13) (dk dt_X12_entries 4 rfl) (by decide) (fun c6 => ?_) (fun c6 => ?_)
    · refine v_iconst (pc := 13) (dk dt_X12_entries 7 rfl) ⟨by decide, by decide⟩ ?_
      exact v_less2 (ls' := [some (rv l0), some (iv l1), some (iv l2), none, none]) ⟨rfl, rfl, rfl, trivial⟩ (by have hk9 := k9; try simp only [if_pos c6] at hk9 ⊢; exact hk9)
    · refine v_iconst (pc := 9) (dk dt_X12_entries 5 rfl) ⟨by decide, by decide⟩ ?_
      refine v_goto (pc := 10) (tgt := 14) (dk dt_X12_entries 6 rfl) (by decide) ?_
      exact v_less2 (ls' := [some (rv l0), some (iv l1), some (iv l2), none, none]) ⟨rfl, rfl, rfl, trivial⟩ (by have hk9 := k9; try simp only [if_neg c6] at hk9 ⊢; exact hk9)
  obtain ⟨v7, h⟩ := h
  refine v_putI (pc := 14) (dk dt_X12_entries 8 rfl) fl_X12_127 (Or.inl rfl) v7 ?_
  generalize hG8 : (sfd G3 12 0 l0 (if r2 = 0 then (1 : Int) else 0)) = G8
  replace h := h G8 hG8.symm
  refine v_iconst (pc := 17) (dk dt_X12_entries 9 rfl) ⟨by decide, by decide⟩ ?_
  refine v_istore_n (pc := 18) (ls' := [some (rv l0), some (iv l1), some (iv l2), some (iv 0), none]) (dk dt_X12_entries 10 rfl) rfl (Nat.le_of_ble_eq_true rfl) rfl ?_
  refine v_iconst (pc := 19) (dk dt_X12_entries 11 rfl) ⟨by decide, by decide⟩ ?_
  refine v_istore (pc := 20) (ls' := [some (rv l0), some (iv l1), some (iv l2), some (iv 0), some (iv 0)]) (dk dt_X12_entries 12 rfl) (Nat.le_of_ble_eq_true rfl) rfl ?_
  exact h
set_option maxRecDepth 20000 in
theorem i_X12_entries {E : EE} {l0 l1 l2 : Int} {G : Gt} {c s : Nat} {Q X : Int → Gt → Prop} (h : (gcl G l0 = 13 ∧ Call E M_X12_isAlert [rv l0, iv l1] G c s X (fun r2 G3 c4 s5 => gcl G3 l0 = 13 ∧ ∀ G8 : Gt, G8 = (sfd G3 12 0 l0 (if r2 = 0 then (1 : Int) else 0)) → V E M_X12_entries 22 [some (rv l0), some (iv l1), some (iv l2), some (iv 0), some (iv 0)] [] G8 c4 s5 Q X))) : Ok E M_X12_entries [rv l0, iv l1, iv l2] G c s Q X := Ok.intro (k := 2) rfl rfl (Nat.le_of_ble_eq_true rfl) rfl (b_X12_entries_0 h)
set_option maxRecDepth 20000 in
theorem b_X12_entries_22 {E : EE} {l0 l1 l2 l3 l4 : Int} {G : Gt} {c s : Nat} {Q X : Int → Gt → Prop} (h : (gcl G l0 = 13 ∧ (((gfd G 12 0 l0) ≠ 0 → Q l3 G) ∧ ((gfd G 12 0 l0) = 0 → (gcl G l0 = 13 ∧ gcl G (gfd G 12 38 l0) = 15 ∧ 0 ≤ l1 ∧ l1 < gln G (gfd G 12 38 l0) ∧ (((gel G (gfd G 12 38 l0) l1) ≤ l4 → Q l3 G) ∧ (l4 < (gel G (gfd G 12 38 l0) l1) → ((l2 ≠ 0 → gcl G l0 = 13) ∧ (l2 ≠ 0 → i32 (24 * l1)) ∧ (l2 ≠ 0 → i32 ((24 * l1) + l4)) ∧ (l2 ≠ 0 → gcl G (gfd G 12 40 l0) = 15) ∧ (l2 ≠ 0 → 0 ≤ ((24 * l1) + l4)) ∧ (l2 ≠ 0 → ((24 * l1) + l4) < gln G (gfd G 12 40 l0)) ∧ i32 (l3 + (if l2 = 0 then (1 : Int) else (if (gel G (gfd G 12 40 l0) ((24 * l1) + l4)) = 1 then (1 : Int) else 0))) ∧ i32 (l4 + 1) ∧ V E M_X12_entries 22 [some (rv l0), some (iv l1), some (iv l2), some (iv (l3 + (if l2 = 0 then (1 : Int) else (if (gel G (gfd G 12 40 l0) ((24 * l1) + l4)) = 1 then (1 : Int) else 0)))), some (iv (l4 + 1))] [] G c s Q X)))))))) : V E M_X12_entries 22 [some (rv l0), some (iv l1), some (iv l2), some (iv l3), some (iv l4)] [] G c s Q X := by
  refine v_aload_n (pc := 22) (dk dt_X12_entries 13 rfl) rfl rfl ?_
  obtain ⟨v1, h⟩ := h
  refine v_getI (pc := 23) (dk dt_X12_entries 14 rfl) fl_X12_127 v1 (fun _ => ?_)
  refine v_if_ne (pc := 26) (tgt := 74) (dk dt_X12_entries 15 rfl) (by decide) (fun c2 => ?_) (fun c2 => ?_)
  · replace h := h.1 c2
    refine v_iload_n (pc := 74) (dk dt_X12_entries_1 2 rfl) rfl rfl ?_
    exact v_iret (pc := 75) (dk dt_X12_entries_1 3 rfl) rfl h
  · replace h := h.2 c2
    refine v_iload (pc := 29) (dk dt_X12_entries 16 rfl) rfl ?_
    refine v_aload_n (pc := 31) (dk dt_X12_entries 17 rfl) rfl rfl ?_
    obtain ⟨v3, h⟩ := h
    refine v_getR (pc := 32) (dk dt_X12_entries 18 rfl) fl_X12_97 v3 (fun _ => ?_)
    refine v_iload_n (pc := 35) (dk dt_X12_entries 19 rfl) rfl rfl ?_
    obtain ⟨v4, h⟩ := h
    obtain ⟨v5, h⟩ := h
    obtain ⟨v6, h⟩ := h
    refine v_iald (pc := 36) (dk dt_X12_entries 20 rfl) (Or.inl v4) v5 v6 (fun _ => ?_)
    refine v_icmp_ge (pc := 37) (tgt := 74) (dk dt_X12_entries 21 rfl) (by decide) (fun c7 => ?_) (fun c7 => ?_)
    · replace h := h.1 c7
      refine v_iload_n (pc := 74) (dk dt_X12_entries_1 2 rfl) rfl rfl ?_
      exact v_iret (pc := 75) (dk dt_X12_entries_1 3 rfl) rfl h
    · replace h := h.2 c7
      refine v_iload_n (pc := 40) (dk dt_X12_entries 22 rfl) rfl rfl ?_
      refine v_iload_n (pc := 41) (dk dt_X12_entries 23 rfl) rfl rfl ?_
      obtain ⟨v9, v10, v11, v12, v13, v14, h⟩ := h
      suffices k18 : V E M_X12_entries 66 [some (rv l0), some (iv l1), some (iv l2), none, some (iv l4)] [iv (if l2 = 0 then (1 : Int) else (if (gel G (gfd G 12 40 l0) ((24 * l1) + l4)) = 1 then (1 : Int) else 0)), iv l3] G c s Q X by
        refine v_if_eq (pc := 42) (tgt := 61) (dk dt_X12_entries 24 rfl) (by decide) (fun c8 => ?_) (fun c8 => ?_)
        · refine v_iconst (pc := 61) (dk dt_X12_entries 35 rfl) ⟨by decide, by decide⟩ ?_
          refine v_goto (pc := 62) (tgt := 66) (dk dt_X12_entries 36 rfl) (by decide) ?_
          exact v_less2 (ls' := [some (rv l0), some (iv l1), some (iv l2), none, some (iv l4)]) ⟨rfl, rfl, rfl, rfl, trivial⟩ (by have hk9 := k18; try simp only [if_pos c8] at hk9 ⊢; exact hk9)
        · refine v_aload_n (pc := 45) (dk dt_X12_entries 25 rfl) rfl rfl ?_
          refine v_getR (pc := 46) (dk dt_X12_entries 26 rfl) fl_X12_103 (v9 c8) (fun _ => ?_)
          refine v_bipush (pc := 49) (dk dt_X12_entries 27 rfl) (by decide) ⟨by decide, by decide⟩ ?_
          refine v_iload_n (pc := 51) (dk dt_X12_entries 28 rfl) rfl rfl ?_
          refine v_imul (pc := 52) (dk dt_X12_entries 29 rfl) (v10 c8) ?_
          refine v_iload (pc := 53) (dk dt_X12_entries 30 rfl) rfl ?_
          refine v_iadd (pc := 55) (dk dt_X12_entries 31 rfl) (v11 c8) ?_
          refine v_iald (pc := 56) (dk dt_X12_entries 32 rfl) (Or.inl (v12 c8)) (v13 c8) (v14 c8) (fun _ => ?_)
          refine v_iconst (pc := 57) (dk dt_X12_entries 33 rfl) ⟨by decide, by decide⟩ ?_
          refine v_icmp_ne (pc := 58) (tgt := 65) (dk dt_X12_entries 34 rfl) (by decide) (fun c15 => ?_) (fun c15 => ?_)
          · refine v_iconst (pc := 65) (dk dt_X12_entries 37 rfl) ⟨by decide, by decide⟩ ?_
            exact v_less2 (ls' := [some (rv l0), some (iv l1), some (iv l2), none, some (iv l4)]) ⟨rfl, rfl, rfl, rfl, trivial⟩ (by have hk9 := k18; try simp only [if_neg c8] at hk9 ⊢; try simp only [if_neg c15] at hk9 ⊢; exact hk9)
          · refine v_iconst (pc := 61) (dk dt_X12_entries 35 rfl) ⟨by decide, by decide⟩ ?_
            refine v_goto (pc := 62) (tgt := 66) (dk dt_X12_entries 36 rfl) (by decide) ?_
            exact v_less2 (ls' := [some (rv l0), some (iv l1), some (iv l2), none, some (iv l4)]) ⟨rfl, rfl, rfl, rfl, trivial⟩ (by have hk9 := k18; try simp only [if_neg c8] at hk9 ⊢; try simp only [if_pos c15] at hk9 ⊢; exact hk9)
      obtain ⟨v16, h⟩ := h
      refine v_iadd (pc := 66) (dk dt_X12_entries 38 rfl) v16 ?_
      refine v_istore_n (pc := 67) (ls' := [some (rv l0), some (iv l1), some (iv l2), some (iv (l3 + (if l2 = 0 then (1 : Int) else (if (gel G (gfd G 12 40 l0) ((24 * l1) + l4)) = 1 then (1 : Int) else 0)))), some (iv l4)]) (dk dt_X12_entries 39 rfl) rfl (Nat.le_of_ble_eq_true rfl) rfl ?_
      obtain ⟨v17, h⟩ := h
      refine v_iinc (pc := 68) (ls' := [some (rv l0), some (iv l1), some (iv l2), some (iv (l3 + (if l2 = 0 then (1 : Int) else (if (gel G (gfd G 12 40 l0) ((24 * l1) + l4)) = 1 then (1 : Int) else 0)))), some (iv (l4 + 1))]) (dk dt_X12_entries_1 0 rfl) (Nat.le_of_ble_eq_true rfl) rfl v17 rfl ?_
      refine v_goto (pc := 71) (tgt := 22) (dk dt_X12_entries_1 1 rfl) (by decide) ?_
      exact h
set_option maxRecDepth 20000 in
theorem b_X12_entry_0 {E : EE} {l0 l1 l2 l3 : Int} {G : Gt} {c s : Nat} {Q X : Int → Gt → Prop} (h : (gcl G l0 = 13 ∧ Call E M_X12_isAlert [rv l0, iv l1] G c s X (fun r2 G3 c4 s5 => (r2 ≠ 0 → gcl G3 l0 = 13) ∧ (r2 ≠ 0 → gcl G3 (gfd G3 12 38 l0) = 15) ∧ (r2 ≠ 0 → 0 ≤ l1) ∧ (r2 ≠ 0 → l1 < gln G3 (gfd G3 12 38 l0)) ∧ (r2 ≠ 0 → i32 ((gel G3 (gfd G3 12 38 l0) l1) - 1)) ∧ (r2 ≠ 0 → OkP E M_X12_in [iv l2, iv 0, iv ((gel G3 (gfd G3 12 38 l0) l1) - 1)] G3 (wIn l2 0 ((gel G3 (gfd G3 12 38 l0) l1) - 1))) ∧ (r2 ≠ 0 → (wIn l2 0 ((gel G3 (gfd G3 12 38 l0) l1) - 1)) ≠ 0 → OkP E M_X12_in [iv l3, iv 0, iv 3] G3 (wIn l3 0 3)) ∧ gcl G3 l0 = 13 ∧ ∀ G17 : Gt, G17 = (sfd G3 12 0 l0 (if r2 = 0 then (1 : Int) else (if (wIn l2 0 ((gel G3 (gfd G3 12 38 l0) l1) - 1)) = 0 then (1 : Int) else (if (wIn l3 0 3) = 0 then (2 : Int) else 0)))) → gcl G17 l0 = 13 ∧ (((gfd G17 12 0 l0) ≤ 0 → (i32 (24 * l1) ∧ i32 ((24 * l1) + l2) ∧ (l3 ≠ 0 → l3 ≠ 1 → l3 ≠ 2 → gcl G17 l0 = 13) ∧ (l3 ≠ 0 → l3 ≠ 1 → l3 ≠ 2 → gcl G17 (gfd G17 12 43 l0) = 17) ∧ (l3 ≠ 0 → l3 ≠ 1 → l3 ≠ 2 → 0 ≤ ((24 * l1) + l2)) ∧ (l3 ≠ 0 → l3 ≠ 1 → l3 ≠ 2 → ((24 * l1) + l2) < gln G17 (gfd G17 12 43 l0)) ∧ (l3 ≠ 0 → l3 ≠ 1 → l3 = 2 → gcl G17 l0 = 13) ∧ (l3 ≠ 0 → l3 ≠ 1 → l3 = 2 → gcl G17 (gfd G17 12 41 l0) = 15) ∧ (l3 ≠ 0 → l3 ≠ 1 → l3 = 2 → 0 ≤ ((24 * l1) + l2)) ∧ (l3 ≠ 0 → l3 ≠ 1 → l3 = 2 → ((24 * l1) + l2) < gln G17 (gfd G17 12 41 l0)) ∧ (l3 ≠ 0 → l3 = 1 → gcl G17 l0 = 13) ∧ (l3 ≠ 0 → l3 = 1 → gcl G17 (gfd G17 12 40 l0) = 15) ∧ (l3 ≠ 0 → l3 = 1 → 0 ≤ ((24 * l1) + l2)) ∧ (l3 ≠ 0 → l3 = 1 → ((24 * l1) + l2) < gln G17 (gfd G17 12 40 l0)) ∧ (l3 = 0 → gcl G17 l0 = 13) ∧ (l3 = 0 → gcl G17 (gfd G17 12 39 l0) = 15) ∧ (l3 = 0 → 0 ≤ ((24 * l1) + l2)) ∧ (l3 = 0 → ((24 * l1) + l2) < gln G17 (gfd G17 12 39 l0)) ∧ Q (if l3 = 0 then ((gel G17 (gfd G17 12 39 l0) ((24 * l1) + l2)) : Int) else (if l3 = 1 then ((gel G17 (gfd G17 12 40 l0) ((24 * l1) + l2)) : Int) else (if l3 = 2 then ((gel G17 (gfd G17 12 41 l0) ((24 * l1) + l2)) : Int) else (if (gel G17 (gfd G17 12 43 l0) ((24 * l1) + l2)) = 0 then (0 : Int) else 1)))) G17)) ∧ (0 < (gfd G17 12 0 l0) → Q 0 G17))))) : V E M_X12_entry 0 [some (rv l0), some (iv l1), some (iv l2), some (iv l3), none] [] G c s Q X := by
  refine v_aload_n (pc := 0) (dk dt_X12_entry 0 rfl) rfl rfl ?_
  refine v_aload_n (pc := 1) (dk dt_X12_entry 1 rfl) rfl rfl ?_
  refine v_iload_n (pc := 2) (dk dt_X12_entry 2 rfl) rfl rfl ?_
  obtain ⟨v1, h⟩ := h
  refine v_cvZ (c := 12) (As := [iv l1]) (stk := [rv l0]) (pc := 3) (dk dt_X12_entry 3 rfl) ml_X12_309 rfl rfl (Nat.le_of_ble_eq_true rfl) rfl ⟨by decide, rfl⟩ v1 rfl (Call.mono h (fun r2 G3 c4 s5 h => ?_))
  obtain ⟨v7, v8, v9, v10, v11, v12, v14, h⟩ := h
  suffices k42 : V E M_X12_entry 43 [some (rv l0), some (iv l1), some (iv l2), some (iv l3), none] [iv (if r2 = 0 then (1 : Int) else (if (wIn l2 0 ((gel G3 (gfd G3 12 38 l0) l1) - 1)) = 0 then (1 : Int) else (if (wIn l3 0 3) = 0 then (2 : Int) else 0))), rv l0] G3 c4 s5 Q X by
    refine v_if_eq (pc := 6) (tgt := 25) (dk dt_X12_entry 4 rfl) (by decide) (fun c6 => ?_) (fun c6 => ?_)
    · refine v_iconst (pc := 25) (dk dt_X12_entry 15 rfl) ⟨by decide, by decide⟩ ?_
      refine v_goto (pc := 26) (tgt := 43) (dk dt_X12_entry 16 rfl) (by decide) ?_
      exact v_less2 (ls' := [some (rv l0), some (iv l1), some (iv l2), some (iv l3), none]) ⟨rfl, rfl, rfl, rfl, trivial⟩ (by have hk9 := k42; try simp only [if_pos c6] at hk9 ⊢; exact hk9)
    · refine v_iload_n (pc := 9) (dk dt_X12_entry 5 rfl) rfl rfl ?_
      refine v_iconst (pc := 10) (dk dt_X12_entry 6 rfl) ⟨by decide, by decide⟩ ?_
      refine v_aload_n (pc := 11) (dk dt_X12_entry 7 rfl) rfl rfl ?_
      refine v_getR (pc := 12) (dk dt_X12_entry 8 rfl) fl_X12_97 (v7 c6) (fun _ => ?_)
      refine v_iload_n (pc := 15) (dk dt_X12_entry 9 rfl) rfl rfl ?_
      refine v_iald (pc := 16) (dk dt_X12_entry 10 rfl) (Or.inl (v8 c6)) (v9 c6) (v10 c6) (fun _ => ?_)
      refine v_iconst (pc := 17) (dk dt_X12_entry 11 rfl) ⟨by decide, by decide⟩ ?_
      refine v_isub (pc := 18) (dk dt_X12_entry 12 rfl) (v11 c6) ?_
      refine v_csPZ (v := (wIn l2 0 ((gel G3 (gfd G3 12 38 l0) l1) - 1))) (As := [iv l2, iv 0, iv ((gel G3 (gfd G3 12 38 l0) l1) - 1)]) (stk := [rv l0]) (pc := 19) (dk dt_X12_entry 13 rfl) ml_X12_172 rfl rfl (Nat.le_of_ble_eq_true rfl) rfl rfl (v12 c6) ?_
      refine v_if_ne (pc := 22) (tgt := 29) (dk dt_X12_entry 14 rfl) (by decide) (fun c13 => ?_) (fun c13 => ?_)
      · refine v_iload_n (pc := 29) (dk dt_X12_entry 17 rfl) rfl rfl ?_
        refine v_iconst (pc := 30) (dk dt_X12_entry 18 rfl) ⟨by decide, by decide⟩ ?_
        refine v_iconst (pc := 31) (dk dt_X12_entry 19 rfl) ⟨by decide, by decide⟩ ?_
        refine v_csPZ (v := (wIn l3 0 3)) (As := [iv l3, iv 0, iv 3]) (stk := [rv l0]) (pc := 32) (dk dt_X12_entry 20 rfl) ml_X12_172 rfl rfl (Nat.le_of_ble_eq_true rfl) rfl rfl (v14 c6 c13) ?_
        refine v_if_eq (pc := 35) (tgt := 42) (dk dt_X12_entry 21 rfl) (by decide) (fun c15 => ?_) (fun c15 => ?_)
        · refine v_iconst (pc := 42) (dk dt_X12_entry 24 rfl) ⟨by decide, by decide⟩ ?_
          exact v_less2 (ls' := [some (rv l0), some (iv l1), some (iv l2), some (iv l3), none]) ⟨rfl, rfl, rfl, rfl, trivial⟩ (by have hk9 := k42; try simp only [if_neg c6] at hk9 ⊢; try simp only [if_neg c13] at hk9 ⊢; try simp only [if_pos c15] at hk9 ⊢; exact hk9)
        · refine v_iconst (pc := 38) (dk dt_X12_entry 22 rfl) ⟨by decide, by decide⟩ ?_
          refine v_goto (pc := 39) (tgt := 43) (dk dt_X12_entry 23 rfl) (by decide) ?_
          exact v_less2 (ls' := [some (rv l0), some (iv l1), some (iv l2), some (iv l3), none]) ⟨rfl, rfl, rfl, rfl, trivial⟩ (by have hk9 := k42; try simp only [if_neg c6] at hk9 ⊢; try simp only [if_neg c13] at hk9 ⊢; try simp only [if_neg c15] at hk9 ⊢; exact hk9)
      · refine v_iconst (pc := 25) (dk dt_X12_entry 15 rfl) ⟨by decide, by decide⟩ ?_
        refine v_goto (pc := 26) (tgt := 43) (dk dt_X12_entry 16 rfl) (by decide) ?_
        exact v_less2 (ls' := [some (rv l0), some (iv l1), some (iv l2), some (iv l3), none]) ⟨rfl, rfl, rfl, rfl, trivial⟩ (by have hk9 := k42; try simp only [if_neg c6] at hk9 ⊢; try simp only [if_pos c13] at hk9 ⊢; exact hk9)
  obtain ⟨v16, h⟩ := h
  refine v_putI (pc := 43) (dk dt_X12_entry 25 rfl) fl_X12_127 (Or.inl rfl) v16 ?_
  generalize hG17 : (sfd G3 12 0 l0 (if r2 = 0 then (1 : Int) else (if (wIn l2 0 ((gel G3 (gfd G3 12 38 l0) l1) - 1)) = 0 then (1 : Int) else (if (wIn l3 0 3) = 0 then (2 : Int) else 0)))) = G17
  replace h := h G17 hG17.symm
  refine v_aload_n (pc := 46) (dk dt_X12_entry 26 rfl) rfl rfl ?_
  obtain ⟨v18, h⟩ := h
  refine v_getI (pc := 47) (dk dt_X12_entry 27 rfl) fl_X12_127 v18 (fun _ => ?_)
  refine v_if_le (pc := 50) (tgt := 55) (dk dt_X12_entry 28 rfl) (by decide) (fun c19 => ?_) (fun c19 => ?_)
  · replace h := h.1 c19
    refine v_bipush (pc := 55) (dk dt_X12_entry 31 rfl) (by decide) ⟨by decide, by decide⟩ ?_
    refine v_iload_n (pc := 57) (dk dt_X12_entry 32 rfl) rfl rfl ?_
    obtain ⟨v20, h⟩ := h
    refine v_imul (pc := 58) (dk dt_X12_entry 33 rfl) v20 ?_
    refine v_iload_n (pc := 59) (dk dt_X12_entry 34 rfl) rfl rfl ?_
    obtain ⟨v21, h⟩ := h
    refine v_iadd (pc := 60) (dk dt_X12_entry 35 rfl) v21 ?_
    refine v_istore (pc := 61) (ls' := [some (rv l0), some (iv l1), some (iv l2), some (iv l3), some (iv ((24 * l1) + l2))]) (dk dt_X12_entry 36 rfl) (Nat.le_of_ble_eq_true rfl) rfl ?_
    refine v_iload_n (pc := 63) (dk dt_X12_entry 37 rfl) rfl rfl ?_
    obtain ⟨v25, v26, v27, v28, v30, v31, v32, v33, v34, v35, v36, v37, v38, v39, v40, v41, h⟩ := h
    suffices k43 : V E M_X12_entry 122 [none, none, none, none, none] [iv (if l3 = 0 then ((gel G17 (gfd G17 12 39 l0) ((24 * l1) + l2)) : Int) else (if l3 = 1 then ((gel G17 (gfd G17 12 40 l0) ((24 * l1) + l2)) : Int) else (if l3 = 2 then ((gel G17 (gfd G17 12 41 l0) ((24 * l1) + l2)) : Int) else (if (gel G17 (gfd G17 12 43 l0) ((24 * l1) + l2)) = 0 then (0 : Int) else 1))))] G17 c4 s5 Q X by
      refine v_if_ne (pc := 64) (tgt := 77) (dk dt_X12_entry 38 rfl) (by decide) (fun c22 => ?_) (fun c22 => ?_)
      · refine v_iload_n (pc := 77) (dk dt_X12_entry_1 4 rfl) rfl rfl ?_
        refine v_iconst (pc := 78) (dk dt_X12_entry_1 5 rfl) ⟨by decide, by decide⟩ ?_
        refine v_icmp_ne (pc := 79) (tgt := 92) (dk dt_X12_entry_1 6 rfl) (by decide) (fun c23 => ?_) (fun c23 => ?_)
        · refine v_iload_n (pc := 92) (dk dt_X12_entry_1 12 rfl) rfl rfl ?_
          refine v_iconst (pc := 93) (dk dt_X12_entry_1 13 rfl) ⟨by decide, by decide⟩ ?_
          refine v_icmp_ne (pc := 94) (tgt := 107) (dk dt_X12_entry_1 14 rfl) (by decide) (fun c24 => ?_) (fun c24 => ?_)
          · refine v_aload_n (pc := 107) (dk dt_X12_entry_1 20 rfl) rfl rfl ?_
            refine v_getR (pc := 108) (dk dt_X12_entry_1 21 rfl) fl_X12_112 (v25 c22 c23 c24) (fun _ => ?_)
            refine v_iload (pc := 111) (dk dt_X12_entry_1 22 rfl) rfl ?_
            refine v_zald (pc := 113) (dk dt_X12_entry_1 23 rfl) (v26 c22 c23 c24) (v27 c22 c23 c24) (v28 c22 c23 c24) (fun _ => ?_)
            refine v_if_eq (pc := 114) (tgt := 121) (dk dt_X12_entry_1 24 rfl) (by decide) (fun c29 => ?_) (fun c29 => ?_)
            · refine v_iconst (pc := 121) (dk dt_X12_entry_1 27 rfl) ⟨by decide, by decide⟩ ?_
              exact v_less2 (ls' := [none, none, none, none, none]) trivial (by have hk9 := k43; try simp only [if_neg c22] at hk9 ⊢; try simp only [if_neg c23] at hk9 ⊢; try simp only [if_neg c24] at hk9 ⊢; try simp only [if_pos c29] at hk9 ⊢; exact hk9)
            · refine v_iconst (pc := 117) (dk dt_X12_entry_1 25 rfl) ⟨by decide, by decide⟩ ?_
              refine v_goto (pc := 118) (tgt := 122) (dk dt_X12_entry_1 26 rfl) (by decide) ?_
              exact v_less2 (ls' := [none, none, none, none, none]) trivial (by have hk9 := k43; try simp only [if_neg c22] at hk9 ⊢; try simp only [if_neg c23] at hk9 ⊢; try simp only [if_neg c24] at hk9 ⊢; try simp only [if_neg c29] at hk9 ⊢; exact hk9)
          · refine v_aload_n (pc := 97) (dk dt_X12_entry_1 15 rfl) rfl rfl ?_
            refine v_getR (pc := 98) (dk dt_X12_entry_1 16 rfl) fl_X12_106 (v30 c22 c23 c24) (fun _ => ?_)
            refine v_iload (pc := 101) (dk dt_X12_entry_1 17 rfl) rfl ?_
            refine v_iald (pc := 103) (dk dt_X12_entry_1 18 rfl) (Or.inl (v31 c22 c23 c24)) (v32 c22 c23 c24) (v33 c22 c23 c24) (fun _ => ?_)
            refine v_goto (pc := 104) (tgt := 122) (dk dt_X12_entry_1 19 rfl) (by decide) ?_
            exact v_less2 (ls' := [none, none, none, none, none]) trivial (by have hk9 := k43; try simp only [if_neg c22] at hk9 ⊢; try simp only [if_neg c23] at hk9 ⊢; try simp only [if_pos c24] at hk9 ⊢; exact hk9)
        · refine v_aload_n (pc := 82) (dk dt_X12_entry_1 7 rfl) rfl rfl ?_
          refine v_getR (pc := 83) (dk dt_X12_entry_1 8 rfl) fl_X12_103 (v34 c22 c23) (fun _ => ?_)
          refine v_iload (pc := 86) (dk dt_X12_entry_1 9 rfl) rfl ?_
          refine v_iald (pc := 88) (dk dt_X12_entry_1 10 rfl) (Or.inl (v35 c22 c23)) (v36 c22 c23) (v37 c22 c23) (fun _ => ?_)
          refine v_goto (pc := 89) (tgt := 122) (dk dt_X12_entry_1 11 rfl) (by decide) ?_
          exact v_less2 (ls' := [none, none, none, none, none]) trivial (by have hk9 := k43; try simp only [if_neg c22] at hk9 ⊢; try simp only [if_pos c23] at hk9 ⊢; exact hk9)
      · refine v_aload_n (pc := 67) (dk dt_X12_entry 39 rfl) rfl rfl ?_
        refine v_getR (pc := 68) (dk dt_X12_entry_1 0 rfl) fl_X12_100 (v38 c22) (fun _ => ?_)
        refine v_iload (pc := 71) (dk dt_X12_entry_1 1 rfl) rfl ?_
        refine v_iald (pc := 73) (dk dt_X12_entry_1 2 rfl) (Or.inl (v39 c22)) (v40 c22) (v41 c22) (fun _ => ?_)
        refine v_goto (pc := 74) (tgt := 122) (dk dt_X12_entry_1 3 rfl) (by decide) ?_
        exact v_less2 (ls' := [none, none, none, none, none]) trivial (by have hk9 := k43; try simp only [if_pos c22] at hk9 ⊢; exact hk9)
    exact v_iret (pc := 122) (dk dt_X12_entry_1 28 rfl) rfl h
  · replace h := h.2 c19
    refine v_iconst (pc := 53) (dk dt_X12_entry 29 rfl) ⟨by decide, by decide⟩ ?_
    exact v_iret (pc := 54) (dk dt_X12_entry 30 rfl) rfl h
set_option maxRecDepth 20000 in
theorem i_X12_entry {E : EE} {l0 l1 l2 l3 : Int} {G : Gt} {c s : Nat} {Q X : Int → Gt → Prop} (h : (gcl G l0 = 13 ∧ Call E M_X12_isAlert [rv l0, iv l1] G c s X (fun r2 G3 c4 s5 => (r2 ≠ 0 → gcl G3 l0 = 13) ∧ (r2 ≠ 0 → gcl G3 (gfd G3 12 38 l0) = 15) ∧ (r2 ≠ 0 → 0 ≤ l1) ∧ (r2 ≠ 0 → l1 < gln G3 (gfd G3 12 38 l0)) ∧ (r2 ≠ 0 → i32 ((gel G3 (gfd G3 12 38 l0) l1) - 1)) ∧ (r2 ≠ 0 → OkP E M_X12_in [iv l2, iv 0, iv ((gel G3 (gfd G3 12 38 l0) l1) - 1)] G3 (wIn l2 0 ((gel G3 (gfd G3 12 38 l0) l1) - 1))) ∧ (r2 ≠ 0 → (wIn l2 0 ((gel G3 (gfd G3 12 38 l0) l1) - 1)) ≠ 0 → OkP E M_X12_in [iv l3, iv 0, iv 3] G3 (wIn l3 0 3)) ∧ gcl G3 l0 = 13 ∧ ∀ G17 : Gt, G17 = (sfd G3 12 0 l0 (if r2 = 0 then (1 : Int) else (if (wIn l2 0 ((gel G3 (gfd G3 12 38 l0) l1) - 1)) = 0 then (1 : Int) else (if (wIn l3 0 3) = 0 then (2 : Int) else 0)))) → gcl G17 l0 = 13 ∧ (((gfd G17 12 0 l0) ≤ 0 → (i32 (24 * l1) ∧ i32 ((24 * l1) + l2) ∧ (l3 ≠ 0 → l3 ≠ 1 → l3 ≠ 2 → gcl G17 l0 = 13) ∧ (l3 ≠ 0 → l3 ≠ 1 → l3 ≠ 2 → gcl G17 (gfd G17 12 43 l0) = 17) ∧ (l3 ≠ 0 → l3 ≠ 1 → l3 ≠ 2 → 0 ≤ ((24 * l1) + l2)) ∧ (l3 ≠ 0 → l3 ≠ 1 → l3 ≠ 2 → ((24 * l1) + l2) < gln G17 (gfd G17 12 43 l0)) ∧ (l3 ≠ 0 → l3 ≠ 1 → l3 = 2 → gcl G17 l0 = 13) ∧ (l3 ≠ 0 → l3 ≠ 1 → l3 = 2 → gcl G17 (gfd G17 12 41 l0) = 15) ∧ (l3 ≠ 0 → l3 ≠ 1 → l3 = 2 → 0 ≤ ((24 * l1) + l2)) ∧ (l3 ≠ 0 → l3 ≠ 1 → l3 = 2 → ((24 * l1) + l2) < gln G17 (gfd G17 12 41 l0)) ∧ (l3 ≠ 0 → l3 = 1 → gcl G17 l0 = 13) ∧ (l3 ≠ 0 → l3 = 1 → gcl G17 (gfd G17 12 40 l0) = 15) ∧ (l3 ≠ 0 → l3 = 1 → 0 ≤ ((24 * l1) + l2)) ∧ (l3 ≠ 0 → l3 = 1 → ((24 * l1) + l2) < gln G17 (gfd G17 12 40 l0)) ∧ (l3 = 0 → gcl G17 l0 = 13) ∧ (l3 = 0 → gcl G17 (gfd G17 12 39 l0) = 15) ∧ (l3 = 0 → 0 ≤ ((24 * l1) + l2)) ∧ (l3 = 0 → ((24 * l1) + l2) < gln G17 (gfd G17 12 39 l0)) ∧ Q (if l3 = 0 then ((gel G17 (gfd G17 12 39 l0) ((24 * l1) + l2)) : Int) else (if l3 = 1 then ((gel G17 (gfd G17 12 40 l0) ((24 * l1) + l2)) : Int) else (if l3 = 2 then ((gel G17 (gfd G17 12 41 l0) ((24 * l1) + l2)) : Int) else (if (gel G17 (gfd G17 12 43 l0) ((24 * l1) + l2)) = 0 then (0 : Int) else 1)))) G17)) ∧ (0 < (gfd G17 12 0 l0) → Q 0 G17))))) : Ok E M_X12_entry [rv l0, iv l1, iv l2, iv l3] G c s Q X := Ok.intro (k := 1) rfl rfl (Nat.le_of_ble_eq_true rfl) rfl (b_X12_entry_0 h)
set_option maxRecDepth 20000 in
theorem b_X12_notices_0 {E : EE} {l0 : Int} {G : Gt} {c s : Nat} {Q X : Int → Gt → Prop} (h : (gcl G l0 = 13 ∧ ∀ G2 : Gt, G2 = (sfd G 12 0 l0 0) → gcl G2 l0 = 13 ∧ Q (gfd G2 12 46 l0) G2)) : V E M_X12_notices 0 [some (rv l0)] [] G c s Q X := by
  refine v_aload_n (pc := 0) (dk dt_X12_notices 0 rfl) rfl rfl ?_
  refine v_iconst (pc := 1) (dk dt_X12_notices 1 rfl) ⟨by decide, by decide⟩ ?_
  obtain ⟨v1, h⟩ := h
  refine v_putI (pc := 2) (dk dt_X12_notices 2 rfl) fl_X12_127 (Or.inl rfl) v1 ?_
  generalize hG2 : (sfd G 12 0 l0 0) = G2
  replace h := h G2 hG2.symm
  refine v_aload_n (pc := 5) (dk dt_X12_notices 3 rfl) rfl rfl ?_
  obtain ⟨v3, h⟩ := h
  refine v_getI (pc := 6) (dk dt_X12_notices 4 rfl) fl_X12_324 v3 (fun _ => ?_)
  exact v_iret (pc := 9) (dk dt_X12_notices 5 rfl) rfl h
set_option maxRecDepth 20000 in
theorem i_X12_notices {E : EE} {l0 : Int} {G : Gt} {c s : Nat} {Q X : Int → Gt → Prop} (h : (gcl G l0 = 13 ∧ ∀ G2 : Gt, G2 = (sfd G 12 0 l0 0) → gcl G2 l0 = 13 ∧ Q (gfd G2 12 46 l0) G2)) : Ok E M_X12_notices [rv l0] G c s Q X := Ok.intro (k := 0) rfl rfl (Nat.le_of_ble_eq_true rfl) rfl (b_X12_notices_0 h)
set_option maxRecDepth 20000 in
theorem b_X12_notice_0 {E : EE} {l0 l1 l2 : Int} {G : Gt} {c s : Nat} {Q X : Int → Gt → Prop} (h : (gcl G l0 = 13 ∧ i32 ((gfd G 12 46 l0) - 1) ∧ OkP E M_X12_in [iv l1, iv 0, iv ((gfd G 12 46 l0) - 1)] G (wIn l1 0 ((gfd G 12 46 l0) - 1)) ∧ ((wIn l1 0 ((gfd G 12 46 l0) - 1)) ≠ 0 → l1 < 60 → OkP E M_X12_in [iv l2, iv 0, iv 2] G (wIn l2 0 2)) ∧ gcl G l0 = 13 ∧ ∀ G9 : Gt, G9 = (sfd G 12 0 l0 (if (wIn l1 0 ((gfd G 12 46 l0) - 1)) = 0 then (1 : Int) else (if l1 < 60 then ((if (wIn l2 0 2) = 0 then (2 : Int) else 0) : Int) else 1))) → gcl G9 l0 = 13 ∧ ((gfd G9 12 0 l0) ≤ 0 → gcl G9 l0 = 13) ∧ ((gfd G9 12 0 l0) ≤ 0 → i32 (3 * l1)) ∧ ((gfd G9 12 0 l0) ≤ 0 → i32 ((3 * l1) + l2)) ∧ ((gfd G9 12 0 l0) ≤ 0 → gcl G9 (gfd G9 12 47 l0) = 15) ∧ ((gfd G9 12 0 l0) ≤ 0 → 0 ≤ ((3 * l1) + l2)) ∧ ((gfd G9 12 0 l0) ≤ 0 → ((3 * l1) + l2) < gln G9 (gfd G9 12 47 l0)) ∧ Q (if (gfd G9 12 0 l0) ≤ 0 then ((gel G9 (gfd G9 12 47 l0) ((3 * l1) + l2)) : Int) else 0) G9)) : V E M_X12_notice 0 [some (rv l0), some (iv l1), some (iv l2)] [] G c s Q X := by
  refine v_aload_n (pc := 0) (dk dt_X12_notice 0 rfl) rfl rfl ?_
  refine v_iload_n (pc := 1) (dk dt_X12_notice 1 rfl) rfl rfl ?_
  refine v_iconst (pc := 2) (dk dt_X12_notice 2 rfl) ⟨by decide, by decide⟩ ?_
  refine v_aload_n (pc := 3) (dk dt_X12_notice 3 rfl) rfl rfl ?_
  obtain ⟨v1, h⟩ := h
  refine v_getI (pc := 4) (dk dt_X12_notice 4 rfl) fl_X12_324 v1 (fun _ => ?_)
  refine v_iconst (pc := 7) (dk dt_X12_notice 5 rfl) ⟨by decide, by decide⟩ ?_
  obtain ⟨v2, h⟩ := h
  refine v_isub (pc := 8) (dk dt_X12_notice 6 rfl) v2 ?_
  obtain ⟨v3, h⟩ := h
  refine v_csPZ (v := (wIn l1 0 ((gfd G 12 46 l0) - 1))) (As := [iv l1, iv 0, iv ((gfd G 12 46 l0) - 1)]) (stk := [rv l0]) (pc := 9) (dk dt_X12_notice 7 rfl) ml_X12_172 rfl rfl (Nat.le_of_ble_eq_true rfl) rfl rfl v3 ?_
  obtain ⟨v6, h⟩ := h
  suffices k18 : V E M_X12_notice 39 [some (rv l0), some (iv l1), some (iv l2)] [iv (if (wIn l1 0 ((gfd G 12 46 l0) - 1)) = 0 then (1 : Int) else (if l1 < 60 then ((if (wIn l2 0 2) = 0 then (2 : Int) else 0) : Int) else 1)), rv l0] G c s Q X by
    refine v_if_eq (pc := 12) (tgt := 21) (dk dt_X12_notice 8 rfl) (by decide) (fun c4 => ?_) (fun c4 => ?_)
    · refine v_iconst (pc := 21) (dk dt_X12_notice 12 rfl) ⟨by decide, by decide⟩ ?_
      refine v_goto (pc := 22) (tgt := 39) (dk dt_X12_notice 13 rfl) (by decide) ?_
      exact v_less2 (ls' := [some (rv l0), some (iv l1), some (iv l2)]) ⟨rfl, rfl, rfl, trivial⟩ (by have hk9 := k18; try simp only [if_pos c4] at hk9 ⊢; exact hk9)
    · refine v_iload_n (pc := 15) (dk dt_X12_notice 9 rfl) rfl rfl ?_
      refine v_bipush (pc := 16) (dk dt_X12_notice 10 rfl) (by decide) ⟨by decide, by decide⟩ ?_
      refine v_icmp_lt (pc := 18) (tgt := 25) (dk dt_X12_notice 11 rfl) (by decide) (fun c5 => ?_) (fun c5 => ?_)
      · refine v_iload_n (pc := 25) (dk dt_X12_notice 14 rfl) rfl rfl ?_
        refine v_iconst (pc := 26) (dk dt_X12_notice 15 rfl) ⟨by decide, by decide⟩ ?_
        refine v_iconst (pc := 27) (dk dt_X12_notice 16 rfl) ⟨by decide, by decide⟩ ?_
        refine v_csPZ (v := (wIn l2 0 2)) (As := [iv l2, iv 0, iv 2]) (stk := [rv l0]) (pc := 28) (dk dt_X12_notice 17 rfl) ml_X12_172 rfl rfl (Nat.le_of_ble_eq_true rfl) rfl rfl (v6 c4 c5) ?_
        refine v_if_eq (pc := 31) (tgt := 38) (dk dt_X12_notice 18 rfl) (by decide) (fun c7 => ?_) (fun c7 => ?_)
        · refine v_iconst (pc := 38) (dk dt_X12_notice 21 rfl) ⟨by decide, by decide⟩ ?_
          exact v_less2 (ls' := [some (rv l0), some (iv l1), some (iv l2)]) ⟨rfl, rfl, rfl, trivial⟩ (by have hk9 := k18; try simp only [if_neg c4] at hk9 ⊢; try simp only [if_pos c5] at hk9 ⊢; try simp only [if_pos c7] at hk9 ⊢; exact hk9)
        · refine v_iconst (pc := 34) (dk dt_X12_notice 19 rfl) ⟨by decide, by decide⟩ ?_
          refine v_goto (pc := 35) (tgt := 39) (dk dt_X12_notice 20 rfl) (by decide) ?_
          exact v_less2 (ls' := [some (rv l0), some (iv l1), some (iv l2)]) ⟨rfl, rfl, rfl, trivial⟩ (by have hk9 := k18; try simp only [if_neg c4] at hk9 ⊢; try simp only [if_pos c5] at hk9 ⊢; try simp only [if_neg c7] at hk9 ⊢; exact hk9)
      · refine v_iconst (pc := 21) (dk dt_X12_notice 12 rfl) ⟨by decide, by decide⟩ ?_
        refine v_goto (pc := 22) (tgt := 39) (dk dt_X12_notice 13 rfl) (by decide) ?_
        exact v_less2 (ls' := [some (rv l0), some (iv l1), some (iv l2)]) ⟨rfl, rfl, rfl, trivial⟩ (by have hk9 := k18; try simp only [if_neg c4] at hk9 ⊢; try simp only [if_neg (Int.not_lt.mpr c5)] at hk9 ⊢; exact hk9)
  obtain ⟨v8, h⟩ := h
  refine v_putI (pc := 39) (dk dt_X12_notice 22 rfl) fl_X12_127 (Or.inl rfl) v8 ?_
  generalize hG9 : (sfd G 12 0 l0 (if (wIn l1 0 ((gfd G 12 46 l0) - 1)) = 0 then (1 : Int) else (if l1 < 60 then ((if (wIn l2 0 2) = 0 then (2 : Int) else 0) : Int) else 1))) = G9
  replace h := h G9 hG9.symm
  refine v_aload_n (pc := 42) (dk dt_X12_notice 23 rfl) rfl rfl ?_
  obtain ⟨v10, h⟩ := h
  refine v_getI (pc := 43) (dk dt_X12_notice 24 rfl) fl_X12_127 v10 (fun _ => ?_)
  obtain ⟨v12, v13, v14, v15, v16, v17, h⟩ := h
  suffices k19 : V E M_X12_notice 63 [none, none, none] [iv (if (gfd G9 12 0 l0) ≤ 0 then ((gel G9 (gfd G9 12 47 l0) ((3 * l1) + l2)) : Int) else 0)] G9 c s Q X by
    refine v_if_le (pc := 46) (tgt := 53) (dk dt_X12_notice 25 rfl) (by decide) (fun c11 => ?_) (fun c11 => ?_)
    · refine v_aload_n (pc := 53) (dk dt_X12_notice 28 rfl) rfl rfl ?_
      refine v_getR (pc := 54) (dk dt_X12_notice 29 rfl) fl_X12_118 (v12 c11) (fun _ => ?_)
      refine v_iconst (pc := 57) (dk dt_X12_notice 30 rfl) ⟨by decide, by decide⟩ ?_
      refine v_iload_n (pc := 58) (dk dt_X12_notice 31 rfl) rfl rfl ?_
      refine v_imul (pc := 59) (dk dt_X12_notice 32 rfl) (v13 c11) ?_
      refine v_iload_n (pc := 60) (dk dt_X12_notice 33 rfl) rfl rfl ?_
      refine v_iadd (pc := 61) (dk dt_X12_notice 34 rfl) (v14 c11) ?_
      refine v_iald (pc := 62) (dk dt_X12_notice 35 rfl) (Or.inl (v15 c11)) (v16 c11) (v17 c11) (fun _ => ?_)
      exact v_less2 (ls' := [none, none, none]) trivial (by have hk9 := k19; try simp only [if_pos c11] at hk9 ⊢; exact hk9)
    · refine v_iconst (pc := 49) (dk dt_X12_notice 26 rfl) ⟨by decide, by decide⟩ ?_
      refine v_goto (pc := 50) (tgt := 63) (dk dt_X12_notice 27 rfl) (by decide) ?_
      exact v_less2 (ls' := [none, none, none]) trivial (by have hk9 := k19; try simp only [if_neg (Int.not_le.mpr c11)] at hk9 ⊢; exact hk9)
  exact v_iret (pc := 63) (dk dt_X12_notice 36 rfl) rfl h
set_option maxRecDepth 20000 in
theorem i_X12_notice {E : EE} {l0 l1 l2 : Int} {G : Gt} {c s : Nat} {Q X : Int → Gt → Prop} (h : (gcl G l0 = 13 ∧ i32 ((gfd G 12 46 l0) - 1) ∧ OkP E M_X12_in [iv l1, iv 0, iv ((gfd G 12 46 l0) - 1)] G (wIn l1 0 ((gfd G 12 46 l0) - 1)) ∧ ((wIn l1 0 ((gfd G 12 46 l0) - 1)) ≠ 0 → l1 < 60 → OkP E M_X12_in [iv l2, iv 0, iv 2] G (wIn l2 0 2)) ∧ gcl G l0 = 13 ∧ ∀ G9 : Gt, G9 = (sfd G 12 0 l0 (if (wIn l1 0 ((gfd G 12 46 l0) - 1)) = 0 then (1 : Int) else (if l1 < 60 then ((if (wIn l2 0 2) = 0 then (2 : Int) else 0) : Int) else 1))) → gcl G9 l0 = 13 ∧ ((gfd G9 12 0 l0) ≤ 0 → gcl G9 l0 = 13) ∧ ((gfd G9 12 0 l0) ≤ 0 → i32 (3 * l1)) ∧ ((gfd G9 12 0 l0) ≤ 0 → i32 ((3 * l1) + l2)) ∧ ((gfd G9 12 0 l0) ≤ 0 → gcl G9 (gfd G9 12 47 l0) = 15) ∧ ((gfd G9 12 0 l0) ≤ 0 → 0 ≤ ((3 * l1) + l2)) ∧ ((gfd G9 12 0 l0) ≤ 0 → ((3 * l1) + l2) < gln G9 (gfd G9 12 47 l0)) ∧ Q (if (gfd G9 12 0 l0) ≤ 0 then ((gel G9 (gfd G9 12 47 l0) ((3 * l1) + l2)) : Int) else 0) G9)) : Ok E M_X12_notice [rv l0, iv l1, iv l2] G c s Q X := Ok.intro (k := 0) rfl rfl (Nat.le_of_ble_eq_true rfl) rfl (b_X12_notice_0 h)
set_option maxRecDepth 20000 in
theorem b_X12_thinned_0 {E : EE} {l0 l1 l2 l3 l4 : Int} {G : Gt} {c s : Nat} {Q X : Int → Gt → Prop} (h : (gcl G l0 = 13 ∧ OkP E M_X12_isSeries [rv l0, iv l1] G (wIn l1 0 (gfd G 12 6 l0 - 1)) ∧ ((wIn l1 0 (gfd G 12 6 l0 - 1)) ≠ 0 → l2 = 10 → OkP E M_X12_in [iv l3, iv 0, iv 10000] G (wIn l3 0 10000)) ∧ ((wIn l1 0 (gfd G 12 6 l0 - 1)) ≠ 0 → l2 = 10 → (wIn l3 0 10000) ≠ 0 → OkP E M_X12_in [iv l4, iv 0, iv 3] G (wIn l4 0 3)) ∧ ((wIn l1 0 (gfd G 12 6 l0 - 1)) ≠ 0 → l2 ≠ 10 → l2 = 100 → OkP E M_X12_in [iv l3, iv 0, iv 10000] G (wIn l3 0 10000)) ∧ ((wIn l1 0 (gfd G 12 6 l0 - 1)) ≠ 0 → l2 ≠ 10 → l2 = 100 → (wIn l3 0 10000) ≠ 0 → OkP E M_X12_in [iv l4, iv 0, iv 3] G (wIn l4 0 3)) ∧ gcl G l0 = 13 ∧ ∀ G15 : Gt, G15 = (sfd G 12 0 l0 (if (wIn l1 0 (gfd G 12 6 l0 - 1)) = 0 then (1 : Int) else (if l2 = 10 then ((if (wIn l3 0 10000) = 0 then (2 : Int) else (if (wIn l4 0 3) = 0 then (2 : Int) else 0)) : Int) else (if l2 = 100 then ((if (wIn l3 0 10000) = 0 then (2 : Int) else (if (wIn l4 0 3) = 0 then (2 : Int) else 0)) : Int) else 2)))) → gcl G15 l0 = 13 ∧ (((gfd G15 12 0 l0) ≤ 0 → V E M_X12_thinned 78 [some (rv l0), some (iv l1), some (iv l2), some (iv l3), some (iv l4), some (iv 0), some (iv 0), some (iv 0), some (iv 0), some (iv 0)] [] G15 c s Q X) ∧ (0 < (gfd G15 12 0 l0) → Q 0 G15)))) : V E M_X12_thinned 0 [some (rv l0), some (iv l1), some (iv l2), some (iv l3), some (iv l4), none, none, none, none, none] [] G c s Q X := by
  refine v_aload_n (pc := 0) (dk dt_X12_thinned 0 rfl) rfl rfl ?_
  refine v_aload_n (pc := 1) (dk dt_X12_thinned 1 rfl) rfl rfl ?_
  refine v_iload_n (pc := 2) (dk dt_X12_thinned 2 rfl) rfl rfl ?_
  obtain ⟨v1, h⟩ := h
  obtain ⟨v2, h⟩ := h
  refine v_cvPZ (c := 12) (v := (wIn l1 0 (gfd G 12 6 l0 - 1))) (As := [iv l1]) (stk := [rv l0]) (pc := 3) (dk dt_X12_thinned 3 rfl) ml_X12_186 rfl rfl (Nat.le_of_ble_eq_true rfl) rfl ⟨by decide, rfl⟩ v1 rfl v2 ?_
  obtain ⟨v5, v7, v10, v12, h⟩ := h
  suffices k18 : V E M_X12_thinned 51 [some (rv l0), some (iv l1), some (iv l2), some (iv l3), some (iv l4), none, none, none, none, none] [iv (if (wIn l1 0 (gfd G 12 6 l0 - 1)) = 0 then (1 : Int) else (if l2 = 10 then ((if (wIn l3 0 10000) = 0 then (2 : Int) else (if (wIn l4 0 3) = 0 then (2 : Int) else 0)) : Int) else (if l2 = 100 then ((if (wIn l3 0 10000) = 0 then (2 : Int) else (if (wIn l4 0 3) = 0 then (2 : Int) else 0)) : Int) else 2))), rv l0] G c s Q X by
    refine v_if_ne (pc := 6) (tgt := 13) (dk dt_X12_thinned 4 rfl) (by decide) (fun c3 => ?_) (fun c3 => ?_)
    · refine v_iload_n (pc := 13) (dk dt_X12_thinned 7 rfl) rfl rfl ?_
      refine v_bipush (pc := 14) (dk dt_X12_thinned 8 rfl) (by decide) ⟨by decide, by decide⟩ ?_
      refine v_icmp_eq (pc := 16) (tgt := 25) (dk dt_X12_thinned 9 rfl) (by decide) (fun c4 => ?_) (fun c4 => ?_)
      · refine v_iload_n (pc := 25) (dk dt_X12_thinned 13 rfl) rfl rfl ?_
        refine v_iconst (pc := 26) (dk dt_X12_thinned 14 rfl) ⟨by decide, by decide⟩ ?_
        refine v_sipush (pc := 27) (dk dt_X12_thinned 15 rfl) (by decide) ⟨by decide, by decide⟩ ?_
        refine v_csPZ (v := (wIn l3 0 10000)) (As := [iv l3, iv 0, iv 10000]) (stk := [rv l0]) (pc := 30) (dk dt_X12_thinned 16 rfl) ml_X12_172 rfl rfl (Nat.le_of_ble_eq_true rfl) rfl rfl (v5 c3 c4) ?_
        refine v_if_eq (pc := 33) (tgt := 50) (dk dt_X12_thinned 17 rfl) (by decide) (fun c6 => ?_) (fun c6 => ?_)
        · refine v_iconst (pc := 50) (dk dt_X12_thinned 25 rfl) ⟨by decide, by decide⟩ ?_
          exact v_less2 (ls' := [some (rv l0), some (iv l1), some (iv l2), some (iv l3), some (iv l4), none, none, none, none, none]) ⟨rfl, rfl, rfl, rfl, rfl, trivial⟩ (by have hk9 := k18; try simp only [if_neg c3] at hk9 ⊢; try simp only [if_pos c4] at hk9 ⊢; try simp only [if_pos c6] at hk9 ⊢; exact hk9)
        · refine v_iload (pc := 36) (dk dt_X12_thinned 18 rfl) rfl ?_
          refine v_iconst (pc := 38) (dk dt_X12_thinned 19 rfl) ⟨by decide, by decide⟩ ?_
          refine v_iconst (pc := 39) (dk dt_X12_thinned 20 rfl) ⟨by decide, by decide⟩ ?_
          refine v_csPZ (v := (wIn l4 0 3)) (As := [iv l4, iv 0, iv 3]) (stk := [rv l0]) (pc := 40) (dk dt_X12_thinned 21 rfl) ml_X12_172 rfl rfl (Nat.le_of_ble_eq_true rfl) rfl rfl (v7 c3 c4 c6) ?_
          refine v_if_eq (pc := 43) (tgt := 50) (dk dt_X12_thinned 22 rfl) (by decide) (fun c8 => ?_) (fun c8 => ?_)
          · refine v_iconst (pc := 50) (dk dt_X12_thinned 25 rfl) ⟨by decide, by decide⟩ ?_
            exact v_less2 (ls' := [some (rv l0), some (iv l1), some (iv l2), some (iv l3), some (iv l4), none, none, none, none, none]) ⟨rfl, rfl, rfl, rfl, rfl, trivial⟩ (by have hk9 := k18; try simp only [if_neg c3] at hk9 ⊢; try simp only [if_pos c4] at hk9 ⊢; try simp only [if_neg c6] at hk9 ⊢; try simp only [if_pos c8] at hk9 ⊢; exact hk9)
          · refine v_iconst (pc := 46) (dk dt_X12_thinned 23 rfl) ⟨by decide, by decide⟩ ?_
            refine v_goto (pc := 47) (tgt := 51) (dk dt_X12_thinned 24 rfl) (by decide) ?_
            exact v_less2 (ls' := [some (rv l0), some (iv l1), some (iv l2), some (iv l3), some (iv l4), none, none, none, none, none]) ⟨rfl, rfl, rfl, rfl, rfl, trivial⟩ (by have hk9 := k18; try simp only [if_neg c3] at hk9 ⊢; try simp only [if_pos c4] at hk9 ⊢; try simp only [if_neg c6] at hk9 ⊢; try simp only [if_neg c8] at hk9 ⊢; exact hk9)
      · refine v_iload_n (pc := 19) (dk dt_X12_thinned 10 rfl) rfl rfl ?_
        refine v_bipush (pc := 20) (dk dt_X12_thinned 11 rfl) (by decide) ⟨by decide, by decide⟩ ?_
        refine v_icmp_ne (pc := 22) (tgt := 50) (dk dt_X12_thinned 12 rfl) (by decide) (fun c9 => ?_) (fun c9 => ?_)
        · refine v_iconst (pc := 50) (dk dt_X12_thinned 25 rfl) ⟨by decide, by decide⟩ ?_
          exact v_less2 (ls' := [some (rv l0), some (iv l1), some (iv l2), some (iv l3), some (iv l4), none, none, none, none, none]) ⟨rfl, rfl, rfl, rfl, rfl, trivial⟩ (by have hk9 := k18; try simp only [if_neg c3] at hk9 ⊢; try simp only [if_neg c4] at hk9 ⊢; try simp only [if_neg c9] at hk9 ⊢; exact hk9)
        · refine v_iload_n (pc := 25) (dk dt_X12_thinned 13 rfl) rfl rfl ?_
          refine v_iconst (pc := 26) (dk dt_X12_thinned 14 rfl) ⟨by decide, by decide⟩ ?_
          refine v_sipush (pc := 27) (dk dt_X12_thinned 15 rfl) (by decide) ⟨by decide, by decide⟩ ?_
          refine v_csPZ (v := (wIn l3 0 10000)) (As := [iv l3, iv 0, iv 10000]) (stk := [rv l0]) (pc := 30) (dk dt_X12_thinned 16 rfl) ml_X12_172 rfl rfl (Nat.le_of_ble_eq_true rfl) rfl rfl (v10 c3 c4 c9) ?_
          refine v_if_eq (pc := 33) (tgt := 50) (dk dt_X12_thinned 17 rfl) (by decide) (fun c11 => ?_) (fun c11 => ?_)
          · refine v_iconst (pc := 50) (dk dt_X12_thinned 25 rfl) ⟨by decide, by decide⟩ ?_
            exact v_less2 (ls' := [some (rv l0), some (iv l1), some (iv l2), some (iv l3), some (iv l4), none, none, none, none, none]) ⟨rfl, rfl, rfl, rfl, rfl, trivial⟩ (by have hk9 := k18; try simp only [if_neg c3] at hk9 ⊢; try simp only [if_neg c4] at hk9 ⊢; try simp only [if_pos c9] at hk9 ⊢; try simp only [if_pos c11] at hk9 ⊢; exact hk9)
          · refine v_iload (pc := 36) (dk dt_X12_thinned 18 rfl) rfl ?_
            refine v_iconst (pc := 38) (dk dt_X12_thinned 19 rfl) ⟨by decide, by decide⟩ ?_
            refine v_iconst (pc := 39) (dk dt_X12_thinned 20 rfl) ⟨by decide, by decide⟩ ?_
            refine v_csPZ (v := (wIn l4 0 3)) (As := [iv l4, iv 0, iv 3]) (stk := [rv l0]) (pc := 40) (dk dt_X12_thinned 21 rfl) ml_X12_172 rfl rfl (Nat.le_of_ble_eq_true rfl) rfl rfl (v12 c3 c4 c9 c11) ?_
            refine v_if_eq (pc := 43) (tgt := 50) (dk dt_X12_thinned 22 rfl) (by decide) (fun c13 => ?_) (fun c13 => ?_)
            · refine v_iconst (pc := 50) (dk dt_X12_thinned 25 rfl) ⟨by decide, by decide⟩ ?_
              exact v_less2 (ls' := [some (rv l0), some (iv l1), some (iv l2), some (iv l3), some (iv l4), none, none, none, none, none]) ⟨rfl, rfl, rfl, rfl, rfl, trivial⟩ (by have hk9 := k18; try simp only [if_neg c3] at hk9 ⊢; try simp only [if_neg c4] at hk9 ⊢; try simp only [if_pos c9] at hk9 ⊢; try simp only [if_neg c11] at hk9 ⊢; try simp only [if_pos c13] at hk9 ⊢; exact hk9)
            · refine v_iconst (pc := 46) (dk dt_X12_thinned 23 rfl) ⟨by decide, by decide⟩ ?_
              refine v_goto (pc := 47) (tgt := 51) (dk dt_X12_thinned 24 rfl) (by decide) ?_
              exact v_less2 (ls' := [some (rv l0), some (iv l1), some (iv l2), some (iv l3), some (iv l4), none, none, none, none, none]) ⟨rfl, rfl, rfl, rfl, rfl, trivial⟩ (by have hk9 := k18; try simp only [if_neg c3] at hk9 ⊢; try simp only [if_neg c4] at hk9 ⊢; try simp only [if_pos c9] at hk9 ⊢; try simp only [if_neg c11] at hk9 ⊢; try simp only [if_neg c13] at hk9 ⊢; exact hk9)
    · refine v_iconst (pc := 9) (dk dt_X12_thinned 5 rfl) ⟨by decide, by decide⟩ ?_
      refine v_goto (pc := 10) (tgt := 51) (dk dt_X12_thinned 6 rfl) (by decide) ?_
      exact v_less2 (ls' := [some (rv l0), some (iv l1), some (iv l2), some (iv l3), some (iv l4), none, none, none, none, none]) ⟨rfl, rfl, rfl, rfl, rfl, trivial⟩ (by have hk9 := k18; try simp only [if_pos c3] at hk9 ⊢; exact hk9)
  obtain ⟨v14, h⟩ := h
  refine v_putI (pc := 51) (dk dt_X12_thinned 26 rfl) fl_X12_127 (Or.inl rfl) v14 ?_
  generalize hG15 : (sfd G 12 0 l0 (if (wIn l1 0 (gfd G 12 6 l0 - 1)) = 0 then (1 : Int) else (if l2 = 10 then ((if (wIn l3 0 10000) = 0 then (2 : Int) else (if (wIn l4 0 3) = 0 then (2 : Int) else 0)) : Int) else (if l2 = 100 then ((if (wIn l3 0 10000) = 0 then (2 : Int) else (if (wIn l4 0 3) = 0 then (2 : Int) else 0)) : Int) else 2)))) = G15
  replace h := h G15 hG15.symm
  refine v_aload_n (pc := 54) (dk dt_X12_thinned 27 rfl) rfl rfl ?_
  obtain ⟨v16, h⟩ := h
  refine v_getI (pc := 55) (dk dt_X12_thinned 28 rfl) fl_X12_127 v16 (fun _ => ?_)
  refine v_if_le (pc := 58) (tgt := 63) (dk dt_X12_thinned 29 rfl) (by decide) (fun c17 => ?_) (fun c17 => ?_)
  · replace h := h.1 c17
    refine v_iconst (pc := 63) (dk dt_X12_thinned 32 rfl) ⟨by decide, by decide⟩ ?_
    refine v_istore (pc := 64) (ls' := [some (rv l0), some (iv l1), some (iv l2), some (iv l3), some (iv l4), some (iv 0), none, none, none, none]) (dk dt_X12_thinned 33 rfl) (Nat.le_of_ble_eq_true rfl) rfl ?_
    refine v_iconst (pc := 66) (dk dt_X12_thinned 34 rfl) ⟨by decide, by decide⟩ ?_
    refine v_istore (pc := 67) (ls' := [some (rv l0), some (iv l1), some (iv l2), some (iv l3), some (iv l4), some (iv 0), some (iv 0), none, none, none]) (dk dt_X12_thinned 35 rfl) (Nat.le_of_ble_eq_true rfl) rfl ?_
    refine v_iconst (pc := 69) (dk dt_X12_thinned 36 rfl) ⟨by decide, by decide⟩ ?_
    refine v_istore (pc := 70) (ls' := [some (rv l0), some (iv l1), some (iv l2), some (iv l3), some (iv l4), some (iv 0), some (iv 0), some (iv 0), none, none]) (dk dt_X12_thinned 37 rfl) (Nat.le_of_ble_eq_true rfl) rfl ?_
    refine v_iconst (pc := 72) (dk dt_X12_thinned 38 rfl) ⟨by decide, by decide⟩ ?_
    refine v_istore (pc := 73) (ls' := [some (rv l0), some (iv l1), some (iv l2), some (iv l3), some (iv l4), some (iv 0), some (iv 0), some (iv 0), some (iv 0), none]) (dk dt_X12_thinned 39 rfl) (Nat.le_of_ble_eq_true rfl) rfl ?_
    refine v_iconst (pc := 75) (dk dt_X12_thinned_1 0 rfl) ⟨by decide, by decide⟩ ?_
    refine v_istore (pc := 76) (ls' := [some (rv l0), some (iv l1), some (iv l2), some (iv l3), some (iv l4), some (iv 0), some (iv 0), some (iv 0), some (iv 0), some (iv 0)]) (dk dt_X12_thinned_1 1 rfl) (Nat.le_of_ble_eq_true rfl) rfl ?_
    exact h
  · replace h := h.2 c17
    refine v_iconst (pc := 61) (dk dt_X12_thinned 30 rfl) ⟨by decide, by decide⟩ ?_
    exact v_iret (pc := 62) (dk dt_X12_thinned 31 rfl) rfl h
set_option maxRecDepth 20000 in
theorem i_X12_thinned {E : EE} {l0 l1 l2 l3 l4 : Int} {G : Gt} {c s : Nat} {Q X : Int → Gt → Prop} (h : (gcl G l0 = 13 ∧ OkP E M_X12_isSeries [rv l0, iv l1] G (wIn l1 0 (gfd G 12 6 l0 - 1)) ∧ ((wIn l1 0 (gfd G 12 6 l0 - 1)) ≠ 0 → l2 = 10 → OkP E M_X12_in [iv l3, iv 0, iv 10000] G (wIn l3 0 10000)) ∧ ((wIn l1 0 (gfd G 12 6 l0 - 1)) ≠ 0 → l2 = 10 → (wIn l3 0 10000) ≠ 0 → OkP E M_X12_in [iv l4, iv 0, iv 3] G (wIn l4 0 3)) ∧ ((wIn l1 0 (gfd G 12 6 l0 - 1)) ≠ 0 → l2 ≠ 10 → l2 = 100 → OkP E M_X12_in [iv l3, iv 0, iv 10000] G (wIn l3 0 10000)) ∧ ((wIn l1 0 (gfd G 12 6 l0 - 1)) ≠ 0 → l2 ≠ 10 → l2 = 100 → (wIn l3 0 10000) ≠ 0 → OkP E M_X12_in [iv l4, iv 0, iv 3] G (wIn l4 0 3)) ∧ gcl G l0 = 13 ∧ ∀ G15 : Gt, G15 = (sfd G 12 0 l0 (if (wIn l1 0 (gfd G 12 6 l0 - 1)) = 0 then (1 : Int) else (if l2 = 10 then ((if (wIn l3 0 10000) = 0 then (2 : Int) else (if (wIn l4 0 3) = 0 then (2 : Int) else 0)) : Int) else (if l2 = 100 then ((if (wIn l3 0 10000) = 0 then (2 : Int) else (if (wIn l4 0 3) = 0 then (2 : Int) else 0)) : Int) else 2)))) → gcl G15 l0 = 13 ∧ (((gfd G15 12 0 l0) ≤ 0 → V E M_X12_thinned 78 [some (rv l0), some (iv l1), some (iv l2), some (iv l3), some (iv l4), some (iv 0), some (iv 0), some (iv 0), some (iv 0), some (iv 0)] [] G15 c s Q X) ∧ (0 < (gfd G15 12 0 l0) → Q 0 G15)))) : Ok E M_X12_thinned [rv l0, iv l1, iv l2, iv l3, iv l4] G c s Q X := Ok.intro (k := 5) rfl rfl (Nat.le_of_ble_eq_true rfl) rfl (b_X12_thinned_0 h)
set_option maxRecDepth 20000 in
theorem b_X12_thinned_78 {E : EE} {l0 l1 l2 l3 l4 l5 l6 l7 l8 l9 : Int} {G : Gt} {c s : Nat} {Q X : Int → Gt → Prop} (h : (gcl G l0 = 13 ∧ (((gfd G 12 12 l0) ≤ l9 → Q (if l4 = 0 then (l5 : Int) else (if l4 = 1 then (l6 : Int) else (if l4 = 2 then (l7 : Int) else l8))) G) ∧ (l9 < (gfd G 12 12 l0) → (gcl G l0 = 13 ∧ OkP E M_X12_isSeen [rv l0, iv l9] G (mSeen G l0 l9) ∧ (((mSeen G l0 l9) = 0 → (i32 (l9 + 1) ∧ V E M_X12_thinned 78 [some (rv l0), some (iv l1), some (iv l2), some (iv l3), some (iv l4), some (iv l5), some (iv l6), some (iv l7), some (iv l8), some (iv (l9 + 1))] [] G c s Q X)) ∧ ((mSeen G l0 l9) ≠ 0 → (gcl G l0 = 13 ∧ gcl G (gfd G 12 7 l0) = 15 ∧ 0 ≤ l9 ∧ l9 < gln G (gfd G 12 7 l0) ∧ ((gel G (gfd G 12 7 l0) l9) = l1 → gcl G l0 = 13) ∧ ((gel G (gfd G 12 7 l0) l9) = l1 → gcl G (gfd G 12 9 l0) = 15) ∧ ((gel G (gfd G 12 7 l0) l9) = l1 → 0 ≤ l9) ∧ ((gel G (gfd G 12 7 l0) l9) = l1 → l9 < gln G (gfd G 12 9 l0)) ∧ ((gel G (gfd G 12 7 l0) l9) = l1 → (gel G (gfd G 12 9 l0) l9) ≠ (-2147483648) → gcl G l0 = 13) ∧ ((gel G (gfd G 12 7 l0) l9) = l1 → (gel G (gfd G 12 9 l0) l9) ≠ (-2147483648) → gcl G (gfd G 12 8 l0) = 15) ∧ ((gel G (gfd G 12 7 l0) l9) = l1 → (gel G (gfd G 12 9 l0) l9) ≠ (-2147483648) → 0 ≤ l9) ∧ ((gel G (gfd G 12 7 l0) l9) = l1 → (gel G (gfd G 12 9 l0) l9) ≠ (-2147483648) → l9 < gln G (gfd G 12 8 l0)) ∧ ((gel G (gfd G 12 7 l0) l9) = l1 → (gel G (gfd G 12 9 l0) l9) ≠ (-2147483648) → l2 ≠ 0) ∧ ((gel G (gfd G 12 7 l0) l9) = l1 → (gel G (gfd G 12 9 l0) l9) ≠ (-2147483648) → i32 (Int.tdiv (gel G (gfd G 12 8 l0) l9) l2)) ∧ ((gel G (gfd G 12 7 l0) l9) = l1 → (gel G (gfd G 12 9 l0) l9) ≠ (-2147483648) → (Int.tdiv (gel G (gfd G 12 8 l0) l9) l2) = l3 → l5 = 0 → gcl G l0 = 13) ∧ ((gel G (gfd G 12 7 l0) l9) = l1 → (gel G (gfd G 12 9 l0) l9) ≠ (-2147483648) → (Int.tdiv (gel G (gfd G 12 8 l0) l9) l2) = l3 → l5 = 0 → gcl G (gfd G 12 9 l0) = 15) ∧ ((gel G (gfd G 12 7 l0) l9) = l1 → (gel G (gfd G 12 9 l0) l9) ≠ (-2147483648) → (Int.tdiv (gel G (gfd G 12 8 l0) l9) l2) = l3 → l5 = 0 → 0 ≤ l9) ∧ ((gel G (gfd G 12 7 l0) l9) = l1 → (gel G (gfd G 12 9 l0) l9) ≠ (-2147483648) → (Int.tdiv (gel G (gfd G 12 8 l0) l9) l2) = l3 → l5 = 0 → l9 < gln G (gfd G 12 9 l0)) ∧ ((gel G (gfd G 12 7 l0) l9) = l1 → (gel G (gfd G 12 9 l0) l9) ≠ (-2147483648) → (Int.tdiv (gel G (gfd G 12 8 l0) l9) l2) = l3 → l5 = 0 → gcl G l0 = 13) ∧ ((gel G (gfd G 12 7 l0) l9) = l1 → (gel G (gfd G 12 9 l0) l9) ≠ (-2147483648) → (Int.tdiv (gel G (gfd G 12 8 l0) l9) l2) = l3 → l5 = 0 → gcl G (gfd G 12 9 l0) = 15) ∧ ((gel G (gfd G 12 7 l0) l9) = l1 → (gel G (gfd G 12 9 l0) l9) ≠ (-2147483648) → (Int.tdiv (gel G (gfd G 12 8 l0) l9) l2) = l3 → l5 = 0 → 0 ≤ l9) ∧ ((gel G (gfd G 12 7 l0) l9) = l1 → (gel G (gfd G 12 9 l0) l9) ≠ (-2147483648) → (Int.tdiv (gel G (gfd G 12 8 l0) l9) l2) = l3 → l5 = 0 → l9 < gln G (gfd G 12 9 l0)) ∧ ((gel G (gfd G 12 7 l0) l9) = l1 → (gel G (gfd G 12 9 l0) l9) ≠ (-2147483648) → (Int.tdiv (gel G (gfd G 12 8 l0) l9) l2) = l3 → l5 = 0 → gcl G l0 = 13) ∧ ((gel G (gfd G 12 7 l0) l9) = l1 → (gel G (gfd G 12 9 l0) l9) ≠ (-2147483648) → (Int.tdiv (gel G (gfd G 12 8 l0) l9) l2) = l3 → l5 = 0 → gcl G (gfd G 12 9 l0) = 15) ∧ ((gel G (gfd G 12 7 l0) l9) = l1 → (gel G (gfd G 12 9 l0) l9) ≠ (-2147483648) → (Int.tdiv (gel G (gfd G 12 8 l0) l9) l2) = l3 → l5 = 0 → 0 ≤ l9) ∧ ((gel G (gfd G 12 7 l0) l9) = l1 → (gel G (gfd G 12 9 l0) l9) ≠ (-2147483648) → (Int.tdiv (gel G (gfd G 12 8 l0) l9) l2) = l3 → l5 = 0 → l9 < gln G (gfd G 12 9 l0)) ∧ ((gel G (gfd G 12 7 l0) l9) = l1 → (gel G (gfd G 12 9 l0) l9) ≠ (-2147483648) → (Int.tdiv (gel G (gfd G 12 8 l0) l9) l2) = l3 → l5 = 0 → i32 (l6 + (gel G (gfd G 12 9 l0) l9))) ∧ ((gel G (gfd G 12 7 l0) l9) = l1 → (gel G (gfd G 12 9 l0) l9) ≠ (-2147483648) → (Int.tdiv (gel G (gfd G 12 8 l0) l9) l2) = l3 → l5 = 0 → i32 (l5 + 1)) ∧ ((gel G (gfd G 12 7 l0) l9) = l1 → (gel G (gfd G 12 9 l0) l9) ≠ (-2147483648) → (Int.tdiv (gel G (gfd G 12 8 l0) l9) l2) = l3 → l5 ≠ 0 → gcl G l0 = 13) ∧ ((gel G (gfd G 12 7 l0) l9) = l1 → (gel G (gfd G 12 9 l0) l9) ≠ (-2147483648) → (Int.tdiv (gel G (gfd G 12 8 l0) l9) l2) = l3 → l5 ≠ 0 → gcl G (gfd G 12 9 l0) = 15) ∧ ((gel G (gfd G 12 7 l0) l9) = l1 → (gel G (gfd G 12 9 l0) l9) ≠ (-2147483648) → (Int.tdiv (gel G (gfd G 12 8 l0) l9) l2) = l3 → l5 ≠ 0 → 0 ≤ l9) ∧ ((gel G (gfd G 12 7 l0) l9) = l1 → (gel G (gfd G 12 9 l0) l9) ≠ (-2147483648) → (Int.tdiv (gel G (gfd G 12 8 l0) l9) l2) = l3 → l5 ≠ 0 → l9 < gln G (gfd G 12 9 l0)) ∧ ((gel G (gfd G 12 7 l0) l9) = l1 → (gel G (gfd G 12 9 l0) l9) ≠ (-2147483648) → (Int.tdiv (gel G (gfd G 12 8 l0) l9) l2) = l3 → l5 ≠ 0 → l7 ≤ (gel G (gfd G 12 9 l0) l9) → gcl G l0 = 13) ∧ ((gel G (gfd G 12 7 l0) l9) = l1 → (gel G (gfd G 12 9 l0) l9) ≠ (-2147483648) → (Int.tdiv (gel G (gfd G 12 8 l0) l9) l2) = l3 → l5 ≠ 0 → l7 ≤ (gel G (gfd G 12 9 l0) l9) → gcl G (gfd G 12 9 l0) = 15) ∧ ((gel G (gfd G 12 7 l0) l9) = l1 → (gel G (gfd G 12 9 l0) l9) ≠ (-2147483648) → (Int.tdiv (gel G (gfd G 12 8 l0) l9) l2) = l3 → l5 ≠ 0 → l7 ≤ (gel G (gfd G 12 9 l0) l9) → 0 ≤ l9) ∧ ((gel G (gfd G 12 7 l0) l9) = l1 → (gel G (gfd G 12 9 l0) l9) ≠ (-2147483648) → (Int.tdiv (gel G (gfd G 12 8 l0) l9) l2) = l3 → l5 ≠ 0 → l7 ≤ (gel G (gfd G 12 9 l0) l9) → l9 < gln G (gfd G 12 9 l0)) ∧ ((gel G (gfd G 12 7 l0) l9) = l1 → (gel G (gfd G 12 9 l0) l9) ≠ (-2147483648) → (Int.tdiv (gel G (gfd G 12 8 l0) l9) l2) = l3 → l5 ≠ 0 → l7 ≤ (gel G (gfd G 12 9 l0) l9) → (gel G (gfd G 12 9 l0) l9) ≤ l8 → gcl G l0 = 13) ∧ ((gel G (gfd G 12 7 l0) l9) = l1 → (gel G (gfd G 12 9 l0) l9) ≠ (-2147483648) → (Int.tdiv (gel G (gfd G 12 8 l0) l9) l2) = l3 → l5 ≠ 0 → l7 ≤ (gel G (gfd G 12 9 l0) l9) → (gel G (gfd G 12 9 l0) l9) ≤ l8 → gcl G (gfd G 12 9 l0) = 15) ∧ ((gel G (gfd G 12 7 l0) l9) = l1 → (gel G (gfd G 12 9 l0) l9) ≠ (-2147483648) → (Int.tdiv (gel G (gfd G 12 8 l0) l9) l2) = l3 → l5 ≠ 0 → l7 ≤ (gel G (gfd G 12 9 l0) l9) → (gel G (gfd G 12 9 l0) l9) ≤ l8 → 0 ≤ l9) ∧ ((gel G (gfd G 12 7 l0) l9) = l1 → (gel G (gfd G 12 9 l0) l9) ≠ (-2147483648) → (Int.tdiv (gel G (gfd G 12 8 l0) l9) l2) = l3 → l5 ≠ 0 → l7 ≤ (gel G (gfd G 12 9 l0) l9) → (gel G (gfd G 12 9 l0) l9) ≤ l8 → l9 < gln G (gfd G 12 9 l0)) ∧ ((gel G (gfd G 12 7 l0) l9) = l1 → (gel G (gfd G 12 9 l0) l9) ≠ (-2147483648) → (Int.tdiv (gel G (gfd G 12 8 l0) l9) l2) = l3 → l5 ≠ 0 → l7 ≤ (gel G (gfd G 12 9 l0) l9) → (gel G (gfd G 12 9 l0) l9) ≤ l8 → i32 (l6 + (gel G (gfd G 12 9 l0) l9))) ∧ ((gel G (gfd G 12 7 l0) l9) = l1 → (gel G (gfd G 12 9 l0) l9) ≠ (-2147483648) → (Int.tdiv (gel G (gfd G 12 8 l0) l9) l2) = l3 → l5 ≠ 0 → l7 ≤ (gel G (gfd G 12 9 l0) l9) → (gel G (gfd G 12 9 l0) l9) ≤ l8 → i32 (l5 + 1)) ∧ ((gel G (gfd G 12 7 l0) l9) = l1 → (gel G (gfd G 12 9 l0) l9) ≠ (-2147483648) → (Int.tdiv (gel G (gfd G 12 8 l0) l9) l2) = l3 → l5 ≠ 0 → l7 ≤ (gel G (gfd G 12 9 l0) l9) → l8 < (gel G (gfd G 12 9 l0) l9) → gcl G l0 = 13) ∧ ((gel G (gfd G 12 7 l0) l9) = l1 → (gel G (gfd G 12 9 l0) l9) ≠ (-2147483648) → (Int.tdiv (gel G (gfd G 12 8 l0) l9) l2) = l3 → l5 ≠ 0 → l7 ≤ (gel G (gfd G 12 9 l0) l9) → l8 < (gel G (gfd G 12 9 l0) l9) → gcl G (gfd G 12 9 l0) = 15) ∧ ((gel G (gfd G 12 7 l0) l9) = l1 → (gel G (gfd G 12 9 l0) l9) ≠ (-2147483648) → (Int.tdiv (gel G (gfd G 12 8 l0) l9) l2) = l3 → l5 ≠ 0 → l7 ≤ (gel G (gfd G 12 9 l0) l9) → l8 < (gel G (gfd G 12 9 l0) l9) → 0 ≤ l9) ∧ ((gel G (gfd G 12 7 l0) l9) = l1 → (gel G (gfd G 12 9 l0) l9) ≠ (-2147483648) → (Int.tdiv (gel G (gfd G 12 8 l0) l9) l2) = l3 → l5 ≠ 0 → l7 ≤ (gel G (gfd G 12 9 l0) l9) → l8 < (gel G (gfd G 12 9 l0) l9) → l9 < gln G (gfd G 12 9 l0)) ∧ ((gel G (gfd G 12 7 l0) l9) = l1 → (gel G (gfd G 12 9 l0) l9) ≠ (-2147483648) → (Int.tdiv (gel G (gfd G 12 8 l0) l9) l2) = l3 → l5 ≠ 0 → l7 ≤ (gel G (gfd G 12 9 l0) l9) → l8 < (gel G (gfd G 12 9 l0) l9) → gcl G l0 = 13) ∧ ((gel G (gfd G 12 7 l0) l9) = l1 → (gel G (gfd G 12 9 l0) l9) ≠ (-2147483648) → (Int.tdiv (gel G (gfd G 12 8 l0) l9) l2) = l3 → l5 ≠ 0 → l7 ≤ (gel G (gfd G 12 9 l0) l9) → l8 < (gel G (gfd G 12 9 l0) l9) → gcl G (gfd G 12 9 l0) = 15) ∧ ((gel G (gfd G 12 7 l0) l9) = l1 → (gel G (gfd G 12 9 l0) l9) ≠ (-2147483648) → (Int.tdiv (gel G (gfd G 12 8 l0) l9) l2) = l3 → l5 ≠ 0 → l7 ≤ (gel G (gfd G 12 9 l0) l9) → l8 < (gel G (gfd G 12 9 l0) l9) → 0 ≤ l9) ∧ ((gel G (gfd G 12 7 l0) l9) = l1 → (gel G (gfd G 12 9 l0) l9) ≠ (-2147483648) → (Int.tdiv (gel G (gfd G 12 8 l0) l9) l2) = l3 → l5 ≠ 0 → l7 ≤ (gel G (gfd G 12 9 l0) l9) → l8 < (gel G (gfd G 12 9 l0) l9) → l9 < gln G (gfd G 12 9 l0)) ∧ ((gel G (gfd G 12 7 l0) l9) = l1 → (gel G (gfd G 12 9 l0) l9) ≠ (-2147483648) → (Int.tdiv (gel G (gfd G 12 8 l0) l9) l2) = l3 → l5 ≠ 0 → l7 ≤ (gel G (gfd G 12 9 l0) l9) → l8 < (gel G (gfd G 12 9 l0) l9) → i32 (l6 + (gel G (gfd G 12 9 l0) l9))) ∧ ((gel G (gfd G 12 7 l0) l9) = l1 → (gel G (gfd G 12 9 l0) l9) ≠ (-2147483648) → (Int.tdiv (gel G (gfd G 12 8 l0) l9) l2) = l3 → l5 ≠ 0 → l7 ≤ (gel G (gfd G 12 9 l0) l9) → l8 < (gel G (gfd G 12 9 l0) l9) → i32 (l5 + 1)) ∧ ((gel G (gfd G 12 7 l0) l9) = l1 → (gel G (gfd G 12 9 l0) l9) ≠ (-2147483648) → (Int.tdiv (gel G (gfd G 12 8 l0) l9) l2) = l3 → l5 ≠ 0 → (gel G (gfd G 12 9 l0) l9) < l7 → gcl G l0 = 13) ∧ ((gel G (gfd G 12 7 l0) l9) = l1 → (gel G (gfd G 12 9 l0) l9) ≠ (-2147483648) → (Int.tdiv (gel G (gfd G 12 8 l0) l9) l2) = l3 → l5 ≠ 0 → (gel G (gfd G 12 9 l0) l9) < l7 → gcl G (gfd G 12 9 l0) = 15) ∧ ((gel G (gfd G 12 7 l0) l9) = l1 → (gel G (gfd G 12 9 l0) l9) ≠ (-2147483648) → (Int.tdiv (gel G (gfd G 12 8 l0) l9) l2) = l3 → l5 ≠ 0 → (gel G (gfd G 12 9 l0) l9) < l7 → 0 ≤ l9) ∧ ((gel G (gfd G 12 7 l0) l9) = l1 → (gel G (gfd G 12 9 l0) l9) ≠ (-2147483648) → (Int.tdiv (gel G (gfd G 12 8 l0) l9) l2) = l3 → l5 ≠ 0 → (gel G (gfd G 12 9 l0) l9) < l7 → l9 < gln G (gfd G 12 9 l0)) ∧ ((gel G (gfd G 12 7 l0) l9) = l1 → (gel G (gfd G 12 9 l0) l9) ≠ (-2147483648) → (Int.tdiv (gel G (gfd G 12 8 l0) l9) l2) = l3 → l5 ≠ 0 → (gel G (gfd G 12 9 l0) l9) < l7 → gcl G l0 = 13) ∧ ((gel G (gfd G 12 7 l0) l9) = l1 → (gel G (gfd G 12 9 l0) l9) ≠ (-2147483648) → (Int.tdiv (gel G (gfd G 12 8 l0) l9) l2) = l3 → l5 ≠ 0 → (gel G (gfd G 12 9 l0) l9) < l7 → gcl G (gfd G 12 9 l0) = 15) ∧ ((gel G (gfd G 12 7 l0) l9) = l1 → (gel G (gfd G 12 9 l0) l9) ≠ (-2147483648) → (Int.tdiv (gel G (gfd G 12 8 l0) l9) l2) = l3 → l5 ≠ 0 → (gel G (gfd G 12 9 l0) l9) < l7 → 0 ≤ l9) ∧ ((gel G (gfd G 12 7 l0) l9) = l1 → (gel G (gfd G 12 9 l0) l9) ≠ (-2147483648) → (Int.tdiv (gel G (gfd G 12 8 l0) l9) l2) = l3 → l5 ≠ 0 → (gel G (gfd G 12 9 l0) l9) < l7 → l9 < gln G (gfd G 12 9 l0)) ∧ ((gel G (gfd G 12 7 l0) l9) = l1 → (gel G (gfd G 12 9 l0) l9) ≠ (-2147483648) → (Int.tdiv (gel G (gfd G 12 8 l0) l9) l2) = l3 → l5 ≠ 0 → (gel G (gfd G 12 9 l0) l9) < l7 → (gel G (gfd G 12 9 l0) l9) ≤ l8 → gcl G l0 = 13) ∧ ((gel G (gfd G 12 7 l0) l9) = l1 → (gel G (gfd G 12 9 l0) l9) ≠ (-2147483648) → (Int.tdiv (gel G (gfd G 12 8 l0) l9) l2) = l3 → l5 ≠ 0 → (gel G (gfd G 12 9 l0) l9) < l7 → (gel G (gfd G 12 9 l0) l9) ≤ l8 → gcl G (gfd G 12 9 l0) = 15) ∧ ((gel G (gfd G 12 7 l0) l9) = l1 → (gel G (gfd G 12 9 l0) l9) ≠ (-2147483648) → (Int.tdiv (gel G (gfd G 12 8 l0) l9) l2) = l3 → l5 ≠ 0 → (gel G (gfd G 12 9 l0) l9) < l7 → (gel G (gfd G 12 9 l0) l9) ≤ l8 → 0 ≤ l9) ∧ ((gel G (gfd G 12 7 l0) l9) = l1 → (gel G (gfd G 12 9 l0) l9) ≠ (-2147483648) → (Int.tdiv (gel G (gfd G 12 8 l0) l9) l2) = l3 → l5 ≠ 0 → (gel G (gfd G 12 9 l0) l9) < l7 → (gel G (gfd G 12 9 l0) l9) ≤ l8 → l9 < gln G (gfd G 12 9 l0)) ∧ ((gel G (gfd G 12 7 l0) l9) = l1 → (gel G (gfd G 12 9 l0) l9) ≠ (-2147483648) → (Int.tdiv (gel G (gfd G 12 8 l0) l9) l2) = l3 → l5 ≠ 0 → (gel G (gfd G 12 9 l0) l9) < l7 → (gel G (gfd G 12 9 l0) l9) ≤ l8 → i32 (l6 + (gel G (gfd G 12 9 l0) l9))) ∧ ((gel G (gfd G 12 7 l0) l9) = l1 → (gel G (gfd G 12 9 l0) l9) ≠ (-2147483648) → (Int.tdiv (gel G (gfd G 12 8 l0) l9) l2) = l3 → l5 ≠ 0 → (gel G (gfd G 12 9 l0) l9) < l7 → (gel G (gfd G 12 9 l0) l9) ≤ l8 → i32 (l5 + 1)) ∧ ((gel G (gfd G 12 7 l0) l9) = l1 → (gel G (gfd G 12 9 l0) l9) ≠ (-2147483648) → (Int.tdiv (gel G (gfd G 12 8 l0) l9) l2) = l3 → l5 ≠ 0 → (gel G (gfd G 12 9 l0) l9) < l7 → l8 < (gel G (gfd G 12 9 l0) l9) → gcl G l0 = 13) ∧ ((gel G (gfd G 12 7 l0) l9) = l1 → (gel G (gfd G 12 9 l0) l9) ≠ (-2147483648) → (Int.tdiv (gel G (gfd G 12 8 l0) l9) l2) = l3 → l5 ≠ 0 → (gel G (gfd G 12 9 l0) l9) < l7 → l8 < (gel G (gfd G 12 9 l0) l9) → gcl G (gfd G 12 9 l0) = 15) ∧ ((gel G (gfd G 12 7 l0) l9) = l1 → (gel G (gfd G 12 9 l0) l9) ≠ (-2147483648) → (Int.tdiv (gel G (gfd G 12 8 l0) l9) l2) = l3 → l5 ≠ 0 → (gel G (gfd G 12 9 l0) l9) < l7 → l8 < (gel G (gfd G 12 9 l0) l9) → 0 ≤ l9) ∧ ((gel G (gfd G 12 7 l0) l9) = l1 → (gel G (gfd G 12 9 l0) l9) ≠ (-2147483648) → (Int.tdiv (gel G (gfd G 12 8 l0) l9) l2) = l3 → l5 ≠ 0 → (gel G (gfd G 12 9 l0) l9) < l7 → l8 < (gel G (gfd G 12 9 l0) l9) → l9 < gln G (gfd G 12 9 l0)) ∧ ((gel G (gfd G 12 7 l0) l9) = l1 → (gel G (gfd G 12 9 l0) l9) ≠ (-2147483648) → (Int.tdiv (gel G (gfd G 12 8 l0) l9) l2) = l3 → l5 ≠ 0 → (gel G (gfd G 12 9 l0) l9) < l7 → l8 < (gel G (gfd G 12 9 l0) l9) → gcl G l0 = 13) ∧ ((gel G (gfd G 12 7 l0) l9) = l1 → (gel G (gfd G 12 9 l0) l9) ≠ (-2147483648) → (Int.tdiv (gel G (gfd G 12 8 l0) l9) l2) = l3 → l5 ≠ 0 → (gel G (gfd G 12 9 l0) l9) < l7 → l8 < (gel G (gfd G 12 9 l0) l9) → gcl G (gfd G 12 9 l0) = 15) ∧ ((gel G (gfd G 12 7 l0) l9) = l1 → (gel G (gfd G 12 9 l0) l9) ≠ (-2147483648) → (Int.tdiv (gel G (gfd G 12 8 l0) l9) l2) = l3 → l5 ≠ 0 → (gel G (gfd G 12 9 l0) l9) < l7 → l8 < (gel G (gfd G 12 9 l0) l9) → 0 ≤ l9) ∧ ((gel G (gfd G 12 7 l0) l9) = l1 → (gel G (gfd G 12 9 l0) l9) ≠ (-2147483648) → (Int.tdiv (gel G (gfd G 12 8 l0) l9) l2) = l3 → l5 ≠ 0 → (gel G (gfd G 12 9 l0) l9) < l7 → l8 < (gel G (gfd G 12 9 l0) l9) → l9 < gln G (gfd G 12 9 l0)) ∧ ((gel G (gfd G 12 7 l0) l9) = l1 → (gel G (gfd G 12 9 l0) l9) ≠ (-2147483648) → (Int.tdiv (gel G (gfd G 12 8 l0) l9) l2) = l3 → l5 ≠ 0 → (gel G (gfd G 12 9 l0) l9) < l7 → l8 < (gel G (gfd G 12 9 l0) l9) → i32 (l6 + (gel G (gfd G 12 9 l0) l9))) ∧ ((gel G (gfd G 12 7 l0) l9) = l1 → (gel G (gfd G 12 9 l0) l9) ≠ (-2147483648) → (Int.tdiv (gel G (gfd G 12 8 l0) l9) l2) = l3 → l5 ≠ 0 → (gel G (gfd G 12 9 l0) l9) < l7 → l8 < (gel G (gfd G 12 9 l0) l9) → i32 (l5 + 1)) ∧ i32 (l9 + 1) ∧ V E M_X12_thinned 78 [some (rv l0), some (iv l1), some (iv l2), some (iv l3), some (iv l4), some (iv (if (gel G (gfd G 12 7 l0) l9) = l1 then ((if (gel G (gfd G 12 9 l0) l9) = (-2147483648) then (l5 : Int) else (if (Int.tdiv (gel G (gfd G 12 8 l0) l9) l2) = l3 then ((l5 + 1) : Int) else l5)) : Int) else l5)), some (iv (if (gel G (gfd G 12 7 l0) l9) = l1 then ((if (gel G (gfd G 12 9 l0) l9) = (-2147483648) then (l6 : Int) else (if (Int.tdiv (gel G (gfd G 12 8 l0) l9) l2) = l3 then ((l6 + (gel G (gfd G 12 9 l0) l9)) : Int) else l6)) : Int) else l6)), some (iv (if (gel G (gfd G 12 7 l0) l9) = l1 then ((if (gel G (gfd G 12 9 l0) l9) = (-2147483648) then (l7 : Int) else (if (Int.tdiv (gel G (gfd G 12 8 l0) l9) l2) = l3 then ((if l5 = 0 then ((gel G (gfd G 12 9 l0) l9) : Int) else (if l7 ≤ (gel G (gfd G 12 9 l0) l9) then (l7 : Int) else (gel G (gfd G 12 9 l0) l9))) : Int) else l7)) : Int) else l7)), some (iv (if (gel G (gfd G 12 7 l0) l9) = l1 then ((if (gel G (gfd G 12 9 l0) l9) = (-2147483648) then (l8 : Int) else (if (Int.tdiv (gel G (gfd G 12 8 l0) l9) l2) = l3 then ((if l5 = 0 then ((gel G (gfd G 12 9 l0) l9) : Int) else (if (gel G (gfd G 12 9 l0) l9) ≤ l8 then (l8 : Int) else (gel G (gfd G 12 9 l0) l9))) : Int) else l8)) : Int) else l8)), some (iv (l9 + 1))] [] G c s Q X)))))))) : V E M_X12_thinned 78 [some (rv l0), some (iv l1), some (iv l2), some (iv l3), some (iv l4), some (iv l5), some (iv l6), some (iv l7), some (iv l8), some (iv l9)] [] G c s Q X := by
  refine v_iload (pc := 78) (dk dt_X12_thinned_1 2 rfl) rfl ?_
  refine v_aload_n (pc := 80) (dk dt_X12_thinned_1 3 rfl) rfl rfl ?_
  obtain ⟨v1, h⟩ := h
  refine v_getI (pc := 81) (dk dt_X12_thinned_1 4 rfl) fl_X12_154 v1 (fun _ => ?_)
  refine v_icmp_ge (pc := 84) (tgt := 215) (dk dt_X12_thinned_1 5 rfl) (by decide) (fun c2 => ?_) (fun c2 => ?_)
  · replace h := h.1 c2
    refine v_iload (pc := 215) (dk dt_X12_thinned_2 30 rfl) rfl ?_
    suffices k97 : V E M_X12_thinned 249 [none, none, none, none, none, none, none, none, none, none] [iv (if l4 = 0 then (l5 : Int) else (if l4 = 1 then (l6 : Int) else (if l4 = 2 then (l7 : Int) else l8)))] G c s Q X by
      refine v_if_ne (pc := 217) (tgt := 225) (dk dt_X12_thinned_2 31 rfl) (by decide) (fun c3 => ?_) (fun c3 => ?_)
      · refine v_iload (pc := 225) (dk dt_X12_thinned_2 34 rfl) rfl ?_
        refine v_iconst (pc := 227) (dk dt_X12_thinned_2 35 rfl) ⟨by decide, by decide⟩ ?_
        refine v_icmp_ne (pc := 228) (tgt := 236) (dk dt_X12_thinned_2 36 rfl) (by decide) (fun c4 => ?_) (fun c4 => ?_)
        · refine v_iload (pc := 236) (dk dt_X12_thinned_2 39 rfl) rfl ?_
          refine v_iconst (pc := 238) (dk dt_X12_thinned_3 0 rfl) ⟨by decide, by decide⟩ ?_
          refine v_icmp_ne (pc := 239) (tgt := 247) (dk dt_X12_thinned_3 1 rfl) (by decide) (fun c5 => ?_) (fun c5 => ?_)
          · refine v_iload (pc := 247) (dk dt_X12_thinned_3 4 rfl) rfl ?_
            exact v_less2 (ls' := [none, none, none, none, none, none, none, none, none, none]) trivial (by have hk9 := k97; try simp only [if_neg c3] at hk9 ⊢; try simp only [if_neg c4] at hk9 ⊢; try simp only [if_neg c5] at hk9 ⊢; exact hk9)
          · refine v_iload (pc := 242) (dk dt_X12_thinned_3 2 rfl) rfl ?_
            refine v_goto (pc := 244) (tgt := 249) (dk dt_X12_thinned_3 3 rfl) (by decide) ?_
            exact v_less2 (ls' := [none, none, none, none, none, none, none, none, none, none]) trivial (by have hk9 := k97; try simp only [if_neg c3] at hk9 ⊢; try simp only [if_neg c4] at hk9 ⊢; try simp only [if_pos c5] at hk9 ⊢; exact hk9)
        · refine v_iload (pc := 231) (dk dt_X12_thinned_2 37 rfl) rfl ?_
          refine v_goto (pc := 233) (tgt := 249) (dk dt_X12_thinned_2 38 rfl) (by decide) ?_
          exact v_less2 (ls' := [none, none, none, none, none, none, none, none, none, none]) trivial (by have hk9 := k97; try simp only [if_neg c3] at hk9 ⊢; try simp only [if_pos c4] at hk9 ⊢; exact hk9)
      · refine v_iload (pc := 220) (dk dt_X12_thinned_2 32 rfl) rfl ?_
        refine v_goto (pc := 222) (tgt := 249) (dk dt_X12_thinned_2 33 rfl) (by decide) ?_
        exact v_less2 (ls' := [none, none, none, none, none, none, none, none, none, none]) trivial (by have hk9 := k97; try simp only [if_pos c3] at hk9 ⊢; exact hk9)
    exact v_iret (pc := 249) (dk dt_X12_thinned_3 5 rfl) rfl h
  · replace h := h.2 c2
    refine v_aload_n (pc := 87) (dk dt_X12_thinned_1 6 rfl) rfl rfl ?_
    refine v_iload (pc := 88) (dk dt_X12_thinned_1 7 rfl) rfl ?_
    obtain ⟨v6, h⟩ := h
    obtain ⟨v7, h⟩ := h
    refine v_cvPZ (c := 12) (v := (mSeen G l0 l9)) (As := [iv l9]) (stk := []) (pc := 90) (dk dt_X12_thinned_1 8 rfl) ml_X12_157 rfl rfl (Nat.le_of_ble_eq_true rfl) rfl ⟨by decide, rfl⟩ v6 rfl v7 ?_
    refine v_if_eq (pc := 93) (tgt := 209) (dk dt_X12_thinned_1 9 rfl) (by decide) (fun c8 => ?_) (fun c8 => ?_)
    · replace h := h.1 c8
      obtain ⟨v9, h⟩ := h
      refine v_iinc (pc := 209) (ls' := [some (rv l0), some (iv l1), some (iv l2), some (iv l3), some (iv l4), some (iv l5), some (iv l6), some (iv l7), some (iv l8), some (iv (l9 + 1))]) (dk dt_X12_thinned_2 28 rfl) (Nat.le_of_ble_eq_true rfl) rfl v9 rfl ?_
      refine v_goto (pc := 212) (tgt := 78) (dk dt_X12_thinned_2 29 rfl) (by decide) ?_
      exact h
    · replace h := h.2 c8
      refine v_aload_n (pc := 96) (dk dt_X12_thinned_1 10 rfl) rfl rfl ?_
      obtain ⟨v10, h⟩ := h
      refine v_getR (pc := 97) (dk dt_X12_thinned_1 11 rfl) fl_X12_26 v10 (fun _ => ?_)
      refine v_iload (pc := 100) (dk dt_X12_thinned_1 12 rfl) rfl ?_
      obtain ⟨v11, h⟩ := h
      obtain ⟨v12, h⟩ := h
      obtain ⟨v13, h⟩ := h
      refine v_iald (pc := 102) (dk dt_X12_thinned_1 13 rfl) (Or.inl v11) v12 v13 (fun _ => ?_)
      refine v_iload_n (pc := 103) (dk dt_X12_thinned_1 14 rfl) rfl rfl ?_
      obtain ⟨v15, v16, v17, v18, v20, v21, v22, v23, v24, v25, v28, v29, v30, v31, v33, v34, v35, v36, v37, v38, v39, v40, v41, v42, v43, v44, v45, v46, v49, v50, v51, v52, v54, v55, v56, v57, v58, v59, v60, v61, v62, v63, v64, v65, v66, v67, v68, v69, v70, v71, v72, v73, v75, v76, v77, v78, v80, v81, v82, v83, v84, v85, v86, v87, v88, v89, v90, v91, v92, v93, v94, v95, h⟩ := h
      suffices k98 : V E M_X12_thinned 209 [some (rv l0), some (iv l1), some (iv l2), some (iv l3), some (iv l4), some (iv (if (gel G (gfd G 12 7 l0) l9) = l1 then ((if (gel G (gfd G 12 9 l0) l9) = (-2147483648) then (l5 : Int) else (if (Int.tdiv (gel G (gfd G 12 8 l0) l9) l2) = l3 then ((l5 + 1) : Int) else l5)) : Int) else l5)), some (iv (if (gel G (gfd G 12 7 l0) l9) = l1 then ((if (gel G (gfd G 12 9 l0) l9) = (-2147483648) then (l6 : Int) else (if (Int.tdiv (gel G (gfd G 12 8 l0) l9) l2) = l3 then ((l6 + (gel G (gfd G 12 9 l0) l9)) : Int) else l6)) : Int) else l6)), some (iv (if (gel G (gfd G 12 7 l0) l9) = l1 then ((if (gel G (gfd G 12 9 l0) l9) = (-2147483648) then (l7 : Int) else (if (Int.tdiv (gel G (gfd G 12 8 l0) l9) l2) = l3 then ((if l5 = 0 then ((gel G (gfd G 12 9 l0) l9) : Int) else (if l7 ≤ (gel G (gfd G 12 9 l0) l9) then (l7 : Int) else (gel G (gfd G 12 9 l0) l9))) : Int) else l7)) : Int) else l7)), some (iv (if (gel G (gfd G 12 7 l0) l9) = l1 then ((if (gel G (gfd G 12 9 l0) l9) = (-2147483648) then (l8 : Int) else (if (Int.tdiv (gel G (gfd G 12 8 l0) l9) l2) = l3 then ((if l5 = 0 then ((gel G (gfd G 12 9 l0) l9) : Int) else (if (gel G (gfd G 12 9 l0) l9) ≤ l8 then (l8 : Int) else (gel G (gfd G 12 9 l0) l9))) : Int) else l8)) : Int) else l8)), some (iv l9)] [] G c s Q X by
        refine v_icmp_ne (pc := 104) (tgt := 209) (dk dt_X12_thinned_1 15 rfl) (by decide) (fun c14 => ?_) (fun c14 => ?_)
        · exact v_less2 (ls' := [some (rv l0), some (iv l1), some (iv l2), some (iv l3), some (iv l4), some (iv l5), some (iv l6), some (iv l7), some (iv l8), some (iv l9)]) ⟨rfl, rfl, rfl, rfl, rfl, rfl, rfl, rfl, rfl, rfl, trivial⟩ (by have hk9 := k98; try simp only [if_neg c14] at hk9 ⊢; exact hk9)
        · refine v_aload_n (pc := 107) (dk dt_X12_thinned_1 16 rfl) rfl rfl ?_
          refine v_getR (pc := 108) (dk dt_X12_thinned_1 17 rfl) fl_X12_32 (v15 c14) (fun _ => ?_)
          refine v_iload (pc := 111) (dk dt_X12_thinned_1 18 rfl) rfl ?_
          refine v_iald (pc := 113) (dk dt_X12_thinned_1 19 rfl) (Or.inl (v16 c14)) (v17 c14) (v18 c14) (fun _ => ?_)
          refine v_ldc (pc := 114) (dk dt_X12_thinned_1 20 rfl) co_X12_179 ⟨by decide, by decide⟩ ?_
          refine v_icmp_eq (pc := 116) (tgt := 209) (dk dt_X12_thinned_1 21 rfl) (by decide) (fun c19 => ?_) (fun c19 => ?_)
          · exact v_less2 (ls' := [some (rv l0), some (iv l1), some (iv l2), some (iv l3), some (iv l4), some (iv l5), some (iv l6), some (iv l7), some (iv l8), some (iv l9)]) ⟨rfl, rfl, rfl, rfl, rfl, rfl, rfl, rfl, rfl, rfl, trivial⟩ (by have hk9 := k98; try simp only [if_pos c14] at hk9 ⊢; try simp only [if_pos c19] at hk9 ⊢; exact hk9)
          · refine v_aload_n (pc := 119) (dk dt_X12_thinned_1 22 rfl) rfl rfl ?_
            refine v_getR (pc := 120) (dk dt_X12_thinned_1 23 rfl) fl_X12_29 (v20 c14 c19) (fun _ => ?_)
            refine v_iload (pc := 123) (dk dt_X12_thinned_1 24 rfl) rfl ?_
            refine v_iald (pc := 125) (dk dt_X12_thinned_1 25 rfl) (Or.inl (v21 c14 c19)) (v22 c14 c19) (v23 c14 c19) (fun _ => ?_)
            refine v_iload_n (pc := 126) (dk dt_X12_thinned_1 26 rfl) rfl rfl ?_
            refine v_idiv (pc := 127) (dk dt_X12_thinned_1 27 rfl) (v24 c14 c19) (v25 c14 c19) ?_
            refine v_iload_n (pc := 128) (dk dt_X12_thinned_1 28 rfl) rfl rfl ?_
            refine v_icmp_ne (pc := 129) (tgt := 209) (dk dt_X12_thinned_1 29 rfl) (by decide) (fun c26 => ?_) (fun c26 => ?_)
            · exact v_less2 (ls' := [some (rv l0), some (iv l1), some (iv l2), some (iv l3), some (iv l4), some (iv l5), some (iv l6), some (iv l7), some (iv l8), some (iv l9)]) ⟨rfl, rfl, rfl, rfl, rfl, rfl, rfl, rfl, rfl, rfl, trivial⟩ (by have hk9 := k98; try simp only [if_pos c14] at hk9 ⊢; try simp only [if_neg c19] at hk9 ⊢; try simp only [if_neg c26] at hk9 ⊢; exact hk9)
            · refine v_iload (pc := 132) (dk dt_X12_thinned_1 30 rfl) rfl ?_
              refine v_if_eq (pc := 134) (tgt := 149) (dk dt_X12_thinned_1 31 rfl) (by decide) (fun c27 => ?_) (fun c27 => ?_)
              · refine v_aload_n (pc := 149) (dk dt_X12_thinned_1 38 rfl) rfl rfl ?_
                refine v_getR (pc := 150) (dk dt_X12_thinned_1 39 rfl) fl_X12_32 (v28 c14 c19 c26 c27) (fun _ => ?_)
                refine v_iload (pc := 153) (dk dt_X12_thinned_2 0 rfl) rfl ?_
                refine v_iald (pc := 155) (dk dt_X12_thinned_2 1 rfl) (Or.inl (v29 c14 c19 c26 c27)) (v30 c14 c19 c26 c27) (v31 c14 c19 c26 c27) (fun _ => ?_)
                refine v_goto (pc := 156) (tgt := 161) (dk dt_X12_thinned_2 2 rfl) (by decide) ?_
                refine v_istore (pc := 161) (ls' := [some (rv l0), some (iv l1), some (iv l2), some (iv l3), some (iv l4), some (iv l5), some (iv l6), some (iv (gel G (gfd G 12 9 l0) l9)), some (iv l8), some (iv l9)]) (dk dt_X12_thinned_2 4 rfl) (Nat.le_of_ble_eq_true rfl) rfl ?_
                refine v_iload (pc := 163) (dk dt_X12_thinned_2 5 rfl) rfl ?_
                refine v_if_eq (pc := 165) (tgt := 180) (dk dt_X12_thinned_2 6 rfl) (by decide) (fun _ => ?_) (fun z9 => absurd z9 (by omega))
                refine v_aload_n (pc := 180) (dk dt_X12_thinned_2 13 rfl) rfl rfl ?_
                refine v_getR (pc := 181) (dk dt_X12_thinned_2 14 rfl) fl_X12_32 (v33 c14 c19 c26 c27) (fun _ => ?_)
                refine v_iload (pc := 184) (dk dt_X12_thinned_2 15 rfl) rfl ?_
                refine v_iald (pc := 186) (dk dt_X12_thinned_2 16 rfl) (Or.inl (v34 c14 c19 c26 c27)) (v35 c14 c19 c26 c27) (v36 c14 c19 c26 c27) (fun _ => ?_)
                refine v_goto (pc := 187) (tgt := 192) (dk dt_X12_thinned_2 17 rfl) (by decide) ?_
                refine v_istore (pc := 192) (ls' := [some (rv l0), some (iv l1), some (iv l2), some (iv l3), some (iv l4), some (iv l5), some (iv l6), some (iv (gel G (gfd G 12 9 l0) l9)), some (iv (gel G (gfd G 12 9 l0) l9)), some (iv l9)]) (dk dt_X12_thinned_2 19 rfl) (Nat.le_of_ble_eq_true rfl) rfl ?_
                refine v_iload (pc := 194) (dk dt_X12_thinned_2 20 rfl) rfl ?_
                refine v_aload_n (pc := 196) (dk dt_X12_thinned_2 21 rfl) rfl rfl ?_
                refine v_getR (pc := 197) (dk dt_X12_thinned_2 22 rfl) fl_X12_32 (v37 c14 c19 c26 c27) (fun _ => ?_)
                refine v_iload (pc := 200) (dk dt_X12_thinned_2 23 rfl) rfl ?_
                refine v_iald (pc := 202) (dk dt_X12_thinned_2 24 rfl) (Or.inl (v38 c14 c19 c26 c27)) (v39 c14 c19 c26 c27) (v40 c14 c19 c26 c27) (fun _ => ?_)
                refine v_iadd (pc := 203) (dk dt_X12_thinned_2 25 rfl) (v41 c14 c19 c26 c27) ?_
                refine v_istore (pc := 204) (ls' := [some (rv l0), some (iv l1), some (iv l2), some (iv l3), some (iv l4), some (iv l5), some (iv (l6 + (gel G (gfd G 12 9 l0) l9))), some (iv (gel G (gfd G 12 9 l0) l9)), some (iv (gel G (gfd G 12 9 l0) l9)), some (iv l9)]) (dk dt_X12_thinned_2 26 rfl) (Nat.le_of_ble_eq_true rfl) rfl ?_
                refine v_iinc (pc := 206) (ls' := [some (rv l0), some (iv l1), some (iv l2), some (iv l3), some (iv l4), some (iv (l5 + 1)), some (iv (l6 + (gel G (gfd G 12 9 l0) l9))), some (iv (gel G (gfd G 12 9 l0) l9)), some (iv (gel G (gfd G 12 9 l0) l9)), some (iv l9)]) (dk dt_X12_thinned_2 27 rfl) (Nat.le_of_ble_eq_true rfl) rfl (v42 c14 c19 c26 c27) rfl ?_
                exact v_less2 (ls' := [some (rv l0), some (iv l1), some (iv l2), some (iv l3), some (iv l4), some (iv (l5 + 1)), some (iv (l6 + (gel G (gfd G 12 9 l0) l9))), some (iv (gel G (gfd G 12 9 l0) l9)), some (iv (gel G (gfd G 12 9 l0) l9)), some (iv l9)]) ⟨rfl, rfl, rfl, rfl, rfl, rfl, rfl, rfl, rfl, rfl, trivial⟩ (by have hk9 := k98; try simp only [if_pos c14] at hk9 ⊢; try simp only [if_neg c19] at hk9 ⊢; try simp only [if_pos c26] at hk9 ⊢; try simp only [if_pos c27] at hk9 ⊢; exact hk9)
              · refine v_aload_n (pc := 137) (dk dt_X12_thinned_1 32 rfl) rfl rfl ?_
                refine v_getR (pc := 138) (dk dt_X12_thinned_1 33 rfl) fl_X12_32 (v43 c14 c19 c26 c27) (fun _ => ?_)
                refine v_iload (pc := 141) (dk dt_X12_thinned_1 34 rfl) rfl ?_
                refine v_iald (pc := 143) (dk dt_X12_thinned_1 35 rfl) (Or.inl (v44 c14 c19 c26 c27)) (v45 c14 c19 c26 c27) (v46 c14 c19 c26 c27) (fun _ => ?_)
                refine v_iload (pc := 144) (dk dt_X12_thinned_1 36 rfl) rfl ?_
                refine v_icmp_ge (pc := 146) (tgt := 159) (dk dt_X12_thinned_1 37 rfl) (by decide) (fun c47 => ?_) (fun c47 => ?_)
                · refine v_iload (pc := 159) (dk dt_X12_thinned_2 3 rfl) rfl ?_
                  refine v_istore (pc := 161) (ls' := [some (rv l0), some (iv l1), some (iv l2), some (iv l3), some (iv l4), some (iv l5), some (iv l6), some (iv l7), some (iv l8), some (iv l9)]) (dk dt_X12_thinned_2 4 rfl) (Nat.le_of_ble_eq_true rfl) rfl ?_
                  refine v_iload (pc := 163) (dk dt_X12_thinned_2 5 rfl) rfl ?_
                  refine v_if_eq (pc := 165) (tgt := 180) (dk dt_X12_thinned_2 6 rfl) (by decide) (fun z9 => absurd z9 (by omega)) (fun _ => ?_)
                  refine v_aload_n (pc := 168) (dk dt_X12_thinned_2 7 rfl) rfl rfl ?_
                  refine v_getR (pc := 169) (dk dt_X12_thinned_2 8 rfl) fl_X12_32 (v49 c14 c19 c26 c27 c47) (fun _ => ?_)
                  refine v_iload (pc := 172) (dk dt_X12_thinned_2 9 rfl) rfl ?_
                  refine v_iald (pc := 174) (dk dt_X12_thinned_2 10 rfl) (Or.inl (v50 c14 c19 c26 c27 c47)) (v51 c14 c19 c26 c27 c47) (v52 c14 c19 c26 c27 c47) (fun _ => ?_)
                  refine v_iload (pc := 175) (dk dt_X12_thinned_2 11 rfl) rfl ?_
                  refine v_icmp_le (pc := 177) (tgt := 190) (dk dt_X12_thinned_2 12 rfl) (by decide) (fun c53 => ?_) (fun c53 => ?_)
                  · refine v_iload (pc := 190) (dk dt_X12_thinned_2 18 rfl) rfl ?_
                    refine v_istore (pc := 192) (ls' := [some (rv l0), some (iv l1), some (iv l2), some (iv l3), some (iv l4), some (iv l5), some (iv l6), some (iv l7), some (iv l8), some (iv l9)]) (dk dt_X12_thinned_2 19 rfl) (Nat.le_of_ble_eq_true rfl) rfl ?_
                    refine v_iload (pc := 194) (dk dt_X12_thinned_2 20 rfl) rfl ?_
                    refine v_aload_n (pc := 196) (dk dt_X12_thinned_2 21 rfl) rfl rfl ?_
                    refine v_getR (pc := 197) (dk dt_X12_thinned_2 22 rfl) fl_X12_32 (v54 c14 c19 c26 c27 c47 c53) (fun _ => ?_)
                    refine v_iload (pc := 200) (dk dt_X12_thinned_2 23 rfl) rfl ?_
                    refine v_iald (pc := 202) (dk dt_X12_thinned_2 24 rfl) (Or.inl (v55 c14 c19 c26 c27 c47 c53)) (v56 c14 c19 c26 c27 c47 c53) (v57 c14 c19 c26 c27 c47 c53) (fun _ => ?_)
                    refine v_iadd (pc := 203) (dk dt_X12_thinned_2 25 rfl) (v58 c14 c19 c26 c27 c47 c53) ?_
                    refine v_istore (pc := 204) (ls' := [some (rv l0), some (iv l1), some (iv l2), some (iv l3), some (iv l4), some (iv l5), some (iv (l6 + (gel G (gfd G 12 9 l0) l9))), some (iv l7), some (iv l8), some (iv l9)]) (dk dt_X12_thinned_2 26 rfl) (Nat.le_of_ble_eq_true rfl) rfl ?_
                    refine v_iinc (pc := 206) (ls' := [some (rv l0), some (iv l1), some (iv l2), some (iv l3), some (iv l4), some (iv (l5 + 1)), some (iv (l6 + (gel G (gfd G 12 9 l0) l9))), some (iv l7), some (iv l8), some (iv l9)]) (dk dt_X12_thinned_2 27 rfl) (Nat.le_of_ble_eq_true rfl) rfl (v59 c14 c19 c26 c27 c47 c53) rfl ?_
                    exact v_less2 (ls' := [some (rv l0), some (iv l1), some (iv l2), some (iv l3), some (iv l4), some (iv (l5 + 1)), some (iv (l6 + (gel G (gfd G 12 9 l0) l9))), some (iv l7), some (iv l8), some (iv l9)]) ⟨rfl, rfl, rfl, rfl, rfl, rfl, rfl, rfl, rfl, rfl, trivial⟩ (by have hk9 := k98; try simp only [if_pos c14] at hk9 ⊢; try simp only [if_neg c19] at hk9 ⊢; try simp only [if_pos c26] at hk9 ⊢; try simp only [if_neg c27] at hk9 ⊢; try simp only [if_pos c47] at hk9 ⊢; try simp only [if_pos c53] at hk9 ⊢; exact hk9)
                  · refine v_aload_n (pc := 180) (dk dt_X12_thinned_2 13 rfl) rfl rfl ?_
                    refine v_getR (pc := 181) (dk dt_X12_thinned_2 14 rfl) fl_X12_32 (v60 c14 c19 c26 c27 c47 c53) (fun _ => ?_)
                    refine v_iload (pc := 184) (dk dt_X12_thinned_2 15 rfl) rfl ?_
                    refine v_iald (pc := 186) (dk dt_X12_thinned_2 16 rfl) (Or.inl (v61 c14 c19 c26 c27 c47 c53)) (v62 c14 c19 c26 c27 c47 c53) (v63 c14 c19 c26 c27 c47 c53) (fun _ => ?_)
                    refine v_goto (pc := 187) (tgt := 192) (dk dt_X12_thinned_2 17 rfl) (by decide) ?_
                    refine v_istore (pc := 192) (ls' := [some (rv l0), some (iv l1), some (iv l2), some (iv l3), some (iv l4), some (iv l5), some (iv l6), some (iv l7), some (iv (gel G (gfd G 12 9 l0) l9)), some (iv l9)]) (dk dt_X12_thinned_2 19 rfl) (Nat.le_of_ble_eq_true rfl) rfl ?_
                    refine v_iload (pc := 194) (dk dt_X12_thinned_2 20 rfl) rfl ?_
                    refine v_aload_n (pc := 196) (dk dt_X12_thinned_2 21 rfl) rfl rfl ?_
                    refine v_getR (pc := 197) (dk dt_X12_thinned_2 22 rfl) fl_X12_32 (v64 c14 c19 c26 c27 c47 c53) (fun _ => ?_)
                    refine v_iload (pc := 200) (dk dt_X12_thinned_2 23 rfl) rfl ?_
                    refine v_iald (pc := 202) (dk dt_X12_thinned_2 24 rfl) (Or.inl (v65 c14 c19 c26 c27 c47 c53)) (v66 c14 c19 c26 c27 c47 c53) (v67 c14 c19 c26 c27 c47 c53) (fun _ => ?_)
                    refine v_iadd (pc := 203) (dk dt_X12_thinned_2 25 rfl) (v68 c14 c19 c26 c27 c47 c53) ?_
                    refine v_istore (pc := 204) (ls' := [some (rv l0), some (iv l1), some (iv l2), some (iv l3), some (iv l4), some (iv l5), some (iv (l6 + (gel G (gfd G 12 9 l0) l9))), some (iv l7), some (iv (gel G (gfd G 12 9 l0) l9)), some (iv l9)]) (dk dt_X12_thinned_2 26 rfl) (Nat.le_of_ble_eq_true rfl) rfl ?_
                    refine v_iinc (pc := 206) (ls' := [some (rv l0), some (iv l1), some (iv l2), some (iv l3), some (iv l4), some (iv (l5 + 1)), some (iv (l6 + (gel G (gfd G 12 9 l0) l9))), some (iv l7), some (iv (gel G (gfd G 12 9 l0) l9)), some (iv l9)]) (dk dt_X12_thinned_2 27 rfl) (Nat.le_of_ble_eq_true rfl) rfl (v69 c14 c19 c26 c27 c47 c53) rfl ?_
                    exact v_less2 (ls' := [some (rv l0), some (iv l1), some (iv l2), some (iv l3), some (iv l4), some (iv (l5 + 1)), some (iv (l6 + (gel G (gfd G 12 9 l0) l9))), some (iv l7), some (iv (gel G (gfd G 12 9 l0) l9)), some (iv l9)]) ⟨rfl, rfl, rfl, rfl, rfl, rfl, rfl, rfl, rfl, rfl, trivial⟩ (by have hk9 := k98; try simp only [if_pos c14] at hk9 ⊢; try simp only [if_neg c19] at hk9 ⊢; try simp only [if_pos c26] at hk9 ⊢; try simp only [if_neg c27] at hk9 ⊢; try simp only [if_pos c47] at hk9 ⊢; try simp only [if_neg (Int.not_le.mpr c53)] at hk9 ⊢; exact hk9)
                · refine v_aload_n (pc := 149) (dk dt_X12_thinned_1 38 rfl) rfl rfl ?_
                  refine v_getR (pc := 150) (dk dt_X12_thinned_1 39 rfl) fl_X12_32 (v70 c14 c19 c26 c27 c47) (fun _ => ?_)
                  refine v_iload (pc := 153) (dk dt_X12_thinned_2 0 rfl) rfl ?_
                  refine v_iald (pc := 155) (dk dt_X12_thinned_2 1 rfl) (Or.inl (v71 c14 c19 c26 c27 c47)) (v72 c14 c19 c26 c27 c47) (v73 c14 c19 c26 c27 c47) (fun _ => ?_)
                  refine v_goto (pc := 156) (tgt := 161) (dk dt_X12_thinned_2 2 rfl) (by decide) ?_
                  refine v_istore (pc := 161) (ls' := [some (rv l0), some (iv l1), some (iv l2), some (iv l3), some (iv l4), some (iv l5), some (iv l6), some (iv (gel G (gfd G 12 9 l0) l9)), some (iv l8), some (iv l9)]) (dk dt_X12_thinned_2 4 rfl) (Nat.le_of_ble_eq_true rfl) rfl ?_
                  refine v_iload (pc := 163) (dk dt_X12_thinned_2 5 rfl) rfl ?_
                  refine v_if_eq (pc := 165) (tgt := 180) (dk dt_X12_thinned_2 6 rfl) (by decide) (fun z9 => absurd z9 (by omega)) (fun _ => ?_)
                  refine v_aload_n (pc := 168) (dk dt_X12_thinned_2 7 rfl) rfl rfl ?_
                  refine v_getR (pc := 169) (dk dt_X12_thinned_2 8 rfl) fl_X12_32 (v75 c14 c19 c26 c27 c47) (fun _ => ?_)
                  refine v_iload (pc := 172) (dk dt_X12_thinned_2 9 rfl) rfl ?_
                  refine v_iald (pc := 174) (dk dt_X12_thinned_2 10 rfl) (Or.inl (v76 c14 c19 c26 c27 c47)) (v77 c14 c19 c26 c27 c47) (v78 c14 c19 c26 c27 c47) (fun _ => ?_)
                  refine v_iload (pc := 175) (dk dt_X12_thinned_2 11 rfl) rfl ?_
                  refine v_icmp_le (pc := 177) (tgt := 190) (dk dt_X12_thinned_2 12 rfl) (by decide) (fun c79 => ?_) (fun c79 => ?_)
                  · refine v_iload (pc := 190) (dk dt_X12_thinned_2 18 rfl) rfl ?_
                    refine v_istore (pc := 192) (ls' := [some (rv l0), some (iv l1), some (iv l2), some (iv l3), some (iv l4), some (iv l5), some (iv l6), some (iv (gel G (gfd G 12 9 l0) l9)), some (iv l8), some (iv l9)]) (dk dt_X12_thinned_2 19 rfl) (Nat.le_of_ble_eq_true rfl) rfl ?_
                    refine v_iload (pc := 194) (dk dt_X12_thinned_2 20 rfl) rfl ?_
                    refine v_aload_n (pc := 196) (dk dt_X12_thinned_2 21 rfl) rfl rfl ?_
                    refine v_getR (pc := 197) (dk dt_X12_thinned_2 22 rfl) fl_X12_32 (v80 c14 c19 c26 c27 c47 c79) (fun _ => ?_)
                    refine v_iload (pc := 200) (dk dt_X12_thinned_2 23 rfl) rfl ?_
                    refine v_iald (pc := 202) (dk dt_X12_thinned_2 24 rfl) (Or.inl (v81 c14 c19 c26 c27 c47 c79)) (v82 c14 c19 c26 c27 c47 c79) (v83 c14 c19 c26 c27 c47 c79) (fun _ => ?_)
                    refine v_iadd (pc := 203) (dk dt_X12_thinned_2 25 rfl) (v84 c14 c19 c26 c27 c47 c79) ?_
                    refine v_istore (pc := 204) (ls' := [some (rv l0), some (iv l1), some (iv l2), some (iv l3), some (iv l4), some (iv l5), some (iv (l6 + (gel G (gfd G 12 9 l0) l9))), some (iv (gel G (gfd G 12 9 l0) l9)), some (iv l8), some (iv l9)]) (dk dt_X12_thinned_2 26 rfl) (Nat.le_of_ble_eq_true rfl) rfl ?_
                    refine v_iinc (pc := 206) (ls' := [some (rv l0), some (iv l1), some (iv l2), some (iv l3), some (iv l4), some (iv (l5 + 1)), some (iv (l6 + (gel G (gfd G 12 9 l0) l9))), some (iv (gel G (gfd G 12 9 l0) l9)), some (iv l8), some (iv l9)]) (dk dt_X12_thinned_2 27 rfl) (Nat.le_of_ble_eq_true rfl) rfl (v85 c14 c19 c26 c27 c47 c79) rfl ?_
                    exact v_less2 (ls' := [some (rv l0), some (iv l1), some (iv l2), some (iv l3), some (iv l4), some (iv (l5 + 1)), some (iv (l6 + (gel G (gfd G 12 9 l0) l9))), some (iv (gel G (gfd G 12 9 l0) l9)), some (iv l8), some (iv l9)]) ⟨rfl, rfl, rfl, rfl, rfl, rfl, rfl, rfl, rfl, rfl, trivial⟩ (by have hk9 := k98; try simp only [if_pos c14] at hk9 ⊢; try simp only [if_neg c19] at hk9 ⊢; try simp only [if_pos c26] at hk9 ⊢; try simp only [if_neg c27] at hk9 ⊢; try simp only [if_neg (Int.not_le.mpr c47)] at hk9 ⊢; try simp only [if_pos c79] at hk9 ⊢; exact hk9)
                  · refine v_aload_n (pc := 180) (dk dt_X12_thinned_2 13 rfl) rfl rfl ?_
                    refine v_getR (pc := 181) (dk dt_X12_thinned_2 14 rfl) fl_X12_32 (v86 c14 c19 c26 c27 c47 c79) (fun _ => ?_)
                    refine v_iload (pc := 184) (dk dt_X12_thinned_2 15 rfl) rfl ?_
                    refine v_iald (pc := 186) (dk dt_X12_thinned_2 16 rfl) (Or.inl (v87 c14 c19 c26 c27 c47 c79)) (v88 c14 c19 c26 c27 c47 c79) (v89 c14 c19 c26 c27 c47 c79) (fun _ => ?_)
                    refine v_goto (pc := 187) (tgt := 192) (dk dt_X12_thinned_2 17 rfl) (by decide) ?_
                    refine v_istore (pc := 192) (ls' := [some (rv l0), some (iv l1), some (iv l2), some (iv l3), some (iv l4), some (iv l5), some (iv l6), some (iv (gel G (gfd G 12 9 l0) l9)), some (iv (gel G (gfd G 12 9 l0) l9)), some (iv l9)]) (dk dt_X12_thinned_2 19 rfl) (Nat.le_of_ble_eq_true rfl) rfl ?_
                    refine v_iload (pc := 194) (dk dt_X12_thinned_2 20 rfl) rfl ?_
                    refine v_aload_n (pc := 196) (dk dt_X12_thinned_2 21 rfl) rfl rfl ?_
                    refine v_getR (pc := 197) (dk dt_X12_thinned_2 22 rfl) fl_X12_32 (v90 c14 c19 c26 c27 c47 c79) (fun _ => ?_)
                    refine v_iload (pc := 200) (dk dt_X12_thinned_2 23 rfl) rfl ?_
                    refine v_iald (pc := 202) (dk dt_X12_thinned_2 24 rfl) (Or.inl (v91 c14 c19 c26 c27 c47 c79)) (v92 c14 c19 c26 c27 c47 c79) (v93 c14 c19 c26 c27 c47 c79) (fun _ => ?_)
                    refine v_iadd (pc := 203) (dk dt_X12_thinned_2 25 rfl) (v94 c14 c19 c26 c27 c47 c79) ?_
                    refine v_istore (pc := 204) (ls' := [some (rv l0), some (iv l1), some (iv l2), some (iv l3), some (iv l4), some (iv l5), some (iv (l6 + (gel G (gfd G 12 9 l0) l9))), some (iv (gel G (gfd G 12 9 l0) l9)), some (iv (gel G (gfd G 12 9 l0) l9)), some (iv l9)]) (dk dt_X12_thinned_2 26 rfl) (Nat.le_of_ble_eq_true rfl) rfl ?_
                    refine v_iinc (pc := 206) (ls' := [some (rv l0), some (iv l1), some (iv l2), some (iv l3), some (iv l4), some (iv (l5 + 1)), some (iv (l6 + (gel G (gfd G 12 9 l0) l9))), some (iv (gel G (gfd G 12 9 l0) l9)), some (iv (gel G (gfd G 12 9 l0) l9)), some (iv l9)]) (dk dt_X12_thinned_2 27 rfl) (Nat.le_of_ble_eq_true rfl) rfl (v95 c14 c19 c26 c27 c47 c79) rfl ?_
                    exact v_less2 (ls' := [some (rv l0), some (iv l1), some (iv l2), some (iv l3), some (iv l4), some (iv (l5 + 1)), some (iv (l6 + (gel G (gfd G 12 9 l0) l9))), some (iv (gel G (gfd G 12 9 l0) l9)), some (iv (gel G (gfd G 12 9 l0) l9)), some (iv l9)]) ⟨rfl, rfl, rfl, rfl, rfl, rfl, rfl, rfl, rfl, rfl, trivial⟩ (by have hk9 := k98; try simp only [if_pos c14] at hk9 ⊢; try simp only [if_neg c19] at hk9 ⊢; try simp only [if_pos c26] at hk9 ⊢; try simp only [if_neg c27] at hk9 ⊢; try simp only [if_neg (Int.not_le.mpr c47)] at hk9 ⊢; try simp only [if_neg (Int.not_le.mpr c79)] at hk9 ⊢; exact hk9)
      obtain ⟨v96, h⟩ := h
      refine v_iinc (pc := 209) (ls' := [some (rv l0), some (iv l1), some (iv l2), some (iv l3), some (iv l4), some (iv (if (gel G (gfd G 12 7 l0) l9) = l1 then ((if (gel G (gfd G 12 9 l0) l9) = (-2147483648) then (l5 : Int) else (if (Int.tdiv (gel G (gfd G 12 8 l0) l9) l2) = l3 then ((l5 + 1) : Int) else l5)) : Int) else l5)), some (iv (if (gel G (gfd G 12 7 l0) l9) = l1 then ((if (gel G (gfd G 12 9 l0) l9) = (-2147483648) then (l6 : Int) else (if (Int.tdiv (gel G (gfd G 12 8 l0) l9) l2) = l3 then ((l6 + (gel G (gfd G 12 9 l0) l9)) : Int) else l6)) : Int) else l6)), some (iv (if (gel G (gfd G 12 7 l0) l9) = l1 then ((if (gel G (gfd G 12 9 l0) l9) = (-2147483648) then (l7 : Int) else (if (Int.tdiv (gel G (gfd G 12 8 l0) l9) l2) = l3 then ((if l5 = 0 then ((gel G (gfd G 12 9 l0) l9) : Int) else (if l7 ≤ (gel G (gfd G 12 9 l0) l9) then (l7 : Int) else (gel G (gfd G 12 9 l0) l9))) : Int) else l7)) : Int) else l7)), some (iv (if (gel G (gfd G 12 7 l0) l9) = l1 then ((if (gel G (gfd G 12 9 l0) l9) = (-2147483648) then (l8 : Int) else (if (Int.tdiv (gel G (gfd G 12 8 l0) l9) l2) = l3 then ((if l5 = 0 then ((gel G (gfd G 12 9 l0) l9) : Int) else (if (gel G (gfd G 12 9 l0) l9) ≤ l8 then (l8 : Int) else (gel G (gfd G 12 9 l0) l9))) : Int) else l8)) : Int) else l8)), some (iv (l9 + 1))]) (dk dt_X12_thinned_2 28 rfl) (Nat.le_of_ble_eq_true rfl) rfl v96 rfl ?_
      refine v_goto (pc := 212) (tgt := 78) (dk dt_X12_thinned_2 29 rfl) (by decide) ?_
      exact h
set_option maxRecDepth 20000 in
theorem b_X12_suits_0 {E : EE} {l0 l1 l2 l3 : Int} {G : Gt} {c s : Nat} {Q X : Int → Gt → Prop} (h : ((l1 = 10 → OkP E M_X12_in [iv l2, iv 0, iv 100000] G (wIn l2 0 100000)) ∧ (l1 = 10 → (wIn l2 0 100000) ≠ 0 → OkP E M_X12_in [iv l3, iv 1, iv 1000] G (wIn l3 1 1000)) ∧ (l1 ≠ 10 → l1 = 100 → OkP E M_X12_in [iv l2, iv 0, iv 100000] G (wIn l2 0 100000)) ∧ (l1 ≠ 10 → l1 = 100 → (wIn l2 0 100000) ≠ 0 → OkP E M_X12_in [iv l3, iv 1, iv 1000] G (wIn l3 1 1000)) ∧ gcl G l0 = 13 ∧ ∀ G12 : Gt, G12 = (sfd G 12 0 l0 (if l1 = 10 then ((if (wIn l2 0 100000) = 0 then (1 : Int) else (if (wIn l3 1 1000) = 0 then (1 : Int) else 0)) : Int) else (if l1 = 100 then ((if (wIn l2 0 100000) = 0 then (1 : Int) else (if (wIn l3 1 1000) = 0 then (1 : Int) else 0)) : Int) else 1))) → gcl G12 l0 = 13 ∧ ((gfd G12 12 0 l0) = 0 → i32 (l2 + 1)) ∧ ((gfd G12 12 0 l0) = 0 → l1 ≠ 0) ∧ ((gfd G12 12 0 l0) = 0 → i32 (Int.tdiv (l2 + 1) l1)) ∧ ((gfd G12 12 0 l0) = 0 → i32 (Int.tmod (l2 + 1) l1)) ∧ ((gfd G12 12 0 l0) = 0 → (Int.tmod (l2 + 1) l1) = 0 → l1 ≠ 0) ∧ ((gfd G12 12 0 l0) = 0 → (Int.tmod (l2 + 1) l1) = 0 → i32 (Int.tdiv l3 l1)) ∧ ((gfd G12 12 0 l0) = 0 → (Int.tmod (l2 + 1) l1) = 0 → i32 (Int.tmod l3 l1)) ∧ ((if (gfd G12 12 0 l0) = 0 then ((if (Int.tmod (l2 + 1) l1) = 0 then ((if (Int.tmod l3 l1) = 0 then (1 : Int) else 0) : Int) else 0) : Int) else 0) = 0 ∨ (if (gfd G12 12 0 l0) = 0 then ((if (Int.tmod (l2 + 1) l1) = 0 then ((if (Int.tmod l3 l1) = 0 then (1 : Int) else 0) : Int) else 0) : Int) else 0) = 1) ∧ Q (if (gfd G12 12 0 l0) = 0 then ((if (Int.tmod (l2 + 1) l1) = 0 then ((if (Int.tmod l3 l1) = 0 then (1 : Int) else 0) : Int) else 0) : Int) else 0) G12)) : V E M_X12_suits 0 [some (rv l0), some (iv l1), some (iv l2), some (iv l3)] [] G c s Q X := by
  refine v_aload_n (pc := 0) (dk dt_X12_suits 0 rfl) rfl rfl ?_
  refine v_iload_n (pc := 1) (dk dt_X12_suits 1 rfl) rfl rfl ?_
  refine v_bipush (pc := 2) (dk dt_X12_suits 2 rfl) (by decide) ⟨by decide, by decide⟩ ?_
  obtain ⟨v2, v4, v7, v9, h⟩ := h
  suffices k25 : V E M_X12_suits 39 [some (rv l0), some (iv l1), some (iv l2), some (iv l3)] [iv (if l1 = 10 then ((if (wIn l2 0 100000) = 0 then (1 : Int) else (if (wIn l3 1 1000) = 0 then (1 : Int) else 0)) : Int) else (if l1 = 100 then ((if (wIn l2 0 100000) = 0 then (1 : Int) else (if (wIn l3 1 1000) = 0 then (1 : Int) else 0)) : Int) else 1)), rv l0] G c s Q X by
    refine v_icmp_eq (pc := 4) (tgt := 13) (dk dt_X12_suits 3 rfl) (by decide) (fun c1 => ?_) (fun c1 => ?_)
    · refine v_iload_n (pc := 13) (dk dt_X12_suits 7 rfl) rfl rfl ?_
      refine v_iconst (pc := 14) (dk dt_X12_suits 8 rfl) ⟨by decide, by decide⟩ ?_
      refine v_ldc (pc := 15) (dk dt_X12_suits 9 rfl) co_X12_189 ⟨by decide, by decide⟩ ?_
      refine v_csPZ (v := (wIn l2 0 100000)) (As := [iv l2, iv 0, iv 100000]) (stk := [rv l0]) (pc := 17) (dk dt_X12_suits 10 rfl) ml_X12_172 rfl rfl (Nat.le_of_ble_eq_true rfl) rfl rfl (v2 c1) ?_
      refine v_if_eq (pc := 20) (tgt := 38) (dk dt_X12_suits 11 rfl) (by decide) (fun c3 => ?_) (fun c3 => ?_)
      · refine v_iconst (pc := 38) (dk dt_X12_suits 19 rfl) ⟨by decide, by decide⟩ ?_
        exact v_less2 (ls' := [some (rv l0), some (iv l1), some (iv l2), some (iv l3)]) ⟨rfl, rfl, rfl, rfl, trivial⟩ (by have hk9 := k25; try simp only [if_pos c1] at hk9 ⊢; try simp only [if_pos c3] at hk9 ⊢; exact hk9)
      · refine v_iload_n (pc := 23) (dk dt_X12_suits 12 rfl) rfl rfl ?_
        refine v_iconst (pc := 24) (dk dt_X12_suits 13 rfl) ⟨by decide, by decide⟩ ?_
        refine v_sipush (pc := 25) (dk dt_X12_suits 14 rfl) (by decide) ⟨by decide, by decide⟩ ?_
        refine v_csPZ (v := (wIn l3 1 1000)) (As := [iv l3, iv 1, iv 1000]) (stk := [rv l0]) (pc := 28) (dk dt_X12_suits 15 rfl) ml_X12_172 rfl rfl (Nat.le_of_ble_eq_true rfl) rfl rfl (v4 c1 c3) ?_
        refine v_if_eq (pc := 31) (tgt := 38) (dk dt_X12_suits 16 rfl) (by decide) (fun c5 => ?_) (fun c5 => ?_)
        · refine v_iconst (pc := 38) (dk dt_X12_suits 19 rfl) ⟨by decide, by decide⟩ ?_
          exact v_less2 (ls' := [some (rv l0), some (iv l1), some (iv l2), some (iv l3)]) ⟨rfl, rfl, rfl, rfl, trivial⟩ (by have hk9 := k25; try simp only [if_pos c1] at hk9 ⊢; try simp only [if_neg c3] at hk9 ⊢; try simp only [if_pos c5] at hk9 ⊢; exact hk9)
        · refine v_iconst (pc := 34) (dk dt_X12_suits 17 rfl) ⟨by decide, by decide⟩ ?_
          refine v_goto (pc := 35) (tgt := 39) (dk dt_X12_suits 18 rfl) (by decide) ?_
          exact v_less2 (ls' := [some (rv l0), some (iv l1), some (iv l2), some (iv l3)]) ⟨rfl, rfl, rfl, rfl, trivial⟩ (by have hk9 := k25; try simp only [if_pos c1] at hk9 ⊢; try simp only [if_neg c3] at hk9 ⊢; try simp only [if_neg c5] at hk9 ⊢; exact hk9)
    · refine v_iload_n (pc := 7) (dk dt_X12_suits 4 rfl) rfl rfl ?_
      refine v_bipush (pc := 8) (dk dt_X12_suits 5 rfl) (by decide) ⟨by decide, by decide⟩ ?_
      refine v_icmp_ne (pc := 10) (tgt := 38) (dk dt_X12_suits 6 rfl) (by decide) (fun c6 => ?_) (fun c6 => ?_)
      · refine v_iconst (pc := 38) (dk dt_X12_suits 19 rfl) ⟨by decide, by decide⟩ ?_
        exact v_less2 (ls' := [some (rv l0), some (iv l1), some (iv l2), some (iv l3)]) ⟨rfl, rfl, rfl, rfl, trivial⟩ (by have hk9 := k25; try simp only [if_neg c1] at hk9 ⊢; try simp only [if_neg c6] at hk9 ⊢; exact hk9)
      · refine v_iload_n (pc := 13) (dk dt_X12_suits 7 rfl) rfl rfl ?_
        refine v_iconst (pc := 14) (dk dt_X12_suits 8 rfl) ⟨by decide, by decide⟩ ?_
        refine v_ldc (pc := 15) (dk dt_X12_suits 9 rfl) co_X12_189 ⟨by decide, by decide⟩ ?_
        refine v_csPZ (v := (wIn l2 0 100000)) (As := [iv l2, iv 0, iv 100000]) (stk := [rv l0]) (pc := 17) (dk dt_X12_suits 10 rfl) ml_X12_172 rfl rfl (Nat.le_of_ble_eq_true rfl) rfl rfl (v7 c1 c6) ?_
        refine v_if_eq (pc := 20) (tgt := 38) (dk dt_X12_suits 11 rfl) (by decide) (fun c8 => ?_) (fun c8 => ?_)
        · refine v_iconst (pc := 38) (dk dt_X12_suits 19 rfl) ⟨by decide, by decide⟩ ?_
          exact v_less2 (ls' := [some (rv l0), some (iv l1), some (iv l2), some (iv l3)]) ⟨rfl, rfl, rfl, rfl, trivial⟩ (by have hk9 := k25; try simp only [if_neg c1] at hk9 ⊢; try simp only [if_pos c6] at hk9 ⊢; try simp only [if_pos c8] at hk9 ⊢; exact hk9)
        · refine v_iload_n (pc := 23) (dk dt_X12_suits 12 rfl) rfl rfl ?_
          refine v_iconst (pc := 24) (dk dt_X12_suits 13 rfl) ⟨by decide, by decide⟩ ?_
          refine v_sipush (pc := 25) (dk dt_X12_suits 14 rfl) (by decide) ⟨by decide, by decide⟩ ?_
          refine v_csPZ (v := (wIn l3 1 1000)) (As := [iv l3, iv 1, iv 1000]) (stk := [rv l0]) (pc := 28) (dk dt_X12_suits 15 rfl) ml_X12_172 rfl rfl (Nat.le_of_ble_eq_true rfl) rfl rfl (v9 c1 c6 c8) ?_
          refine v_if_eq (pc := 31) (tgt := 38) (dk dt_X12_suits 16 rfl) (by decide) (fun c10 => ?_) (fun c10 => ?_)
          · refine v_iconst (pc := 38) (dk dt_X12_suits 19 rfl) ⟨by decide, by decide⟩ ?_
            exact v_less2 (ls' := [some (rv l0), some (iv l1), some (iv l2), some (iv l3)]) ⟨rfl, rfl, rfl, rfl, trivial⟩ (by have hk9 := k25; try simp only [if_neg c1] at hk9 ⊢; try simp only [if_pos c6] at hk9 ⊢; try simp only [if_neg c8] at hk9 ⊢; try simp only [if_pos c10] at hk9 ⊢; exact hk9)
          · refine v_iconst (pc := 34) (dk dt_X12_suits 17 rfl) ⟨by decide, by decide⟩ ?_
            refine v_goto (pc := 35) (tgt := 39) (dk dt_X12_suits 18 rfl) (by decide) ?_
            exact v_less2 (ls' := [some (rv l0), some (iv l1), some (iv l2), some (iv l3)]) ⟨rfl, rfl, rfl, rfl, trivial⟩ (by have hk9 := k25; try simp only [if_neg c1] at hk9 ⊢; try simp only [if_pos c6] at hk9 ⊢; try simp only [if_neg c8] at hk9 ⊢; try simp only [if_neg c10] at hk9 ⊢; exact hk9)
  obtain ⟨v11, h⟩ := h
  refine v_putI (pc := 39) (dk dt_X12_suits 20 rfl) fl_X12_127 (Or.inl rfl) v11 ?_
  generalize hG12 : (sfd G 12 0 l0 (if l1 = 10 then ((if (wIn l2 0 100000) = 0 then (1 : Int) else (if (wIn l3 1 1000) = 0 then (1 : Int) else 0)) : Int) else (if l1 = 100 then ((if (wIn l2 0 100000) = 0 then (1 : Int) else (if (wIn l3 1 1000) = 0 then (1 : Int) else 0)) : Int) else 1))) = G12
  replace h := h G12 hG12.symm
  refine v_aload_n (pc := 42) (dk dt_X12_suits 21 rfl) rfl rfl ?_
  obtain ⟨v13, h⟩ := h
  refine v_getI (pc := 43) (dk dt_X12_suits 22 rfl) fl_X12_127 v13 (fun _ => ?_)
  obtain ⟨v15, v16, v17, v18, v20, v21, v22, h⟩ := h
  suffices k26 : V E M_X12_suits 68 [none, none, none, none] [iv (if (gfd G12 12 0 l0) = 0 then ((if (Int.tmod (l2 + 1) l1) = 0 then ((if (Int.tmod l3 l1) = 0 then (1 : Int) else 0) : Int) else 0) : Int) else 0)] G12 c s Q X by
    refine v_if_ne (pc := 46) (tgt := 67) (dk dt_X12_suits 23 rfl) (by decide) (fun c14 => ?_) (fun c14 => ?_)
    · refine v_iconst (pc := 67) (dk dt_X12_suits 36 rfl) ⟨by decide, by decide⟩ ?_
      exact v_less2 (ls' := [none, none, none, none]) trivial (by have hk9 := k26; try simp only [if_neg c14] at hk9 ⊢; exact hk9)
    · refine v_iload_n (pc := 49) (dk dt_X12_suits 24 rfl) rfl rfl ?_
      refine v_iconst (pc := 50) (dk dt_X12_suits 25 rfl) ⟨by decide, by decide⟩ ?_
      refine v_iadd (pc := 51) (dk dt_X12_suits 26 rfl) (v15 c14) ?_
      refine v_iload_n (pc := 52) (dk dt_X12_suits 27 rfl) rfl rfl ?_
      refine v_irem (pc := 53) (dk dt_X12_suits 28 rfl) (v16 c14) (v17 c14) (v18 c14) ?_
      refine v_if_ne (pc := 54) (tgt := 67) (dk dt_X12_suits 29 rfl) (by decide) (fun c19 => ?_) (fun c19 => ?_)
      · refine v_iconst (pc := 67) (dk dt_X12_suits 36 rfl) ⟨by decide, by decide⟩ ?_
        exact v_less2 (ls' := [none, none, none, none]) trivial (by have hk9 := k26; try simp only [if_pos c14] at hk9 ⊢; try simp only [if_neg c19] at hk9 ⊢; exact hk9)
      · refine v_iload_n (pc := 57) (dk dt_X12_suits 30 rfl) rfl rfl ?_
        refine v_iload_n (pc := 58) (dk dt_X12_suits 31 rfl) rfl rfl ?_
        refine v_irem (pc := 59) (dk dt_X12_suits 32 rfl) (v20 c14 c19) (v21 c14 c19) (v22 c14 c19) ?_
        refine v_if_ne (pc := 60) (tgt := 67) (dk dt_X12_suits 33 rfl) (by decide) (fun c23 => ?_) (fun c23 => ?_)
        · refine v_iconst (pc := 67) (dk dt_X12_suits 36 rfl) ⟨by decide, by decide⟩ ?_
          exact v_less2 (ls' := [none, none, none, none]) trivial (by have hk9 := k26; try simp only [if_pos c14] at hk9 ⊢; try simp only [if_pos c19] at hk9 ⊢; try simp only [if_neg c23] at hk9 ⊢; exact hk9)
        · refine v_iconst (pc := 63) (dk dt_X12_suits 34 rfl) ⟨by decide, by decide⟩ ?_
          refine v_goto (pc := 64) (tgt := 68) (dk dt_X12_suits 35 rfl) (by decide) ?_
          exact v_less2 (ls' := [none, none, none, none]) trivial (by have hk9 := k26; try simp only [if_pos c14] at hk9 ⊢; try simp only [if_pos c19] at hk9 ⊢; try simp only [if_pos c23] at hk9 ⊢; exact hk9)
  obtain ⟨v24, h⟩ := h
  exact v_zret (pc := 68) (dk dt_X12_suits 37 rfl) rfl v24 h
set_option maxRecDepth 20000 in
theorem i_X12_suits {E : EE} {l0 l1 l2 l3 : Int} {G : Gt} {c s : Nat} {Q X : Int → Gt → Prop} (h : ((l1 = 10 → OkP E M_X12_in [iv l2, iv 0, iv 100000] G (wIn l2 0 100000)) ∧ (l1 = 10 → (wIn l2 0 100000) ≠ 0 → OkP E M_X12_in [iv l3, iv 1, iv 1000] G (wIn l3 1 1000)) ∧ (l1 ≠ 10 → l1 = 100 → OkP E M_X12_in [iv l2, iv 0, iv 100000] G (wIn l2 0 100000)) ∧ (l1 ≠ 10 → l1 = 100 → (wIn l2 0 100000) ≠ 0 → OkP E M_X12_in [iv l3, iv 1, iv 1000] G (wIn l3 1 1000)) ∧ gcl G l0 = 13 ∧ ∀ G12 : Gt, G12 = (sfd G 12 0 l0 (if l1 = 10 then ((if (wIn l2 0 100000) = 0 then (1 : Int) else (if (wIn l3 1 1000) = 0 then (1 : Int) else 0)) : Int) else (if l1 = 100 then ((if (wIn l2 0 100000) = 0 then (1 : Int) else (if (wIn l3 1 1000) = 0 then (1 : Int) else 0)) : Int) else 1))) → gcl G12 l0 = 13 ∧ ((gfd G12 12 0 l0) = 0 → i32 (l2 + 1)) ∧ ((gfd G12 12 0 l0) = 0 → l1 ≠ 0) ∧ ((gfd G12 12 0 l0) = 0 → i32 (Int.tdiv (l2 + 1) l1)) ∧ ((gfd G12 12 0 l0) = 0 → i32 (Int.tmod (l2 + 1) l1)) ∧ ((gfd G12 12 0 l0) = 0 → (Int.tmod (l2 + 1) l1) = 0 → l1 ≠ 0) ∧ ((gfd G12 12 0 l0) = 0 → (Int.tmod (l2 + 1) l1) = 0 → i32 (Int.tdiv l3 l1)) ∧ ((gfd G12 12 0 l0) = 0 → (Int.tmod (l2 + 1) l1) = 0 → i32 (Int.tmod l3 l1)) ∧ ((if (gfd G12 12 0 l0) = 0 then ((if (Int.tmod (l2 + 1) l1) = 0 then ((if (Int.tmod l3 l1) = 0 then (1 : Int) else 0) : Int) else 0) : Int) else 0) = 0 ∨ (if (gfd G12 12 0 l0) = 0 then ((if (Int.tmod (l2 + 1) l1) = 0 then ((if (Int.tmod l3 l1) = 0 then (1 : Int) else 0) : Int) else 0) : Int) else 0) = 1) ∧ Q (if (gfd G12 12 0 l0) = 0 then ((if (Int.tmod (l2 + 1) l1) = 0 then ((if (Int.tmod l3 l1) = 0 then (1 : Int) else 0) : Int) else 0) : Int) else 0) G12)) : Ok E M_X12_suits [rv l0, iv l1, iv l2, iv l3] G c s Q X := Ok.intro (k := 0) rfl rfl (Nat.le_of_ble_eq_true rfl) rfl (b_X12_suits_0 h)
set_option maxRecDepth 20000 in
theorem b_X12_down_0 {E : EE} {l0 l1 : Int} {G : Gt} {c s : Nat} {Q X : Int → Gt → Prop} (h : (gcl G l0 = 13 ∧ ∀ G2 : Gt, G2 = (sfd G 12 0 l0 0) → gcl G2 l0 = 13 ∧ gcl G2 l0 = 13 ∧ (l1 = 0 ∨ l1 = 1) ∧ ∀ G6 : Gt, G6 = (sfd G2 12 48 l0 l1) → ((gfd G2 12 48 l0) = 0 ∨ (gfd G2 12 48 l0) = 1) ∧ Q (gfd G2 12 48 l0) G6)) : V E M_X12_down 0 [some (rv l0), some (iv l1), none] [] G c s Q X := by
  refine v_aload_n (pc := 0) (dk dt_X12_down 0 rfl) rfl rfl ?_
  refine v_iconst (pc := 1) (dk dt_X12_down 1 rfl) ⟨by decide, by decide⟩ ?_
  obtain ⟨v1, h⟩ := h
  refine v_putI (pc := 2) (dk dt_X12_down 2 rfl) fl_X12_127 (Or.inl rfl) v1 ?_
  generalize hG2 : (sfd G 12 0 l0 0) = G2
  replace h := h G2 hG2.symm
  refine v_aload_n (pc := 5) (dk dt_X12_down 3 rfl) rfl rfl ?_
  obtain ⟨v3, h⟩ := h
  refine v_getZ (pc := 6) (dk dt_X12_down 4 rfl) fl_X12_165 v3 (fun _ => ?_)
  refine v_istore_n (pc := 9) (ls' := [some (rv l0), some (iv l1), some (iv (gfd G2 12 48 l0))]) (dk dt_X12_down 5 rfl) rfl (Nat.le_of_ble_eq_true rfl) rfl ?_
  refine v_aload_n (pc := 10) (dk dt_X12_down 6 rfl) rfl rfl ?_
  refine v_iload_n (pc := 11) (dk dt_X12_down 7 rfl) rfl rfl ?_
  obtain ⟨v4, h⟩ := h
  obtain ⟨v5, h⟩ := h
  refine v_putZ (pc := 12) (dk dt_X12_down 8 rfl) fl_X12_165 (Or.inl rfl) v4 v5 ?_
  generalize hG6 : (sfd G2 12 48 l0 l1) = G6
  replace h := h G6 hG6.symm
  refine v_iload_n (pc := 15) (dk dt_X12_down 9 rfl) rfl rfl ?_
  obtain ⟨v7, h⟩ := h
  exact v_zret (pc := 16) (dk dt_X12_down 10 rfl) rfl v7 h
set_option maxRecDepth 20000 in
theorem i_X12_down {E : EE} {l0 l1 : Int} {G : Gt} {c s : Nat} {Q X : Int → Gt → Prop} (h : (gcl G l0 = 13 ∧ ∀ G2 : Gt, G2 = (sfd G 12 0 l0 0) → gcl G2 l0 = 13 ∧ gcl G2 l0 = 13 ∧ (l1 = 0 ∨ l1 = 1) ∧ ∀ G6 : Gt, G6 = (sfd G2 12 48 l0 l1) → ((gfd G2 12 48 l0) = 0 ∨ (gfd G2 12 48 l0) = 1) ∧ Q (gfd G2 12 48 l0) G6)) : Ok E M_X12_down [rv l0, iv l1] G c s Q X := Ok.intro (k := 1) rfl rfl (Nat.le_of_ble_eq_true rfl) rfl (b_X12_down_0 h)
set_option maxRecDepth 20000 in
theorem b_X12_behind_0 {E : EE} {l0 : Int} {G : Gt} {c s : Nat} {Q X : Int → Gt → Prop} (h : (gcl G l0 = 13 ∧ ∀ G2 : Gt, G2 = (sfd G 12 0 l0 0) → V E M_X12_behind 9 [some (rv l0), some (iv 0), some (iv 0)] [] G2 c s Q X)) : V E M_X12_behind 0 [some (rv l0), none, none] [] G c s Q X := by
  refine v_aload_n (pc := 0) (dk dt_X12_behind 0 rfl) rfl rfl ?_
  refine v_iconst (pc := 1) (dk dt_X12_behind 1 rfl) ⟨by decide, by decide⟩ ?_
  obtain ⟨v1, h⟩ := h
  refine v_putI (pc := 2) (dk dt_X12_behind 2 rfl) fl_X12_127 (Or.inl rfl) v1 ?_
  generalize hG2 : (sfd G 12 0 l0 0) = G2
  replace h := h G2 hG2.symm
  refine v_iconst (pc := 5) (dk dt_X12_behind 3 rfl) ⟨by decide, by decide⟩ ?_
  refine v_istore_n (pc := 6) (ls' := [some (rv l0), some (iv 0), none]) (dk dt_X12_behind 4 rfl) rfl (Nat.le_of_ble_eq_true rfl) rfl ?_
  refine v_iconst (pc := 7) (dk dt_X12_behind 5 rfl) ⟨by decide, by decide⟩ ?_
  refine v_istore_n (pc := 8) (ls' := [some (rv l0), some (iv 0), some (iv 0)]) (dk dt_X12_behind 6 rfl) rfl (Nat.le_of_ble_eq_true rfl) rfl ?_
  exact h
set_option maxRecDepth 20000 in
theorem i_X12_behind {E : EE} {l0 : Int} {G : Gt} {c s : Nat} {Q X : Int → Gt → Prop} (h : (gcl G l0 = 13 ∧ ∀ G2 : Gt, G2 = (sfd G 12 0 l0 0) → V E M_X12_behind 9 [some (rv l0), some (iv 0), some (iv 0)] [] G2 c s Q X)) : Ok E M_X12_behind [rv l0] G c s Q X := Ok.intro (k := 2) rfl rfl (Nat.le_of_ble_eq_true rfl) rfl (b_X12_behind_0 h)
set_option maxRecDepth 20000 in
theorem b_X12_behind_9 {E : EE} {l0 l1 l2 : Int} {G : Gt} {c s : Nat} {Q X : Int → Gt → Prop} (h : (gcl G l0 = 13 ∧ (((gfd G 12 12 l0) ≤ l2 → Q l1 G) ∧ (l2 < (gfd G 12 12 l0) → (gcl G l0 = 13 ∧ OkP E M_X12_isSeen [rv l0, iv l2] G (mSeen G l0 l2) ∧ ((mSeen G l0 l2) ≠ 0 → gcl G l0 = 13) ∧ ((mSeen G l0 l2) ≠ 0 → gcl G (gfd G 12 11 l0) = 17) ∧ ((mSeen G l0 l2) ≠ 0 → 0 ≤ l2) ∧ ((mSeen G l0 l2) ≠ 0 → l2 < gln G (gfd G 12 11 l0)) ∧ i32 (l1 + (if (mSeen G l0 l2) = 0 then (0 : Int) else (if (gel G (gfd G 12 11 l0) l2) = 0 then (1 : Int) else 0))) ∧ i32 (l2 + 1) ∧ V E M_X12_behind 9 [some (rv l0), some (iv (l1 + (if (mSeen G l0 l2) = 0 then (0 : Int) else (if (gel G (gfd G 12 11 l0) l2) = 0 then (1 : Int) else 0)))), some (iv (l2 + 1))] [] G c s Q X))))) : V E M_X12_behind 9 [some (rv l0), some (iv l1), some (iv l2)] [] G c s Q X := by
  refine v_iload_n (pc := 9) (dk dt_X12_behind 7 rfl) rfl rfl ?_
  refine v_aload_n (pc := 10) (dk dt_X12_behind 8 rfl) rfl rfl ?_
  obtain ⟨v1, h⟩ := h
  refine v_getI (pc := 11) (dk dt_X12_behind 9 rfl) fl_X12_154 v1 (fun _ => ?_)
  refine v_icmp_ge (pc := 14) (tgt := 48) (dk dt_X12_behind 10 rfl) (by decide) (fun c2 => ?_) (fun c2 => ?_)
  · replace h := h.1 c2
    refine v_iload_n (pc := 48) (dk dt_X12_behind 28 rfl) rfl rfl ?_
    exact v_iret (pc := 49) (dk dt_X12_behind 29 rfl) rfl h
  · replace h := h.2 c2
    refine v_iload_n (pc := 17) (dk dt_X12_behind 11 rfl) rfl rfl ?_
    refine v_aload_n (pc := 18) (dk dt_X12_behind 12 rfl) rfl rfl ?_
    refine v_iload_n (pc := 19) (dk dt_X12_behind 13 rfl) rfl rfl ?_
    obtain ⟨v3, h⟩ := h
    obtain ⟨v4, h⟩ := h
    refine v_cvPZ (c := 12) (v := (mSeen G l0 l2)) (As := [iv l2]) (stk := [iv l1]) (pc := 20) (dk dt_X12_behind 14 rfl) ml_X12_157 rfl rfl (Nat.le_of_ble_eq_true rfl) rfl ⟨by decide, rfl⟩ v3 rfl v4 ?_
    obtain ⟨v6, v7, v8, v9, h⟩ := h
    suffices k13 : V E M_X12_behind 40 [some (rv l0), none, some (iv l2)] [iv (if (mSeen G l0 l2) = 0 then (0 : Int) else (if (gel G (gfd G 12 11 l0) l2) = 0 then (1 : Int) else 0)), iv l1] G c s Q X by
      refine v_if_eq (pc := 23) (tgt := 39) (dk dt_X12_behind 15 rfl) (by decide) (fun c5 => ?_) (fun c5 => ?_)
      · refine v_iconst (pc := 39) (dk dt_X12_behind 23 rfl) ⟨by decide, by decide⟩ ?_
        exact v_less2 (ls' := [some (rv l0), none, some (iv l2)]) ⟨rfl, rfl, trivial⟩ (by have hk9 := k13; try simp only [if_pos c5] at hk9 ⊢; exact hk9)
      · refine v_aload_n (pc := 26) (dk dt_X12_behind 16 rfl) rfl rfl ?_
        refine v_getR (pc := 27) (dk dt_X12_behind 17 rfl) fl_X12_38 (v6 c5) (fun _ => ?_)
        refine v_iload_n (pc := 30) (dk dt_X12_behind 18 rfl) rfl rfl ?_
        refine v_zald (pc := 31) (dk dt_X12_behind 19 rfl) (v7 c5) (v8 c5) (v9 c5) (fun _ => ?_)
        refine v_if_ne (pc := 32) (tgt := 39) (dk dt_X12_behind 20 rfl) (by decide) (fun c10 => ?_) (fun c10 => ?_)
        · refine v_iconst (pc := 39) (dk dt_X12_behind 23 rfl) ⟨by decide, by decide⟩ ?_
          exact v_less2 (ls' := [some (rv l0), none, some (iv l2)]) ⟨rfl, rfl, trivial⟩ (by have hk9 := k13; try simp only [if_neg c5] at hk9 ⊢; try simp only [if_neg c10] at hk9 ⊢; exact hk9)
        · refine v_iconst (pc := 35) (dk dt_X12_behind 21 rfl) ⟨by decide, by decide⟩ ?_
          refine v_goto (pc := 36) (tgt := 40) (dk dt_X12_behind 22 rfl) (by decide) ?_
          exact v_less2 (ls' := [some (rv l0), none, some (iv l2)]) ⟨rfl, rfl, trivial⟩ (by have hk9 := k13; try simp only [if_neg c5] at hk9 ⊢; try simp only [if_pos c10] at hk9 ⊢; exact hk9)
    obtain ⟨v11, h⟩ := h
    refine v_iadd (pc := 40) (dk dt_X12_behind 24 rfl) v11 ?_
    refine v_istore_n (pc := 41) (ls' := [some (rv l0), some (iv (l1 + (if (mSeen G l0 l2) = 0 then (0 : Int) else (if (gel G (gfd G 12 11 l0) l2) = 0 then (1 : Int) else 0)))), some (iv l2)]) (dk dt_X12_behind 25 rfl) rfl (Nat.le_of_ble_eq_true rfl) rfl ?_
    obtain ⟨v12, h⟩ := h
    refine v_iinc (pc := 42) (ls' := [some (rv l0), some (iv (l1 + (if (mSeen G l0 l2) = 0 then (0 : Int) else (if (gel G (gfd G 12 11 l0) l2) = 0 then (1 : Int) else 0)))), some (iv (l2 + 1))]) (dk dt_X12_behind 26 rfl) (Nat.le_of_ble_eq_true rfl) rfl v12 rfl ?_
    refine v_goto (pc := 45) (tgt := 9) (dk dt_X12_behind 27 rfl) (by decide) ?_
    exact h
set_option maxRecDepth 20000 in
theorem b_X12_mend_0 {E : EE} {l0 l1 : Int} {G : Gt} {c s : Nat} {Q X : Int → Gt → Prop} (h : (OkP E M_X12_in [iv l1, iv 1, iv 1000] G (wIn l1 1 1000) ∧ gcl G l0 = 13 ∧ ∀ G4 : Gt, G4 = (sfd G 12 0 l0 (if (wIn l1 1 1000) = 0 then (1 : Int) else 0)) → V E M_X12_mend 24 [some (rv l0), some (iv l1), some (iv 0), some (iv 0)] [] G4 c s Q X)) : V E M_X12_mend 0 [some (rv l0), some (iv l1), none, none] [] G c s Q X := by
  refine v_aload_n (pc := 0) (dk dt_X12_mend 0 rfl) rfl rfl ?_
  refine v_iload_n (pc := 1) (dk dt_X12_mend 1 rfl) rfl rfl ?_
  refine v_iconst (pc := 2) (dk dt_X12_mend 2 rfl) ⟨by decide, by decide⟩ ?_
  refine v_sipush (pc := 3) (dk dt_X12_mend 3 rfl) (by decide) ⟨by decide, by decide⟩ ?_
  obtain ⟨v1, h⟩ := h
  refine v_csPZ (v := (wIn l1 1 1000)) (As := [iv l1, iv 1, iv 1000]) (stk := [rv l0]) (pc := 6) (dk dt_X12_mend 4 rfl) ml_X12_172 rfl rfl (Nat.le_of_ble_eq_true rfl) rfl rfl v1 ?_
  suffices k5 : V E M_X12_mend 17 [some (rv l0), some (iv l1), none, none] [iv (if (wIn l1 1 1000) = 0 then (1 : Int) else 0), rv l0] G c s Q X by
    refine v_if_eq (pc := 9) (tgt := 16) (dk dt_X12_mend 5 rfl) (by decide) (fun c2 => ?_) (fun c2 => ?_)
    · refine v_iconst (pc := 16) (dk dt_X12_mend 8 rfl) ⟨by decide, by decide⟩ ?_
      exact v_less2 (ls' := [some (rv l0), some (iv l1), none, none]) ⟨rfl, rfl, trivial⟩ (by have hk9 := k5; try simp only [if_pos c2] at hk9 ⊢; exact hk9)
    · refine v_iconst (pc := 12) (dk dt_X12_mend 6 rfl) ⟨by decide, by decide⟩ ?_
      refine v_goto (pc := 13) (tgt := 17) (dk dt_X12_mend 7 rfl) (by decide) ?_
      exact v_less2 (ls' := [some (rv l0), some (iv l1), none, none]) ⟨rfl, rfl, trivial⟩ (by have hk9 := k5; try simp only [if_neg c2] at hk9 ⊢; exact hk9)
  obtain ⟨v3, h⟩ := h
  refine v_putI (pc := 17) (dk dt_X12_mend 9 rfl) fl_X12_127 (Or.inl rfl) v3 ?_
  generalize hG4 : (sfd G 12 0 l0 (if (wIn l1 1 1000) = 0 then (1 : Int) else 0)) = G4
  replace h := h G4 hG4.symm
  refine v_iconst (pc := 20) (dk dt_X12_mend 10 rfl) ⟨by decide, by decide⟩ ?_
  refine v_istore_n (pc := 21) (ls' := [some (rv l0), some (iv l1), some (iv 0), none]) (dk dt_X12_mend 11 rfl) rfl (Nat.le_of_ble_eq_true rfl) rfl ?_
  refine v_iconst (pc := 22) (dk dt_X12_mend 12 rfl) ⟨by decide, by decide⟩ ?_
  refine v_istore_n (pc := 23) (ls' := [some (rv l0), some (iv l1), some (iv 0), some (iv 0)]) (dk dt_X12_mend 13 rfl) rfl (Nat.le_of_ble_eq_true rfl) rfl ?_
  exact h
set_option maxRecDepth 20000 in
theorem i_X12_mend {E : EE} {l0 l1 : Int} {G : Gt} {c s : Nat} {Q X : Int → Gt → Prop} (h : (OkP E M_X12_in [iv l1, iv 1, iv 1000] G (wIn l1 1 1000) ∧ gcl G l0 = 13 ∧ ∀ G4 : Gt, G4 = (sfd G 12 0 l0 (if (wIn l1 1 1000) = 0 then (1 : Int) else 0)) → V E M_X12_mend 24 [some (rv l0), some (iv l1), some (iv 0), some (iv 0)] [] G4 c s Q X)) : Ok E M_X12_mend [rv l0, iv l1] G c s Q X := Ok.intro (k := 2) rfl rfl (Nat.le_of_ble_eq_true rfl) rfl (b_X12_mend_0 h)
set_option maxRecDepth 20000 in
theorem b_X12_mend_24 {E : EE} {l0 l1 l2 l3 : Int} {G : Gt} {c s : Nat} {Q X : Int → Gt → Prop} (h : (gcl G l0 = 13 ∧ (((gfd G 12 12 l0) ≤ l3 → Q l2 G) ∧ (l3 < (gfd G 12 12 l0) → (gcl G l0 = 13 ∧ (((gfd G 12 0 l0) ≠ 0 → Q l2 G) ∧ ((gfd G 12 0 l0) = 0 → ((l1 ≤ l2 → Q l2 G) ∧ (l2 < l1 → (gcl G l0 = 13 ∧ OkP E M_X12_isSeen [rv l0, iv l3] G (mSeen G l0 l3) ∧ (((mSeen G l0 l3) = 0 → (i32 (l3 + 1) ∧ V E M_X12_mend 24 [some (rv l0), some (iv l1), some (iv l2), some (iv (l3 + 1))] [] G c s Q X)) ∧ ((mSeen G l0 l3) ≠ 0 → (gcl G l0 = 13 ∧ gcl G (gfd G 12 11 l0) = 17 ∧ 0 ≤ l3 ∧ l3 < gln G (gfd G 12 11 l0) ∧ (((gel G (gfd G 12 11 l0) l3) ≠ 0 → (i32 (l3 + 1) ∧ V E M_X12_mend 24 [some (rv l0), some (iv l1), some (iv l2), some (iv (l3 + 1))] [] G c s Q X)) ∧ ((gel G (gfd G 12 11 l0) l3) = 0 → (gcl G l0 = 13 ∧ gcl G (gfd G 12 11 l0) = 17 ∧ 0 ≤ l3 ∧ l3 < gln G (gfd G 12 11 l0) ∧ ∀ G20 : Gt, G20 = (sel G (gfd G 12 11 l0) l3 1) → i32 (l2 + 1) ∧ i32 (l3 + 1) ∧ V E M_X12_mend 24 [some (rv l0), some (iv l1), some (iv (l2 + 1)), some (iv (l3 + 1))] [] G20 c s Q X)))))))))))))))) : V E M_X12_mend 24 [some (rv l0), some (iv l1), some (iv l2), some (iv l3)] [] G c s Q X := by
  refine v_iload_n (pc := 24) (dk dt_X12_mend 14 rfl) rfl rfl ?_
  refine v_aload_n (pc := 25) (dk dt_X12_mend 15 rfl) rfl rfl ?_
  obtain ⟨v1, h⟩ := h
  refine v_getI (pc := 26) (dk dt_X12_mend 16 rfl) fl_X12_154 v1 (fun _ => ?_)
  refine v_icmp_ge (pc := 29) (tgt := 77) (dk dt_X12_mend 17 rfl) (by decide) (fun c2 => ?_) (fun c2 => ?_)
  · replace h := h.1 c2
    refine v_iload_n (pc := 77) (dk dt_X12_mend_1 1 rfl) rfl rfl ?_
    exact v_iret (pc := 78) (dk dt_X12_mend_1 2 rfl) rfl h
  · replace h := h.2 c2
    refine v_aload_n (pc := 32) (dk dt_X12_mend 18 rfl) rfl rfl ?_
    obtain ⟨v3, h⟩ := h
    refine v_getI (pc := 33) (dk dt_X12_mend 19 rfl) fl_X12_127 v3 (fun _ => ?_)
    refine v_if_ne (pc := 36) (tgt := 77) (dk dt_X12_mend 20 rfl) (by decide) (fun c4 => ?_) (fun c4 => ?_)
    · replace h := h.1 c4
      refine v_iload_n (pc := 77) (dk dt_X12_mend_1 1 rfl) rfl rfl ?_
      exact v_iret (pc := 78) (dk dt_X12_mend_1 2 rfl) rfl h
    · replace h := h.2 c4
      refine v_iload_n (pc := 39) (dk dt_X12_mend 21 rfl) rfl rfl ?_
      refine v_iload_n (pc := 40) (dk dt_X12_mend 22 rfl) rfl rfl ?_
      refine v_icmp_ge (pc := 41) (tgt := 77) (dk dt_X12_mend 23 rfl) (by decide) (fun c5 => ?_) (fun c5 => ?_)
      · replace h := h.1 c5
        refine v_iload_n (pc := 77) (dk dt_X12_mend_1 1 rfl) rfl rfl ?_
        exact v_iret (pc := 78) (dk dt_X12_mend_1 2 rfl) rfl h
      · replace h := h.2 c5
        refine v_aload_n (pc := 44) (dk dt_X12_mend 24 rfl) rfl rfl ?_
        refine v_iload_n (pc := 45) (dk dt_X12_mend 25 rfl) rfl rfl ?_
        obtain ⟨v6, h⟩ := h
        obtain ⟨v7, h⟩ := h
        refine v_cvPZ (c := 12) (v := (mSeen G l0 l3)) (As := [iv l3]) (stk := []) (pc := 46) (dk dt_X12_mend 26 rfl) ml_X12_157 rfl rfl (Nat.le_of_ble_eq_true rfl) rfl ⟨by decide, rfl⟩ v6 rfl v7 ?_
        refine v_if_eq (pc := 49) (tgt := 71) (dk dt_X12_mend 27 rfl) (by decide) (fun c8 => ?_) (fun c8 => ?_)
        · replace h := h.1 c8
          obtain ⟨v9, h⟩ := h
          refine v_iinc (pc := 71) (ls' := [some (rv l0), some (iv l1), some (iv l2), some (iv (l3 + 1))]) (dk dt_X12_mend 39 rfl) (Nat.le_of_ble_eq_true rfl) rfl v9 rfl ?_
          refine v_goto (pc := 74) (tgt := 24) (dk dt_X12_mend_1 0 rfl) (by decide) ?_
          exact h
        · replace h := h.2 c8
          refine v_aload_n (pc := 52) (dk dt_X12_mend 28 rfl) rfl rfl ?_
          obtain ⟨v10, h⟩ := h
          refine v_getR (pc := 53) (dk dt_X12_mend 29 rfl) fl_X12_38 v10 (fun _ => ?_)
          refine v_iload_n (pc := 56) (dk dt_X12_mend 30 rfl) rfl rfl ?_
          obtain ⟨v11, h⟩ := h
          obtain ⟨v12, h⟩ := h
          obtain ⟨v13, h⟩ := h
          refine v_zald (pc := 57) (dk dt_X12_mend 31 rfl) v11 v12 v13 (fun _ => ?_)
          refine v_if_ne (pc := 58) (tgt := 71) (dk dt_X12_mend 32 rfl) (by decide) (fun c14 => ?_) (fun c14 => ?_)
          · replace h := h.1 c14
            obtain ⟨v15, h⟩ := h
            refine v_iinc (pc := 71) (ls' := [some (rv l0), some (iv l1), some (iv l2), some (iv (l3 + 1))]) (dk dt_X12_mend 39 rfl) (Nat.le_of_ble_eq_true rfl) rfl v15 rfl ?_
            refine v_goto (pc := 74) (tgt := 24) (dk dt_X12_mend_1 0 rfl) (by decide) ?_
            exact h
          · replace h := h.2 c14
            refine v_aload_n (pc := 61) (dk dt_X12_mend 33 rfl) rfl rfl ?_
            obtain ⟨v16, h⟩ := h
            refine v_getR (pc := 62) (dk dt_X12_mend 34 rfl) fl_X12_38 v16 (fun _ => ?_)
            refine v_iload_n (pc := 65) (dk dt_X12_mend 35 rfl) rfl rfl ?_
            refine v_iconst (pc := 66) (dk dt_X12_mend 36 rfl) ⟨by decide, by decide⟩ ?_
            obtain ⟨v17, h⟩ := h
            obtain ⟨v18, h⟩ := h
            obtain ⟨v19, h⟩ := h
            refine v_zast (pc := 67) (dk dt_X12_mend 37 rfl) v17 v18 v19 (Or.inr rfl) ?_
            generalize hG20 : (sel G (gfd G 12 11 l0) l3 1) = G20
            replace h := h G20 hG20.symm
            obtain ⟨v21, h⟩ := h
            refine v_iinc (pc := 68) (ls' := [some (rv l0), some (iv l1), some (iv (l2 + 1)), some (iv l3)]) (dk dt_X12_mend 38 rfl) (Nat.le_of_ble_eq_true rfl) rfl v21 rfl ?_
            obtain ⟨v22, h⟩ := h
            refine v_iinc (pc := 71) (ls' := [some (rv l0), some (iv l1), some (iv (l2 + 1)), some (iv (l3 + 1))]) (dk dt_X12_mend 39 rfl) (Nat.le_of_ble_eq_true rfl) rfl v22 rfl ?_
            refine v_goto (pc := 74) (tgt := 24) (dk dt_X12_mend_1 0 rfl) (by decide) ?_
            exact h
