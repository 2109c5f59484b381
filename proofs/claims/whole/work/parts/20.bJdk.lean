set_option maxRecDepth 20000 in
theorem b_A_init_0 {E : EE} {l0 : Int} {G : Gt} {c s : Nat} {Q X : Int → Gt → Prop} (h : (0 ≤ l0 ∧ Call E M_B_init [rv l0] G c s X (fun r2 G3 c4 s5 => gcl G3 l0 = 14 ∧ ∀ G7 : Gt, G7 = (sfd G3 13 1 l0 (eE E)) → Q 0 G7))) : V E M_A_init 0 [some (rv l0)] [] G c s Q X := by
  refine v_aload_n (pc := 0) (dk dt_A_init 0 rfl) rfl rfl ?_
  obtain ⟨v1, h⟩ := h
  refine v_ciV (As := []) (stk := []) (pc := 1) (dk dt_A_init 1 rfl) ml_Jx4a65c_1 rfl rfl (Nat.le_of_ble_eq_true rfl) rfl v1 (Call.mono h (fun r2 G3 c4 s5 h => ?_))
  refine v_aload_n (pc := 4) (dk dt_A_init 2 rfl) rfl rfl ?_
  refine v_getsE (pc := 5) (dk dt_A_init 3 rfl) fs_Jx4a65c_39 (fun _ _ => ?_)
  obtain ⟨v6, h⟩ := h
  refine v_putR (pc := 8) (dk dt_A_init 4 rfl) fl_Jx4a65c_9 (Or.inl rfl) v6 ?_
  generalize hG7 : (sfd G3 13 1 l0 (eE E)) = G7
  replace h := h G7 hG7.symm
  exact v_vret (pc := 11) (dk dt_A_init 5 rfl) rfl h
set_option maxRecDepth 20000 in
theorem i_A_init {E : EE} {l0 : Int} {G : Gt} {c s : Nat} {Q X : Int → Gt → Prop} (h : (0 ≤ l0 ∧ Call E M_B_init [rv l0] G c s X (fun r2 G3 c4 s5 => gcl G3 l0 = 14 ∧ ∀ G7 : Gt, G7 = (sfd G3 13 1 l0 (eE E)) → Q 0 G7))) : Ok E M_A_init [rv l0] G c s Q X := Ok.intro (k := 0) rfl rfl (Nat.le_of_ble_eq_true rfl) rfl (b_A_init_0 h)
set_option maxRecDepth 20000 in
theorem b_A_grow1_0 {E : EE} {l0 l1 : Int} {G : Gt} {c s : Nat} {Q X : Int → Gt → Prop} (h : (gcl G l0 = 14 ∧ 15 ≤ gcl G (gfd G 13 1 l0) ∧ ∀ J3 : Prop, ((i32 (l1 - (gln G (gfd G 13 1 l0))) ∧ Call E M_S_newLength [iv (gln G (gfd G 13 1 l0)), iv (l1 - (gln G (gfd G 13 1 l0))), iv (shr32 (gln G (gfd G 13 1 l0)) 1)] G c s X (fun r5 G6 c7 s8 => gcl G6 l0 = 14 ∧ Call E M_R_copyOf2 [rv (gfd G6 13 1 l0), iv r5] G6 c7 s8 X (fun r10 G11 c12 s13 => gcl G11 l0 = 14 ∧ ∀ G15 : Gt, G15 = (sfd G11 13 1 l0 r10) → Q r10 G15))) → J3) → ((0 < (gln G (gfd G 13 1 l0)) → J3) ∧ ((gln G (gfd G 13 1 l0)) ≤ 0 → (gcl G l0 = 14 ∧ (((gfd G 13 1 l0) = (eE E) → (0 ≤ (max 10 l1) ∧ (max 10 l1) ≤ 60000000 ∧ 1 ≤ c ∧ ((max 10 l1) : Int).toNat ≤ s ∧ ∀ q19 : Int, gcl G q19 = 0 → (eb E : Int) ≤ q19 → ∀ G24 : Gt, G24 = (newa G q19 18 (max 10 l1)) → gcl G24 l0 = 14 ∧ ∀ G26 : Gt, G26 = (sfd G24 13 1 l0 q19) → Q q19 G26)) ∧ ((gfd G 13 1 l0) ≠ (eE E) → J3))))))) : V E M_A_grow1 0 [some (rv l0), some (iv l1), none, none] [] G c s Q X := by
  refine v_aload_n (pc := 0) (dk dt_A_grow1 0 rfl) rfl rfl ?_
  obtain ⟨v1, h⟩ := h
  refine v_getR (pc := 1) (dk dt_A_grow1 1 rfl) fl_Jx4a65c_9 v1 (fun _ => ?_)
  obtain ⟨v2, h⟩ := h
  refine v_alen (pc := 4) (dk dt_A_grow1 2 rfl) v2 (fun _ => ?_)
  refine v_istore_n (pc := 5) (ls' := [some (rv l0), some (iv l1), some (iv (gln G (gfd G 13 1 l0))), none]) (dk dt_A_grow1 3 rfl) rfl (Nat.le_of_ble_eq_true rfl) rfl ?_
  refine v_iload_n (pc := 6) (dk dt_A_grow1 4 rfl) rfl rfl ?_
  obtain ⟨J3, dJ3⟩ : ∃ J9 : Prop, J9 = V E M_A_grow1 20 [some (rv l0), some (iv l1), some (iv (gln G (gfd G 13 1 l0))), none] [] G c s Q X := ⟨_, rfl⟩
  have hJ3 : (i32 (l1 - (gln G (gfd G 13 1 l0))) ∧ Call E M_S_newLength [iv (gln G (gfd G 13 1 l0)), iv (l1 - (gln G (gfd G 13 1 l0))), iv (shr32 (gln G (gfd G 13 1 l0)) 1)] G c s X (fun r5 G6 c7 s8 => gcl G6 l0 = 14 ∧ Call E M_R_copyOf2 [rv (gfd G6 13 1 l0), iv r5] G6 c7 s8 X (fun r10 G11 c12 s13 => gcl G11 l0 = 14 ∧ ∀ G15 : Gt, G15 = (sfd G11 13 1 l0 r10) → Q r10 G15))) → J3 := by
    intro h
    rw [dJ3]
    refine v_iload_n (pc := 20) (dk dt_A_grow1 10 rfl) rfl rfl ?_
    refine v_iload_n (pc := 21) (dk dt_A_grow1 11 rfl) rfl rfl ?_
    refine v_iload_n (pc := 22) (dk dt_A_grow1 12 rfl) rfl rfl ?_
    obtain ⟨v4, h⟩ := h
    refine v_isub (pc := 23) (dk dt_A_grow1 13 rfl) v4 ?_
    refine v_iload_n (pc := 24) (dk dt_A_grow1 14 rfl) rfl rfl ?_
    refine v_iconst (pc := 25) (dk dt_A_grow1 15 rfl) ⟨by decide, by decide⟩ ?_
    refine v_ishr (pc := 26) (dk dt_A_grow1 16 rfl) ?_
    refine v_csI (As := [iv (gln G (gfd G 13 1 l0)), iv (l1 - (gln G (gfd G 13 1 l0))), iv (shr32 (gln G (gfd G 13 1 l0)) 1)]) (stk := []) (pc := 27) (dk dt_A_grow1 17 rfl) ml_Jx4a65c_73 rfl rfl (Nat.le_of_ble_eq_true rfl) rfl rfl (Call.mono h (fun r5 G6 c7 s8 h => ?_))
    refine v_istore_n (pc := 30) (ls' := [some (rv l0), some (iv l1), some (iv (gln G (gfd G 13 1 l0))), some (iv r5)]) (dk dt_A_grow1 18 rfl) rfl (Nat.le_of_ble_eq_true rfl) rfl ?_
    refine v_aload_n (pc := 31) (dk dt_A_grow1 19 rfl) rfl rfl ?_
    refine v_aload_n (pc := 32) (dk dt_A_grow1 20 rfl) rfl rfl ?_
    obtain ⟨v9, h⟩ := h
    refine v_getR (pc := 33) (dk dt_A_grow1 21 rfl) fl_Jx4a65c_9 v9 (fun _ => ?_)
    refine v_iload_n (pc := 36) (dk dt_A_grow1 22 rfl) rfl rfl ?_
    refine v_csR (As := [rv (gfd G6 13 1 l0), iv r5]) (stk := [rv l0]) (pc := 37) (dk dt_A_grow1 23 rfl) ml_Jx4a65c_66 rfl rfl (Nat.le_of_ble_eq_true rfl) rfl rfl (Call.mono h (fun r10 G11 c12 s13 h => ?_))
    refine v_dup_x1 (pc := 40) (dk dt_A_grow1 24 rfl) (by intro h9; cases h9) (by intro h9; cases h9) ?_
    obtain ⟨v14, h⟩ := h
    refine v_putR (pc := 41) (dk dt_A_grow1 25 rfl) fl_Jx4a65c_9 (Or.inl rfl) v14 ?_
    generalize hG15 : (sfd G11 13 1 l0 r10) = G15
    replace h := h G15 hG15.symm
    exact v_aret (pc := 44) (dk dt_A_grow1 26 rfl) rfl (by first | exact Or.inl ⟨_, rfl⟩ | exact Or.inr ⟨_, rfl⟩) h
  replace h := h _ hJ3
  refine v_if_gt (pc := 7) (tgt := 20) (dk dt_A_grow1 5 rfl) (by decide) (fun c16 => ?_) (fun c16 => ?_)
  · replace h := h.1 c16
    rw [dJ3] at h
    exact h
  · replace h := h.2 c16
    refine v_aload_n (pc := 10) (dk dt_A_grow1 6 rfl) rfl rfl ?_
    obtain ⟨v17, h⟩ := h
    refine v_getR (pc := 11) (dk dt_A_grow1 7 rfl) fl_Jx4a65c_9 v17 (fun _ => ?_)
    refine v_getsE (pc := 14) (dk dt_A_grow1 8 rfl) fs_Jx4a65c_39 (fun _ _ => ?_)
    refine v_acmp_eq (pc := 17) (tgt := 45) (dk dt_A_grow1 9 rfl) (by decide) (fun c18 => ?_) (fun c18 => ?_)
    · replace h := h.1 c18
      refine v_aload_n (pc := 45) (dk dt_A_grow1 27 rfl) rfl rfl ?_
      refine v_bipush (pc := 46) (dk dt_A_grow1 28 rfl) (by decide) ⟨by decide, by decide⟩ ?_
      refine v_iload_n (pc := 48) (dk dt_A_grow1 29 rfl) rfl rfl ?_
      refine v_imax (pc := 49) (dk dt_A_grow1 30 rfl) mw_Jx4a65c_79 (Nat.le_of_ble_eq_true rfl) (Nat.le_of_ble_eq_true rfl) (Nat.le_of_ble_eq_true rfl) ?_
      obtain ⟨v20, h⟩ := h
      obtain ⟨v21, h⟩ := h
      obtain ⟨v22, h⟩ := h
      obtain ⟨v23, h⟩ := h
      refine v_anewa (pc := 52) (dk dt_A_grow1 31 rfl) cl_Jx4a65c_7 v20 v21 v22 v23 (fun q19 hq19 gq19 => ?_)
      replace h := h q19 hq19 gq19
      generalize hG24 : (newa G q19 18 (max 10 l1)) = G24
      replace h := h G24 hG24.symm
      refine v_dup_x1 (pc := 55) (dk dt_A_grow1 32 rfl) (by intro h9; cases h9) (by intro h9; cases h9) ?_
      obtain ⟨v25, h⟩ := h
      refine v_putR (pc := 56) (dk dt_A_grow1 33 rfl) fl_Jx4a65c_9 (Or.inl rfl) v25 ?_
      generalize hG26 : (sfd G24 13 1 l0 q19) = G26
      replace h := h G26 hG26.symm
      exact v_aret (pc := 59) (dk dt_A_grow1 34 rfl) rfl (by first | exact Or.inl ⟨_, rfl⟩ | exact Or.inr ⟨_, rfl⟩) h
    · replace h := h.2 c18
      rw [dJ3] at h
      exact h
set_option maxRecDepth 20000 in
theorem i_A_grow1 {E : EE} {l0 l1 : Int} {G : Gt} {c s : Nat} {Q X : Int → Gt → Prop} (h : (gcl G l0 = 14 ∧ 15 ≤ gcl G (gfd G 13 1 l0) ∧ ∀ J3 : Prop, ((i32 (l1 - (gln G (gfd G 13 1 l0))) ∧ Call E M_S_newLength [iv (gln G (gfd G 13 1 l0)), iv (l1 - (gln G (gfd G 13 1 l0))), iv (shr32 (gln G (gfd G 13 1 l0)) 1)] G c s X (fun r5 G6 c7 s8 => gcl G6 l0 = 14 ∧ Call E M_R_copyOf2 [rv (gfd G6 13 1 l0), iv r5] G6 c7 s8 X (fun r10 G11 c12 s13 => gcl G11 l0 = 14 ∧ ∀ G15 : Gt, G15 = (sfd G11 13 1 l0 r10) → Q r10 G15))) → J3) → ((0 < (gln G (gfd G 13 1 l0)) → J3) ∧ ((gln G (gfd G 13 1 l0)) ≤ 0 → (gcl G l0 = 14 ∧ (((gfd G 13 1 l0) = (eE E) → (0 ≤ (max 10 l1) ∧ (max 10 l1) ≤ 60000000 ∧ 1 ≤ c ∧ ((max 10 l1) : Int).toNat ≤ s ∧ ∀ q19 : Int, gcl G q19 = 0 → (eb E : Int) ≤ q19 → ∀ G24 : Gt, G24 = (newa G q19 18 (max 10 l1)) → gcl G24 l0 = 14 ∧ ∀ G26 : Gt, G26 = (sfd G24 13 1 l0 q19) → Q q19 G26)) ∧ ((gfd G 13 1 l0) ≠ (eE E) → J3))))))) : Ok E M_A_grow1 [rv l0, iv l1] G c s Q X := Ok.intro (k := 2) rfl rfl (Nat.le_of_ble_eq_true rfl) rfl (b_A_grow1_0 h)
set_option maxRecDepth 20000 in
theorem b_A_grow0_0 {E : EE} {l0 : Int} {G : Gt} {c s : Nat} {Q X : Int → Gt → Prop} (h : (gcl G l0 = 14 ∧ i32 ((gfd G 13 2 l0) + 1) ∧ gcl G l0 = 14 ∧ Call E M_A_grow1 [rv l0, iv ((gfd G 13 2 l0) + 1)] G c s X (fun r4 G5 c6 s7 => Q r4 G5))) : V E M_A_grow0 0 [some (rv l0)] [] G c s Q X := by
  refine v_aload_n (pc := 0) (dk dt_A_grow0 0 rfl) rfl rfl ?_
  refine v_aload_n (pc := 1) (dk dt_A_grow0 1 rfl) rfl rfl ?_
  obtain ⟨v1, h⟩ := h
  refine v_getI (pc := 2) (dk dt_A_grow0 2 rfl) fl_Jx4a65c_48 v1 (fun _ => ?_)
  refine v_iconst (pc := 5) (dk dt_A_grow0 3 rfl) ⟨by decide, by decide⟩ ?_
  obtain ⟨v2, h⟩ := h
  refine v_iadd (pc := 6) (dk dt_A_grow0 4 rfl) v2 ?_
  obtain ⟨v3, h⟩ := h
  refine v_cvR (c := 13) (As := [iv ((gfd G 13 2 l0) + 1)]) (stk := []) (pc := 7) (dk dt_A_grow0 5 rfl) ml_Jx4a65c_69 rfl rfl (Nat.le_of_ble_eq_true rfl) rfl ⟨by decide, rfl⟩ v3 rfl (Call.mono h (fun r4 G5 c6 s7 h => ?_))
  exact v_aret (pc := 10) (dk dt_A_grow0 6 rfl) rfl (by first | exact Or.inl ⟨_, rfl⟩ | exact Or.inr ⟨_, rfl⟩) h
set_option maxRecDepth 20000 in
theorem i_A_grow0 {E : EE} {l0 : Int} {G : Gt} {c s : Nat} {Q X : Int → Gt → Prop} (h : (gcl G l0 = 14 ∧ i32 ((gfd G 13 2 l0) + 1) ∧ gcl G l0 = 14 ∧ Call E M_A_grow1 [rv l0, iv ((gfd G 13 2 l0) + 1)] G c s X (fun r4 G5 c6 s7 => Q r4 G5))) : Ok E M_A_grow0 [rv l0] G c s Q X := Ok.intro (k := 0) rfl rfl (Nat.le_of_ble_eq_true rfl) rfl (b_A_grow0_0 h)
set_option maxRecDepth 20000 in
theorem b_A_size_0 {E : EE} {l0 : Int} {G : Gt} {c s : Nat} {Q X : Int → Gt → Prop} (h : (gcl G l0 = 14 ∧ Q (gfd G 13 2 l0) G)) : V E M_A_size 0 [some (rv l0)] [] G c s Q X := by
  refine v_aload_n (pc := 0) (dk dt_A_size 0 rfl) rfl rfl ?_
  obtain ⟨v1, h⟩ := h
  refine v_getI (pc := 1) (dk dt_A_size 1 rfl) fl_Jx4a65c_48 v1 (fun _ => ?_)
  exact v_iret (pc := 4) (dk dt_A_size 2 rfl) rfl h
set_option maxRecDepth 20000 in
theorem i_A_size {E : EE} {l0 : Int} {G : Gt} {c s : Nat} {Q X : Int → Gt → Prop} (h : (gcl G l0 = 14 ∧ Q (gfd G 13 2 l0) G)) : Ok E M_A_size [rv l0] G c s Q X := Ok.intro (k := 0) rfl rfl (Nat.le_of_ble_eq_true rfl) rfl (b_A_size_0 h)
set_option maxRecDepth 20000 in
theorem b_A_isEmpty_0 {E : EE} {l0 : Int} {G : Gt} {c s : Nat} {Q X : Int → Gt → Prop} (h : (gcl G l0 = 14 ∧ ((if (gfd G 13 2 l0) = 0 then (1 : Int) else 0) = 0 ∨ (if (gfd G 13 2 l0) = 0 then (1 : Int) else 0) = 1) ∧ Q (if (gfd G 13 2 l0) = 0 then (1 : Int) else 0) G)) : V E M_A_isEmpty 0 [some (rv l0)] [] G c s Q X := by
  refine v_aload_n (pc := 0) (dk dt_A_isEmpty 0 rfl) rfl rfl ?_
  obtain ⟨v1, h⟩ := h
  refine v_getI (pc := 1) (dk dt_A_isEmpty 1 rfl) fl_Jx4a65c_48 v1 (fun _ => ?_)
  suffices k4 : V E M_A_isEmpty 12 [none] [iv (if (gfd G 13 2 l0) = 0 then (1 : Int) else 0)] G c s Q X by
    refine v_if_ne (pc := 4) (tgt := 11) (dk dt_A_isEmpty 2 rfl) (by decide) (fun c2 => ?_) (fun c2 => ?_)
    · refine v_iconst (pc := 11) (dk dt_A_isEmpty 5 rfl) ⟨by decide, by decide⟩ ?_
      exact v_less2 (ls' := [none]) trivial (by have hk9 := k4; try simp only [if_neg c2] at hk9 ⊢; exact hk9)
    · refine v_iconst (pc := 7) (dk dt_A_isEmpty 3 rfl) ⟨by decide, by decide⟩ ?_
      refine v_goto (pc := 8) (tgt := 12) (dk dt_A_isEmpty 4 rfl) (by decide) ?_
      exact v_less2 (ls' := [none]) trivial (by have hk9 := k4; try simp only [if_pos c2] at hk9 ⊢; exact hk9)
  obtain ⟨v3, h⟩ := h
  exact v_zret (pc := 12) (dk dt_A_isEmpty 6 rfl) rfl v3 h
set_option maxRecDepth 20000 in
theorem i_A_isEmpty {E : EE} {l0 : Int} {G : Gt} {c s : Nat} {Q X : Int → Gt → Prop} (h : (gcl G l0 = 14 ∧ ((if (gfd G 13 2 l0) = 0 then (1 : Int) else 0) = 0 ∨ (if (gfd G 13 2 l0) = 0 then (1 : Int) else 0) = 1) ∧ Q (if (gfd G 13 2 l0) = 0 then (1 : Int) else 0) G)) : Ok E M_A_isEmpty [rv l0] G c s Q X := Ok.intro (k := 0) rfl rfl (Nat.le_of_ble_eq_true rfl) rfl (b_A_isEmpty_0 h)
set_option maxRecDepth 20000 in
theorem b_A_elementData_0 {E : EE} {l0 l1 : Int} {G : Gt} {c s : Nat} {Q X : Int → Gt → Prop} (h : (gcl G l0 = 14 ∧ gcl G (gfd G 13 1 l0) = 18 ∧ 0 ≤ l1 ∧ l1 < gln G (gfd G 13 1 l0) ∧ Q (gel G (gfd G 13 1 l0) l1) G)) : V E M_A_elementData 0 [some (rv l0), some (iv l1)] [] G c s Q X := by
  refine v_aload_n (pc := 0) (dk dt_A_elementData 0 rfl) rfl rfl ?_
  obtain ⟨v1, h⟩ := h
  refine v_getR (pc := 1) (dk dt_A_elementData 1 rfl) fl_Jx4a65c_9 v1 (fun _ => ?_)
  refine v_iload_n (pc := 4) (dk dt_A_elementData 2 rfl) rfl rfl ?_
  obtain ⟨v2, h⟩ := h
  obtain ⟨v3, h⟩ := h
  obtain ⟨v4, h⟩ := h
  refine v_aald (pc := 5) (dk dt_A_elementData 3 rfl) v2 v3 v4 (fun _ => ?_)
  exact v_aret (pc := 6) (dk dt_A_elementData 4 rfl) rfl (by first | exact Or.inl ⟨_, rfl⟩ | exact Or.inr ⟨_, rfl⟩) h
set_option maxRecDepth 20000 in
theorem i_A_elementData {E : EE} {l0 l1 : Int} {G : Gt} {c s : Nat} {Q X : Int → Gt → Prop} (h : (gcl G l0 = 14 ∧ gcl G (gfd G 13 1 l0) = 18 ∧ 0 ≤ l1 ∧ l1 < gln G (gfd G 13 1 l0) ∧ Q (gel G (gfd G 13 1 l0) l1) G)) : Ok E M_A_elementData [rv l0, iv l1] G c s Q X := Ok.intro (k := 0) rfl rfl (Nat.le_of_ble_eq_true rfl) rfl (b_A_elementData_0 h)
set_option maxRecDepth 20000 in
theorem b_A_get_0 {E : EE} {l0 l1 : Int} {G : Gt} {c s : Nat} {Q X : Int → Gt → Prop} (h : (gcl G l0 = 14 ∧ OkP E M_O_checkIndex [iv l1, iv (gfd G 13 2 l0)] G (l1) ∧ gcl G l0 = 14 ∧ OkP E M_A_elementData [rv l0, iv l1] G (alAt G l0 l1) ∧ Q (alAt G l0 l1) G)) : V E M_A_get 0 [some (rv l0), some (iv l1)] [] G c s Q X := by
  refine v_iload_n (pc := 0) (dk dt_A_get 0 rfl) rfl rfl ?_
  refine v_aload_n (pc := 1) (dk dt_A_get 1 rfl) rfl rfl ?_
  obtain ⟨v1, h⟩ := h
  refine v_getI (pc := 2) (dk dt_A_get 2 rfl) fl_Jx4a65c_48 v1 (fun _ => ?_)
  obtain ⟨v2, h⟩ := h
  refine v_csPI (v := (l1)) (As := [iv l1, iv (gfd G 13 2 l0)]) (stk := []) (pc := 5) (dk dt_A_get 3 rfl) ml_Jx4a65c_118 rfl rfl (Nat.le_of_ble_eq_true rfl) rfl rfl v2 ?_
  refine v_pop (pc := 8) (dk dt_A_get 4 rfl) (by intro h9; cases h9) ?_
  refine v_aload_n (pc := 9) (dk dt_A_get 5 rfl) rfl rfl ?_
  refine v_iload_n (pc := 10) (dk dt_A_get 6 rfl) rfl rfl ?_
  obtain ⟨v3, h⟩ := h
  obtain ⟨v4, h⟩ := h
  refine v_cvPR (c := 13) (v := (alAt G l0 l1)) (As := [iv l1]) (stk := []) (pc := 11) (dk dt_A_get 7 rfl) ml_Jx4a65c_123 rfl rfl (Nat.le_of_ble_eq_true rfl) rfl ⟨by decide, rfl⟩ v3 rfl v4 ?_
  exact v_aret (pc := 14) (dk dt_A_get 8 rfl) rfl (by first | exact Or.inl ⟨_, rfl⟩ | exact Or.inr ⟨_, rfl⟩) h
set_option maxRecDepth 20000 in
theorem i_A_get {E : EE} {l0 l1 : Int} {G : Gt} {c s : Nat} {Q X : Int → Gt → Prop} (h : (gcl G l0 = 14 ∧ OkP E M_O_checkIndex [iv l1, iv (gfd G 13 2 l0)] G (l1) ∧ gcl G l0 = 14 ∧ OkP E M_A_elementData [rv l0, iv l1] G (alAt G l0 l1) ∧ Q (alAt G l0 l1) G)) : Ok E M_A_get [rv l0, iv l1] G c s Q X := Ok.intro (k := 0) rfl rfl (Nat.le_of_ble_eq_true rfl) rfl (b_A_get_0 h)
set_option maxRecDepth 20000 in
theorem b_A_set_0 {E : EE} {l0 l1 l2 : Int} {G : Gt} {c s : Nat} {Q X : Int → Gt → Prop} (h : (gcl G l0 = 14 ∧ OkP E M_O_checkIndex [iv l1, iv (gfd G 13 2 l0)] G (l1) ∧ gcl G l0 = 14 ∧ OkP E M_A_elementData [rv l0, iv l1] G (alAt G l0 l1) ∧ gcl G l0 = 14 ∧ gcl G (gfd G 13 1 l0) = 18 ∧ 0 ≤ l1 ∧ l1 < gln G (gfd G 13 1 l0) ∧ (l2 = -1 ∨ okE (gcl G l2)) ∧ ∀ G10 : Gt, G10 = (sel G (gfd G 13 1 l0) l1 l2) → Q (alAt G l0 l1) G10)) : V E M_A_set 0 [some (rv l0), some (iv l1), some (rv l2), none] [] G c s Q X := by
  refine v_iload_n (pc := 0) (dk dt_A_set 0 rfl) rfl rfl ?_
  refine v_aload_n (pc := 1) (dk dt_A_set 1 rfl) rfl rfl ?_
  obtain ⟨v1, h⟩ := h
  refine v_getI (pc := 2) (dk dt_A_set 2 rfl) fl_Jx4a65c_48 v1 (fun _ => ?_)
  obtain ⟨v2, h⟩ := h
  refine v_csPI (v := (l1)) (As := [iv l1, iv (gfd G 13 2 l0)]) (stk := []) (pc := 5) (dk dt_A_set 3 rfl) ml_Jx4a65c_118 rfl rfl (Nat.le_of_ble_eq_true rfl) rfl rfl v2 ?_
  refine v_pop (pc := 8) (dk dt_A_set 4 rfl) (by intro h9; cases h9) ?_
  refine v_aload_n (pc := 9) (dk dt_A_set 5 rfl) rfl rfl ?_
  refine v_iload_n (pc := 10) (dk dt_A_set 6 rfl) rfl rfl ?_
  obtain ⟨v3, h⟩ := h
  obtain ⟨v4, h⟩ := h
  refine v_cvPR (c := 13) (v := (alAt G l0 l1)) (As := [iv l1]) (stk := []) (pc := 11) (dk dt_A_set 7 rfl) ml_Jx4a65c_123 rfl rfl (Nat.le_of_ble_eq_true rfl) rfl ⟨by decide, rfl⟩ v3 rfl v4 ?_
  refine v_astore_n (pc := 14) (ls' := [some (rv l0), some (iv l1), some (rv l2), some (rv (alAt G l0 l1))]) (dk dt_A_set 8 rfl) rfl (Nat.le_of_ble_eq_true rfl) rfl ?_
  refine v_aload_n (pc := 15) (dk dt_A_set 9 rfl) rfl rfl ?_
  obtain ⟨v5, h⟩ := h
  refine v_getR (pc := 16) (dk dt_A_set 10 rfl) fl_Jx4a65c_9 v5 (fun _ => ?_)
  refine v_iload_n (pc := 19) (dk dt_A_set 11 rfl) rfl rfl ?_
  refine v_aload_n (pc := 20) (dk dt_A_set 12 rfl) rfl rfl ?_
  obtain ⟨v6, h⟩ := h
  obtain ⟨v7, h⟩ := h
  obtain ⟨v8, h⟩ := h
  obtain ⟨v9, h⟩ := h
  refine v_aast (pc := 21) (dk dt_A_set 13 rfl) v6 v7 v8 v9 ?_
  generalize hG10 : (sel G (gfd G 13 1 l0) l1 l2) = G10
  replace h := h G10 hG10.symm
  refine v_aload_n (pc := 22) (dk dt_A_set 14 rfl) rfl rfl ?_
  exact v_aret (pc := 23) (dk dt_A_set 15 rfl) rfl (by first | exact Or.inl ⟨_, rfl⟩ | exact Or.inr ⟨_, rfl⟩) h
set_option maxRecDepth 20000 in
theorem i_A_set {E : EE} {l0 l1 l2 : Int} {G : Gt} {c s : Nat} {Q X : Int → Gt → Prop} (h : (gcl G l0 = 14 ∧ OkP E M_O_checkIndex [iv l1, iv (gfd G 13 2 l0)] G (l1) ∧ gcl G l0 = 14 ∧ OkP E M_A_elementData [rv l0, iv l1] G (alAt G l0 l1) ∧ gcl G l0 = 14 ∧ gcl G (gfd G 13 1 l0) = 18 ∧ 0 ≤ l1 ∧ l1 < gln G (gfd G 13 1 l0) ∧ (l2 = -1 ∨ okE (gcl G l2)) ∧ ∀ G10 : Gt, G10 = (sel G (gfd G 13 1 l0) l1 l2) → Q (alAt G l0 l1) G10)) : Ok E M_A_set [rv l0, iv l1, rv l2] G c s Q X := Ok.intro (k := 1) rfl rfl (Nat.le_of_ble_eq_true rfl) rfl (b_A_set_0 h)
set_option maxRecDepth 20000 in
theorem b_A_add3_0 {E : EE} {l0 l1 l2 l3 : Int} {G : Gt} {c s : Nat} {Q X : Int → Gt → Prop} (h : (15 ≤ gcl G l2 ∧ ∀ J2 : Int → Gt → Nat → Nat → Prop, (∀ (x3 : Int) (G4 : Gt) (c5 s6 : Nat), (gcl G4 x3 = 18 ∧ 0 ≤ l3 ∧ l3 < gln G4 x3 ∧ (l1 = -1 ∨ okE (gcl G4 l1)) ∧ ∀ G11 : Gt, G11 = (sel G4 x3 l3 l1) → i32 (l3 + 1) ∧ gcl G11 l0 = 14 ∧ ∀ G14 : Gt, G14 = (sfd G11 13 2 l0 (l3 + 1)) → Q 0 G14) → J2 x3 G4 c5 s6) → ((l3 ≠ (gln G l2) → J2 l2 G c s) ∧ (l3 = (gln G l2) → (gcl G l0 = 14 ∧ Call E M_A_grow0 [rv l0] G c s X (fun r17 G18 c19 s20 => J2 r17 G18 c19 s20)))))) : V E M_A_add3 0 [some (rv l0), some (rv l1), some (rv l2), some (iv l3)] [] G c s Q X := by
  refine v_iload_n (pc := 0) (dk dt_A_add3 0 rfl) rfl rfl ?_
  refine v_aload_n (pc := 1) (dk dt_A_add3 1 rfl) rfl rfl ?_
  obtain ⟨v1, h⟩ := h
  refine v_alen (pc := 2) (dk dt_A_add3 2 rfl) v1 (fun _ => ?_)
  obtain ⟨J2, dJ2⟩ : ∃ J9 : Int → Gt → Nat → Nat → Prop, J9 = fun x3 G4 c5 s6 => V E M_A_add3 11 [some (rv l0), some (rv l1), some (rv x3), some (iv l3)] [] G4 c5 s6 Q X := ⟨_, rfl⟩
  have hJ2 : ∀ (x3 : Int) (G4 : Gt) (c5 s6 : Nat), (gcl G4 x3 = 18 ∧ 0 ≤ l3 ∧ l3 < gln G4 x3 ∧ (l1 = -1 ∨ okE (gcl G4 l1)) ∧ ∀ G11 : Gt, G11 = (sel G4 x3 l3 l1) → i32 (l3 + 1) ∧ gcl G11 l0 = 14 ∧ ∀ G14 : Gt, G14 = (sfd G11 13 2 l0 (l3 + 1)) → Q 0 G14) → J2 x3 G4 c5 s6 := by
    intro x3 G4 c5 s6 h
    rw [dJ2]
    refine v_aload_n (pc := 11) (dk dt_A_add3 7 rfl) rfl rfl ?_
    refine v_iload_n (pc := 12) (dk dt_A_add3 8 rfl) rfl rfl ?_
    refine v_aload_n (pc := 13) (dk dt_A_add3 9 rfl) rfl rfl ?_
    obtain ⟨v7, h⟩ := h
    obtain ⟨v8, h⟩ := h
    obtain ⟨v9, h⟩ := h
    obtain ⟨v10, h⟩ := h
    refine v_aast (pc := 14) (dk dt_A_add3 10 rfl) v7 v8 v9 v10 ?_
    generalize hG11 : (sel G4 x3 l3 l1) = G11
    replace h := h G11 hG11.symm
    refine v_aload_n (pc := 15) (dk dt_A_add3 11 rfl) rfl rfl ?_
    refine v_iload_n (pc := 16) (dk dt_A_add3 12 rfl) rfl rfl ?_
    refine v_iconst (pc := 17) (dk dt_A_add3 13 rfl) ⟨by decide, by decide⟩ ?_
    obtain ⟨v12, h⟩ := h
    refine v_iadd (pc := 18) (dk dt_A_add3 14 rfl) v12 ?_
    obtain ⟨v13, h⟩ := h
    refine v_putI (pc := 19) (dk dt_A_add3 15 rfl) fl_Jx4a65c_48 (Or.inl rfl) v13 ?_
    generalize hG14 : (sfd G11 13 2 l0 (l3 + 1)) = G14
    replace h := h G14 hG14.symm
    exact v_vret (pc := 22) (dk dt_A_add3 16 rfl) rfl h
  replace h := h _ hJ2
  refine v_icmp_ne (pc := 3) (tgt := 11) (dk dt_A_add3 3 rfl) (by decide) (fun c15 => ?_) (fun c15 => ?_)
  · replace h := h.1 c15
    rw [dJ2] at h
    exact h
  · replace h := h.2 c15
    refine v_aload_n (pc := 6) (dk dt_A_add3 4 rfl) rfl rfl ?_
    obtain ⟨v16, h⟩ := h
    refine v_cvR (c := 13) (As := []) (stk := []) (pc := 7) (dk dt_A_add3 5 rfl) ml_Jx4a65c_129 rfl rfl (Nat.le_of_ble_eq_true rfl) rfl ⟨by decide, rfl⟩ v16 rfl (Call.mono h (fun r17 G18 c19 s20 h => ?_))
    refine v_astore_n (pc := 10) (ls' := [some (rv l0), some (rv l1), some (rv r17), some (iv l3)]) (dk dt_A_add3 6 rfl) rfl (Nat.le_of_ble_eq_true rfl) rfl ?_
    rw [dJ2] at h
    exact h
set_option maxRecDepth 20000 in
theorem i_A_add3 {E : EE} {l0 l1 l2 l3 : Int} {G : Gt} {c s : Nat} {Q X : Int → Gt → Prop} (h : (15 ≤ gcl G l2 ∧ ∀ J2 : Int → Gt → Nat → Nat → Prop, (∀ (x3 : Int) (G4 : Gt) (c5 s6 : Nat), (gcl G4 x3 = 18 ∧ 0 ≤ l3 ∧ l3 < gln G4 x3 ∧ (l1 = -1 ∨ okE (gcl G4 l1)) ∧ ∀ G11 : Gt, G11 = (sel G4 x3 l3 l1) → i32 (l3 + 1) ∧ gcl G11 l0 = 14 ∧ ∀ G14 : Gt, G14 = (sfd G11 13 2 l0 (l3 + 1)) → Q 0 G14) → J2 x3 G4 c5 s6) → ((l3 ≠ (gln G l2) → J2 l2 G c s) ∧ (l3 = (gln G l2) → (gcl G l0 = 14 ∧ Call E M_A_grow0 [rv l0] G c s X (fun r17 G18 c19 s20 => J2 r17 G18 c19 s20)))))) : Ok E M_A_add3 [rv l0, rv l1, rv l2, iv l3] G c s Q X := Ok.intro (k := 0) rfl rfl (Nat.le_of_ble_eq_true rfl) rfl (b_A_add3_0 h)
set_option maxRecDepth 20000 in
theorem b_A_add_0 {E : EE} {l0 l1 : Int} {G : Gt} {c s : Nat} {Q X : Int → Gt → Prop} (h : (gcl G l0 = 14 ∧ ∀ w2 : Int, i32 w2 → gcl G l0 = 14 ∧ ∀ G4 : Gt, G4 = (sfd G 13 0 l0 w2) → gcl G4 l0 = 14 ∧ gcl G4 l0 = 14 ∧ gcl G4 l0 = 14 ∧ Call E M_A_add3 [rv l0, rv l1, rv (gfd G4 13 1 l0), iv (gfd G4 13 2 l0)] G4 c s X (fun r8 G9 c10 s11 => Q 1 G9))) : V E M_A_add 0 [some (rv l0), some (rv l1)] [] G c s Q X := by
  refine v_aload_n (pc := 0) (dk dt_A_add 0 rfl) rfl rfl ?_
  refine v_dup (pc := 1) (dk dt_A_add 1 rfl) (by intro h9; cases h9) ?_
  obtain ⟨v1, h⟩ := h
  refine v_getI (pc := 2) (dk dt_A_add 2 rfl) fl_Jx4a65c_63 v1 (fun _ => ?_)
  refine v_iconst (pc := 5) (dk dt_A_add 3 rfl) ⟨by decide, by decide⟩ ?_
  refine v_iaddW (pc := 6) (dk dt_A_add 4 rfl) (fun w2 hw2 => ?_)
  replace h := h w2 hw2
  obtain ⟨v3, h⟩ := h
  refine v_putI (pc := 7) (dk dt_A_add 5 rfl) fl_Jx4a65c_63 (Or.inl rfl) v3 ?_
  generalize hG4 : (sfd G 13 0 l0 w2) = G4
  replace h := h G4 hG4.symm
  refine v_aload_n (pc := 10) (dk dt_A_add 6 rfl) rfl rfl ?_
  refine v_aload_n (pc := 11) (dk dt_A_add 7 rfl) rfl rfl ?_
  refine v_aload_n (pc := 12) (dk dt_A_add 8 rfl) rfl rfl ?_
  obtain ⟨v5, h⟩ := h
  refine v_getR (pc := 13) (dk dt_A_add 9 rfl) fl_Jx4a65c_9 v5 (fun _ => ?_)
  refine v_aload_n (pc := 16) (dk dt_A_add 10 rfl) rfl rfl ?_
  obtain ⟨v6, h⟩ := h
  refine v_getI (pc := 17) (dk dt_A_add 11 rfl) fl_Jx4a65c_48 v6 (fun _ => ?_)
  obtain ⟨v7, h⟩ := h
  refine v_cvV (c := 13) (As := [rv l1, rv (gfd G4 13 1 l0), iv (gfd G4 13 2 l0)]) (stk := []) (pc := 20) (dk dt_A_add 12 rfl) ml_Jx4a65c_131 rfl rfl (Nat.le_of_ble_eq_true rfl) rfl ⟨by decide, rfl⟩ v7 rfl (Call.mono h (fun r8 G9 c10 s11 h => ?_))
  refine v_iconst (pc := 23) (dk dt_A_add 13 rfl) ⟨by decide, by decide⟩ ?_
  exact v_zret (pc := 24) (dk dt_A_add 14 rfl) rfl (Or.inr rfl) h
set_option maxRecDepth 20000 in
theorem i_A_add {E : EE} {l0 l1 : Int} {G : Gt} {c s : Nat} {Q X : Int → Gt → Prop} (h : (gcl G l0 = 14 ∧ ∀ w2 : Int, i32 w2 → gcl G l0 = 14 ∧ ∀ G4 : Gt, G4 = (sfd G 13 0 l0 w2) → gcl G4 l0 = 14 ∧ gcl G4 l0 = 14 ∧ gcl G4 l0 = 14 ∧ Call E M_A_add3 [rv l0, rv l1, rv (gfd G4 13 1 l0), iv (gfd G4 13 2 l0)] G4 c s X (fun r8 G9 c10 s11 => Q 1 G9))) : Ok E M_A_add [rv l0, rv l1] G c s Q X := Ok.intro (k := 0) rfl rfl (Nat.le_of_ble_eq_true rfl) rfl (b_A_add_0 h)
set_option maxRecDepth 20000 in
theorem b_A_addAt_0 {E : EE} {l0 l1 l2 : Int} {G : Gt} {c s : Nat} {Q X : Int → Gt → Prop} (h : (gcl G l0 = 14 ∧ Call E M_A_rangeCheck [rv l0, iv l1] G c s X (fun r2 G3 c4 s5 => gcl G3 l0 = 14 ∧ ∀ w7 : Int, i32 w7 → gcl G3 l0 = 14 ∧ ∀ G9 : Gt, G9 = (sfd G3 13 0 l0 w7) → gcl G9 l0 = 14 ∧ gcl G9 l0 = 14 ∧ 15 ≤ gcl G9 (gfd G9 13 1 l0) ∧ ∀ J13 : Int → Gt → Nat → Nat → Prop, (∀ (x14 : Int) (G15 : Gt) (c16 s17 : Nat), (i32 (l1 + 1) ∧ i32 ((gfd G9 13 2 l0) - l1) ∧ (gcl G15 x14 = 15 ∨ gcl G15 x14 = 17 ∨ gcl G15 x14 = 18) ∧ gcl G15 x14 = gcl G15 x14 ∧ (eb E : Int) ≤ x14 ∧ (eb E : Int) ≤ x14 ∧ 0 ≤ l1 ∧ 0 ≤ (l1 + 1) ∧ 0 ≤ ((gfd G9 13 2 l0) - l1) ∧ l1 + ((gfd G9 13 2 l0) - l1) ≤ gln G15 x14 ∧ (l1 + 1) + ((gfd G9 13 2 l0) - l1) ≤ gln G15 x14 ∧ ∀ G29 : Gt, G29 = (cpy G15 x14 x14 l1 (l1 + 1) ((gfd G9 13 2 l0) - l1)) → gcl G29 x14 = 18 ∧ 0 ≤ l1 ∧ l1 < gln G29 x14 ∧ (l2 = -1 ∨ okE (gcl G29 l2)) ∧ ∀ G34 : Gt, G34 = (sel G29 x14 l1 l2) → i32 ((gfd G9 13 2 l0) + 1) ∧ gcl G34 l0 = 14 ∧ ∀ G37 : Gt, G37 = (sfd G34 13 2 l0 ((gfd G9 13 2 l0) + 1)) → Q 0 G37) → J13 x14 G15 c16 s17) → (((gfd G9 13 2 l0) ≠ (gln G9 (gfd G9 13 1 l0)) → J13 (gfd G9 13 1 l0) G9 c4 s5) ∧ ((gfd G9 13 2 l0) = (gln G9 (gfd G9 13 1 l0)) → (gcl G9 l0 = 14 ∧ Call E M_A_grow0 [rv l0] G9 c4 s5 X (fun r40 G41 c42 s43 => J13 r40 G41 c42 s43))))))) : V E M_A_addAt 0 [some (rv l0), some (iv l1), some (rv l2), none, none] [] G c s Q X := by
  refine v_aload_n (pc := 0) (dk dt_A_addAt 0 rfl) rfl rfl ?_
  refine v_iload_n (pc := 1) (dk dt_A_addAt 1 rfl) rfl rfl ?_
  obtain ⟨v1, h⟩ := h
  refine v_cvV (c := 13) (As := [iv l1]) (stk := []) (pc := 2) (dk dt_A_addAt 2 rfl) ml_Jx4a65c_135 rfl rfl (Nat.le_of_ble_eq_true rfl) rfl ⟨by decide, rfl⟩ v1 rfl (Call.mono h (fun r2 G3 c4 s5 h => ?_))
  refine v_aload_n (pc := 5) (dk dt_A_addAt 3 rfl) rfl rfl ?_
  refine v_dup (pc := 6) (dk dt_A_addAt 4 rfl) (by intro h9; cases h9) ?_
  obtain ⟨v6, h⟩ := h
  refine v_getI (pc := 7) (dk dt_A_addAt 5 rfl) fl_Jx4a65c_63 v6 (fun _ => ?_)
  refine v_iconst (pc := 10) (dk dt_A_addAt 6 rfl) ⟨by decide, by decide⟩ ?_
  refine v_iaddW (pc := 11) (dk dt_A_addAt 7 rfl) (fun w7 hw7 => ?_)
  replace h := h w7 hw7
  obtain ⟨v8, h⟩ := h
  refine v_putI (pc := 12) (dk dt_A_addAt 8 rfl) fl_Jx4a65c_63 (Or.inl rfl) v8 ?_
  generalize hG9 : (sfd G3 13 0 l0 w7) = G9
  replace h := h G9 hG9.symm
  refine v_aload_n (pc := 15) (dk dt_A_addAt 9 rfl) rfl rfl ?_
  obtain ⟨v10, h⟩ := h
  refine v_getI (pc := 16) (dk dt_A_addAt 10 rfl) fl_Jx4a65c_48 v10 (fun _ => ?_)
  refine v_dup (pc := 19) (dk dt_A_addAt 11 rfl) (by intro h9; cases h9) ?_
  refine v_istore_n (pc := 20) (ls' := [some (rv l0), some (iv l1), some (rv l2), some (iv (gfd G9 13 2 l0)), none]) (dk dt_A_addAt 12 rfl) rfl (Nat.le_of_ble_eq_true rfl) rfl ?_
  refine v_aload_n (pc := 21) (dk dt_A_addAt 13 rfl) rfl rfl ?_
  obtain ⟨v11, h⟩ := h
  refine v_getR (pc := 22) (dk dt_A_addAt 14 rfl) fl_Jx4a65c_9 v11 (fun _ => ?_)
  refine v_dup (pc := 25) (dk dt_A_addAt 15 rfl) (by intro h9; cases h9) ?_
  refine v_astore (pc := 26) (ls' := [some (rv l0), some (iv l1), some (rv l2), some (iv (gfd G9 13 2 l0)), some (rv (gfd G9 13 1 l0))]) (dk dt_A_addAt 16 rfl) (Nat.le_of_ble_eq_true rfl) rfl ?_
  obtain ⟨v12, h⟩ := h
  refine v_alen (pc := 28) (dk dt_A_addAt 17 rfl) v12 (fun _ => ?_)
  obtain ⟨J13, dJ13⟩ : ∃ J9 : Int → Gt → Nat → Nat → Prop, J9 = fun x14 G15 c16 s17 => V E M_A_addAt 38 [some (rv l0), some (iv l1), some (rv l2), some (iv (gfd G9 13 2 l0)), some (rv x14)] [] G15 c16 s17 Q X := ⟨_, rfl⟩
  have hJ13 : ∀ (x14 : Int) (G15 : Gt) (c16 s17 : Nat), (i32 (l1 + 1) ∧ i32 ((gfd G9 13 2 l0) - l1) ∧ (gcl G15 x14 = 15 ∨ gcl G15 x14 = 17 ∨ gcl G15 x14 = 18) ∧ gcl G15 x14 = gcl G15 x14 ∧ (eb E : Int) ≤ x14 ∧ (eb E : Int) ≤ x14 ∧ 0 ≤ l1 ∧ 0 ≤ (l1 + 1) ∧ 0 ≤ ((gfd G9 13 2 l0) - l1) ∧ l1 + ((gfd G9 13 2 l0) - l1) ≤ gln G15 x14 ∧ (l1 + 1) + ((gfd G9 13 2 l0) - l1) ≤ gln G15 x14 ∧ ∀ G29 : Gt, G29 = (cpy G15 x14 x14 l1 (l1 + 1) ((gfd G9 13 2 l0) - l1)) → gcl G29 x14 = 18 ∧ 0 ≤ l1 ∧ l1 < gln G29 x14 ∧ (l2 = -1 ∨ okE (gcl G29 l2)) ∧ ∀ G34 : Gt, G34 = (sel G29 x14 l1 l2) → i32 ((gfd G9 13 2 l0) + 1) ∧ gcl G34 l0 = 14 ∧ ∀ G37 : Gt, G37 = (sfd G34 13 2 l0 ((gfd G9 13 2 l0) + 1)) → Q 0 G37) → J13 x14 G15 c16 s17 := by
    intro x14 G15 c16 s17 h
    rw [dJ13]
    refine v_aload (pc := 38) (dk dt_A_addAt 22 rfl) rfl ?_
    refine v_iload_n (pc := 40) (dk dt_A_addAt 23 rfl) rfl rfl ?_
    refine v_aload (pc := 41) (dk dt_A_addAt 24 rfl) rfl ?_
    refine v_iload_n (pc := 43) (dk dt_A_addAt 25 rfl) rfl rfl ?_
    refine v_iconst (pc := 44) (dk dt_A_addAt 26 rfl) ⟨by decide, by decide⟩ ?_
    obtain ⟨v18, h⟩ := h
    refine v_iadd (pc := 45) (dk dt_A_addAt 27 rfl) v18 ?_
    refine v_iload_n (pc := 46) (dk dt_A_addAt 28 rfl) rfl rfl ?_
    refine v_iload_n (pc := 47) (dk dt_A_addAt 29 rfl) rfl rfl ?_
    obtain ⟨v19, h⟩ := h
    refine v_isub (pc := 48) (dk dt_A_addAt 30 rfl) v19 ?_
    obtain ⟨v20, h⟩ := h
    obtain ⟨v21, h⟩ := h
    obtain ⟨v22, h⟩ := h
    obtain ⟨v23, h⟩ := h
    obtain ⟨v24, h⟩ := h
    obtain ⟨v25, h⟩ := h
    obtain ⟨v26, h⟩ := h
    obtain ⟨v27, h⟩ := h
    obtain ⟨v28, h⟩ := h
    refine v_acopy (pc := 49) (dk dt_A_addAt 31 rfl) mw_Jx4a65c_112 (Nat.le_of_ble_eq_true rfl) (Nat.le_of_ble_eq_true rfl) (Nat.le_of_ble_eq_true rfl) v20 v21 v22 v23 v24 v25 v26 v27 v28 ?_
    generalize hG29 : (cpy G15 x14 x14 l1 (l1 + 1) ((gfd G9 13 2 l0) - l1)) = G29
    replace h := h G29 hG29.symm
    refine v_aload (pc := 52) (dk dt_A_addAt 32 rfl) rfl ?_
    refine v_iload_n (pc := 54) (dk dt_A_addAt 33 rfl) rfl rfl ?_
    refine v_aload_n (pc := 55) (dk dt_A_addAt 34 rfl) rfl rfl ?_
    obtain ⟨v30, h⟩ := h
    obtain ⟨v31, h⟩ := h
    obtain ⟨v32, h⟩ := h
    obtain ⟨v33, h⟩ := h
    refine v_aast (pc := 56) (dk dt_A_addAt 35 rfl) v30 v31 v32 v33 ?_
    generalize hG34 : (sel G29 x14 l1 l2) = G34
    replace h := h G34 hG34.symm
    refine v_aload_n (pc := 57) (dk dt_A_addAt 36 rfl) rfl rfl ?_
    refine v_iload_n (pc := 58) (dk dt_A_addAt 37 rfl) rfl rfl ?_
    refine v_iconst (pc := 59) (dk dt_A_addAt 38 rfl) ⟨by decide, by decide⟩ ?_
    obtain ⟨v35, h⟩ := h
    refine v_iadd (pc := 60) (dk dt_A_addAt 39 rfl) v35 ?_
    obtain ⟨v36, h⟩ := h
    refine v_putI (pc := 61) (dk dt_A_addAt_1 0 rfl) fl_Jx4a65c_48 (Or.inl rfl) v36 ?_
    generalize hG37 : (sfd G34 13 2 l0 ((gfd G9 13 2 l0) + 1)) = G37
    replace h := h G37 hG37.symm
    exact v_vret (pc := 64) (dk dt_A_addAt_1 1 rfl) rfl h
  replace h := h _ hJ13
  refine v_icmp_ne (pc := 29) (tgt := 38) (dk dt_A_addAt 18 rfl) (by decide) (fun c38 => ?_) (fun c38 => ?_)
  · replace h := h.1 c38
    rw [dJ13] at h
    exact h
  · replace h := h.2 c38
    refine v_aload_n (pc := 32) (dk dt_A_addAt 19 rfl) rfl rfl ?_
    obtain ⟨v39, h⟩ := h
    refine v_cvR (c := 13) (As := []) (stk := []) (pc := 33) (dk dt_A_addAt 20 rfl) ml_Jx4a65c_129 rfl rfl (Nat.le_of_ble_eq_true rfl) rfl ⟨by decide, rfl⟩ v39 rfl (Call.mono h (fun r40 G41 c42 s43 h => ?_))
    refine v_astore (pc := 36) (ls' := [some (rv l0), some (iv l1), some (rv l2), some (iv (gfd G9 13 2 l0)), some (rv r40)]) (dk dt_A_addAt 21 rfl) (Nat.le_of_ble_eq_true rfl) rfl ?_
    rw [dJ13] at h
    exact h
set_option maxRecDepth 20000 in
theorem i_A_addAt {E : EE} {l0 l1 l2 : Int} {G : Gt} {c s : Nat} {Q X : Int → Gt → Prop} (h : (gcl G l0 = 14 ∧ Call E M_A_rangeCheck [rv l0, iv l1] G c s X (fun r2 G3 c4 s5 => gcl G3 l0 = 14 ∧ ∀ w7 : Int, i32 w7 → gcl G3 l0 = 14 ∧ ∀ G9 : Gt, G9 = (sfd G3 13 0 l0 w7) → gcl G9 l0 = 14 ∧ gcl G9 l0 = 14 ∧ 15 ≤ gcl G9 (gfd G9 13 1 l0) ∧ ∀ J13 : Int → Gt → Nat → Nat → Prop, (∀ (x14 : Int) (G15 : Gt) (c16 s17 : Nat), (i32 (l1 + 1) ∧ i32 ((gfd G9 13 2 l0) - l1) ∧ (gcl G15 x14 = 15 ∨ gcl G15 x14 = 17 ∨ gcl G15 x14 = 18) ∧ gcl G15 x14 = gcl G15 x14 ∧ (eb E : Int) ≤ x14 ∧ (eb E : Int) ≤ x14 ∧ 0 ≤ l1 ∧ 0 ≤ (l1 + 1) ∧ 0 ≤ ((gfd G9 13 2 l0) - l1) ∧ l1 + ((gfd G9 13 2 l0) - l1) ≤ gln G15 x14 ∧ (l1 + 1) + ((gfd G9 13 2 l0) - l1) ≤ gln G15 x14 ∧ ∀ G29 : Gt, G29 = (cpy G15 x14 x14 l1 (l1 + 1) ((gfd G9 13 2 l0) - l1)) → gcl G29 x14 = 18 ∧ 0 ≤ l1 ∧ l1 < gln G29 x14 ∧ (l2 = -1 ∨ okE (gcl G29 l2)) ∧ ∀ G34 : Gt, G34 = (sel G29 x14 l1 l2) → i32 ((gfd G9 13 2 l0) + 1) ∧ gcl G34 l0 = 14 ∧ ∀ G37 : Gt, G37 = (sfd G34 13 2 l0 ((gfd G9 13 2 l0) + 1)) → Q 0 G37) → J13 x14 G15 c16 s17) → (((gfd G9 13 2 l0) ≠ (gln G9 (gfd G9 13 1 l0)) → J13 (gfd G9 13 1 l0) G9 c4 s5) ∧ ((gfd G9 13 2 l0) = (gln G9 (gfd G9 13 1 l0)) → (gcl G9 l0 = 14 ∧ Call E M_A_grow0 [rv l0] G9 c4 s5 X (fun r40 G41 c42 s43 => J13 r40 G41 c42 s43))))))) : Ok E M_A_addAt [rv l0, iv l1, rv l2] G c s Q X := Ok.intro (k := 2) rfl rfl (Nat.le_of_ble_eq_true rfl) rfl (b_A_addAt_0 h)
set_option maxRecDepth 20000 in
theorem b_A_remove_0 {E : EE} {l0 l1 : Int} {G : Gt} {c s : Nat} {Q X : Int → Gt → Prop} (h : (gcl G l0 = 14 ∧ OkP E M_O_checkIndex [iv l1, iv (gfd G 13 2 l0)] G (l1) ∧ gcl G l0 = 14 ∧ gcl G (gfd G 13 1 l0) = 18 ∧ 0 ≤ l1 ∧ l1 < gln G (gfd G 13 1 l0) ∧ gcl G l0 = 14 ∧ Call E M_A_fastRemove [rv l0, rv (gfd G 13 1 l0), iv l1] G c s X (fun r8 G9 c10 s11 => Q (gel G (gfd G 13 1 l0) l1) G9))) : V E M_A_remove 0 [some (rv l0), some (iv l1), none, none] [] G c s Q X := by
  refine v_iload_n (pc := 0) (dk dt_A_remove 0 rfl) rfl rfl ?_
  refine v_aload_n (pc := 1) (dk dt_A_remove 1 rfl) rfl rfl ?_
  obtain ⟨v1, h⟩ := h
  refine v_getI (pc := 2) (dk dt_A_remove 2 rfl) fl_Jx4a65c_48 v1 (fun _ => ?_)
  obtain ⟨v2, h⟩ := h
  refine v_csPI (v := (l1)) (As := [iv l1, iv (gfd G 13 2 l0)]) (stk := []) (pc := 5) (dk dt_A_remove 3 rfl) ml_Jx4a65c_118 rfl rfl (Nat.le_of_ble_eq_true rfl) rfl rfl v2 ?_
  refine v_pop (pc := 8) (dk dt_A_remove 4 rfl) (by intro h9; cases h9) ?_
  refine v_aload_n (pc := 9) (dk dt_A_remove 5 rfl) rfl rfl ?_
  obtain ⟨v3, h⟩ := h
  refine v_getR (pc := 10) (dk dt_A_remove 6 rfl) fl_Jx4a65c_9 v3 (fun _ => ?_)
  refine v_astore_n (pc := 13) (ls' := [some (rv l0), some (iv l1), some (rv (gfd G 13 1 l0)), none]) (dk dt_A_remove 7 rfl) rfl (Nat.le_of_ble_eq_true rfl) rfl ?_
  refine v_aload_n (pc := 14) (dk dt_A_remove 8 rfl) rfl rfl ?_
  refine v_iload_n (pc := 15) (dk dt_A_remove 9 rfl) rfl rfl ?_
  obtain ⟨v4, h⟩ := h
  obtain ⟨v5, h⟩ := h
  obtain ⟨v6, h⟩ := h
  refine v_aald (pc := 16) (dk dt_A_remove 10 rfl) v4 v5 v6 (fun _ => ?_)
  refine v_astore_n (pc := 17) (ls' := [some (rv l0), some (iv l1), some (rv (gfd G 13 1 l0)), some (rv (gel G (gfd G 13 1 l0) l1))]) (dk dt_A_remove 11 rfl) rfl (Nat.le_of_ble_eq_true rfl) rfl ?_
  refine v_aload_n (pc := 18) (dk dt_A_remove 12 rfl) rfl rfl ?_
  refine v_aload_n (pc := 19) (dk dt_A_remove 13 rfl) rfl rfl ?_
  refine v_iload_n (pc := 20) (dk dt_A_remove 14 rfl) rfl rfl ?_
  obtain ⟨v7, h⟩ := h
  refine v_cvV (c := 13) (As := [rv (gfd G 13 1 l0), iv l1]) (stk := []) (pc := 21) (dk dt_A_remove 15 rfl) ml_Jx4a65c_144 rfl rfl (Nat.le_of_ble_eq_true rfl) rfl ⟨by decide, rfl⟩ v7 rfl (Call.mono h (fun r8 G9 c10 s11 h => ?_))
  refine v_aload_n (pc := 24) (dk dt_A_remove 16 rfl) rfl rfl ?_
  exact v_aret (pc := 25) (dk dt_A_remove 17 rfl) rfl (by first | exact Or.inl ⟨_, rfl⟩ | exact Or.inr ⟨_, rfl⟩) h
set_option maxRecDepth 20000 in
theorem i_A_remove {E : EE} {l0 l1 : Int} {G : Gt} {c s : Nat} {Q X : Int → Gt → Prop} (h : (gcl G l0 = 14 ∧ OkP E M_O_checkIndex [iv l1, iv (gfd G 13 2 l0)] G (l1) ∧ gcl G l0 = 14 ∧ gcl G (gfd G 13 1 l0) = 18 ∧ 0 ≤ l1 ∧ l1 < gln G (gfd G 13 1 l0) ∧ gcl G l0 = 14 ∧ Call E M_A_fastRemove [rv l0, rv (gfd G 13 1 l0), iv l1] G c s X (fun r8 G9 c10 s11 => Q (gel G (gfd G 13 1 l0) l1) G9))) : Ok E M_A_remove [rv l0, iv l1] G c s Q X := Ok.intro (k := 2) rfl rfl (Nat.le_of_ble_eq_true rfl) rfl (b_A_remove_0 h)
set_option maxRecDepth 20000 in
theorem b_A_fastRemove_0 {E : EE} {l0 l1 l2 : Int} {G : Gt} {c s : Nat} {Q X : Int → Gt → Prop} (h : (gcl G l0 = 14 ∧ ∀ w2 : Int, i32 w2 → gcl G l0 = 14 ∧ ∀ G4 : Gt, G4 = (sfd G 13 0 l0 w2) → gcl G4 l0 = 14 ∧ i32 ((gfd G4 13 2 l0) - 1) ∧ ((((gfd G4 13 2 l0) - 1) ≤ l2 → (gcl G4 l0 = 14 ∧ ∀ G9 : Gt, G9 = (sfd G4 13 2 l0 ((gfd G4 13 2 l0) - 1)) → gcl G9 l1 = 18 ∧ 0 ≤ ((gfd G4 13 2 l0) - 1) ∧ ((gfd G4 13 2 l0) - 1) < gln G9 l1 ∧ ∀ G13 : Gt, G13 = (sel G9 l1 ((gfd G4 13 2 l0) - 1) (-1)) → Q 0 G13)) ∧ (l2 < ((gfd G4 13 2 l0) - 1) → (i32 (l2 + 1) ∧ i32 (((gfd G4 13 2 l0) - 1) - l2) ∧ (gcl G4 l1 = 15 ∨ gcl G4 l1 = 17 ∨ gcl G4 l1 = 18) ∧ gcl G4 l1 = gcl G4 l1 ∧ (eb E : Int) ≤ l1 ∧ (eb E : Int) ≤ l1 ∧ 0 ≤ (l2 + 1) ∧ 0 ≤ l2 ∧ 0 ≤ (((gfd G4 13 2 l0) - 1) - l2) ∧ (l2 + 1) + (((gfd G4 13 2 l0) - 1) - l2) ≤ gln G4 l1 ∧ l2 + (((gfd G4 13 2 l0) - 1) - l2) ≤ gln G4 l1 ∧ ∀ G25 : Gt, G25 = (cpy G4 l1 l1 (l2 + 1) l2 (((gfd G4 13 2 l0) - 1) - l2)) → gcl G25 l0 = 14 ∧ ∀ G27 : Gt, G27 = (sfd G25 13 2 l0 ((gfd G4 13 2 l0) - 1)) → gcl G27 l1 = 18 ∧ 0 ≤ ((gfd G4 13 2 l0) - 1) ∧ ((gfd G4 13 2 l0) - 1) < gln G27 l1 ∧ ∀ G31 : Gt, G31 = (sel G27 l1 ((gfd G4 13 2 l0) - 1) (-1)) → Q 0 G31))))) : V E M_A_fastRemove 0 [some (rv l0), some (rv l1), some (iv l2), none] [] G c s Q X := by
  refine v_aload_n (pc := 0) (dk dt_A_fastRemove 0 rfl) rfl rfl ?_
  refine v_dup (pc := 1) (dk dt_A_fastRemove 1 rfl) (by intro h9; cases h9) ?_
  obtain ⟨v1, h⟩ := h
  refine v_getI (pc := 2) (dk dt_A_fastRemove 2 rfl) fl_Jx4a65c_63 v1 (fun _ => ?_)
  refine v_iconst (pc := 5) (dk dt_A_fastRemove 3 rfl) ⟨by decide, by decide⟩ ?_
  refine v_iaddW (pc := 6) (dk dt_A_fastRemove 4 rfl) (fun w2 hw2 => ?_)
  replace h := h w2 hw2
  obtain ⟨v3, h⟩ := h
  refine v_putI (pc := 7) (dk dt_A_fastRemove 5 rfl) fl_Jx4a65c_63 (Or.inl rfl) v3 ?_
  generalize hG4 : (sfd G 13 0 l0 w2) = G4
  replace h := h G4 hG4.symm
  refine v_aload_n (pc := 10) (dk dt_A_fastRemove 6 rfl) rfl rfl ?_
  obtain ⟨v5, h⟩ := h
  refine v_getI (pc := 11) (dk dt_A_fastRemove 7 rfl) fl_Jx4a65c_48 v5 (fun _ => ?_)
  refine v_iconst (pc := 14) (dk dt_A_fastRemove 8 rfl) ⟨by decide, by decide⟩ ?_
  obtain ⟨v6, h⟩ := h
  refine v_isub (pc := 15) (dk dt_A_fastRemove 9 rfl) v6 ?_
  refine v_dup (pc := 16) (dk dt_A_fastRemove 10 rfl) (by intro h9; cases h9) ?_
  refine v_istore_n (pc := 17) (ls' := [some (rv l0), some (rv l1), some (iv l2), some (iv ((gfd G4 13 2 l0) - 1))]) (dk dt_A_fastRemove 11 rfl) rfl (Nat.le_of_ble_eq_true rfl) rfl ?_
  refine v_iload_n (pc := 18) (dk dt_A_fastRemove 12 rfl) rfl rfl ?_
  refine v_icmp_le (pc := 19) (tgt := 34) (dk dt_A_fastRemove 13 rfl) (by decide) (fun c7 => ?_) (fun c7 => ?_)
  · replace h := h.1 c7
    refine v_aload_n (pc := 34) (dk dt_A_fastRemove 24 rfl) rfl rfl ?_
    refine v_aload_n (pc := 35) (dk dt_A_fastRemove 25 rfl) rfl rfl ?_
    refine v_iload_n (pc := 36) (dk dt_A_fastRemove 26 rfl) rfl rfl ?_
    refine v_dup_x1 (pc := 37) (dk dt_A_fastRemove 27 rfl) (by intro h9; cases h9) (by intro h9; cases h9) ?_
    obtain ⟨v8, h⟩ := h
    refine v_putI (pc := 38) (dk dt_A_fastRemove 28 rfl) fl_Jx4a65c_48 (Or.inl rfl) v8 ?_
    generalize hG9 : (sfd G4 13 2 l0 ((gfd G4 13 2 l0) - 1)) = G9
    replace h := h G9 hG9.symm
    refine v_null (pc := 41) (dk dt_A_fastRemove 29 rfl) ?_
    obtain ⟨v10, h⟩ := h
    obtain ⟨v11, h⟩ := h
    obtain ⟨v12, h⟩ := h
    refine v_aast (pc := 42) (dk dt_A_fastRemove 30 rfl) v10 v11 v12 (Or.inl rfl) ?_
    generalize hG13 : (sel G9 l1 ((gfd G4 13 2 l0) - 1) (-1)) = G13
    replace h := h G13 hG13.symm
    exact v_vret (pc := 43) (dk dt_A_fastRemove 31 rfl) rfl h
  · replace h := h.2 c7
    refine v_aload_n (pc := 22) (dk dt_A_fastRemove 14 rfl) rfl rfl ?_
    refine v_iload_n (pc := 23) (dk dt_A_fastRemove 15 rfl) rfl rfl ?_
    refine v_iconst (pc := 24) (dk dt_A_fastRemove 16 rfl) ⟨by decide, by decide⟩ ?_
    obtain ⟨v14, h⟩ := h
    refine v_iadd (pc := 25) (dk dt_A_fastRemove 17 rfl) v14 ?_
    refine v_aload_n (pc := 26) (dk dt_A_fastRemove 18 rfl) rfl rfl ?_
    refine v_iload_n (pc := 27) (dk dt_A_fastRemove 19 rfl) rfl rfl ?_
    refine v_iload_n (pc := 28) (dk dt_A_fastRemove 20 rfl) rfl rfl ?_
    refine v_iload_n (pc := 29) (dk dt_A_fastRemove 21 rfl) rfl rfl ?_
    obtain ⟨v15, h⟩ := h
    refine v_isub (pc := 30) (dk dt_A_fastRemove 22 rfl) v15 ?_
    obtain ⟨v16, h⟩ := h
    obtain ⟨v17, h⟩ := h
    obtain ⟨v18, h⟩ := h
    obtain ⟨v19, h⟩ := h
    obtain ⟨v20, h⟩ := h
    obtain ⟨v21, h⟩ := h
    obtain ⟨v22, h⟩ := h
    obtain ⟨v23, h⟩ := h
    obtain ⟨v24, h⟩ := h
    refine v_acopy (pc := 31) (dk dt_A_fastRemove 23 rfl) mw_Jx4a65c_112 (Nat.le_of_ble_eq_true rfl) (Nat.le_of_ble_eq_true rfl) (Nat.le_of_ble_eq_true rfl) v16 v17 v18 v19 v20 v21 v22 v23 v24 ?_
    generalize hG25 : (cpy G4 l1 l1 (l2 + 1) l2 (((gfd G4 13 2 l0) - 1) - l2)) = G25
    replace h := h G25 hG25.symm
    refine v_aload_n (pc := 34) (dk dt_A_fastRemove 24 rfl) rfl rfl ?_
    refine v_aload_n (pc := 35) (dk dt_A_fastRemove 25 rfl) rfl rfl ?_
    refine v_iload_n (pc := 36) (dk dt_A_fastRemove 26 rfl) rfl rfl ?_
    refine v_dup_x1 (pc := 37) (dk dt_A_fastRemove 27 rfl) (by intro h9; cases h9) (by intro h9; cases h9) ?_
    obtain ⟨v26, h⟩ := h
    refine v_putI (pc := 38) (dk dt_A_fastRemove 28 rfl) fl_Jx4a65c_48 (Or.inl rfl) v26 ?_
    generalize hG27 : (sfd G25 13 2 l0 ((gfd G4 13 2 l0) - 1)) = G27
    replace h := h G27 hG27.symm
    refine v_null (pc := 41) (dk dt_A_fastRemove 29 rfl) ?_
    obtain ⟨v28, h⟩ := h
    obtain ⟨v29, h⟩ := h
    obtain ⟨v30, h⟩ := h
    refine v_aast (pc := 42) (dk dt_A_fastRemove 30 rfl) v28 v29 v30 (Or.inl rfl) ?_
    generalize hG31 : (sel G27 l1 ((gfd G4 13 2 l0) - 1) (-1)) = G31
    replace h := h G31 hG31.symm
    exact v_vret (pc := 43) (dk dt_A_fastRemove 31 rfl) rfl h
set_option maxRecDepth 20000 in
theorem i_A_fastRemove {E : EE} {l0 l1 l2 : Int} {G : Gt} {c s : Nat} {Q X : Int → Gt → Prop} (h : (gcl G l0 = 14 ∧ ∀ w2 : Int, i32 w2 → gcl G l0 = 14 ∧ ∀ G4 : Gt, G4 = (sfd G 13 0 l0 w2) → gcl G4 l0 = 14 ∧ i32 ((gfd G4 13 2 l0) - 1) ∧ ((((gfd G4 13 2 l0) - 1) ≤ l2 → (gcl G4 l0 = 14 ∧ ∀ G9 : Gt, G9 = (sfd G4 13 2 l0 ((gfd G4 13 2 l0) - 1)) → gcl G9 l1 = 18 ∧ 0 ≤ ((gfd G4 13 2 l0) - 1) ∧ ((gfd G4 13 2 l0) - 1) < gln G9 l1 ∧ ∀ G13 : Gt, G13 = (sel G9 l1 ((gfd G4 13 2 l0) - 1) (-1)) → Q 0 G13)) ∧ (l2 < ((gfd G4 13 2 l0) - 1) → (i32 (l2 + 1) ∧ i32 (((gfd G4 13 2 l0) - 1) - l2) ∧ (gcl G4 l1 = 15 ∨ gcl G4 l1 = 17 ∨ gcl G4 l1 = 18) ∧ gcl G4 l1 = gcl G4 l1 ∧ (eb E : Int) ≤ l1 ∧ (eb E : Int) ≤ l1 ∧ 0 ≤ (l2 + 1) ∧ 0 ≤ l2 ∧ 0 ≤ (((gfd G4 13 2 l0) - 1) - l2) ∧ (l2 + 1) + (((gfd G4 13 2 l0) - 1) - l2) ≤ gln G4 l1 ∧ l2 + (((gfd G4 13 2 l0) - 1) - l2) ≤ gln G4 l1 ∧ ∀ G25 : Gt, G25 = (cpy G4 l1 l1 (l2 + 1) l2 (((gfd G4 13 2 l0) - 1) - l2)) → gcl G25 l0 = 14 ∧ ∀ G27 : Gt, G27 = (sfd G25 13 2 l0 ((gfd G4 13 2 l0) - 1)) → gcl G27 l1 = 18 ∧ 0 ≤ ((gfd G4 13 2 l0) - 1) ∧ ((gfd G4 13 2 l0) - 1) < gln G27 l1 ∧ ∀ G31 : Gt, G31 = (sel G27 l1 ((gfd G4 13 2 l0) - 1) (-1)) → Q 0 G31))))) : Ok E M_A_fastRemove [rv l0, rv l1, iv l2] G c s Q X := Ok.intro (k := 1) rfl rfl (Nat.le_of_ble_eq_true rfl) rfl (b_A_fastRemove_0 h)
set_option maxRecDepth 20000 in
theorem b_A_clear_0 {E : EE} {l0 : Int} {G : Gt} {c s : Nat} {Q X : Int → Gt → Prop} (h : (gcl G l0 = 14 ∧ ∀ w2 : Int, i32 w2 → gcl G l0 = 14 ∧ ∀ G4 : Gt, G4 = (sfd G 13 0 l0 w2) → gcl G4 l0 = 14 ∧ gcl G4 l0 = 14 ∧ gcl G4 l0 = 14 ∧ ∀ G8 : Gt, G8 = (sfd G4 13 2 l0 0) → V E M_A_clear 27 [none, some (rv (gfd G4 13 1 l0)), some (iv (gfd G4 13 2 l0)), some (iv 0)] [] G8 c s Q X)) : V E M_A_clear 0 [some (rv l0), none, none, none] [] G c s Q X := by
  refine v_aload_n (pc := 0) (dk dt_A_clear 0 rfl) rfl rfl ?_
  refine v_dup (pc := 1) (dk dt_A_clear 1 rfl) (by intro h9; cases h9) ?_
  obtain ⟨v1, h⟩ := h
  refine v_getI (pc := 2) (dk dt_A_clear 2 rfl) fl_Jx4a65c_63 v1 (fun _ => ?_)
  refine v_iconst (pc := 5) (dk dt_A_clear 3 rfl) ⟨by decide, by decide⟩ ?_
  refine v_iaddW (pc := 6) (dk dt_A_clear 4 rfl) (fun w2 hw2 => ?_)
  replace h := h w2 hw2
  obtain ⟨v3, h⟩ := h
  refine v_putI (pc := 7) (dk dt_A_clear 5 rfl) fl_Jx4a65c_63 (Or.inl rfl) v3 ?_
  generalize hG4 : (sfd G 13 0 l0 w2) = G4
  replace h := h G4 hG4.symm
  refine v_aload_n (pc := 10) (dk dt_A_clear 6 rfl) rfl rfl ?_
  obtain ⟨v5, h⟩ := h
  refine v_getR (pc := 11) (dk dt_A_clear 7 rfl) fl_Jx4a65c_9 v5 (fun _ => ?_)
  refine v_astore_n (pc := 14) (ls' := [some (rv l0), some (rv (gfd G4 13 1 l0)), none, none]) (dk dt_A_clear 8 rfl) rfl (Nat.le_of_ble_eq_true rfl) rfl ?_
  refine v_aload_n (pc := 15) (dk dt_A_clear 9 rfl) rfl rfl ?_
  obtain ⟨v6, h⟩ := h
  refine v_getI (pc := 16) (dk dt_A_clear 10 rfl) fl_Jx4a65c_48 v6 (fun _ => ?_)
  refine v_istore_n (pc := 19) (ls' := [some (rv l0), some (rv (gfd G4 13 1 l0)), some (iv (gfd G4 13 2 l0)), none]) (dk dt_A_clear 11 rfl) rfl (Nat.le_of_ble_eq_true rfl) rfl ?_
  refine v_aload_n (pc := 20) (dk dt_A_clear 12 rfl) rfl rfl ?_
  refine v_iconst (pc := 21) (dk dt_A_clear 13 rfl) ⟨by decide, by decide⟩ ?_
  refine v_dup_x1 (pc := 22) (dk dt_A_clear 14 rfl) (by intro h9; cases h9) (by intro h9; cases h9) ?_
  obtain ⟨v7, h⟩ := h
  refine v_putI (pc := 23) (dk dt_A_clear 15 rfl) fl_Jx4a65c_48 (Or.inl rfl) v7 ?_
  generalize hG8 : (sfd G4 13 2 l0 0) = G8
  replace h := h G8 hG8.symm
  refine v_istore_n (pc := 26) (ls' := [some (rv l0), some (rv (gfd G4 13 1 l0)), some (iv (gfd G4 13 2 l0)), some (iv 0)]) (dk dt_A_clear 16 rfl) rfl (Nat.le_of_ble_eq_true rfl) rfl ?_
  exact v_less2 (ls' := [none, some (rv (gfd G4 13 1 l0)), some (iv (gfd G4 13 2 l0)), some (iv 0)]) ⟨rfl, rfl, rfl, trivial⟩ h
set_option maxRecDepth 20000 in
theorem i_A_clear {E : EE} {l0 : Int} {G : Gt} {c s : Nat} {Q X : Int → Gt → Prop} (h : (gcl G l0 = 14 ∧ ∀ w2 : Int, i32 w2 → gcl G l0 = 14 ∧ ∀ G4 : Gt, G4 = (sfd G 13 0 l0 w2) → gcl G4 l0 = 14 ∧ gcl G4 l0 = 14 ∧ gcl G4 l0 = 14 ∧ ∀ G8 : Gt, G8 = (sfd G4 13 2 l0 0) → V E M_A_clear 27 [none, some (rv (gfd G4 13 1 l0)), some (iv (gfd G4 13 2 l0)), some (iv 0)] [] G8 c s Q X)) : Ok E M_A_clear [rv l0] G c s Q X := Ok.intro (k := 3) rfl rfl (Nat.le_of_ble_eq_true rfl) rfl (b_A_clear_0 h)
set_option maxRecDepth 20000 in
theorem b_A_clear_27 {E : EE} {l1 l2 l3 : Int} {G : Gt} {c s : Nat} {Q X : Int → Gt → Prop} (h : ((l2 ≤ l3 → Q 0 G) ∧ (l3 < l2 → (gcl G l1 = 18 ∧ 0 ≤ l3 ∧ l3 < gln G l1 ∧ ∀ G5 : Gt, G5 = (sel G l1 l3 (-1)) → i32 (l3 + 1) ∧ V E M_A_clear 27 [none, some (rv l1), some (iv l2), some (iv (l3 + 1))] [] G5 c s Q X)))) : V E M_A_clear 27 [none, some (rv l1), some (iv l2), some (iv l3)] [] G c s Q X := by
  refine v_iload_n (pc := 27) (dk dt_A_clear 17 rfl) rfl rfl ?_
  refine v_iload_n (pc := 28) (dk dt_A_clear 18 rfl) rfl rfl ?_
  refine v_icmp_ge (pc := 29) (tgt := 42) (dk dt_A_clear 19 rfl) (by decide) (fun c1 => ?_) (fun c1 => ?_)
  · replace h := h.1 c1
    exact v_vret (pc := 42) (dk dt_A_clear 26 rfl) rfl h
  · replace h := h.2 c1
    refine v_aload_n (pc := 32) (dk dt_A_clear 20 rfl) rfl rfl ?_
    refine v_iload_n (pc := 33) (dk dt_A_clear 21 rfl) rfl rfl ?_
    refine v_null (pc := 34) (dk dt_A_clear 22 rfl) ?_
    obtain ⟨v2, h⟩ := h
    obtain ⟨v3, h⟩ := h
    obtain ⟨v4, h⟩ := h
    refine v_aast (pc := 35) (dk dt_A_clear 23 rfl) v2 v3 v4 (Or.inl rfl) ?_
    generalize hG5 : (sel G l1 l3 (-1)) = G5
    replace h := h G5 hG5.symm
    obtain ⟨v6, h⟩ := h
    refine v_iinc (pc := 36) (ls' := [none, some (rv l1), some (iv l2), some (iv (l3 + 1))]) (dk dt_A_clear 24 rfl) (Nat.le_of_ble_eq_true rfl) rfl v6 rfl ?_
    refine v_goto (pc := 39) (tgt := 27) (dk dt_A_clear 25 rfl) (by decide) ?_
    exact h
set_option maxRecDepth 20000 in
theorem b_A_rangeCheck_0 {E : EE} {l0 l1 : Int} {G : Gt} {c s : Nat} {Q X : Int → Gt → Prop} (h : (gcl G l0 = 14 ∧ (((gfd G 13 2 l0) < l1 → False) ∧ (l1 ≤ (gfd G 13 2 l0) → ((0 ≤ l1 → Q 0 G) ∧ (l1 < 0 → False)))))) : V E M_A_rangeCheck 0 [some (rv l0), some (iv l1)] [] G c s Q X := by
  refine v_iload_n (pc := 0) (dk dt_A_rangeCheck 0 rfl) rfl rfl ?_
  refine v_aload_n (pc := 1) (dk dt_A_rangeCheck 1 rfl) rfl rfl ?_
  obtain ⟨v1, h⟩ := h
  refine v_getI (pc := 2) (dk dt_A_rangeCheck 2 rfl) fl_Jx4a65c_48 v1 (fun _ => ?_)
  refine v_icmp_gt (pc := 5) (tgt := 12) (dk dt_A_rangeCheck 3 rfl) (by decide) (fun c2 => ?_) (fun c2 => ?_)
  · replace h := h.1 c2
    exact h.elim
  · replace h := h.2 c2
    refine v_iload_n (pc := 8) (dk dt_A_rangeCheck 4 rfl) rfl rfl ?_
    refine v_if_ge (pc := 9) (tgt := 25) (dk dt_A_rangeCheck 5 rfl) (by decide) (fun c3 => ?_) (fun c3 => ?_)
    · replace h := h.1 c3
      exact v_vret (pc := 25) (dk dt_A_rangeCheck 13 rfl) rfl h
    · replace h := h.2 c3
      exact h.elim
set_option maxRecDepth 20000 in
theorem i_A_rangeCheck {E : EE} {l0 l1 : Int} {G : Gt} {c s : Nat} {Q X : Int → Gt → Prop} (h : (gcl G l0 = 14 ∧ (((gfd G 13 2 l0) < l1 → False) ∧ (l1 ≤ (gfd G 13 2 l0) → ((0 ≤ l1 → Q 0 G) ∧ (l1 < 0 → False)))))) : Ok E M_A_rangeCheck [rv l0, iv l1] G c s Q X := Ok.intro (k := 0) rfl rfl (Nat.le_of_ble_eq_true rfl) rfl (b_A_rangeCheck_0 h)
set_option maxRecDepth 20000 in
theorem b_B_init_0 {E : EE} {l0 : Int} {G : Gt} {c s : Nat} {Q X : Int → Gt → Prop} (h : (0 ≤ l0 ∧ Call E M_C_init [rv l0] G c s X (fun r2 G3 c4 s5 => gcl G3 l0 = 14 ∧ ∀ G7 : Gt, G7 = (sfd G3 13 0 l0 0) → Q 0 G7))) : V E M_B_init 0 [some (rv l0)] [] G c s Q X := by
  refine v_aload_n (pc := 0) (dk dt_B_init 0 rfl) rfl rfl ?_
  obtain ⟨v1, h⟩ := h
  refine v_ciV (As := []) (stk := []) (pc := 1) (dk dt_B_init 1 rfl) ml_Jxc12de_1 rfl rfl (Nat.le_of_ble_eq_true rfl) rfl v1 (Call.mono h (fun r2 G3 c4 s5 h => ?_))
  refine v_aload_n (pc := 4) (dk dt_B_init 2 rfl) rfl rfl ?_
  refine v_iconst (pc := 5) (dk dt_B_init 3 rfl) ⟨by decide, by decide⟩ ?_
  obtain ⟨v6, h⟩ := h
  refine v_putI (pc := 6) (dk dt_B_init 4 rfl) fl_Jxc12de_7 (Or.inl rfl) v6 ?_
  generalize hG7 : (sfd G3 13 0 l0 0) = G7
  replace h := h G7 hG7.symm
  exact v_vret (pc := 9) (dk dt_B_init 5 rfl) rfl h
set_option maxRecDepth 20000 in
theorem i_B_init {E : EE} {l0 : Int} {G : Gt} {c s : Nat} {Q X : Int → Gt → Prop} (h : (0 ≤ l0 ∧ Call E M_C_init [rv l0] G c s X (fun r2 G3 c4 s5 => gcl G3 l0 = 14 ∧ ∀ G7 : Gt, G7 = (sfd G3 13 0 l0 0) → Q 0 G7))) : Ok E M_B_init [rv l0] G c s Q X := Ok.intro (k := 0) rfl rfl (Nat.le_of_ble_eq_true rfl) rfl (b_B_init_0 h)
set_option maxRecDepth 20000 in
theorem b_C_init_0 {E : EE} {l0 : Int} {G : Gt} {c s : Nat} {Q X : Int → Gt → Prop} (h : (0 ≤ l0 ∧ Q 0 G)) : V E M_C_init 0 [some (rv l0)] [] G c s Q X := by
  refine v_aload_n (pc := 0) (dk dt_C_init 0 rfl) rfl rfl ?_
  obtain ⟨v1, h⟩ := h
  refine v_objInit (pc := 1) (dk dt_C_init 1 rfl) mw_Jxa1e45_1 (Nat.le_of_ble_eq_true rfl) (Nat.le_of_ble_eq_true rfl) (Nat.le_of_ble_eq_true rfl) v1 ?_
  exact v_vret (pc := 4) (dk dt_C_init 2 rfl) rfl h
set_option maxRecDepth 20000 in
theorem i_C_init {E : EE} {l0 : Int} {G : Gt} {c s : Nat} {Q X : Int → Gt → Prop} (h : (0 ≤ l0 ∧ Q 0 G)) : Ok E M_C_init [rv l0] G c s Q X := Ok.intro (k := 0) rfl rfl (Nat.le_of_ble_eq_true rfl) rfl (b_C_init_0 h)
set_option maxRecDepth 20000 in
theorem b_R_copyOf2_0 {E : EE} {l0 l1 : Int} {G : Gt} {c s : Nat} {Q X : Int → Gt → Prop} (h : (gcl G l0 = 18 ∧ Call E M_R_copyOf3 [rv l0, iv l1, rv (eM E)] G c s X (fun r2 G3 c4 s5 => Q r2 G3))) : V E M_R_copyOf2 0 [some (rv l0), some (iv l1)] [] G c s Q X := by
  refine v_aload_n (pc := 0) (dk dt_R_copyOf2 0 rfl) rfl rfl ?_
  refine v_iload_n (pc := 1) (dk dt_R_copyOf2 1 rfl) rfl rfl ?_
  refine v_aload_n (pc := 2) (dk dt_R_copyOf2 2 rfl) rfl rfl ?_
  obtain ⟨v1, h⟩ := h
  refine v_getC (pc := 3) (dk dt_R_copyOf2 3 rfl) mw_J7_86 (Nat.le_of_ble_eq_true rfl) (Nat.le_of_ble_eq_true rfl) (Nat.le_of_ble_eq_true rfl) v1 ?_
  refine v_csR (As := [rv l0, iv l1, rv (eM E)]) (stk := []) (pc := 6) (dk dt_R_copyOf2 4 rfl) ml_J7_300 rfl rfl (Nat.le_of_ble_eq_true rfl) rfl rfl (Call.mono h (fun r2 G3 c4 s5 h => ?_))
  exact v_aret (pc := 9) (dk dt_R_copyOf2 5 rfl) rfl (by first | exact Or.inl ⟨_, rfl⟩ | exact Or.inr ⟨_, rfl⟩) h
set_option maxRecDepth 20000 in
theorem i_R_copyOf2 {E : EE} {l0 l1 : Int} {G : Gt} {c s : Nat} {Q X : Int → Gt → Prop} (h : (gcl G l0 = 18 ∧ Call E M_R_copyOf3 [rv l0, iv l1, rv (eM E)] G c s X (fun r2 G3 c4 s5 => Q r2 G3))) : Ok E M_R_copyOf2 [rv l0, iv l1] G c s Q X := Ok.intro (k := 0) rfl rfl (Nat.le_of_ble_eq_true rfl) rfl (b_R_copyOf2_0 h)
set_option maxRecDepth 20000 in
theorem b_R_copyOf3_0 {E : EE} {l0 l1 l2 : Int} {G : Gt} {c s : Nat} {Q X : Int → Gt → Prop} (h : ((l2 ≠ (eM E) → False) ∧ (l2 = (eM E) → (0 ≤ l1 ∧ l1 ≤ 60000000 ∧ 1 ≤ c ∧ (l1 : Int).toNat ≤ s ∧ ∀ q2 : Int, gcl G q2 = 0 → (eb E : Int) ≤ q2 → ∀ G7 : Gt, G7 = (newa G q2 18 l1) → 15 ≤ gcl G7 l0 ∧ (gcl G7 q2 = 15 ∨ gcl G7 q2 = 17 ∨ gcl G7 q2 = 18) ∧ gcl G7 l0 = gcl G7 q2 ∧ (eb E : Int) ≤ l0 ∧ (eb E : Int) ≤ q2 ∧ 0 ≤ (min (gln G7 l0) l1) ∧ 0 + (min (gln G7 l0) l1) ≤ gln G7 l0 ∧ 0 + (min (gln G7 l0) l1) ≤ gln G7 q2 ∧ ∀ G16 : Gt, G16 = (cpy G7 l0 q2 0 0 (min (gln G7 l0) l1)) → Q q2 G16)))) : V E M_R_copyOf3 0 [some (rv l0), some (iv l1), some (rv l2), none] [] G c s Q X := by
  refine v_aload_n (pc := 0) (dk dt_R_copyOf3 0 rfl) rfl rfl ?_
  refine v_ldcM (pc := 1) (dk dt_R_copyOf3 1 rfl) cl_J7_110 ?_
  refine v_acmp_ne (pc := 3) (tgt := 13) (dk dt_R_copyOf3 2 rfl) (by decide) (fun c1 => ?_) (fun c1 => ?_)
  · replace h := h.1 c1
    refine v_aload_n (pc := 13) (dk dt_R_copyOf3 6 rfl) rfl rfl ?_
    exact h.elim
  · replace h := h.2 c1
    refine v_iload_n (pc := 6) (dk dt_R_copyOf3 3 rfl) rfl rfl ?_
    obtain ⟨v3, h⟩ := h
    obtain ⟨v4, h⟩ := h
    obtain ⟨v5, h⟩ := h
    obtain ⟨v6, h⟩ := h
    refine v_anewa (pc := 7) (dk dt_R_copyOf3 4 rfl) cl_J7_2 v3 v4 v5 v6 (fun q2 hq2 gq2 => ?_)
    replace h := h q2 hq2 gq2
    generalize hG7 : (newa G q2 18 l1) = G7
    replace h := h G7 hG7.symm
    refine v_goto (pc := 10) (tgt := 24) (dk dt_R_copyOf3 5 rfl) (by decide) ?_
    refine v_astore_n (pc := 24) (ls' := [some (rv l0), some (iv l1), some (rv l2), some (rv q2)]) (dk dt_R_copyOf3 11 rfl) rfl (Nat.le_of_ble_eq_true rfl) rfl ?_
    refine v_aload_n (pc := 25) (dk dt_R_copyOf3 12 rfl) rfl rfl ?_
    refine v_iconst (pc := 26) (dk dt_R_copyOf3 13 rfl) ⟨by decide, by decide⟩ ?_
    refine v_aload_n (pc := 27) (dk dt_R_copyOf3 14 rfl) rfl rfl ?_
    refine v_iconst (pc := 28) (dk dt_R_copyOf3 15 rfl) ⟨by decide, by decide⟩ ?_
    refine v_aload_n (pc := 29) (dk dt_R_copyOf3 16 rfl) rfl rfl ?_
    obtain ⟨v8, h⟩ := h
    refine v_alen (pc := 30) (dk dt_R_copyOf3 17 rfl) v8 (fun _ => ?_)
    refine v_iload_n (pc := 31) (dk dt_R_copyOf3 18 rfl) rfl rfl ?_
    refine v_imin (pc := 32) (dk dt_R_copyOf3 19 rfl) mw_J7_304 (Nat.le_of_ble_eq_true rfl) (Nat.le_of_ble_eq_true rfl) (Nat.le_of_ble_eq_true rfl) ?_
    obtain ⟨v9, h⟩ := h
    obtain ⟨v10, h⟩ := h
    obtain ⟨v11, h⟩ := h
    obtain ⟨v12, h⟩ := h
    obtain ⟨v13, h⟩ := h
    obtain ⟨v14, h⟩ := h
    obtain ⟨v15, h⟩ := h
    refine v_acopy (pc := 35) (dk dt_R_copyOf3 20 rfl) mw_J7_150 (Nat.le_of_ble_eq_true rfl) (Nat.le_of_ble_eq_true rfl) (Nat.le_of_ble_eq_true rfl) v9 v10 v11 v12 (by decide) (by decide) v13 v14 v15 ?_
    generalize hG16 : (cpy G7 l0 q2 0 0 (min (gln G7 l0) l1)) = G16
    replace h := h G16 hG16.symm
    refine v_aload_n (pc := 38) (dk dt_R_copyOf3 21 rfl) rfl rfl ?_
    exact v_aret (pc := 39) (dk dt_R_copyOf3 22 rfl) rfl (by first | exact Or.inl ⟨_, rfl⟩ | exact Or.inr ⟨_, rfl⟩) h
set_option maxRecDepth 20000 in
theorem i_R_copyOf3 {E : EE} {l0 l1 l2 : Int} {G : Gt} {c s : Nat} {Q X : Int → Gt → Prop} (h : ((l2 ≠ (eM E) → False) ∧ (l2 = (eM E) → (0 ≤ l1 ∧ l1 ≤ 60000000 ∧ 1 ≤ c ∧ (l1 : Int).toNat ≤ s ∧ ∀ q2 : Int, gcl G q2 = 0 → (eb E : Int) ≤ q2 → ∀ G7 : Gt, G7 = (newa G q2 18 l1) → 15 ≤ gcl G7 l0 ∧ (gcl G7 q2 = 15 ∨ gcl G7 q2 = 17 ∨ gcl G7 q2 = 18) ∧ gcl G7 l0 = gcl G7 q2 ∧ (eb E : Int) ≤ l0 ∧ (eb E : Int) ≤ q2 ∧ 0 ≤ (min (gln G7 l0) l1) ∧ 0 + (min (gln G7 l0) l1) ≤ gln G7 l0 ∧ 0 + (min (gln G7 l0) l1) ≤ gln G7 q2 ∧ ∀ G16 : Gt, G16 = (cpy G7 l0 q2 0 0 (min (gln G7 l0) l1)) → Q q2 G16)))) : Ok E M_R_copyOf3 [rv l0, iv l1, rv l2] G c s Q X := Ok.intro (k := 1) rfl rfl (Nat.le_of_ble_eq_true rfl) rfl (b_R_copyOf3_0 h)
set_option maxRecDepth 20000 in
theorem b_O_checkIndex_0 {E : EE} {l0 l1 : Int} {G : Gt} {c s : Nat} {Q X : Int → Gt → Prop} (h : (OkP E M_P_checkIndex [iv l0, iv l1, rv (-1)] G (l0) ∧ Q (l0) G)) : V E M_O_checkIndex 0 [some (iv l0), some (iv l1)] [] G c s Q X := by
  refine v_iload_n (pc := 0) (dk dt_O_checkIndex 0 rfl) rfl rfl ?_
  refine v_iload_n (pc := 1) (dk dt_O_checkIndex 1 rfl) rfl rfl ?_
  refine v_null (pc := 2) (dk dt_O_checkIndex 2 rfl) ?_
  obtain ⟨v1, h⟩ := h
  refine v_csPI (v := (l0)) (As := [iv l0, iv l1, rv (-1)]) (stk := []) (pc := 3) (dk dt_O_checkIndex 3 rfl) ml_J15_105 rfl rfl (Nat.le_of_ble_eq_true rfl) rfl rfl v1 ?_
  exact v_iret (pc := 6) (dk dt_O_checkIndex 4 rfl) rfl h
set_option maxRecDepth 20000 in
theorem i_O_checkIndex {E : EE} {l0 l1 : Int} {G : Gt} {c s : Nat} {Q X : Int → Gt → Prop} (h : (OkP E M_P_checkIndex [iv l0, iv l1, rv (-1)] G (l0) ∧ Q (l0) G)) : Ok E M_O_checkIndex [iv l0, iv l1] G c s Q X := Ok.intro (k := 0) rfl rfl (Nat.le_of_ble_eq_true rfl) rfl (b_O_checkIndex_0 h)
set_option maxRecDepth 20000 in
theorem b_P_checkIndex_0 {E : EE} {l0 l1 l2 : Int} {G : Gt} {c s : Nat} {Q X : Int → Gt → Prop} (h : ((l0 < 0 → False) ∧ (0 ≤ l0 → ((l0 < l1 → Q l0 G) ∧ (l1 ≤ l0 → False))))) : V E M_P_checkIndex 0 [some (iv l0), some (iv l1), some (rv l2)] [] G c s Q X := by
  refine v_iload_n (pc := 0) (dk dt_P_checkIndex 0 rfl) rfl rfl ?_
  refine v_if_lt (pc := 1) (tgt := 9) (dk dt_P_checkIndex 1 rfl) (by decide) (fun c1 => ?_) (fun c1 => ?_)
  · replace h := h.1 c1
    refine v_aload_n (pc := 9) (dk dt_P_checkIndex 5 rfl) rfl rfl ?_
    refine v_iload_n (pc := 10) (dk dt_P_checkIndex 6 rfl) rfl rfl ?_
    refine v_iload_n (pc := 11) (dk dt_P_checkIndex 7 rfl) rfl rfl ?_
    exact h.elim
  · replace h := h.2 c1
    refine v_iload_n (pc := 4) (dk dt_P_checkIndex 2 rfl) rfl rfl ?_
    refine v_iload_n (pc := 5) (dk dt_P_checkIndex 3 rfl) rfl rfl ?_
    refine v_icmp_lt (pc := 6) (tgt := 16) (dk dt_P_checkIndex 4 rfl) (by decide) (fun c2 => ?_) (fun c2 => ?_)
    · replace h := h.1 c2
      refine v_iload_n (pc := 16) (dk dt_P_checkIndex 10 rfl) rfl rfl ?_
      exact v_iret (pc := 17) (dk dt_P_checkIndex 11 rfl) rfl h
    · replace h := h.2 c2
      refine v_aload_n (pc := 9) (dk dt_P_checkIndex 5 rfl) rfl rfl ?_
      refine v_iload_n (pc := 10) (dk dt_P_checkIndex 6 rfl) rfl rfl ?_
      refine v_iload_n (pc := 11) (dk dt_P_checkIndex 7 rfl) rfl rfl ?_
      exact h.elim
set_option maxRecDepth 20000 in
theorem i_P_checkIndex {E : EE} {l0 l1 l2 : Int} {G : Gt} {c s : Nat} {Q X : Int → Gt → Prop} (h : ((l0 < 0 → False) ∧ (0 ≤ l0 → ((l0 < l1 → Q l0 G) ∧ (l1 ≤ l0 → False))))) : Ok E M_P_checkIndex [iv l0, iv l1, rv l2] G c s Q X := Ok.intro (k := 0) rfl rfl (Nat.le_of_ble_eq_true rfl) rfl (b_P_checkIndex_0 h)
set_option maxRecDepth 20000 in
theorem b_S_newLength_0 {E : EE} {l0 l1 l2 : Int} {G : Gt} {c s : Nat} {Q X : Int → Gt → Prop} (h : (i32 (l0 + (max l1 l2)) ∧ (((l0 + (max l1 l2)) ≤ 0 → False) ∧ (0 < (l0 + (max l1 l2)) → ((2147483639 < (l0 + (max l1 l2)) → False) ∧ ((l0 + (max l1 l2)) ≤ 2147483639 → Q (l0 + (max l1 l2)) G)))))) : V E M_S_newLength 0 [some (iv l0), some (iv l1), some (iv l2), none] [] G c s Q X := by
  refine v_iload_n (pc := 0) (dk dt_S_newLength 0 rfl) rfl rfl ?_
  refine v_iload_n (pc := 1) (dk dt_S_newLength 1 rfl) rfl rfl ?_
  refine v_iload_n (pc := 2) (dk dt_S_newLength 2 rfl) rfl rfl ?_
  refine v_imax (pc := 3) (dk dt_S_newLength 3 rfl) mw_J8_194 (Nat.le_of_ble_eq_true rfl) (Nat.le_of_ble_eq_true rfl) (Nat.le_of_ble_eq_true rfl) ?_
  obtain ⟨v1, h⟩ := h
  refine v_iadd (pc := 6) (dk dt_S_newLength 4 rfl) v1 ?_
  refine v_istore_n (pc := 7) (ls' := [some (iv l0), some (iv l1), some (iv l2), some (iv (l0 + (max l1 l2)))]) (dk dt_S_newLength 5 rfl) rfl (Nat.le_of_ble_eq_true rfl) rfl ?_
  refine v_iconst (pc := 8) (dk dt_S_newLength 6 rfl) ⟨by decide, by decide⟩ ?_
  refine v_iload_n (pc := 9) (dk dt_S_newLength 7 rfl) rfl rfl ?_
  refine v_icmp_ge (pc := 10) (tgt := 21) (dk dt_S_newLength 8 rfl) (by decide) (fun c2 => ?_) (fun c2 => ?_)
  · replace h := h.1 c2
    refine v_iload_n (pc := 21) (dk dt_S_newLength 14 rfl) rfl rfl ?_
    refine v_iload_n (pc := 22) (dk dt_S_newLength 15 rfl) rfl rfl ?_
    exact h.elim
  · replace h := h.2 c2
    refine v_iload_n (pc := 13) (dk dt_S_newLength 9 rfl) rfl rfl ?_
    refine v_ldc (pc := 14) (dk dt_S_newLength 10 rfl) co_J8_200 ⟨by decide, by decide⟩ ?_
    refine v_icmp_gt (pc := 16) (tgt := 21) (dk dt_S_newLength 11 rfl) (by decide) (fun c3 => ?_) (fun c3 => ?_)
    · replace h := h.1 c3
      refine v_iload_n (pc := 21) (dk dt_S_newLength 14 rfl) rfl rfl ?_
      refine v_iload_n (pc := 22) (dk dt_S_newLength 15 rfl) rfl rfl ?_
      exact h.elim
    · replace h := h.2 c3
      refine v_iload_n (pc := 19) (dk dt_S_newLength 12 rfl) rfl rfl ?_
      exact v_iret (pc := 20) (dk dt_S_newLength 13 rfl) rfl h
set_option maxRecDepth 20000 in
theorem i_S_newLength {E : EE} {l0 l1 l2 : Int} {G : Gt} {c s : Nat} {Q X : Int → Gt → Prop} (h : (i32 (l0 + (max l1 l2)) ∧ (((l0 + (max l1 l2)) ≤ 0 → False) ∧ (0 < (l0 + (max l1 l2)) → ((2147483639 < (l0 + (max l1 l2)) → False) ∧ ((l0 + (max l1 l2)) ≤ 2147483639 → Q (l0 + (max l1 l2)) G)))))) : Ok E M_S_newLength [iv l0, iv l1, iv l2] G c s Q X := Ok.intro (k := 1) rfl rfl (Nat.le_of_ble_eq_true rfl) rfl (b_S_newLength_0 h)
set_option maxRecDepth 20000 in
theorem b_T_floorMod_0 {E : EE} {l0 l1 : Int} {G : Gt} {c s : Nat} {Q X : Int → Gt → Prop} (h : (l1 ≠ 0 ∧ i32 (Int.tdiv l0 l1) ∧ i32 (Int.tmod l0 l1) ∧ ((0 ≤ (xor32 l0 l1) → Q (Int.tmod l0 l1) G) ∧ ((xor32 l0 l1) < 0 → (((Int.tmod l0 l1) = 0 → Q (Int.tmod l0 l1) G) ∧ ((Int.tmod l0 l1) ≠ 0 → (i32 ((Int.tmod l0 l1) + l1) ∧ Q ((Int.tmod l0 l1) + l1) G))))))) : V E M_T_floorMod 0 [some (iv l0), some (iv l1), none] [] G c s Q X := by
  refine v_iload_n (pc := 0) (dk dt_T_floorMod 0 rfl) rfl rfl ?_
  refine v_iload_n (pc := 1) (dk dt_T_floorMod 1 rfl) rfl rfl ?_
  obtain ⟨v1, h⟩ := h
  obtain ⟨v2, h⟩ := h
  obtain ⟨v3, h⟩ := h
  refine v_irem (pc := 2) (dk dt_T_floorMod 2 rfl) v1 v2 v3 ?_
  refine v_istore_n (pc := 3) (ls' := [some (iv l0), some (iv l1), some (iv (Int.tmod l0 l1))]) (dk dt_T_floorMod 3 rfl) rfl (Nat.le_of_ble_eq_true rfl) rfl ?_
  refine v_iload_n (pc := 4) (dk dt_T_floorMod 4 rfl) rfl rfl ?_
  refine v_iload_n (pc := 5) (dk dt_T_floorMod 5 rfl) rfl rfl ?_
  refine v_ixor (pc := 6) (dk dt_T_floorMod 6 rfl) ?_
  refine v_if_ge (pc := 7) (tgt := 18) (dk dt_T_floorMod 7 rfl) (by decide) (fun c4 => ?_) (fun c4 => ?_)
  · replace h := h.1 c4
    refine v_iload_n (pc := 18) (dk dt_T_floorMod 14 rfl) rfl rfl ?_
    exact v_iret (pc := 19) (dk dt_T_floorMod 15 rfl) rfl h
  · replace h := h.2 c4
    refine v_iload_n (pc := 10) (dk dt_T_floorMod 8 rfl) rfl rfl ?_
    refine v_if_eq (pc := 11) (tgt := 18) (dk dt_T_floorMod 9 rfl) (by decide) (fun c5 => ?_) (fun c5 => ?_)
    · replace h := h.1 c5
      refine v_iload_n (pc := 18) (dk dt_T_floorMod 14 rfl) rfl rfl ?_
      exact v_iret (pc := 19) (dk dt_T_floorMod 15 rfl) rfl h
    · replace h := h.2 c5
      refine v_iload_n (pc := 14) (dk dt_T_floorMod 10 rfl) rfl rfl ?_
      refine v_iload_n (pc := 15) (dk dt_T_floorMod 11 rfl) rfl rfl ?_
      obtain ⟨v6, h⟩ := h
      refine v_iadd (pc := 16) (dk dt_T_floorMod 12 rfl) v6 ?_
      exact v_iret (pc := 17) (dk dt_T_floorMod 13 rfl) rfl h
set_option maxRecDepth 20000 in
theorem i_T_floorMod {E : EE} {l0 l1 : Int} {G : Gt} {c s : Nat} {Q X : Int → Gt → Prop} (h : (l1 ≠ 0 ∧ i32 (Int.tdiv l0 l1) ∧ i32 (Int.tmod l0 l1) ∧ ((0 ≤ (xor32 l0 l1) → Q (Int.tmod l0 l1) G) ∧ ((xor32 l0 l1) < 0 → (((Int.tmod l0 l1) = 0 → Q (Int.tmod l0 l1) G) ∧ ((Int.tmod l0 l1) ≠ 0 → (i32 ((Int.tmod l0 l1) + l1) ∧ Q ((Int.tmod l0 l1) + l1) G))))))) : Ok E M_T_floorMod [iv l0, iv l1] G c s Q X := Ok.introF (k := 1) (by decide +kernel) rfl (Nat.le_of_ble_eq_true rfl) rfl (b_T_floorMod_0 h)
