set_option maxRecDepth 20000 in
theorem b_X0_init_0 {E : EE} {l0 l1 l2 : Int} {G : Gt} {c s : Nat} {Q X : Int → Gt → Prop} (h : (0 ≤ l0 ∧ gcl G l0 = 1 ∧ ∀ G3 : Gt, G3 = (sfd G 0 1 l0 0) → gcl G3 l0 = 1 ∧ ∀ G5 : Gt, G5 = (sfd G3 0 2 l0 0) → gcl G5 l0 = 1 ∧ ∀ G7 : Gt, G7 = (sfd G5 0 0 l0 l1) → gcl G7 l0 = 1 ∧ ∀ G9 : Gt, G9 = (sfd G7 0 3 l0 l2) → gcl G9 l0 = 1 ∧ ∀ G11 : Gt, G11 = (sfd G9 0 4 l0 l2) → Q 0 G11)) : V E M_X0_init 0 [some (rv l0), some (iv l1), some (iv l2)] [] G c s Q X := by
  refine v_aload_n (pc := 0) (dk dt_X0_init 0 rfl) rfl rfl ?_
  obtain ⟨v1, h⟩ := h
  refine v_objInit (pc := 1) (dk dt_X0_init 1 rfl) mw_X0_3 (Nat.le_of_ble_eq_true rfl) (Nat.le_of_ble_eq_true rfl) (Nat.le_of_ble_eq_true rfl) v1 ?_
  refine v_aload_n (pc := 4) (dk dt_X0_init 2 rfl) rfl rfl ?_
  refine v_iconst (pc := 5) (dk dt_X0_init 3 rfl) ⟨by decide, by decide⟩ ?_
  obtain ⟨v2, h⟩ := h
  refine v_putZ (pc := 6) (dk dt_X0_init 4 rfl) fl_X0_9 (Or.inl rfl) v2 (Or.inl rfl) ?_
  generalize hG3 : (sfd G 0 1 l0 0) = G3
  replace h := h G3 hG3.symm
  refine v_aload_n (pc := 9) (dk dt_X0_init 5 rfl) rfl rfl ?_
  refine v_iconst (pc := 10) (dk dt_X0_init 6 rfl) ⟨by decide, by decide⟩ ?_
  obtain ⟨v4, h⟩ := h
  refine v_putZ (pc := 11) (dk dt_X0_init 7 rfl) fl_X0_15 (Or.inl rfl) v4 (Or.inl rfl) ?_
  generalize hG5 : (sfd G3 0 2 l0 0) = G5
  replace h := h G5 hG5.symm
  refine v_aload_n (pc := 14) (dk dt_X0_init 8 rfl) rfl rfl ?_
  refine v_iload_n (pc := 15) (dk dt_X0_init 9 rfl) rfl rfl ?_
  obtain ⟨v6, h⟩ := h
  refine v_putI (pc := 16) (dk dt_X0_init 10 rfl) fl_X0_18 (Or.inr ⟨rfl, rfl⟩) v6 ?_
  generalize hG7 : (sfd G5 0 0 l0 l1) = G7
  replace h := h G7 hG7.symm
  refine v_aload_n (pc := 19) (dk dt_X0_init 11 rfl) rfl rfl ?_
  refine v_iload_n (pc := 20) (dk dt_X0_init 12 rfl) rfl rfl ?_
  obtain ⟨v8, h⟩ := h
  refine v_putI (pc := 21) (dk dt_X0_init 13 rfl) fl_X0_22 (Or.inl rfl) v8 ?_
  generalize hG9 : (sfd G7 0 3 l0 l2) = G9
  replace h := h G9 hG9.symm
  refine v_aload_n (pc := 24) (dk dt_X0_init 14 rfl) rfl rfl ?_
  refine v_iload_n (pc := 25) (dk dt_X0_init 15 rfl) rfl rfl ?_
  obtain ⟨v10, h⟩ := h
  refine v_putI (pc := 26) (dk dt_X0_init 16 rfl) fl_X0_25 (Or.inl rfl) v10 ?_
  generalize hG11 : (sfd G9 0 4 l0 l2) = G11
  replace h := h G11 hG11.symm
  exact v_vret (pc := 29) (dk dt_X0_init 17 rfl) rfl h
set_option maxRecDepth 20000 in
theorem i_X0_init {E : EE} {l0 l1 l2 : Int} {G : Gt} {c s : Nat} {Q X : Int → Gt → Prop} (h : (0 ≤ l0 ∧ gcl G l0 = 1 ∧ ∀ G3 : Gt, G3 = (sfd G 0 1 l0 0) → gcl G3 l0 = 1 ∧ ∀ G5 : Gt, G5 = (sfd G3 0 2 l0 0) → gcl G5 l0 = 1 ∧ ∀ G7 : Gt, G7 = (sfd G5 0 0 l0 l1) → gcl G7 l0 = 1 ∧ ∀ G9 : Gt, G9 = (sfd G7 0 3 l0 l2) → gcl G9 l0 = 1 ∧ ∀ G11 : Gt, G11 = (sfd G9 0 4 l0 l2) → Q 0 G11)) : Ok E M_X0_init [rv l0, iv l1, iv l2] G c s Q X := Ok.intro (k := 0) rfl rfl (Nat.le_of_ble_eq_true rfl) rfl (b_X0_init_0 h)
set_option maxRecDepth 20000 in
theorem b_X0_fire_0 {E : EE} {l0 l1 : Int} {G : Gt} {c s : Nat} {Q X : Int → Gt → Prop} (h : (gcl G l0 = 1 ∧ ∀ G2 : Gt, G2 = (sfd G 0 1 l0 1) → gcl G2 l0 = 1 ∧ ∀ G4 : Gt, G4 = (sfd G2 0 2 l0 0) → gcl G4 l0 = 1 ∧ ∀ G6 : Gt, G6 = (sfd G4 0 3 l0 l1) → Q 0 G6)) : V E M_X0_fire 0 [some (rv l0), some (iv l1)] [] G c s Q X := by
  refine v_aload_n (pc := 0) (dk dt_X0_fire 0 rfl) rfl rfl ?_
  refine v_iconst (pc := 1) (dk dt_X0_fire 1 rfl) ⟨by decide, by decide⟩ ?_
  obtain ⟨v1, h⟩ := h
  refine v_putZ (pc := 2) (dk dt_X0_fire 2 rfl) fl_X0_9 (Or.inl rfl) v1 (Or.inr rfl) ?_
  generalize hG2 : (sfd G 0 1 l0 1) = G2
  replace h := h G2 hG2.symm
  refine v_aload_n (pc := 5) (dk dt_X0_fire 3 rfl) rfl rfl ?_
  refine v_iconst (pc := 6) (dk dt_X0_fire 4 rfl) ⟨by decide, by decide⟩ ?_
  obtain ⟨v3, h⟩ := h
  refine v_putZ (pc := 7) (dk dt_X0_fire 5 rfl) fl_X0_15 (Or.inl rfl) v3 (Or.inl rfl) ?_
  generalize hG4 : (sfd G2 0 2 l0 0) = G4
  replace h := h G4 hG4.symm
  refine v_aload_n (pc := 10) (dk dt_X0_fire 6 rfl) rfl rfl ?_
  refine v_iload_n (pc := 11) (dk dt_X0_fire 7 rfl) rfl rfl ?_
  obtain ⟨v5, h⟩ := h
  refine v_putI (pc := 12) (dk dt_X0_fire 8 rfl) fl_X0_22 (Or.inl rfl) v5 ?_
  generalize hG6 : (sfd G4 0 3 l0 l1) = G6
  replace h := h G6 hG6.symm
  exact v_vret (pc := 15) (dk dt_X0_fire 9 rfl) rfl h
set_option maxRecDepth 20000 in
theorem i_X0_fire {E : EE} {l0 l1 : Int} {G : Gt} {c s : Nat} {Q X : Int → Gt → Prop} (h : (gcl G l0 = 1 ∧ ∀ G2 : Gt, G2 = (sfd G 0 1 l0 1) → gcl G2 l0 = 1 ∧ ∀ G4 : Gt, G4 = (sfd G2 0 2 l0 0) → gcl G4 l0 = 1 ∧ ∀ G6 : Gt, G6 = (sfd G4 0 3 l0 l1) → Q 0 G6)) : Ok E M_X0_fire [rv l0, iv l1] G c s Q X := Ok.intro (k := 0) rfl rfl (Nat.le_of_ble_eq_true rfl) rfl (b_X0_fire_0 h)
set_option maxRecDepth 20000 in
theorem b_X0_tell_0 {E : EE} {l0 l1 : Int} {G : Gt} {c s : Nat} {Q X : Int → Gt → Prop} (h : ((l1 = 0 → (gcl G l0 = 1 ∧ Q (gfd G 0 0 l0) G)) ∧ (l1 = 1 → (gcl G l0 = 1 ∧ Q (if (gfd G 0 1 l0) = 0 then (0 : Int) else 1) G)) ∧ (l1 = 2 → (gcl G l0 = 1 ∧ Q (gfd G 0 3 l0) G)) ∧ (l1 < 0 ∨ 2 < l1 → (gcl G l0 = 1 ∧ Q (if (gfd G 0 2 l0) = 0 then (0 : Int) else 1) G)))) : V E M_X0_tell 0 [some (rv l0), some (iv l1)] [] G c s Q X := by
  refine v_iload_n (pc := 0) (dk dt_X0_tell 0 rfl) rfl rfl ?_
  refine v_tsw2 (pc := 1) [28, 33, 46] 51 (dk dt_X0_tell 1 rfl) (by decide) ⟨rfl, rfl⟩ (by decide) (fun j hj hx => ?_) (fun hx => ?_)
  · have hj2 : j < 3 := hj
    rcases (show j = 0 ∨ j = 1 ∨ j = 2 by omega) with rfl | rfl | rfl
    · replace h := h.1 (by simpa using hx)
      refine v_aload_n (pc := 28) (dk dt_X0_tell 2 rfl) rfl rfl ?_
      obtain ⟨v1, h⟩ := h
      refine v_getI (pc := 29) (dk dt_X0_tell 3 rfl) fl_X0_18 v1 (fun _ => ?_)
      exact v_iret (pc := 32) (dk dt_X0_tell 4 rfl) rfl h
    · replace h := h.2.1 (by simpa using hx)
      refine v_aload_n (pc := 33) (dk dt_X0_tell 5 rfl) rfl rfl ?_
      obtain ⟨v2, h⟩ := h
      refine v_getZ (pc := 34) (dk dt_X0_tell 6 rfl) fl_X0_9 v2 (fun _ => ?_)
      suffices k7 : V E M_X0_tell 45 [none, none] [iv (if (gfd G 0 1 l0) = 0 then (0 : Int) else 1)] G c s Q X by
        refine v_if_eq (pc := 37) (tgt := 44) (dk dt_X0_tell 7 rfl) (by decide) (fun c3 => ?_) (fun c3 => ?_)
        · refine v_iconst (pc := 44) (dk dt_X0_tell 10 rfl) ⟨by decide, by decide⟩ ?_
          exact v_less2 (ls' := [none, none]) trivial (by have hk9 := k7; try simp only [if_pos c3] at hk9 ⊢; exact hk9)
        · refine v_iconst (pc := 40) (dk dt_X0_tell 8 rfl) ⟨by decide, by decide⟩ ?_
          refine v_goto (pc := 41) (tgt := 45) (dk dt_X0_tell 9 rfl) (by decide) ?_
          exact v_less2 (ls' := [none, none]) trivial (by have hk9 := k7; try simp only [if_neg c3] at hk9 ⊢; exact hk9)
      exact v_iret (pc := 45) (dk dt_X0_tell 11 rfl) rfl h
    · replace h := h.2.2.1 (by simpa using hx)
      refine v_aload_n (pc := 46) (dk dt_X0_tell 12 rfl) rfl rfl ?_
      obtain ⟨v4, h⟩ := h
      refine v_getI (pc := 47) (dk dt_X0_tell 13 rfl) fl_X0_22 v4 (fun _ => ?_)
      exact v_iret (pc := 50) (dk dt_X0_tell 14 rfl) rfl h
  · replace h := h.2.2.2 hx
    refine v_aload_n (pc := 51) (dk dt_X0_tell 15 rfl) rfl rfl ?_
    obtain ⟨v5, h⟩ := h
    refine v_getZ (pc := 52) (dk dt_X0_tell 16 rfl) fl_X0_15 v5 (fun _ => ?_)
    suffices k8 : V E M_X0_tell 63 [none, none] [iv (if (gfd G 0 2 l0) = 0 then (0 : Int) else 1)] G c s Q X by
      refine v_if_eq (pc := 55) (tgt := 62) (dk dt_X0_tell 17 rfl) (by decide) (fun c6 => ?_) (fun c6 => ?_)
      · refine v_iconst (pc := 62) (dk dt_X0_tell 20 rfl) ⟨by decide, by decide⟩ ?_
        exact v_less2 (ls' := [none, none]) trivial (by have hk9 := k8; try simp only [if_pos c6] at hk9 ⊢; exact hk9)
      · refine v_iconst (pc := 58) (dk dt_X0_tell 18 rfl) ⟨by decide, by decide⟩ ?_
        refine v_goto (pc := 59) (tgt := 63) (dk dt_X0_tell 19 rfl) (by decide) ?_
        exact v_less2 (ls' := [none, none]) trivial (by have hk9 := k8; try simp only [if_neg c6] at hk9 ⊢; exact hk9)
    exact v_iret (pc := 63) (dk dt_X0_tell 21 rfl) rfl h
set_option maxRecDepth 20000 in
theorem i_X0_tell {E : EE} {l0 l1 : Int} {G : Gt} {c s : Nat} {Q X : Int → Gt → Prop} (h : ((l1 = 0 → (gcl G l0 = 1 ∧ Q (gfd G 0 0 l0) G)) ∧ (l1 = 1 → (gcl G l0 = 1 ∧ Q (if (gfd G 0 1 l0) = 0 then (0 : Int) else 1) G)) ∧ (l1 = 2 → (gcl G l0 = 1 ∧ Q (gfd G 0 3 l0) G)) ∧ (l1 < 0 ∨ 2 < l1 → (gcl G l0 = 1 ∧ Q (if (gfd G 0 2 l0) = 0 then (0 : Int) else 1) G)))) : Ok E M_X0_tell [rv l0, iv l1] G c s Q X := Ok.intro (k := 0) rfl rfl (Nat.le_of_ble_eq_true rfl) rfl (b_X0_tell_0 h)
set_option maxRecDepth 20000 in
theorem b_X1_init_0 {E : EE} {l0 l1 l2 : Int} {G : Gt} {c s : Nat} {Q X : Int → Gt → Prop} (h : (0 ≤ l0 ∧ gcl G l0 = 2 ∧ ∀ G3 : Gt, G3 = (sfd G 1 0 l0 l1) → gcl G3 l0 = 2 ∧ (l2 = 0 ∨ l2 = 1) ∧ ∀ G6 : Gt, G6 = (sfd G3 1 1 l0 l2) → Q 0 G6)) : V E M_X1_init 0 [some (rv l0), some (rv l1), some (iv l2)] [] G c s Q X := by
  refine v_aload_n (pc := 0) (dk dt_X1_init 0 rfl) rfl rfl ?_
  obtain ⟨v1, h⟩ := h
  refine v_objInit (pc := 1) (dk dt_X1_init 1 rfl) mw_X1_1 (Nat.le_of_ble_eq_true rfl) (Nat.le_of_ble_eq_true rfl) (Nat.le_of_ble_eq_true rfl) v1 ?_
  refine v_aload_n (pc := 4) (dk dt_X1_init 2 rfl) rfl rfl ?_
  refine v_aload_n (pc := 5) (dk dt_X1_init 3 rfl) rfl rfl ?_
  obtain ⟨v2, h⟩ := h
  refine v_putR (pc := 6) (dk dt_X1_init 4 rfl) fl_X1_7 (Or.inr ⟨rfl, rfl⟩) v2 ?_
  generalize hG3 : (sfd G 1 0 l0 l1) = G3
  replace h := h G3 hG3.symm
  refine v_aload_n (pc := 9) (dk dt_X1_init 5 rfl) rfl rfl ?_
  refine v_iload_n (pc := 10) (dk dt_X1_init 6 rfl) rfl rfl ?_
  obtain ⟨v4, h⟩ := h
  obtain ⟨v5, h⟩ := h
  refine v_putZ (pc := 11) (dk dt_X1_init 7 rfl) fl_X1_13 (Or.inr ⟨rfl, rfl⟩) v4 v5 ?_
  generalize hG6 : (sfd G3 1 1 l0 l2) = G6
  replace h := h G6 hG6.symm
  exact v_vret (pc := 14) (dk dt_X1_init 8 rfl) rfl h
set_option maxRecDepth 20000 in
theorem i_X1_init {E : EE} {l0 l1 l2 : Int} {G : Gt} {c s : Nat} {Q X : Int → Gt → Prop} (h : (0 ≤ l0 ∧ gcl G l0 = 2 ∧ ∀ G3 : Gt, G3 = (sfd G 1 0 l0 l1) → gcl G3 l0 = 2 ∧ (l2 = 0 ∨ l2 = 1) ∧ ∀ G6 : Gt, G6 = (sfd G3 1 1 l0 l2) → Q 0 G6)) : Ok E M_X1_init [rv l0, rv l1, iv l2] G c s Q X := Ok.intro (k := 0) rfl rfl (Nat.le_of_ble_eq_true rfl) rfl (b_X1_init_0 h)
set_option maxRecDepth 20000 in
theorem b_X3_init_0 {E : EE} {l0 : Int} {G : Gt} {c s : Nat} {Q X : Int → Gt → Prop} (h : (0 ≤ l0 ∧ 1 ≤ c ∧ (12 : Int).toNat ≤ s ∧ ∀ q2 : Int, gcl G q2 = 0 → (eb E : Int) ≤ q2 → ∀ G5 : Gt, G5 = (newa G q2 15 12) → gcl G5 l0 = 4 ∧ ∀ G7 : Gt, G7 = (sfd G5 3 0 l0 q2) → 1 ≤ (c - 1) ∧ (12 : Int).toNat ≤ (s - (12 : Int).toNat) ∧ ∀ q8 : Int, gcl G7 q8 = 0 → (eb E : Int) ≤ q8 → ∀ G11 : Gt, G11 = (newa G7 q8 16 12) → gcl G11 l0 = 4 ∧ ∀ G13 : Gt, G13 = (sfd G11 3 1 l0 q8) → gcl G13 l0 = 4 ∧ ∀ G15 : Gt, G15 = (sfd G13 3 2 l0 0) → gcl G15 l0 = 4 ∧ ∀ G17 : Gt, G17 = (sfd G15 3 3 l0 0) → Q 0 G17)) : V E M_X3_init 0 [some (rv l0)] [] G c s Q X := by
  refine v_aload_n (pc := 0) (dk dt_X3_init 0 rfl) rfl rfl ?_
  obtain ⟨v1, h⟩ := h
  refine v_objInit (pc := 1) (dk dt_X3_init 1 rfl) mw_X3_3 (Nat.le_of_ble_eq_true rfl) (Nat.le_of_ble_eq_true rfl) (Nat.le_of_ble_eq_true rfl) v1 ?_
  refine v_aload_n (pc := 4) (dk dt_X3_init 2 rfl) rfl rfl ?_
  refine v_bipush (pc := 5) (dk dt_X3_init 3 rfl) (by decide) ⟨by decide, by decide⟩ ?_
  obtain ⟨v3, h⟩ := h
  obtain ⟨v4, h⟩ := h
  refine v_newa (t := 15) (i := 0) (ty := .int) (pc := 7) (dk dt_X3_init 4 rfl) ac_int rfl (Or.inl ⟨rfl, rfl, rfl⟩) (by decide) (by decide) v3 v4 (fun q2 hq2 gq2 => ?_)
  replace h := h q2 hq2 gq2
  generalize hG5 : (newa G q2 15 12) = G5
  replace h := h G5 hG5.symm
  obtain ⟨v6, h⟩ := h
  refine v_putR (pc := 9) (dk dt_X3_init 5 rfl) fl_X3_9 (Or.inr ⟨rfl, rfl⟩) v6 ?_
  generalize hG7 : (sfd G5 3 0 l0 q2) = G7
  replace h := h G7 hG7.symm
  refine v_aload_n (pc := 12) (dk dt_X3_init 6 rfl) rfl rfl ?_
  refine v_bipush (pc := 13) (dk dt_X3_init 7 rfl) (by decide) ⟨by decide, by decide⟩ ?_
  obtain ⟨v9, h⟩ := h
  obtain ⟨v10, h⟩ := h
  refine v_newa (t := 16) (i := 1) (ty := .long) (pc := 15) (dk dt_X3_init 8 rfl) ac_long rfl (Or.inr (Or.inl ⟨rfl, rfl, rfl⟩)) (by decide) (by decide) v9 v10 (fun q8 hq8 gq8 => ?_)
  replace h := h q8 hq8 gq8
  generalize hG11 : (newa G7 q8 16 12) = G11
  replace h := h G11 hG11.symm
  obtain ⟨v12, h⟩ := h
  refine v_putR (pc := 17) (dk dt_X3_init 9 rfl) fl_X3_15 (Or.inr ⟨rfl, rfl⟩) v12 ?_
  generalize hG13 : (sfd G11 3 1 l0 q8) = G13
  replace h := h G13 hG13.symm
  refine v_aload_n (pc := 20) (dk dt_X3_init 10 rfl) rfl rfl ?_
  refine v_iconst (pc := 21) (dk dt_X3_init 11 rfl) ⟨by decide, by decide⟩ ?_
  obtain ⟨v14, h⟩ := h
  refine v_putI (pc := 22) (dk dt_X3_init 12 rfl) fl_X3_19 (Or.inl rfl) v14 ?_
  generalize hG15 : (sfd G13 3 2 l0 0) = G15
  replace h := h G15 hG15.symm
  refine v_aload_n (pc := 25) (dk dt_X3_init 13 rfl) rfl rfl ?_
  refine v_iconst (pc := 26) (dk dt_X3_init 14 rfl) ⟨by decide, by decide⟩ ?_
  obtain ⟨v16, h⟩ := h
  refine v_putZ (pc := 27) (dk dt_X3_init 15 rfl) fl_X3_23 (Or.inl rfl) v16 (Or.inl rfl) ?_
  generalize hG17 : (sfd G15 3 3 l0 0) = G17
  replace h := h G17 hG17.symm
  exact v_vret (pc := 30) (dk dt_X3_init 16 rfl) rfl h
set_option maxRecDepth 20000 in
theorem i_X3_init {E : EE} {l0 : Int} {G : Gt} {c s : Nat} {Q X : Int → Gt → Prop} (h : (0 ≤ l0 ∧ 1 ≤ c ∧ (12 : Int).toNat ≤ s ∧ ∀ q2 : Int, gcl G q2 = 0 → (eb E : Int) ≤ q2 → ∀ G5 : Gt, G5 = (newa G q2 15 12) → gcl G5 l0 = 4 ∧ ∀ G7 : Gt, G7 = (sfd G5 3 0 l0 q2) → 1 ≤ (c - 1) ∧ (12 : Int).toNat ≤ (s - (12 : Int).toNat) ∧ ∀ q8 : Int, gcl G7 q8 = 0 → (eb E : Int) ≤ q8 → ∀ G11 : Gt, G11 = (newa G7 q8 16 12) → gcl G11 l0 = 4 ∧ ∀ G13 : Gt, G13 = (sfd G11 3 1 l0 q8) → gcl G13 l0 = 4 ∧ ∀ G15 : Gt, G15 = (sfd G13 3 2 l0 0) → gcl G15 l0 = 4 ∧ ∀ G17 : Gt, G17 = (sfd G15 3 3 l0 0) → Q 0 G17)) : Ok E M_X3_init [rv l0] G c s Q X := Ok.intro (k := 0) rfl rfl (Nat.le_of_ble_eq_true rfl) rfl (b_X3_init_0 h)
set_option maxRecDepth 20000 in
theorem b_X3_becomeVector_0 {E : EE} {l0 : Int} {G : Gt} {c s : Nat} {Q X : Int → Gt → Prop} (h : (gcl G l0 = 4 ∧ ∀ G2 : Gt, G2 = (sfd G 3 2 l0 0) → gcl G2 l0 = 4 ∧ ∀ G4 : Gt, G4 = (sfd G2 3 3 l0 0) → Q 0 G4)) : V E M_X3_becomeVector 0 [some (rv l0)] [] G c s Q X := by
  refine v_aload_n (pc := 0) (dk dt_X3_becomeVector 0 rfl) rfl rfl ?_
  refine v_iconst (pc := 1) (dk dt_X3_becomeVector 1 rfl) ⟨by decide, by decide⟩ ?_
  obtain ⟨v1, h⟩ := h
  refine v_putI (pc := 2) (dk dt_X3_becomeVector 2 rfl) fl_X3_19 (Or.inl rfl) v1 ?_
  generalize hG2 : (sfd G 3 2 l0 0) = G2
  replace h := h G2 hG2.symm
  refine v_aload_n (pc := 5) (dk dt_X3_becomeVector 3 rfl) rfl rfl ?_
  refine v_iconst (pc := 6) (dk dt_X3_becomeVector 4 rfl) ⟨by decide, by decide⟩ ?_
  obtain ⟨v3, h⟩ := h
  refine v_putZ (pc := 7) (dk dt_X3_becomeVector 5 rfl) fl_X3_23 (Or.inl rfl) v3 (Or.inl rfl) ?_
  generalize hG4 : (sfd G2 3 3 l0 0) = G4
  replace h := h G4 hG4.symm
  exact v_vret (pc := 10) (dk dt_X3_becomeVector 6 rfl) rfl h
set_option maxRecDepth 20000 in
theorem i_X3_becomeVector {E : EE} {l0 : Int} {G : Gt} {c s : Nat} {Q X : Int → Gt → Prop} (h : (gcl G l0 = 4 ∧ ∀ G2 : Gt, G2 = (sfd G 3 2 l0 0) → gcl G2 l0 = 4 ∧ ∀ G4 : Gt, G4 = (sfd G2 3 3 l0 0) → Q 0 G4)) : Ok E M_X3_becomeVector [rv l0] G c s Q X := Ok.intro (k := 0) rfl rfl (Nat.le_of_ble_eq_true rfl) rfl (b_X3_becomeVector_0 h)
set_option maxRecDepth 20000 in
theorem b_X3_becomeNumber_0 {E : EE} {l0 l1 : Int} {G : Gt} {c s : Nat} {Q X : Int → Gt → Prop} (h : (gcl G l0 = 4 ∧ ∀ G2 : Gt, G2 = (sfd G 3 2 l0 0) → gcl G2 l0 = 4 ∧ Call E M_X3_put [rv l0, iv 666, jv l1] G2 c s X (fun r4 G5 c6 s7 => gcl G5 l0 = 4 ∧ ∀ G9 : Gt, G9 = (sfd G5 3 3 l0 1) → Q 0 G9))) : V E M_X3_becomeNumber 0 [some (rv l0), some (jv l1), none] [] G c s Q X := by
  refine v_aload_n (pc := 0) (dk dt_X3_becomeNumber 0 rfl) rfl rfl ?_
  refine v_iconst (pc := 1) (dk dt_X3_becomeNumber 1 rfl) ⟨by decide, by decide⟩ ?_
  obtain ⟨v1, h⟩ := h
  refine v_putI (pc := 2) (dk dt_X3_becomeNumber 2 rfl) fl_X3_19 (Or.inl rfl) v1 ?_
  generalize hG2 : (sfd G 3 2 l0 0) = G2
  replace h := h G2 hG2.symm
  refine v_aload_n (pc := 5) (dk dt_X3_becomeNumber 3 rfl) rfl rfl ?_
  refine v_sipush (pc := 6) (dk dt_X3_becomeNumber 4 rfl) (by decide) ⟨by decide, by decide⟩ ?_
  refine v_lload_n (pc := 9) (dk dt_X3_becomeNumber 5 rfl) rfl rfl ?_
  obtain ⟨v3, h⟩ := h
  refine v_cvV (c := 3) (As := [iv 666, jv l1]) (stk := []) (pc := 10) (dk dt_X3_becomeNumber 6 rfl) ml_X3_27 rfl rfl (Nat.le_of_ble_eq_true rfl) rfl ⟨by decide, rfl⟩ v3 rfl (Call.mono h (fun r4 G5 c6 s7 h => ?_))
  refine v_aload_n (pc := 13) (dk dt_X3_becomeNumber 7 rfl) rfl rfl ?_
  refine v_iconst (pc := 14) (dk dt_X3_becomeNumber 8 rfl) ⟨by decide, by decide⟩ ?_
  obtain ⟨v8, h⟩ := h
  refine v_putZ (pc := 15) (dk dt_X3_becomeNumber 9 rfl) fl_X3_23 (Or.inl rfl) v8 (Or.inr rfl) ?_
  generalize hG9 : (sfd G5 3 3 l0 1) = G9
  replace h := h G9 hG9.symm
  exact v_vret (pc := 18) (dk dt_X3_becomeNumber 10 rfl) rfl h
set_option maxRecDepth 20000 in
theorem i_X3_becomeNumber {E : EE} {l0 l1 : Int} {G : Gt} {c s : Nat} {Q X : Int → Gt → Prop} (h : (gcl G l0 = 4 ∧ ∀ G2 : Gt, G2 = (sfd G 3 2 l0 0) → gcl G2 l0 = 4 ∧ Call E M_X3_put [rv l0, iv 666, jv l1] G2 c s X (fun r4 G5 c6 s7 => gcl G5 l0 = 4 ∧ ∀ G9 : Gt, G9 = (sfd G5 3 3 l0 1) → Q 0 G9))) : Ok E M_X3_becomeNumber [rv l0, jv l1] G c s Q X := Ok.intro (k := 0) rfl rfl (Nat.le_of_ble_eq_true rfl) rfl (b_X3_becomeNumber_0 h)
set_option maxRecDepth 20000 in
theorem b_X3_single_0 {E : EE} {l0 : Int} {G : Gt} {c s : Nat} {Q X : Int → Gt → Prop} (h : (gcl G l0 = 4 ∧ ((gfd G 3 3 l0) ≠ 0 → gcl G l0 = 4) ∧ ((gfd G 3 3 l0) ≠ 0 → 0 < (gfd G 3 2 l0) → gcl G l0 = 4) ∧ ((gfd G 3 3 l0) ≠ 0 → 0 < (gfd G 3 2 l0) → gcl G (gfd G 3 1 l0) = 16) ∧ ((gfd G 3 3 l0) ≠ 0 → 0 < (gfd G 3 2 l0) → 0 < gln G (gfd G 3 1 l0)) ∧ Q (if (gfd G 3 3 l0) = 0 then (0 : Int) else (if (gfd G 3 2 l0) ≤ 0 then (0 : Int) else (gel G (gfd G 3 1 l0) 0))) G)) : V E M_X3_single 0 [some (rv l0)] [] G c s Q X := by
  refine v_aload_n (pc := 0) (dk dt_X3_single 0 rfl) rfl rfl ?_
  obtain ⟨v1, h⟩ := h
  refine v_getZ (pc := 1) (dk dt_X3_single 1 rfl) fl_X3_23 v1 (fun _ => ?_)
  obtain ⟨v3, v5, v6, v7, h⟩ := h
  suffices k8 : V E M_X3_single 24 [none] [jv (if (gfd G 3 3 l0) = 0 then (0 : Int) else (if (gfd G 3 2 l0) ≤ 0 then (0 : Int) else (gel G (gfd G 3 1 l0) 0)))] G c s Q X by
    refine v_if_eq (pc := 4) (tgt := 23) (dk dt_X3_single 2 rfl) (by decide) (fun c2 => ?_) (fun c2 => ?_)
    · refine v_lconst (x := 0) (pc := 23) (dk dt_X3_single 11 rfl) (by decide) ⟨by decide, by decide⟩ ?_
      exact v_less2 (ls' := [none]) trivial (by have hk9 := k8; try simp only [if_pos c2] at hk9 ⊢; exact hk9)
    · refine v_aload_n (pc := 7) (dk dt_X3_single 3 rfl) rfl rfl ?_
      refine v_getI (pc := 8) (dk dt_X3_single 4 rfl) fl_X3_19 (v3 c2) (fun _ => ?_)
      refine v_if_le (pc := 11) (tgt := 23) (dk dt_X3_single 5 rfl) (by decide) (fun c4 => ?_) (fun c4 => ?_)
      · refine v_lconst (x := 0) (pc := 23) (dk dt_X3_single 11 rfl) (by decide) ⟨by decide, by decide⟩ ?_
        exact v_less2 (ls' := [none]) trivial (by have hk9 := k8; try simp only [if_neg c2] at hk9 ⊢; try simp only [if_pos c4] at hk9 ⊢; exact hk9)
      · refine v_aload_n (pc := 14) (dk dt_X3_single 6 rfl) rfl rfl ?_
        refine v_getR (pc := 15) (dk dt_X3_single 7 rfl) fl_X3_15 (v5 c2 c4) (fun _ => ?_)
        refine v_iconst (pc := 18) (dk dt_X3_single 8 rfl) ⟨by decide, by decide⟩ ?_
        refine v_lald (pc := 19) (dk dt_X3_single 9 rfl) (v6 c2 c4) (by decide) (v7 c2 c4) (fun _ => ?_)
        refine v_goto (pc := 20) (tgt := 24) (dk dt_X3_single 10 rfl) (by decide) ?_
        exact v_less2 (ls' := [none]) trivial (by have hk9 := k8; try simp only [if_neg c2] at hk9 ⊢; try simp only [if_neg (Int.not_le.mpr c4)] at hk9 ⊢; exact hk9)
  exact v_lret (pc := 24) (dk dt_X3_single 12 rfl) rfl h
set_option maxRecDepth 20000 in
theorem i_X3_single {E : EE} {l0 : Int} {G : Gt} {c s : Nat} {Q X : Int → Gt → Prop} (h : (gcl G l0 = 4 ∧ ((gfd G 3 3 l0) ≠ 0 → gcl G l0 = 4) ∧ ((gfd G 3 3 l0) ≠ 0 → 0 < (gfd G 3 2 l0) → gcl G l0 = 4) ∧ ((gfd G 3 3 l0) ≠ 0 → 0 < (gfd G 3 2 l0) → gcl G (gfd G 3 1 l0) = 16) ∧ ((gfd G 3 3 l0) ≠ 0 → 0 < (gfd G 3 2 l0) → 0 < gln G (gfd G 3 1 l0)) ∧ Q (if (gfd G 3 3 l0) = 0 then (0 : Int) else (if (gfd G 3 2 l0) ≤ 0 then (0 : Int) else (gel G (gfd G 3 1 l0) 0))) G)) : Ok E M_X3_single [rv l0] G c s Q X := Ok.intro (k := 0) rfl rfl (Nat.le_of_ble_eq_true rfl) rfl (b_X3_single_0 h)
set_option maxRecDepth 20000 in
theorem b_X3_find_0 {E : EE} {l0 l1 : Int} {G : Gt} {c s : Nat} {Q X : Int → Gt → Prop} (h : V E M_X3_find 2 [some (rv l0), some (iv l1), some (iv 0)] [] G c s Q X) : V E M_X3_find 0 [some (rv l0), some (iv l1), none] [] G c s Q X := by
  refine v_iconst (pc := 0) (dk dt_X3_find 0 rfl) ⟨by decide, by decide⟩ ?_
  refine v_istore_n (pc := 1) (ls' := [some (rv l0), some (iv l1), some (iv 0)]) (dk dt_X3_find 1 rfl) rfl (Nat.le_of_ble_eq_true rfl) rfl ?_
  exact h
set_option maxRecDepth 20000 in
theorem i_X3_find {E : EE} {l0 l1 : Int} {G : Gt} {c s : Nat} {Q X : Int → Gt → Prop} (h : V E M_X3_find 2 [some (rv l0), some (iv l1), some (iv 0)] [] G c s Q X) : Ok E M_X3_find [rv l0, iv l1] G c s Q X := Ok.intro (k := 1) rfl rfl (Nat.le_of_ble_eq_true rfl) rfl (b_X3_find_0 h)
set_option maxRecDepth 20000 in
theorem b_X3_find_2 {E : EE} {l0 l1 l2 : Int} {G : Gt} {c s : Nat} {Q X : Int → Gt → Prop} (h : (gcl G l0 = 4 ∧ (((gfd G 3 2 l0) ≤ l2 → Q (-1) G) ∧ (l2 < (gfd G 3 2 l0) → (gcl G l0 = 4 ∧ gcl G (gfd G 3 0 l0) = 15 ∧ 0 ≤ l2 ∧ l2 < gln G (gfd G 3 0 l0) ∧ (((gel G (gfd G 3 0 l0) l2) ≠ l1 → (i32 (l2 + 1) ∧ V E M_X3_find 2 [some (rv l0), some (iv l1), some (iv (l2 + 1))] [] G c s Q X)) ∧ ((gel G (gfd G 3 0 l0) l2) = l1 → Q l2 G))))))) : V E M_X3_find 2 [some (rv l0), some (iv l1), some (iv l2)] [] G c s Q X := by
  refine v_iload_n (pc := 2) (dk dt_X3_find 2 rfl) rfl rfl ?_
  refine v_aload_n (pc := 3) (dk dt_X3_find 3 rfl) rfl rfl ?_
  obtain ⟨v1, h⟩ := h
  refine v_getI (pc := 4) (dk dt_X3_find 4 rfl) fl_X3_19 v1 (fun _ => ?_)
  refine v_icmp_ge (pc := 7) (tgt := 28) (dk dt_X3_find 5 rfl) (by decide) (fun c2 => ?_) (fun c2 => ?_)
  · replace h := h.1 c2
    refine v_iconst (pc := 28) (dk dt_X3_find 16 rfl) ⟨by decide, by decide⟩ ?_
    exact v_iret (pc := 29) (dk dt_X3_find 17 rfl) rfl h
  · replace h := h.2 c2
    refine v_aload_n (pc := 10) (dk dt_X3_find 6 rfl) rfl rfl ?_
    obtain ⟨v3, h⟩ := h
    refine v_getR (pc := 11) (dk dt_X3_find 7 rfl) fl_X3_9 v3 (fun _ => ?_)
    refine v_iload_n (pc := 14) (dk dt_X3_find 8 rfl) rfl rfl ?_
    obtain ⟨v4, h⟩ := h
    obtain ⟨v5, h⟩ := h
    obtain ⟨v6, h⟩ := h
    refine v_iald (pc := 15) (dk dt_X3_find 9 rfl) (Or.inl v4) v5 v6 (fun _ => ?_)
    refine v_iload_n (pc := 16) (dk dt_X3_find 10 rfl) rfl rfl ?_
    refine v_icmp_ne (pc := 17) (tgt := 22) (dk dt_X3_find 11 rfl) (by decide) (fun c7 => ?_) (fun c7 => ?_)
    · replace h := h.1 c7
      obtain ⟨v8, h⟩ := h
      refine v_iinc (pc := 22) (ls' := [some (rv l0), some (iv l1), some (iv (l2 + 1))]) (dk dt_X3_find 14 rfl) (Nat.le_of_ble_eq_true rfl) rfl v8 rfl ?_
      refine v_goto (pc := 25) (tgt := 2) (dk dt_X3_find 15 rfl) (by decide) ?_
      exact h
    · replace h := h.2 c7
      refine v_iload_n (pc := 20) (dk dt_X3_find 12 rfl) rfl rfl ?_
      exact v_iret (pc := 21) (dk dt_X3_find 13 rfl) rfl h
set_option maxRecDepth 20000 in
theorem b_X3_put_0 {E : EE} {l0 l1 l2 : Int} {G : Gt} {c s : Nat} {Q X : Int → Gt → Prop} (h : (gcl G l0 = 4 ∧ gcl G l0 = 4 ∧ 15 ≤ gcl G (gfd G 3 0 l0) ∧ (((gln G (gfd G 3 0 l0)) ≤ (gfd G 3 2 l0) → Q 0 G) ∧ ((gfd G 3 2 l0) < (gln G (gfd G 3 0 l0)) → (gcl G l0 = 4 ∧ gcl G l0 = 4 ∧ 15 ≤ gcl G (gfd G 3 1 l0) ∧ (((gfd G 3 2 l0) < (gln G (gfd G 3 1 l0)) → (gcl G l0 = 4 ∧ V E M_X3_put 31 [some (rv l0), some (iv l1), some (jv l2), none, some (iv (gfd G 3 2 l0))] [] G c s Q X)) ∧ ((gln G (gfd G 3 1 l0)) ≤ (gfd G 3 2 l0) → Q 0 G))))))) : V E M_X3_put 0 [some (rv l0), some (iv l1), some (jv l2), none, none] [] G c s Q X := by
  refine v_aload_n (pc := 0) (dk dt_X3_put 0 rfl) rfl rfl ?_
  obtain ⟨v1, h⟩ := h
  refine v_getI (pc := 1) (dk dt_X3_put 1 rfl) fl_X3_19 v1 (fun _ => ?_)
  refine v_aload_n (pc := 4) (dk dt_X3_put 2 rfl) rfl rfl ?_
  obtain ⟨v2, h⟩ := h
  refine v_getR (pc := 5) (dk dt_X3_put 3 rfl) fl_X3_9 v2 (fun _ => ?_)
  obtain ⟨v3, h⟩ := h
  refine v_alen (pc := 8) (dk dt_X3_put 4 rfl) v3 (fun _ => ?_)
  refine v_icmp_ge (pc := 9) (tgt := 24) (dk dt_X3_put 5 rfl) (by decide) (fun c4 => ?_) (fun c4 => ?_)
  · replace h := h.1 c4
    exact v_vret (pc := 24) (dk dt_X3_put 12 rfl) rfl h
  · replace h := h.2 c4
    refine v_aload_n (pc := 12) (dk dt_X3_put 6 rfl) rfl rfl ?_
    obtain ⟨v5, h⟩ := h
    refine v_getI (pc := 13) (dk dt_X3_put 7 rfl) fl_X3_19 v5 (fun _ => ?_)
    refine v_aload_n (pc := 16) (dk dt_X3_put 8 rfl) rfl rfl ?_
    obtain ⟨v6, h⟩ := h
    refine v_getR (pc := 17) (dk dt_X3_put 9 rfl) fl_X3_15 v6 (fun _ => ?_)
    obtain ⟨v7, h⟩ := h
    refine v_alen (pc := 20) (dk dt_X3_put 10 rfl) v7 (fun _ => ?_)
    refine v_icmp_lt (pc := 21) (tgt := 25) (dk dt_X3_put 11 rfl) (by decide) (fun c8 => ?_) (fun c8 => ?_)
    · replace h := h.1 c8
      refine v_aload_n (pc := 25) (dk dt_X3_put 13 rfl) rfl rfl ?_
      obtain ⟨v9, h⟩ := h
      refine v_getI (pc := 26) (dk dt_X3_put 14 rfl) fl_X3_19 v9 (fun _ => ?_)
      refine v_istore (pc := 29) (ls' := [some (rv l0), some (iv l1), some (jv l2), none, some (iv (gfd G 3 2 l0))]) (dk dt_X3_put 15 rfl) (Nat.le_of_ble_eq_true rfl) rfl ?_
      exact h
    · replace h := h.2 c8
      exact v_vret (pc := 24) (dk dt_X3_put 12 rfl) rfl h
set_option maxRecDepth 20000 in
theorem i_X3_put {E : EE} {l0 l1 l2 : Int} {G : Gt} {c s : Nat} {Q X : Int → Gt → Prop} (h : (gcl G l0 = 4 ∧ gcl G l0 = 4 ∧ 15 ≤ gcl G (gfd G 3 0 l0) ∧ (((gln G (gfd G 3 0 l0)) ≤ (gfd G 3 2 l0) → Q 0 G) ∧ ((gfd G 3 2 l0) < (gln G (gfd G 3 0 l0)) → (gcl G l0 = 4 ∧ gcl G l0 = 4 ∧ 15 ≤ gcl G (gfd G 3 1 l0) ∧ (((gfd G 3 2 l0) < (gln G (gfd G 3 1 l0)) → (gcl G l0 = 4 ∧ V E M_X3_put 31 [some (rv l0), some (iv l1), some (jv l2), none, some (iv (gfd G 3 2 l0))] [] G c s Q X)) ∧ ((gln G (gfd G 3 1 l0)) ≤ (gfd G 3 2 l0) → Q 0 G))))))) : Ok E M_X3_put [rv l0, iv l1, jv l2] G c s Q X := Ok.intro (k := 1) rfl rfl (Nat.le_of_ble_eq_true rfl) rfl (b_X3_put_0 h)
set_option maxRecDepth 20000 in
theorem b_X3_put_31 {E : EE} {l0 l1 l2 l4 : Int} {G : Gt} {c s : Nat} {Q X : Int → Gt → Prop} (h : (∀ J1 : Prop, ((gcl G l0 = 4 ∧ gcl G (gfd G 3 0 l0) = 15 ∧ 0 ≤ l4 ∧ l4 < gln G (gfd G 3 0 l0) ∧ ∀ G6 : Gt, G6 = (sel G (gfd G 3 0 l0) l4 l1) → gcl G6 l0 = 4 ∧ gcl G6 (gfd G6 3 1 l0) = 16 ∧ 0 ≤ l4 ∧ l4 < gln G6 (gfd G6 3 1 l0) ∧ ∀ G11 : Gt, G11 = (sel G6 (gfd G6 3 1 l0) l4 l2) → gcl G11 l0 = 4 ∧ i32 ((gfd G11 3 2 l0) + 1) ∧ gcl G11 l0 = 4 ∧ ∀ G15 : Gt, G15 = (sfd G11 3 2 l0 ((gfd G11 3 2 l0) + 1)) → Q 0 G15) → J1) → ((l4 ≤ 0 → J1) ∧ (0 < l4 → (gcl G l0 = 4 ∧ i32 (l4 - 1) ∧ gcl G (gfd G 3 0 l0) = 15 ∧ 0 ≤ (l4 - 1) ∧ (l4 - 1) < gln G (gfd G 3 0 l0) ∧ (((gel G (gfd G 3 0 l0) (l4 - 1)) ≤ l1 → J1) ∧ (l1 < (gel G (gfd G 3 0 l0) (l4 - 1)) → (gcl G l0 = 4 ∧ gcl G l0 = 4 ∧ i32 (l4 - 1) ∧ gcl G (gfd G 3 0 l0) = 15 ∧ 0 ≤ (l4 - 1) ∧ (l4 - 1) < gln G (gfd G 3 0 l0) ∧ gcl G (gfd G 3 0 l0) = 15 ∧ 0 ≤ l4 ∧ l4 < gln G (gfd G 3 0 l0) ∧ ∀ G32 : Gt, G32 = (sel G (gfd G 3 0 l0) l4 (gel G (gfd G 3 0 l0) (l4 - 1))) → gcl G32 l0 = 4 ∧ gcl G32 l0 = 4 ∧ i32 (l4 - 1) ∧ gcl G32 (gfd G32 3 1 l0) = 16 ∧ 0 ≤ (l4 - 1) ∧ (l4 - 1) < gln G32 (gfd G32 3 1 l0) ∧ gcl G32 (gfd G32 3 1 l0) = 16 ∧ 0 ≤ l4 ∧ l4 < gln G32 (gfd G32 3 1 l0) ∧ ∀ G42 : Gt, G42 = (sel G32 (gfd G32 3 1 l0) l4 (gel G32 (gfd G32 3 1 l0) (l4 - 1))) → i32 (l4 + (-1)) ∧ V E M_X3_put 31 [some (rv l0), some (iv l1), some (jv l2), none, some (iv (l4 + (-1)))] [] G42 c s Q X)))))))) : V E M_X3_put 31 [some (rv l0), some (iv l1), some (jv l2), none, some (iv l4)] [] G c s Q X := by
  refine v_iload (pc := 31) (dk dt_X3_put 16 rfl) rfl ?_
  obtain ⟨J1, dJ1⟩ : ∃ J9 : Prop, J9 = V E M_X3_put 87 [some (rv l0), some (iv l1), some (jv l2), none, some (iv l4)] [] G c s Q X := ⟨_, rfl⟩
  have hJ1 : (gcl G l0 = 4 ∧ gcl G (gfd G 3 0 l0) = 15 ∧ 0 ≤ l4 ∧ l4 < gln G (gfd G 3 0 l0) ∧ ∀ G6 : Gt, G6 = (sel G (gfd G 3 0 l0) l4 l1) → gcl G6 l0 = 4 ∧ gcl G6 (gfd G6 3 1 l0) = 16 ∧ 0 ≤ l4 ∧ l4 < gln G6 (gfd G6 3 1 l0) ∧ ∀ G11 : Gt, G11 = (sel G6 (gfd G6 3 1 l0) l4 l2) → gcl G11 l0 = 4 ∧ i32 ((gfd G11 3 2 l0) + 1) ∧ gcl G11 l0 = 4 ∧ ∀ G15 : Gt, G15 = (sfd G11 3 2 l0 ((gfd G11 3 2 l0) + 1)) → Q 0 G15) → J1 := by
    intro h
    rw [dJ1]
    refine v_aload_n (pc := 87) (dk dt_X3_put_1 8 rfl) rfl rfl ?_
    obtain ⟨v2, h⟩ := h
    refine v_getR (pc := 88) (dk dt_X3_put_1 9 rfl) fl_X3_9 v2 (fun _ => ?_)
    refine v_iload (pc := 91) (dk dt_X3_put_1 10 rfl) rfl ?_
    refine v_iload_n (pc := 93) (dk dt_X3_put_1 11 rfl) rfl rfl ?_
    obtain ⟨v3, h⟩ := h
    obtain ⟨v4, h⟩ := h
    obtain ⟨v5, h⟩ := h
    refine v_iast (pc := 94) (dk dt_X3_put_1 12 rfl) v3 v4 v5 ?_
    generalize hG6 : (sel G (gfd G 3 0 l0) l4 l1) = G6
    replace h := h G6 hG6.symm
    refine v_aload_n (pc := 95) (dk dt_X3_put_1 13 rfl) rfl rfl ?_
    obtain ⟨v7, h⟩ := h
    refine v_getR (pc := 96) (dk dt_X3_put_1 14 rfl) fl_X3_15 v7 (fun _ => ?_)
    refine v_iload (pc := 99) (dk dt_X3_put_1 15 rfl) rfl ?_
    refine v_lload_n (pc := 101) (dk dt_X3_put_1 16 rfl) rfl rfl ?_
    obtain ⟨v8, h⟩ := h
    obtain ⟨v9, h⟩ := h
    obtain ⟨v10, h⟩ := h
    refine v_last (pc := 102) (dk dt_X3_put_1 17 rfl) v8 v9 v10 ?_
    generalize hG11 : (sel G6 (gfd G6 3 1 l0) l4 l2) = G11
    replace h := h G11 hG11.symm
    refine v_aload_n (pc := 103) (dk dt_X3_put_1 18 rfl) rfl rfl ?_
    refine v_dup (pc := 104) (dk dt_X3_put_1 19 rfl) (by intro h9; cases h9) ?_
    obtain ⟨v12, h⟩ := h
    refine v_getI (pc := 105) (dk dt_X3_put_1 20 rfl) fl_X3_19 v12 (fun _ => ?_)
    refine v_iconst (pc := 108) (dk dt_X3_put_1 21 rfl) ⟨by decide, by decide⟩ ?_
    obtain ⟨v13, h⟩ := h
    refine v_iadd (pc := 109) (dk dt_X3_put_1 22 rfl) v13 ?_
    obtain ⟨v14, h⟩ := h
    refine v_putI (pc := 110) (dk dt_X3_put_1 23 rfl) fl_X3_19 (Or.inl rfl) v14 ?_
    generalize hG15 : (sfd G11 3 2 l0 ((gfd G11 3 2 l0) + 1)) = G15
    replace h := h G15 hG15.symm
    exact v_vret (pc := 113) (dk dt_X3_put_1 24 rfl) rfl h
  replace h := h _ hJ1
  refine v_if_le (pc := 33) (tgt := 87) (dk dt_X3_put 17 rfl) (by decide) (fun c16 => ?_) (fun c16 => ?_)
  · replace h := h.1 c16
    rw [dJ1] at h
    exact h
  · replace h := h.2 c16
    refine v_aload_n (pc := 36) (dk dt_X3_put 18 rfl) rfl rfl ?_
    obtain ⟨v17, h⟩ := h
    refine v_getR (pc := 37) (dk dt_X3_put 19 rfl) fl_X3_9 v17 (fun _ => ?_)
    refine v_iload (pc := 40) (dk dt_X3_put 20 rfl) rfl ?_
    refine v_iconst (pc := 42) (dk dt_X3_put 21 rfl) ⟨by decide, by decide⟩ ?_
    obtain ⟨v18, h⟩ := h
    refine v_isub (pc := 43) (dk dt_X3_put 22 rfl) v18 ?_
    obtain ⟨v19, h⟩ := h
    obtain ⟨v20, h⟩ := h
    obtain ⟨v21, h⟩ := h
    refine v_iald (pc := 44) (dk dt_X3_put 23 rfl) (Or.inl v19) v20 v21 (fun _ => ?_)
    refine v_iload_n (pc := 45) (dk dt_X3_put 24 rfl) rfl rfl ?_
    refine v_icmp_le (pc := 46) (tgt := 87) (dk dt_X3_put 25 rfl) (by decide) (fun c22 => ?_) (fun c22 => ?_)
    · replace h := h.1 c22
      rw [dJ1] at h
      exact h
    · replace h := h.2 c22
      refine v_aload_n (pc := 49) (dk dt_X3_put 26 rfl) rfl rfl ?_
      obtain ⟨v23, h⟩ := h
      refine v_getR (pc := 50) (dk dt_X3_put 27 rfl) fl_X3_9 v23 (fun _ => ?_)
      refine v_iload (pc := 53) (dk dt_X3_put 28 rfl) rfl ?_
      refine v_aload_n (pc := 55) (dk dt_X3_put 29 rfl) rfl rfl ?_
      obtain ⟨v24, h⟩ := h
      refine v_getR (pc := 56) (dk dt_X3_put 30 rfl) fl_X3_9 v24 (fun _ => ?_)
      refine v_iload (pc := 59) (dk dt_X3_put 31 rfl) rfl ?_
      refine v_iconst (pc := 61) (dk dt_X3_put 32 rfl) ⟨by decide, by decide⟩ ?_
      obtain ⟨v25, h⟩ := h
      refine v_isub (pc := 62) (dk dt_X3_put 33 rfl) v25 ?_
      obtain ⟨v26, h⟩ := h
      obtain ⟨v27, h⟩ := h
      obtain ⟨v28, h⟩ := h
      refine v_iald (pc := 63) (dk dt_X3_put 34 rfl) (Or.inl v26) v27 v28 (fun _ => ?_)
      obtain ⟨v29, h⟩ := h
      obtain ⟨v30, h⟩ := h
      obtain ⟨v31, h⟩ := h
      refine v_iast (pc := 64) (dk dt_X3_put 35 rfl) v29 v30 v31 ?_
      generalize hG32 : (sel G (gfd G 3 0 l0) l4 (gel G (gfd G 3 0 l0) (l4 - 1))) = G32
      replace h := h G32 hG32.symm
      refine v_aload_n (pc := 65) (dk dt_X3_put 36 rfl) rfl rfl ?_
      obtain ⟨v33, h⟩ := h
      refine v_getR (pc := 66) (dk dt_X3_put 37 rfl) fl_X3_15 v33 (fun _ => ?_)
      refine v_iload (pc := 69) (dk dt_X3_put 38 rfl) rfl ?_
      refine v_aload_n (pc := 71) (dk dt_X3_put 39 rfl) rfl rfl ?_
      obtain ⟨v34, h⟩ := h
      refine v_getR (pc := 72) (dk dt_X3_put_1 0 rfl) fl_X3_15 v34 (fun _ => ?_)
      refine v_iload (pc := 75) (dk dt_X3_put_1 1 rfl) rfl ?_
      refine v_iconst (pc := 77) (dk dt_X3_put_1 2 rfl) ⟨by decide, by decide⟩ ?_
      obtain ⟨v35, h⟩ := h
      refine v_isub (pc := 78) (dk dt_X3_put_1 3 rfl) v35 ?_
      obtain ⟨v36, h⟩ := h
      obtain ⟨v37, h⟩ := h
      obtain ⟨v38, h⟩ := h
      refine v_lald (pc := 79) (dk dt_X3_put_1 4 rfl) v36 v37 v38 (fun _ => ?_)
      obtain ⟨v39, h⟩ := h
      obtain ⟨v40, h⟩ := h
      obtain ⟨v41, h⟩ := h
      refine v_last (pc := 80) (dk dt_X3_put_1 5 rfl) v39 v40 v41 ?_
      generalize hG42 : (sel G32 (gfd G32 3 1 l0) l4 (gel G32 (gfd G32 3 1 l0) (l4 - 1))) = G42
      replace h := h G42 hG42.symm
      obtain ⟨v43, h⟩ := h
      refine v_iinc (pc := 81) (ls' := [some (rv l0), some (iv l1), some (jv l2), none, some (iv (l4 + (-1)))]) (dk dt_X3_put_1 6 rfl) (Nat.le_of_ble_eq_true rfl) rfl v43 rfl ?_
      refine v_goto (pc := 84) (tgt := 31) (dk dt_X3_put_1 7 rfl) (by decide) ?_
      exact h
set_option maxRecDepth 20000 in
theorem b_X3_keepInBounds_0 {E : EE} {l0 : Int} {G : Gt} {c s : Nat} {Q X : Int → Gt → Prop} (h : V E M_X3_keepInBounds 2 [some (rv l0), some (iv 0)] [] G c s Q X) : V E M_X3_keepInBounds 0 [some (rv l0), none] [] G c s Q X := by
  refine v_iconst (pc := 0) (dk dt_X3_keepInBounds 0 rfl) ⟨by decide, by decide⟩ ?_
  refine v_istore_n (pc := 1) (ls' := [some (rv l0), some (iv 0)]) (dk dt_X3_keepInBounds 1 rfl) rfl (Nat.le_of_ble_eq_true rfl) rfl ?_
  exact h
set_option maxRecDepth 20000 in
theorem i_X3_keepInBounds {E : EE} {l0 : Int} {G : Gt} {c s : Nat} {Q X : Int → Gt → Prop} (h : V E M_X3_keepInBounds 2 [some (rv l0), some (iv 0)] [] G c s Q X) : Ok E M_X3_keepInBounds [rv l0] G c s Q X := Ok.intro (k := 1) rfl rfl (Nat.le_of_ble_eq_true rfl) rfl (b_X3_keepInBounds_0 h)
set_option maxRecDepth 20000 in
theorem b_X3_keepInBounds_2 {E : EE} {l0 l1 : Int} {G : Gt} {c s : Nat} {Q X : Int → Gt → Prop} (h : (gcl G l0 = 4 ∧ (((gfd G 3 2 l0) ≤ l1 → Q 0 G) ∧ (l1 < (gfd G 3 2 l0) → (gcl G l0 = 4 ∧ gcl G l0 = 4 ∧ gcl G (gfd G 3 1 l0) = 16 ∧ 0 ≤ l1 ∧ l1 < gln G (gfd G 3 1 l0) ∧ gcl G (gfd G 3 1 l0) = 16 ∧ 0 ≤ l1 ∧ l1 < gln G (gfd G 3 1 l0) ∧ ∀ G11 : Gt, G11 = (sel G (gfd G 3 1 l0) l1 (max (-100000000000000) (min 100000000000000 (gel G (gfd G 3 1 l0) l1)))) → i32 (l1 + 1) ∧ V E M_X3_keepInBounds 2 [some (rv l0), some (iv (l1 + 1))] [] G11 c s Q X))))) : V E M_X3_keepInBounds 2 [some (rv l0), some (iv l1)] [] G c s Q X := by
  refine v_iload_n (pc := 2) (dk dt_X3_keepInBounds 2 rfl) rfl rfl ?_
  refine v_aload_n (pc := 3) (dk dt_X3_keepInBounds 3 rfl) rfl rfl ?_
  obtain ⟨v1, h⟩ := h
  refine v_getI (pc := 4) (dk dt_X3_keepInBounds 4 rfl) fl_X3_19 v1 (fun _ => ?_)
  refine v_icmp_ge (pc := 7) (tgt := 40) (dk dt_X3_keepInBounds 5 rfl) (by decide) (fun c2 => ?_) (fun c2 => ?_)
  · replace h := h.1 c2
    exact v_vret (pc := 40) (dk dt_X3_keepInBounds 20 rfl) rfl h
  · replace h := h.2 c2
    refine v_aload_n (pc := 10) (dk dt_X3_keepInBounds 6 rfl) rfl rfl ?_
    obtain ⟨v3, h⟩ := h
    refine v_getR (pc := 11) (dk dt_X3_keepInBounds 7 rfl) fl_X3_15 v3 (fun _ => ?_)
    refine v_iload_n (pc := 14) (dk dt_X3_keepInBounds 8 rfl) rfl rfl ?_
    refine v_ldc2 (pc := 15) (dk dt_X3_keepInBounds 9 rfl) co_X3_31 ⟨by decide, by decide⟩ ?_
    refine v_ldc2 (pc := 18) (dk dt_X3_keepInBounds 10 rfl) co_X3_33 ⟨by decide, by decide⟩ ?_
    refine v_aload_n (pc := 21) (dk dt_X3_keepInBounds 11 rfl) rfl rfl ?_
    obtain ⟨v4, h⟩ := h
    refine v_getR (pc := 22) (dk dt_X3_keepInBounds 12 rfl) fl_X3_15 v4 (fun _ => ?_)
    refine v_iload_n (pc := 25) (dk dt_X3_keepInBounds 13 rfl) rfl rfl ?_
    obtain ⟨v5, h⟩ := h
    obtain ⟨v6, h⟩ := h
    obtain ⟨v7, h⟩ := h
    refine v_lald (pc := 26) (dk dt_X3_keepInBounds 14 rfl) v5 v6 v7 (fun _ => ?_)
    refine v_lmin (pc := 27) (dk dt_X3_keepInBounds 15 rfl) mw_X3_35 (Nat.le_of_ble_eq_true rfl) (Nat.le_of_ble_eq_true rfl) (Nat.le_of_ble_eq_true rfl) ?_
    refine v_lmax (pc := 30) (dk dt_X3_keepInBounds 16 rfl) mw_X3_41 (Nat.le_of_ble_eq_true rfl) (Nat.le_of_ble_eq_true rfl) (Nat.le_of_ble_eq_true rfl) ?_
    obtain ⟨v8, h⟩ := h
    obtain ⟨v9, h⟩ := h
    obtain ⟨v10, h⟩ := h
    refine v_last (pc := 33) (dk dt_X3_keepInBounds 17 rfl) v8 v9 v10 ?_
    generalize hG11 : (sel G (gfd G 3 1 l0) l1 (max (-100000000000000) (min 100000000000000 (gel G (gfd G 3 1 l0) l1)))) = G11
    replace h := h G11 hG11.symm
    obtain ⟨v12, h⟩ := h
    refine v_iinc (pc := 34) (ls' := [some (rv l0), some (iv (l1 + 1))]) (dk dt_X3_keepInBounds 18 rfl) (Nat.le_of_ble_eq_true rfl) rfl v12 rfl ?_
    refine v_goto (pc := 37) (tgt := 2) (dk dt_X3_keepInBounds 19 rfl) (by decide) ?_
    exact h
set_option maxRecDepth 20000 in
theorem b_X4_init_0 {E : EE} {l0 l1 l2 l3 l4 : Int} {G : Gt} {c s : Nat} {Q X : Int → Gt → Prop} (h : (0 ≤ l0 ∧ 1 ≤ c ∧ 3 ≤ s ∧ ∀ q4 : Int, gcl G q4 = 0 → (eb E : Int) ≤ q4 → ∀ G5 : Gt, G5 = (newo G q4 13) → 0 ≤ q4 ∧ Call E M_A_init [rv q4] G5 (c - 1) (s - 3) X (fun r7 G8 c9 s10 => gcl G8 l0 = 5 ∧ ∀ G12 : Gt, G12 = (sfd G8 4 4 l0 q4) → gcl G12 l0 = 5 ∧ ∀ G14 : Gt, G14 = (sfd G12 4 5 l0 (-1)) → gcl G14 l0 = 5 ∧ ∀ G16 : Gt, G16 = (sfd G14 4 0 l0 l1) → gcl G16 l0 = 5 ∧ ∀ G18 : Gt, G18 = (sfd G16 4 1 l0 l2) → gcl G18 l0 = 5 ∧ ∀ G20 : Gt, G20 = (sfd G18 4 2 l0 l3) → gcl G20 l0 = 5 ∧ ∀ G22 : Gt, G22 = (sfd G20 4 3 l0 l4) → Q 0 G22))) : V E M_X4_init 0 [some (rv l0), some (rv l1), some (iv l2), some (iv l3), some (iv l4)] [] G c s Q X := by
  refine v_aload_n (pc := 0) (dk dt_X4_init 0 rfl) rfl rfl ?_
  obtain ⟨v1, h⟩ := h
  refine v_objInit (pc := 1) (dk dt_X4_init 1 rfl) mw_X4_3 (Nat.le_of_ble_eq_true rfl) (Nat.le_of_ble_eq_true rfl) (Nat.le_of_ble_eq_true rfl) v1 ?_
  refine v_aload_n (pc := 4) (dk dt_X4_init 2 rfl) rfl rfl ?_
  obtain ⟨v2, h⟩ := h
  obtain ⟨v3, h⟩ := h
  refine v_new (pc := 5) (dk dt_X4_init 3 rfl) nl_X4_9 v2 v3 (fun q4 hq4 gq4 => ?_)
  replace h := h q4 hq4 gq4
  generalize hG5 : (newo G q4 13) = G5
  replace h := h G5 hG5.symm
  refine v_dup (pc := 8) (dk dt_X4_init 4 rfl) (by intro h9; cases h9) ?_
  obtain ⟨v6, h⟩ := h
  refine v_ciV (As := []) (stk := [rv q4, rv l0]) (pc := 9) (dk dt_X4_init 5 rfl) ml_X4_11 rfl rfl (Nat.le_of_ble_eq_true rfl) rfl v6 (Call.mono h (fun r7 G8 c9 s10 h => ?_))
  obtain ⟨v11, h⟩ := h
  refine v_putR (pc := 12) (dk dt_X4_init 6 rfl) fl_X4_12 (Or.inr ⟨rfl, rfl⟩) v11 ?_
  generalize hG12 : (sfd G8 4 4 l0 q4) = G12
  replace h := h G12 hG12.symm
  refine v_aload_n (pc := 15) (dk dt_X4_init 7 rfl) rfl rfl ?_
  refine v_iconst (pc := 16) (dk dt_X4_init 8 rfl) ⟨by decide, by decide⟩ ?_
  obtain ⟨v13, h⟩ := h
  refine v_putI (pc := 17) (dk dt_X4_init 9 rfl) fl_X4_18 (Or.inl rfl) v13 ?_
  generalize hG14 : (sfd G12 4 5 l0 (-1)) = G14
  replace h := h G14 hG14.symm
  refine v_aload_n (pc := 20) (dk dt_X4_init 10 rfl) rfl rfl ?_
  refine v_aload_n (pc := 21) (dk dt_X4_init 11 rfl) rfl rfl ?_
  obtain ⟨v15, h⟩ := h
  refine v_putR (pc := 22) (dk dt_X4_init 12 rfl) fl_X4_22 (Or.inr ⟨rfl, rfl⟩) v15 ?_
  generalize hG16 : (sfd G14 4 0 l0 l1) = G16
  replace h := h G16 hG16.symm
  refine v_aload_n (pc := 25) (dk dt_X4_init 13 rfl) rfl rfl ?_
  refine v_iload_n (pc := 26) (dk dt_X4_init 14 rfl) rfl rfl ?_
  obtain ⟨v17, h⟩ := h
  refine v_putI (pc := 27) (dk dt_X4_init 15 rfl) fl_X4_25 (Or.inr ⟨rfl, rfl⟩) v17 ?_
  generalize hG18 : (sfd G16 4 1 l0 l2) = G18
  replace h := h G18 hG18.symm
  refine v_aload_n (pc := 30) (dk dt_X4_init 16 rfl) rfl rfl ?_
  refine v_iload_n (pc := 31) (dk dt_X4_init 17 rfl) rfl rfl ?_
  obtain ⟨v19, h⟩ := h
  refine v_putI (pc := 32) (dk dt_X4_init 18 rfl) fl_X4_28 (Or.inr ⟨rfl, rfl⟩) v19 ?_
  generalize hG20 : (sfd G18 4 2 l0 l3) = G20
  replace h := h G20 hG20.symm
  refine v_aload_n (pc := 35) (dk dt_X4_init 19 rfl) rfl rfl ?_
  refine v_iload (pc := 36) (dk dt_X4_init 20 rfl) rfl ?_
  obtain ⟨v21, h⟩ := h
  refine v_putI (pc := 38) (dk dt_X4_init 21 rfl) fl_X4_31 (Or.inr ⟨rfl, rfl⟩) v21 ?_
  generalize hG22 : (sfd G20 4 3 l0 l4) = G22
  replace h := h G22 hG22.symm
  exact v_vret (pc := 41) (dk dt_X4_init 22 rfl) rfl h
set_option maxRecDepth 20000 in
theorem i_X4_init {E : EE} {l0 l1 l2 l3 l4 : Int} {G : Gt} {c s : Nat} {Q X : Int → Gt → Prop} (h : (0 ≤ l0 ∧ 1 ≤ c ∧ 3 ≤ s ∧ ∀ q4 : Int, gcl G q4 = 0 → (eb E : Int) ≤ q4 → ∀ G5 : Gt, G5 = (newo G q4 13) → 0 ≤ q4 ∧ Call E M_A_init [rv q4] G5 (c - 1) (s - 3) X (fun r7 G8 c9 s10 => gcl G8 l0 = 5 ∧ ∀ G12 : Gt, G12 = (sfd G8 4 4 l0 q4) → gcl G12 l0 = 5 ∧ ∀ G14 : Gt, G14 = (sfd G12 4 5 l0 (-1)) → gcl G14 l0 = 5 ∧ ∀ G16 : Gt, G16 = (sfd G14 4 0 l0 l1) → gcl G16 l0 = 5 ∧ ∀ G18 : Gt, G18 = (sfd G16 4 1 l0 l2) → gcl G18 l0 = 5 ∧ ∀ G20 : Gt, G20 = (sfd G18 4 2 l0 l3) → gcl G20 l0 = 5 ∧ ∀ G22 : Gt, G22 = (sfd G20 4 3 l0 l4) → Q 0 G22))) : Ok E M_X4_init [rv l0, rv l1, iv l2, iv l3, iv l4] G c s Q X := Ok.intro (k := 0) rfl rfl (Nat.le_of_ble_eq_true rfl) rfl (b_X4_init_0 h)
set_option maxRecDepth 20000 in
theorem b_X4_records_0 {E : EE} {l0 : Int} {G : Gt} {c s : Nat} {Q X : Int → Gt → Prop} (h : (gcl G l0 = 5 ∧ ((if (gfd G 4 1 l0) = (-1) then (0 : Int) else 1) = 0 ∨ (if (gfd G 4 1 l0) = (-1) then (0 : Int) else 1) = 1) ∧ Q (if (gfd G 4 1 l0) = (-1) then (0 : Int) else 1) G)) : V E M_X4_records 0 [some (rv l0)] [] G c s Q X := by
  refine v_aload_n (pc := 0) (dk dt_X4_records 0 rfl) rfl rfl ?_
  obtain ⟨v1, h⟩ := h
  refine v_getI (pc := 1) (dk dt_X4_records 1 rfl) fl_X4_25 v1 (fun _ => ?_)
  refine v_iconst (pc := 4) (dk dt_X4_records 2 rfl) ⟨by decide, by decide⟩ ?_
  suffices k4 : V E M_X4_records 13 [none] [iv (if (gfd G 4 1 l0) = (-1) then (0 : Int) else 1)] G c s Q X by
    refine v_icmp_eq (pc := 5) (tgt := 12) (dk dt_X4_records 3 rfl) (by decide) (fun c2 => ?_) (fun c2 => ?_)
    · refine v_iconst (pc := 12) (dk dt_X4_records 6 rfl) ⟨by decide, by decide⟩ ?_
      exact v_less2 (ls' := [none]) trivial (by have hk9 := k4; try simp only [if_pos c2] at hk9 ⊢; exact hk9)
    · refine v_iconst (pc := 8) (dk dt_X4_records 4 rfl) ⟨by decide, by decide⟩ ?_
      refine v_goto (pc := 9) (tgt := 13) (dk dt_X4_records 5 rfl) (by decide) ?_
      exact v_less2 (ls' := [none]) trivial (by have hk9 := k4; try simp only [if_neg c2] at hk9 ⊢; exact hk9)
  obtain ⟨v3, h⟩ := h
  exact v_zret (pc := 13) (dk dt_X4_records 7 rfl) rfl v3 h
set_option maxRecDepth 20000 in
theorem i_X4_records {E : EE} {l0 : Int} {G : Gt} {c s : Nat} {Q X : Int → Gt → Prop} (h : (gcl G l0 = 5 ∧ ((if (gfd G 4 1 l0) = (-1) then (0 : Int) else 1) = 0 ∨ (if (gfd G 4 1 l0) = (-1) then (0 : Int) else 1) = 1) ∧ Q (if (gfd G 4 1 l0) = (-1) then (0 : Int) else 1) G)) : Ok E M_X4_records [rv l0] G c s Q X := Ok.intro (k := 0) rfl rfl (Nat.le_of_ble_eq_true rfl) rfl (b_X4_records_0 h)
set_option maxRecDepth 20000 in
theorem b_X4_look_0 {E : EE} {l0 l1 l2 : Int} {G : Gt} {c s : Nat} {Q X : Int → Gt → Prop} (h : ((l1 = -1 → (gcl G l0 = 5 ∧ gcl G (gfd G 4 4 l0) = 14 ∧ OkP E M_A_size [rv (gfd G 4 4 l0)] G (gfd G 13 2 (gfd G 4 4 l0)) ∧ i32 ((gfd G 13 2 (gfd G 4 4 l0)) - 1) ∧ V E M_X4_look 37 [some (rv l0), some (rv l1), some (iv l2), some (iv 0), some (iv ((gfd G 13 2 (gfd G 4 4 l0)) - 1)), none] [] G c s Q X)) ∧ (0 ≤ l1 → (gcl G l1 = 4 ∧ ∀ J7 : Gt → Nat → Nat → Prop, (∀ (G8 : Gt) (c9 s10 : Nat), (gcl G8 l0 = 5 ∧ gcl G8 (gfd G8 4 4 l0) = 14 ∧ OkP E M_A_size [rv (gfd G8 4 4 l0)] G8 (gfd G8 13 2 (gfd G8 4 4 l0)) ∧ i32 ((gfd G8 13 2 (gfd G8 4 4 l0)) - 1) ∧ V E M_X4_look 37 [some (rv l0), some (rv l1), some (iv l2), some (iv 1), some (iv ((gfd G8 13 2 (gfd G8 4 4 l0)) - 1)), none] [] G8 c9 s10 Q X) → J7 G8 c9 s10) → (((gfd G 3 3 l1) = 0 → J7 G c s) ∧ ((gfd G 3 3 l1) ≠ 0 → (gcl G l1 = 4 ∧ Call E M_X3_single [rv l1] G c s X (fun r17 G18 c19 s20 => gcl G18 l0 = 5 ∧ gcl G18 (gfd G18 4 4 l0) = 14 ∧ OkP E M_A_size [rv (gfd G18 4 4 l0)] G18 (gfd G18 13 2 (gfd G18 4 4 l0)) ∧ i32 ((gfd G18 13 2 (gfd G18 4 4 l0)) - 1) ∧ V E M_X4_look 37 [some (rv l0), some (rv l1), some (iv l2), some (iv (if r17 ≤ 0 then (0 : Int) else 1)), some (iv ((gfd G18 13 2 (gfd G18 4 4 l0)) - 1)), none] [] G18 c19 s20 Q X)))))))) : V E M_X4_look 0 [some (rv l0), some (rv l1), some (iv l2), none, none, none] [] G c s Q X := by
  refine v_aload_n (pc := 0) (dk dt_X4_look 0 rfl) rfl rfl ?_
  refine v_ifnull (pc := 1) (tgt := 24) (dk dt_X4_look 1 rfl) (by decide) (fun c1 => ?_) (fun c1 => ?_)
  · replace h := h.1 c1
    refine v_iconst (pc := 24) (dk dt_X4_look 12 rfl) ⟨by decide, by decide⟩ ?_
    refine v_istore_n (pc := 25) (ls' := [some (rv l0), some (rv l1), some (iv l2), some (iv 0), none, none]) (dk dt_X4_look 13 rfl) rfl (Nat.le_of_ble_eq_true rfl) rfl ?_
    refine v_aload_n (pc := 26) (dk dt_X4_look 14 rfl) rfl rfl ?_
    obtain ⟨v2, h⟩ := h
    refine v_getR (pc := 27) (dk dt_X4_look 15 rfl) fl_X4_12 v2 (fun _ => ?_)
    obtain ⟨v3, h⟩ := h
    obtain ⟨v4, h⟩ := h
    refine v_cvPI (c := 13) (v := (gfd G 13 2 (gfd G 4 4 l0))) (As := []) (stk := []) (pc := 30) (dk dt_X4_look 16 rfl) ml_X4_44 rfl rfl (Nat.le_of_ble_eq_true rfl) rfl ⟨by decide, rfl⟩ v3 rfl v4 ?_
    refine v_iconst (pc := 33) (dk dt_X4_look 17 rfl) ⟨by decide, by decide⟩ ?_
    obtain ⟨v5, h⟩ := h
    refine v_isub (pc := 34) (dk dt_X4_look 18 rfl) v5 ?_
    refine v_istore (pc := 35) (ls' := [some (rv l0), some (rv l1), some (iv l2), some (iv 0), some (iv ((gfd G 13 2 (gfd G 4 4 l0)) - 1)), none]) (dk dt_X4_look 19 rfl) (Nat.le_of_ble_eq_true rfl) rfl ?_
    exact h
  · replace h := h.2 c1
    refine v_aload_n (pc := 4) (dk dt_X4_look 2 rfl) rfl rfl ?_
    obtain ⟨v6, h⟩ := h
    refine v_getZ (pc := 5) (dk dt_X4_look 3 rfl) fl_X4_34 v6 (fun _ => ?_)
    obtain ⟨J7, dJ7⟩ : ∃ J9 : Gt → Nat → Nat → Prop, J9 = fun G8 c9 s10 => V E M_X4_look 20 [some (rv l0), some (rv l1), some (iv l2), none, none, none] [] G8 c9 s10 Q X := ⟨_, rfl⟩
    have hJ7 : ∀ (G8 : Gt) (c9 s10 : Nat), (gcl G8 l0 = 5 ∧ gcl G8 (gfd G8 4 4 l0) = 14 ∧ OkP E M_A_size [rv (gfd G8 4 4 l0)] G8 (gfd G8 13 2 (gfd G8 4 4 l0)) ∧ i32 ((gfd G8 13 2 (gfd G8 4 4 l0)) - 1) ∧ V E M_X4_look 37 [some (rv l0), some (rv l1), some (iv l2), some (iv 1), some (iv ((gfd G8 13 2 (gfd G8 4 4 l0)) - 1)), none] [] G8 c9 s10 Q X) → J7 G8 c9 s10 := by
      intro G8 c9 s10 h
      rw [dJ7]
      refine v_iconst (pc := 20) (dk dt_X4_look 10 rfl) ⟨by decide, by decide⟩ ?_
      refine v_goto (pc := 21) (tgt := 25) (dk dt_X4_look 11 rfl) (by decide) ?_
      refine v_istore_n (pc := 25) (ls' := [some (rv l0), some (rv l1), some (iv l2), some (iv 1), none, none]) (dk dt_X4_look 13 rfl) rfl (Nat.le_of_ble_eq_true rfl) rfl ?_
      refine v_aload_n (pc := 26) (dk dt_X4_look 14 rfl) rfl rfl ?_
      obtain ⟨v11, h⟩ := h
      refine v_getR (pc := 27) (dk dt_X4_look 15 rfl) fl_X4_12 v11 (fun _ => ?_)
      obtain ⟨v12, h⟩ := h
      obtain ⟨v13, h⟩ := h
      refine v_cvPI (c := 13) (v := (gfd G8 13 2 (gfd G8 4 4 l0))) (As := []) (stk := []) (pc := 30) (dk dt_X4_look 16 rfl) ml_X4_44 rfl rfl (Nat.le_of_ble_eq_true rfl) rfl ⟨by decide, rfl⟩ v12 rfl v13 ?_
      refine v_iconst (pc := 33) (dk dt_X4_look 17 rfl) ⟨by decide, by decide⟩ ?_
      obtain ⟨v14, h⟩ := h
      refine v_isub (pc := 34) (dk dt_X4_look 18 rfl) v14 ?_
      refine v_istore (pc := 35) (ls' := [some (rv l0), some (rv l1), some (iv l2), some (iv 1), some (iv ((gfd G8 13 2 (gfd G8 4 4 l0)) - 1)), none]) (dk dt_X4_look 19 rfl) (Nat.le_of_ble_eq_true rfl) rfl ?_
      exact h
    replace h := h _ hJ7
    refine v_if_eq (pc := 8) (tgt := 20) (dk dt_X4_look 4 rfl) (by decide) (fun c15 => ?_) (fun c15 => ?_)
    · replace h := h.1 c15
      rw [dJ7] at h
      exact h
    · replace h := h.2 c15
      refine v_aload_n (pc := 11) (dk dt_X4_look 5 rfl) rfl rfl ?_
      obtain ⟨v16, h⟩ := h
      refine v_cvJ (c := 3) (As := []) (stk := []) (pc := 12) (dk dt_X4_look 6 rfl) ml_X4_40 rfl rfl (Nat.le_of_ble_eq_true rfl) rfl ⟨by decide, rfl⟩ v16 rfl (Call.mono h (fun r17 G18 c19 s20 h => ?_))
      refine v_lconst (x := 0) (pc := 15) (dk dt_X4_look 7 rfl) (by decide) ⟨by decide, by decide⟩ ?_
      suffices k26 : V E M_X4_look 25 [some (rv l0), some (rv l1), some (iv l2), none, none, none] [iv (if r17 ≤ 0 then (0 : Int) else 1)] G18 c19 s20 Q X by
        refine v_lcmp_le (pc := 16) (tgt := 24) (dk dt_X4_look 8 rfl) (dk dt_X4_look 9 rfl) (by decide) (fun c21 => ?_) (fun c21 => ?_)
        · refine v_iconst (pc := 24) (dk dt_X4_look 12 rfl) ⟨by decide, by decide⟩ ?_
          exact v_less2 (ls' := [some (rv l0), some (rv l1), some (iv l2), none, none, none]) ⟨rfl, rfl, rfl, trivial⟩ (by have hk9 := k26; try simp only [if_pos c21] at hk9 ⊢; exact hk9)
        · refine v_iconst (pc := 20) (dk dt_X4_look 10 rfl) ⟨by decide, by decide⟩ ?_
          refine v_goto (pc := 21) (tgt := 25) (dk dt_X4_look 11 rfl) (by decide) ?_
          exact v_less2 (ls' := [some (rv l0), some (rv l1), some (iv l2), none, none, none]) ⟨rfl, rfl, rfl, trivial⟩ (by have hk9 := k26; try simp only [if_neg (Int.not_le.mpr c21)] at hk9 ⊢; exact hk9)
      refine v_istore_n (pc := 25) (ls' := [some (rv l0), some (rv l1), some (iv l2), some (iv (if r17 ≤ 0 then (0 : Int) else 1)), none, none]) (dk dt_X4_look 13 rfl) rfl (Nat.le_of_ble_eq_true rfl) rfl ?_
      refine v_aload_n (pc := 26) (dk dt_X4_look 14 rfl) rfl rfl ?_
      obtain ⟨v22, h⟩ := h
      refine v_getR (pc := 27) (dk dt_X4_look 15 rfl) fl_X4_12 v22 (fun _ => ?_)
      obtain ⟨v23, h⟩ := h
      obtain ⟨v24, h⟩ := h
      refine v_cvPI (c := 13) (v := (gfd G18 13 2 (gfd G18 4 4 l0))) (As := []) (stk := []) (pc := 30) (dk dt_X4_look 16 rfl) ml_X4_44 rfl rfl (Nat.le_of_ble_eq_true rfl) rfl ⟨by decide, rfl⟩ v23 rfl v24 ?_
      refine v_iconst (pc := 33) (dk dt_X4_look 17 rfl) ⟨by decide, by decide⟩ ?_
      obtain ⟨v25, h⟩ := h
      refine v_isub (pc := 34) (dk dt_X4_look 18 rfl) v25 ?_
      refine v_istore (pc := 35) (ls' := [some (rv l0), some (rv l1), some (iv l2), some (iv (if r17 ≤ 0 then (0 : Int) else 1)), some (iv ((gfd G18 13 2 (gfd G18 4 4 l0)) - 1)), none]) (dk dt_X4_look 19 rfl) (Nat.le_of_ble_eq_true rfl) rfl ?_
      exact h
set_option maxRecDepth 20000 in
theorem i_X4_look {E : EE} {l0 l1 l2 : Int} {G : Gt} {c s : Nat} {Q X : Int → Gt → Prop} (h : ((l1 = -1 → (gcl G l0 = 5 ∧ gcl G (gfd G 4 4 l0) = 14 ∧ OkP E M_A_size [rv (gfd G 4 4 l0)] G (gfd G 13 2 (gfd G 4 4 l0)) ∧ i32 ((gfd G 13 2 (gfd G 4 4 l0)) - 1) ∧ V E M_X4_look 37 [some (rv l0), some (rv l1), some (iv l2), some (iv 0), some (iv ((gfd G 13 2 (gfd G 4 4 l0)) - 1)), none] [] G c s Q X)) ∧ (0 ≤ l1 → (gcl G l1 = 4 ∧ ∀ J7 : Gt → Nat → Nat → Prop, (∀ (G8 : Gt) (c9 s10 : Nat), (gcl G8 l0 = 5 ∧ gcl G8 (gfd G8 4 4 l0) = 14 ∧ OkP E M_A_size [rv (gfd G8 4 4 l0)] G8 (gfd G8 13 2 (gfd G8 4 4 l0)) ∧ i32 ((gfd G8 13 2 (gfd G8 4 4 l0)) - 1) ∧ V E M_X4_look 37 [some (rv l0), some (rv l1), some (iv l2), some (iv 1), some (iv ((gfd G8 13 2 (gfd G8 4 4 l0)) - 1)), none] [] G8 c9 s10 Q X) → J7 G8 c9 s10) → (((gfd G 3 3 l1) = 0 → J7 G c s) ∧ ((gfd G 3 3 l1) ≠ 0 → (gcl G l1 = 4 ∧ Call E M_X3_single [rv l1] G c s X (fun r17 G18 c19 s20 => gcl G18 l0 = 5 ∧ gcl G18 (gfd G18 4 4 l0) = 14 ∧ OkP E M_A_size [rv (gfd G18 4 4 l0)] G18 (gfd G18 13 2 (gfd G18 4 4 l0)) ∧ i32 ((gfd G18 13 2 (gfd G18 4 4 l0)) - 1) ∧ V E M_X4_look 37 [some (rv l0), some (rv l1), some (iv l2), some (iv (if r17 ≤ 0 then (0 : Int) else 1)), some (iv ((gfd G18 13 2 (gfd G18 4 4 l0)) - 1)), none] [] G18 c19 s20 Q X)))))))) : Ok E M_X4_look [rv l0, rv l1, iv l2] G c s Q X := Ok.intro (k := 3) rfl rfl (Nat.le_of_ble_eq_true rfl) rfl (b_X4_look_0 h)
set_option maxRecDepth 20000 in
theorem b_X4_look_37 {E : EE} {l0 l1 l2 l3 l4 : Int} {G : Gt} {c s : Nat} {Q X : Int → Gt → Prop} (h : ((l4 < 0 → ((l3 = 0 → V E M_X4_look 133 [some (rv l0), none, some (iv l2), none, some (iv 0), none] [] G c s Q X) ∧ (l3 ≠ 0 → (gcl G l0 = 5 ∧ Call E M_X4_addNew [rv l0, rv l1, iv l2] G c s X (fun r4 G5 c6 s7 => V E M_X4_look 133 [some (rv l0), none, some (iv l2), none, some (iv 0), none] [] G5 c6 s7 Q X))))) ∧ (0 ≤ l4 → (gcl G l0 = 5 ∧ gcl G (gfd G 4 4 l0) = 14 ∧ OkP E M_A_get [rv (gfd G 4 4 l0), iv l4] G (alAt G (gfd G 4 4 l0) l4) ∧ ((alAt G (gfd G 4 4 l0) l4) = -1 ∨ gcl G (alAt G (gfd G 4 4 l0) l4) = 1) ∧ ∀ J12 : Gt → Nat → Nat → Prop, (∀ (G13 : Gt) (c14 s15 : Nat), (gcl G13 (alAt G (gfd G 4 4 l0) l4) = 1 ∧ (((gfd G13 0 1 (alAt G (gfd G 4 4 l0) l4)) = 0 → (gcl G13 l0 = 5 ∧ gcl G13 (gfd G13 4 4 l0) = 14 ∧ Call E M_A_remove [rv (gfd G13 4 4 l0), iv l4] G13 c14 s15 X (fun r20 G21 c22 s23 => i32 (l4 + (-1)) ∧ V E M_X4_look 37 [some (rv l0), some (rv l1), some (iv l2), some (iv l3), some (iv (l4 + (-1))), none] [] G21 c22 s23 Q X))) ∧ ((gfd G13 0 1 (alAt G (gfd G 4 4 l0) l4)) ≠ 0 → (gcl G13 (alAt G (gfd G 4 4 l0) l4) = 1 ∧ i32 (l2 - (gfd G13 0 4 (alAt G (gfd G 4 4 l0) l4))) ∧ gcl G13 l0 = 5 ∧ (((l2 - (gfd G13 0 4 (alAt G (gfd G 4 4 l0) l4))) ≤ (gfd G13 4 3 l0) → (i32 (l4 + (-1)) ∧ V E M_X4_look 37 [some (rv l0), some (rv l1), some (iv l2), some (iv l3), some (iv (l4 + (-1))), none] [] G13 c14 s15 Q X)) ∧ ((gfd G13 4 3 l0) < (l2 - (gfd G13 0 4 (alAt G (gfd G 4 4 l0) l4))) → (gcl G13 l0 = 5 ∧ gcl G13 (gfd G13 4 4 l0) = 14 ∧ Call E M_A_remove [rv (gfd G13 4 4 l0), iv l4] G13 c14 s15 X (fun r32 G33 c34 s35 => i32 (l4 + (-1)) ∧ V E M_X4_look 37 [some (rv l0), some (rv l1), some (iv l2), some (iv l3), some (iv (l4 + (-1))), none] [] G33 c34 s35 Q X)))))))) → J12 G13 c14 s15) → ((l3 = 0 → J12 G c s) ∧ (l3 ≠ 0 → (gcl G (alAt G (gfd G 4 4 l0) l4) = 1 ∧ gcl G l1 = 4 ∧ Call E M_X3_find [rv l1, iv (gfd G 0 0 (alAt G (gfd G 4 4 l0) l4))] G c s X (fun r40 G41 c42 s43 => ((r40 = (-1) → J12 G41 c42 s43) ∧ (r40 ≠ (-1) → (gcl G41 (alAt G (gfd G 4 4 l0) l4) = 1 ∧ ∀ G46 : Gt, G46 = (sfd G41 0 4 (alAt G (gfd G 4 4 l0) l4) l2) → i32 (l4 + (-1)) ∧ V E M_X4_look 37 [some (rv l0), some (rv l1), some (iv l2), some (iv l3), some (iv (l4 + (-1))), none] [] G46 c42 s43 Q X))))))))))) : V E M_X4_look 37 [some (rv l0), some (rv l1), some (iv l2), some (iv l3), some (iv l4), none] [] G c s Q X := by
  refine v_iload (pc := 37) (dk dt_X4_look 20 rfl) rfl ?_
  refine v_if_lt (pc := 39) (tgt := 120) (dk dt_X4_look 21 rfl) (by decide) (fun c1 => ?_) (fun c1 => ?_)
  · replace h := h.1 c1
    refine v_iload_n (pc := 120) (dk dt_X4_look_1 17 rfl) rfl rfl ?_
    refine v_if_eq (pc := 121) (tgt := 130) (dk dt_X4_look_1 18 rfl) (by decide) (fun c2 => ?_) (fun c2 => ?_)
    · replace h := h.1 c2
      refine v_iconst (pc := 130) (dk dt_X4_look_1 23 rfl) ⟨by decide, by decide⟩ ?_
      refine v_istore (pc := 131) (ls' := [some (rv l0), some (rv l1), some (iv l2), some (iv l3), some (iv 0), none]) (dk dt_X4_look_1 24 rfl) (Nat.le_of_ble_eq_true rfl) rfl ?_
      exact v_less2 (ls' := [some (rv l0), none, some (iv l2), none, some (iv 0), none]) ⟨rfl, rfl, rfl, trivial⟩ h
    · replace h := h.2 c2
      refine v_aload_n (pc := 124) (dk dt_X4_look_1 19 rfl) rfl rfl ?_
      refine v_aload_n (pc := 125) (dk dt_X4_look_1 20 rfl) rfl rfl ?_
      refine v_iload_n (pc := 126) (dk dt_X4_look_1 21 rfl) rfl rfl ?_
      obtain ⟨v3, h⟩ := h
      refine v_cvV (c := 4) (As := [rv l1, iv l2]) (stk := []) (pc := 127) (dk dt_X4_look_1 22 rfl) ml_X4_70 rfl rfl (Nat.le_of_ble_eq_true rfl) rfl ⟨by decide, rfl⟩ v3 rfl (Call.mono h (fun r4 G5 c6 s7 h => ?_))
      refine v_iconst (pc := 130) (dk dt_X4_look_1 23 rfl) ⟨by decide, by decide⟩ ?_
      refine v_istore (pc := 131) (ls' := [some (rv l0), some (rv l1), some (iv l2), some (iv l3), some (iv 0), none]) (dk dt_X4_look_1 24 rfl) (Nat.le_of_ble_eq_true rfl) rfl ?_
      exact v_less2 (ls' := [some (rv l0), none, some (iv l2), none, some (iv 0), none]) ⟨rfl, rfl, rfl, trivial⟩ h
  · replace h := h.2 c1
    refine v_aload_n (pc := 42) (dk dt_X4_look 22 rfl) rfl rfl ?_
    obtain ⟨v8, h⟩ := h
    refine v_getR (pc := 43) (dk dt_X4_look 23 rfl) fl_X4_12 v8 (fun _ => ?_)
    refine v_iload (pc := 46) (dk dt_X4_look 24 rfl) rfl ?_
    obtain ⟨v9, h⟩ := h
    obtain ⟨v10, h⟩ := h
    refine v_cvPR (c := 13) (v := (alAt G (gfd G 4 4 l0) l4)) (As := [iv l4]) (stk := []) (pc := 48) (dk dt_X4_look 25 rfl) ml_X4_48 rfl rfl (Nat.le_of_ble_eq_true rfl) rfl ⟨by decide, rfl⟩ v9 rfl v10 ?_
    obtain ⟨v11, h⟩ := h
    refine v_cast (c := 0) (pc := 51) (dk dt_X4_look 26 rfl) (by decide) cl_X4_52 v11 ?_
    refine v_astore (pc := 54) (ls' := [some (rv l0), some (rv l1), some (iv l2), some (iv l3), some (iv l4), some (rv (alAt G (gfd G 4 4 l0) l4))]) (dk dt_X4_look 27 rfl) (Nat.le_of_ble_eq_true rfl) rfl ?_
    refine v_iload_n (pc := 56) (dk dt_X4_look 28 rfl) rfl rfl ?_
    obtain ⟨J12, dJ12⟩ : ∃ J9 : Gt → Nat → Nat → Prop, J9 = fun G13 c14 s15 => V E M_X4_look 82 [some (rv l0), some (rv l1), some (iv l2), some (iv l3), some (iv l4), some (rv (alAt G (gfd G 4 4 l0) l4))] [] G13 c14 s15 Q X := ⟨_, rfl⟩
    have hJ12 : ∀ (G13 : Gt) (c14 s15 : Nat), (gcl G13 (alAt G (gfd G 4 4 l0) l4) = 1 ∧ (((gfd G13 0 1 (alAt G (gfd G 4 4 l0) l4)) = 0 → (gcl G13 l0 = 5 ∧ gcl G13 (gfd G13 4 4 l0) = 14 ∧ Call E M_A_remove [rv (gfd G13 4 4 l0), iv l4] G13 c14 s15 X (fun r20 G21 c22 s23 => i32 (l4 + (-1)) ∧ V E M_X4_look 37 [some (rv l0), some (rv l1), some (iv l2), some (iv l3), some (iv (l4 + (-1))), none] [] G21 c22 s23 Q X))) ∧ ((gfd G13 0 1 (alAt G (gfd G 4 4 l0) l4)) ≠ 0 → (gcl G13 (alAt G (gfd G 4 4 l0) l4) = 1 ∧ i32 (l2 - (gfd G13 0 4 (alAt G (gfd G 4 4 l0) l4))) ∧ gcl G13 l0 = 5 ∧ (((l2 - (gfd G13 0 4 (alAt G (gfd G 4 4 l0) l4))) ≤ (gfd G13 4 3 l0) → (i32 (l4 + (-1)) ∧ V E M_X4_look 37 [some (rv l0), some (rv l1), some (iv l2), some (iv l3), some (iv (l4 + (-1))), none] [] G13 c14 s15 Q X)) ∧ ((gfd G13 4 3 l0) < (l2 - (gfd G13 0 4 (alAt G (gfd G 4 4 l0) l4))) → (gcl G13 l0 = 5 ∧ gcl G13 (gfd G13 4 4 l0) = 14 ∧ Call E M_A_remove [rv (gfd G13 4 4 l0), iv l4] G13 c14 s15 X (fun r32 G33 c34 s35 => i32 (l4 + (-1)) ∧ V E M_X4_look 37 [some (rv l0), some (rv l1), some (iv l2), some (iv l3), some (iv (l4 + (-1))), none] [] G33 c34 s35 Q X)))))))) → J12 G13 c14 s15 := by
      intro G13 c14 s15 h
      rw [dJ12]
      refine v_aload (pc := 82) (dk dt_X4_look_1 0 rfl) rfl ?_
      obtain ⟨v16, h⟩ := h
      refine v_getZ (pc := 84) (dk dt_X4_look_1 1 rfl) fl_X4_64 v16 (fun _ => ?_)
      refine v_if_eq (pc := 87) (tgt := 104) (dk dt_X4_look_1 2 rfl) (by decide) (fun c17 => ?_) (fun c17 => ?_)
      · replace h := h.1 c17
        refine v_aload_n (pc := 104) (dk dt_X4_look_1 10 rfl) rfl rfl ?_
        obtain ⟨v18, h⟩ := h
        refine v_getR (pc := 105) (dk dt_X4_look_1 11 rfl) fl_X4_12 v18 (fun _ => ?_)
        refine v_iload (pc := 108) (dk dt_X4_look_1 12 rfl) rfl ?_
        obtain ⟨v19, h⟩ := h
        refine v_cvR (c := 13) (As := [iv l4]) (stk := []) (pc := 110) (dk dt_X4_look_1 13 rfl) ml_X4_67 rfl rfl (Nat.le_of_ble_eq_true rfl) rfl ⟨by decide, rfl⟩ v19 rfl (Call.mono h (fun r20 G21 c22 s23 h => ?_))
        refine v_pop (pc := 113) (dk dt_X4_look_1 14 rfl) (by intro h9; cases h9) ?_
        obtain ⟨v24, h⟩ := h
        refine v_iinc (pc := 114) (ls' := [some (rv l0), some (rv l1), some (iv l2), some (iv l3), some (iv (l4 + (-1))), some (rv (alAt G (gfd G 4 4 l0) l4))]) (dk dt_X4_look_1 15 rfl) (Nat.le_of_ble_eq_true rfl) rfl v24 rfl ?_
        refine v_goto (pc := 117) (tgt := 37) (dk dt_X4_look_1 16 rfl) (by decide) ?_
        exact v_less2 (ls' := [some (rv l0), some (rv l1), some (iv l2), some (iv l3), some (iv (l4 + (-1))), none]) ⟨rfl, rfl, rfl, rfl, rfl, trivial⟩ h
      · replace h := h.2 c17
        refine v_iload_n (pc := 90) (dk dt_X4_look_1 3 rfl) rfl rfl ?_
        refine v_aload (pc := 91) (dk dt_X4_look_1 4 rfl) rfl ?_
        obtain ⟨v25, h⟩ := h
        refine v_getI (pc := 93) (dk dt_X4_look_1 5 rfl) fl_X4_61 v25 (fun _ => ?_)
        obtain ⟨v26, h⟩ := h
        refine v_isub (pc := 96) (dk dt_X4_look_1 6 rfl) v26 ?_
        refine v_aload_n (pc := 97) (dk dt_X4_look_1 7 rfl) rfl rfl ?_
        obtain ⟨v27, h⟩ := h
        refine v_getI (pc := 98) (dk dt_X4_look_1 8 rfl) fl_X4_31 v27 (fun _ => ?_)
        refine v_icmp_le (pc := 101) (tgt := 114) (dk dt_X4_look_1 9 rfl) (by decide) (fun c28 => ?_) (fun c28 => ?_)
        · replace h := h.1 c28
          obtain ⟨v29, h⟩ := h
          refine v_iinc (pc := 114) (ls' := [some (rv l0), some (rv l1), some (iv l2), some (iv l3), some (iv (l4 + (-1))), some (rv (alAt G (gfd G 4 4 l0) l4))]) (dk dt_X4_look_1 15 rfl) (Nat.le_of_ble_eq_true rfl) rfl v29 rfl ?_
          refine v_goto (pc := 117) (tgt := 37) (dk dt_X4_look_1 16 rfl) (by decide) ?_
          exact v_less2 (ls' := [some (rv l0), some (rv l1), some (iv l2), some (iv l3), some (iv (l4 + (-1))), none]) ⟨rfl, rfl, rfl, rfl, rfl, trivial⟩ h
        · replace h := h.2 c28
          refine v_aload_n (pc := 104) (dk dt_X4_look_1 10 rfl) rfl rfl ?_
          obtain ⟨v30, h⟩ := h
          refine v_getR (pc := 105) (dk dt_X4_look_1 11 rfl) fl_X4_12 v30 (fun _ => ?_)
          refine v_iload (pc := 108) (dk dt_X4_look_1 12 rfl) rfl ?_
          obtain ⟨v31, h⟩ := h
          refine v_cvR (c := 13) (As := [iv l4]) (stk := []) (pc := 110) (dk dt_X4_look_1 13 rfl) ml_X4_67 rfl rfl (Nat.le_of_ble_eq_true rfl) rfl ⟨by decide, rfl⟩ v31 rfl (Call.mono h (fun r32 G33 c34 s35 h => ?_))
          refine v_pop (pc := 113) (dk dt_X4_look_1 14 rfl) (by intro h9; cases h9) ?_
          obtain ⟨v36, h⟩ := h
          refine v_iinc (pc := 114) (ls' := [some (rv l0), some (rv l1), some (iv l2), some (iv l3), some (iv (l4 + (-1))), some (rv (alAt G (gfd G 4 4 l0) l4))]) (dk dt_X4_look_1 15 rfl) (Nat.le_of_ble_eq_true rfl) rfl v36 rfl ?_
          refine v_goto (pc := 117) (tgt := 37) (dk dt_X4_look_1 16 rfl) (by decide) ?_
          exact v_less2 (ls' := [some (rv l0), some (rv l1), some (iv l2), some (iv l3), some (iv (l4 + (-1))), none]) ⟨rfl, rfl, rfl, rfl, rfl, trivial⟩ h
    replace h := h _ hJ12
    refine v_if_eq (pc := 57) (tgt := 82) (dk dt_X4_look 29 rfl) (by decide) (fun c37 => ?_) (fun c37 => ?_)
    · replace h := h.1 c37
      rw [dJ12] at h
      exact h
    · replace h := h.2 c37
      refine v_aload_n (pc := 60) (dk dt_X4_look 30 rfl) rfl rfl ?_
      refine v_aload (pc := 61) (dk dt_X4_look 31 rfl) rfl ?_
      obtain ⟨v38, h⟩ := h
      refine v_getI (pc := 63) (dk dt_X4_look 32 rfl) fl_X4_54 v38 (fun _ => ?_)
      obtain ⟨v39, h⟩ := h
      refine v_cvI (c := 3) (As := [iv (gfd G 0 0 (alAt G (gfd G 4 4 l0) l4))]) (stk := []) (pc := 66) (dk dt_X4_look 33 rfl) ml_X4_57 rfl rfl (Nat.le_of_ble_eq_true rfl) rfl ⟨by decide, rfl⟩ v39 rfl (Call.mono h (fun r40 G41 c42 s43 h => ?_))
      refine v_iconst (pc := 69) (dk dt_X4_look 34 rfl) ⟨by decide, by decide⟩ ?_
      refine v_icmp_eq (pc := 70) (tgt := 82) (dk dt_X4_look 35 rfl) (by decide) (fun c44 => ?_) (fun c44 => ?_)
      · replace h := h.1 c44
        rw [dJ12] at h
        exact h
      · replace h := h.2 c44
        refine v_aload (pc := 73) (dk dt_X4_look 36 rfl) rfl ?_
        refine v_iload_n (pc := 75) (dk dt_X4_look 37 rfl) rfl rfl ?_
        obtain ⟨v45, h⟩ := h
        refine v_putI (pc := 76) (dk dt_X4_look 38 rfl) fl_X4_61 (Or.inl rfl) v45 ?_
        generalize hG46 : (sfd G41 0 4 (alAt G (gfd G 4 4 l0) l4) l2) = G46
        replace h := h G46 hG46.symm
        refine v_goto (pc := 79) (tgt := 114) (dk dt_X4_look 39 rfl) (by decide) ?_
        obtain ⟨v47, h⟩ := h
        refine v_iinc (pc := 114) (ls' := [some (rv l0), some (rv l1), some (iv l2), some (iv l3), some (iv (l4 + (-1))), some (rv (alAt G (gfd G 4 4 l0) l4))]) (dk dt_X4_look_1 15 rfl) (Nat.le_of_ble_eq_true rfl) rfl v47 rfl ?_
        refine v_goto (pc := 117) (tgt := 37) (dk dt_X4_look_1 16 rfl) (by decide) ?_
        exact v_less2 (ls' := [some (rv l0), some (rv l1), some (iv l2), some (iv l3), some (iv (l4 + (-1))), none]) ⟨rfl, rfl, rfl, rfl, rfl, trivial⟩ h
set_option maxRecDepth 20000 in
theorem b_X4_look_133 {E : EE} {l0 l2 l4 : Int} {G : Gt} {c s : Nat} {Q X : Int → Gt → Prop} (h : (gcl G l0 = 5 ∧ gcl G (gfd G 4 4 l0) = 14 ∧ OkP E M_A_size [rv (gfd G 4 4 l0)] G (gfd G 13 2 (gfd G 4 4 l0)) ∧ (((gfd G 13 2 (gfd G 4 4 l0)) ≤ l4 → Q 0 G) ∧ (l4 < (gfd G 13 2 (gfd G 4 4 l0)) → (gcl G l0 = 5 ∧ gcl G (gfd G 4 4 l0) = 14 ∧ OkP E M_A_get [rv (gfd G 4 4 l0), iv l4] G (alAt G (gfd G 4 4 l0) l4) ∧ ((alAt G (gfd G 4 4 l0) l4) = -1 ∨ gcl G (alAt G (gfd G 4 4 l0) l4) = 1) ∧ gcl G (alAt G (gfd G 4 4 l0) l4) = 1 ∧ (((gfd G 0 1 (alAt G (gfd G 4 4 l0) l4)) ≠ 0 → (i32 (l4 + 1) ∧ V E M_X4_look 133 [some (rv l0), none, some (iv l2), none, some (iv (l4 + 1)), none] [] G c s Q X)) ∧ ((gfd G 0 1 (alAt G (gfd G 4 4 l0) l4)) = 0 → (gcl G (alAt G (gfd G 4 4 l0) l4) = 1 ∧ i32 (l2 - (gfd G 0 3 (alAt G (gfd G 4 4 l0) l4))) ∧ gcl G l0 = 5 ∧ (((l2 - (gfd G 0 3 (alAt G (gfd G 4 4 l0) l4))) < (gfd G 4 2 l0) → (i32 (l4 + 1) ∧ V E M_X4_look 133 [some (rv l0), none, some (iv l2), none, some (iv (l4 + 1)), none] [] G c s Q X)) ∧ ((gfd G 4 2 l0) ≤ (l2 - (gfd G 0 3 (alAt G (gfd G 4 4 l0) l4))) → (gcl G (alAt G (gfd G 4 4 l0) l4) = 1 ∧ Call E M_X0_fire [rv (alAt G (gfd G 4 4 l0) l4), iv l2] G c s X (fun r18 G19 c20 s21 => i32 (l4 + 1) ∧ V E M_X4_look 133 [some (rv l0), none, some (iv l2), none, some (iv (l4 + 1)), none] [] G19 c20 s21 Q X)))))))))))) : V E M_X4_look 133 [some (rv l0), none, some (iv l2), none, some (iv l4), none] [] G c s Q X := by
  refine v_iload (pc := 133) (dk dt_X4_look_1 25 rfl) rfl ?_
  refine v_aload_n (pc := 135) (dk dt_X4_look_1 26 rfl) rfl rfl ?_
  obtain ⟨v1, h⟩ := h
  refine v_getR (pc := 136) (dk dt_X4_look_1 27 rfl) fl_X4_12 v1 (fun _ => ?_)
  obtain ⟨v2, h⟩ := h
  obtain ⟨v3, h⟩ := h
  refine v_cvPI (c := 13) (v := (gfd G 13 2 (gfd G 4 4 l0))) (As := []) (stk := [iv l4]) (pc := 139) (dk dt_X4_look_1 28 rfl) ml_X4_44 rfl rfl (Nat.le_of_ble_eq_true rfl) rfl ⟨by decide, rfl⟩ v2 rfl v3 ?_
  refine v_icmp_ge (pc := 142) (tgt := 193) (dk dt_X4_look_1 29 rfl) (by decide) (fun c4 => ?_) (fun c4 => ?_)
  · replace h := h.1 c4
    exact v_vret (pc := 193) (dk dt_X4_look_2 11 rfl) rfl h
  · replace h := h.2 c4
    refine v_aload_n (pc := 145) (dk dt_X4_look_1 30 rfl) rfl rfl ?_
    obtain ⟨v5, h⟩ := h
    refine v_getR (pc := 146) (dk dt_X4_look_1 31 rfl) fl_X4_12 v5 (fun _ => ?_)
    refine v_iload (pc := 149) (dk dt_X4_look_1 32 rfl) rfl ?_
    obtain ⟨v6, h⟩ := h
    obtain ⟨v7, h⟩ := h
    refine v_cvPR (c := 13) (v := (alAt G (gfd G 4 4 l0) l4)) (As := [iv l4]) (stk := []) (pc := 151) (dk dt_X4_look_1 33 rfl) ml_X4_48 rfl rfl (Nat.le_of_ble_eq_true rfl) rfl ⟨by decide, rfl⟩ v6 rfl v7 ?_
    obtain ⟨v8, h⟩ := h
    refine v_cast (c := 0) (pc := 154) (dk dt_X4_look_1 34 rfl) (by decide) cl_X4_52 v8 ?_
    refine v_astore (pc := 157) (ls' := [some (rv l0), none, some (iv l2), none, some (iv l4), some (rv (alAt G (gfd G 4 4 l0) l4))]) (dk dt_X4_look_1 35 rfl) (Nat.le_of_ble_eq_true rfl) rfl ?_
    refine v_aload (pc := 159) (dk dt_X4_look_1 36 rfl) rfl ?_
    obtain ⟨v9, h⟩ := h
    refine v_getZ (pc := 161) (dk dt_X4_look_1 37 rfl) fl_X4_64 v9 (fun _ => ?_)
    refine v_if_ne (pc := 164) (tgt := 187) (dk dt_X4_look_1 38 rfl) (by decide) (fun c10 => ?_) (fun c10 => ?_)
    · replace h := h.1 c10
      obtain ⟨v11, h⟩ := h
      refine v_iinc (pc := 187) (ls' := [some (rv l0), none, some (iv l2), none, some (iv (l4 + 1)), some (rv (alAt G (gfd G 4 4 l0) l4))]) (dk dt_X4_look_2 9 rfl) (Nat.le_of_ble_eq_true rfl) rfl v11 rfl ?_
      refine v_goto (pc := 190) (tgt := 133) (dk dt_X4_look_2 10 rfl) (by decide) ?_
      exact v_less2 (ls' := [some (rv l0), none, some (iv l2), none, some (iv (l4 + 1)), none]) ⟨rfl, rfl, rfl, trivial⟩ h
    · replace h := h.2 c10
      refine v_iload_n (pc := 167) (dk dt_X4_look_1 39 rfl) rfl rfl ?_
      refine v_aload (pc := 168) (dk dt_X4_look_2 0 rfl) rfl ?_
      obtain ⟨v12, h⟩ := h
      refine v_getI (pc := 170) (dk dt_X4_look_2 1 rfl) fl_X4_74 v12 (fun _ => ?_)
      obtain ⟨v13, h⟩ := h
      refine v_isub (pc := 173) (dk dt_X4_look_2 2 rfl) v13 ?_
      refine v_aload_n (pc := 174) (dk dt_X4_look_2 3 rfl) rfl rfl ?_
      obtain ⟨v14, h⟩ := h
      refine v_getI (pc := 175) (dk dt_X4_look_2 4 rfl) fl_X4_28 v14 (fun _ => ?_)
      refine v_icmp_lt (pc := 178) (tgt := 187) (dk dt_X4_look_2 5 rfl) (by decide) (fun c15 => ?_) (fun c15 => ?_)
      · replace h := h.1 c15
        obtain ⟨v16, h⟩ := h
        refine v_iinc (pc := 187) (ls' := [some (rv l0), none, some (iv l2), none, some (iv (l4 + 1)), some (rv (alAt G (gfd G 4 4 l0) l4))]) (dk dt_X4_look_2 9 rfl) (Nat.le_of_ble_eq_true rfl) rfl v16 rfl ?_
        refine v_goto (pc := 190) (tgt := 133) (dk dt_X4_look_2 10 rfl) (by decide) ?_
        exact v_less2 (ls' := [some (rv l0), none, some (iv l2), none, some (iv (l4 + 1)), none]) ⟨rfl, rfl, rfl, trivial⟩ h
      · replace h := h.2 c15
        refine v_aload (pc := 181) (dk dt_X4_look_2 6 rfl) rfl ?_
        refine v_iload_n (pc := 183) (dk dt_X4_look_2 7 rfl) rfl rfl ?_
        obtain ⟨v17, h⟩ := h
        refine v_cvV (c := 0) (As := [iv l2]) (stk := []) (pc := 184) (dk dt_X4_look_2 8 rfl) ml_X4_77 rfl rfl (Nat.le_of_ble_eq_true rfl) rfl ⟨by decide, rfl⟩ v17 rfl (Call.mono h (fun r18 G19 c20 s21 h => ?_))
        obtain ⟨v22, h⟩ := h
        refine v_iinc (pc := 187) (ls' := [some (rv l0), none, some (iv l2), none, some (iv (l4 + 1)), some (rv (alAt G (gfd G 4 4 l0) l4))]) (dk dt_X4_look_2 9 rfl) (Nat.le_of_ble_eq_true rfl) rfl v22 rfl ?_
        refine v_goto (pc := 190) (tgt := 133) (dk dt_X4_look_2 10 rfl) (by decide) ?_
        exact v_less2 (ls' := [some (rv l0), none, some (iv l2), none, some (iv (l4 + 1)), none]) ⟨rfl, rfl, rfl, trivial⟩ h
set_option maxRecDepth 20000 in
theorem b_X4_addNew_0 {E : EE} {l0 l1 l2 : Int} {G : Gt} {c s : Nat} {Q X : Int → Gt → Prop} (h : V E M_X4_addNew 5 [some (rv l0), some (rv l1), some (iv l2), some (iv 0), some (iv 0), none] [] G c s Q X) : V E M_X4_addNew 0 [some (rv l0), some (rv l1), some (iv l2), none, none, none] [] G c s Q X := by
  refine v_iconst (pc := 0) (dk dt_X4_addNew 0 rfl) ⟨by decide, by decide⟩ ?_
  refine v_istore_n (pc := 1) (ls' := [some (rv l0), some (rv l1), some (iv l2), some (iv 0), none, none]) (dk dt_X4_addNew 1 rfl) rfl (Nat.le_of_ble_eq_true rfl) rfl ?_
  refine v_iconst (pc := 2) (dk dt_X4_addNew 2 rfl) ⟨by decide, by decide⟩ ?_
  refine v_istore (pc := 3) (ls' := [some (rv l0), some (rv l1), some (iv l2), some (iv 0), some (iv 0), none]) (dk dt_X4_addNew 3 rfl) (Nat.le_of_ble_eq_true rfl) rfl ?_
  exact h
set_option maxRecDepth 20000 in
theorem i_X4_addNew {E : EE} {l0 l1 l2 : Int} {G : Gt} {c s : Nat} {Q X : Int → Gt → Prop} (h : V E M_X4_addNew 5 [some (rv l0), some (rv l1), some (iv l2), some (iv 0), some (iv 0), none] [] G c s Q X) : Ok E M_X4_addNew [rv l0, rv l1, iv l2] G c s Q X := Ok.intro (k := 3) rfl rfl (Nat.le_of_ble_eq_true rfl) rfl (b_X4_addNew_0 h)
set_option maxRecDepth 20000 in
theorem b_X4_addNew_5 {E : EE} {l0 l1 l2 l3 l4 : Int} {G : Gt} {c s : Nat} {Q X : Int → Gt → Prop} (h : (gcl G l1 = 4 ∧ (((gfd G 3 2 l1) ≤ l4 → Q 0 G) ∧ (l4 < (gfd G 3 2 l1) → (gcl G l1 = 4 ∧ gcl G (gfd G 3 0 l1) = 15 ∧ 0 ≤ l4 ∧ l4 < gln G (gfd G 3 0 l1) ∧ V E M_X4_addNew 23 [some (rv l0), some (rv l1), some (iv l2), some (iv l3), some (iv l4), some (iv (gel G (gfd G 3 0 l1) l4))] [] G c s Q X))))) : V E M_X4_addNew 5 [some (rv l0), some (rv l1), some (iv l2), some (iv l3), some (iv l4), none] [] G c s Q X := by
  refine v_iload (pc := 5) (dk dt_X4_addNew 4 rfl) rfl ?_
  refine v_aload_n (pc := 7) (dk dt_X4_addNew 5 rfl) rfl rfl ?_
  obtain ⟨v1, h⟩ := h
  refine v_getI (pc := 8) (dk dt_X4_addNew 6 rfl) fl_X4_81 v1 (fun _ => ?_)
  refine v_icmp_ge (pc := 11) (tgt := 113) (dk dt_X4_addNew 7 rfl) (by decide) (fun c2 => ?_) (fun c2 => ?_)
  · replace h := h.1 c2
    exact v_vret (pc := 113) (dk dt_X4_addNew_1 12 rfl) rfl h
  · replace h := h.2 c2
    refine v_aload_n (pc := 14) (dk dt_X4_addNew 8 rfl) rfl rfl ?_
    obtain ⟨v3, h⟩ := h
    refine v_getR (pc := 15) (dk dt_X4_addNew 9 rfl) fl_X4_83 v3 (fun _ => ?_)
    refine v_iload (pc := 18) (dk dt_X4_addNew 10 rfl) rfl ?_
    obtain ⟨v4, h⟩ := h
    obtain ⟨v5, h⟩ := h
    obtain ⟨v6, h⟩ := h
    refine v_iald (pc := 20) (dk dt_X4_addNew 11 rfl) (Or.inl v4) v5 v6 (fun _ => ?_)
    refine v_istore (pc := 21) (ls' := [some (rv l0), some (rv l1), some (iv l2), some (iv l3), some (iv l4), some (iv (gel G (gfd G 3 0 l1) l4))]) (dk dt_X4_addNew 12 rfl) (Nat.le_of_ble_eq_true rfl) rfl ?_
    exact h
set_option maxRecDepth 20000 in
theorem b_X4_addNew_23 {E : EE} {l0 l1 l2 l3 l4 l5 : Int} {G : Gt} {c s : Nat} {Q X : Int → Gt → Prop} (h : (gcl G l0 = 5 ∧ gcl G (gfd G 4 4 l0) = 14 ∧ OkP E M_A_size [rv (gfd G 4 4 l0)] G (gfd G 13 2 (gfd G 4 4 l0)) ∧ ∀ J4 : Prop, ((gcl G l0 = 5 ∧ gcl G (gfd G 4 4 l0) = 14 ∧ OkP E M_A_size [rv (gfd G 4 4 l0)] G (gfd G 13 2 (gfd G 4 4 l0)) ∧ ∀ J8 : Prop, ((gcl G l0 = 5 ∧ 1 ≤ c ∧ 5 ≤ s ∧ ∀ q12 : Int, gcl G q12 = 0 → (eb E : Int) ≤ q12 → ∀ G13 : Gt, G13 = (newo G q12 0) → 0 ≤ q12 ∧ Call E M_X0_init [rv q12, iv l5, iv l2] G13 (c - 1) (s - 5) X (fun r15 G16 c17 s18 => gcl G16 (gfd G 4 4 l0) = 14 ∧ Call E M_A_addAt [rv (gfd G 4 4 l0), iv l3, rv q12] G16 c17 s18 X (fun r20 G21 c22 s23 => i32 (l4 + 1) ∧ V E M_X4_addNew 5 [some (rv l0), some (rv l1), some (iv l2), some (iv l3), some (iv (l4 + 1)), none] [] G21 c22 s23 Q X))) → J8) → (((gfd G 13 2 (gfd G 4 4 l0)) ≤ l3 → J8) ∧ (l3 < (gfd G 13 2 (gfd G 4 4 l0)) → (gcl G l0 = 5 ∧ gcl G (gfd G 4 4 l0) = 14 ∧ OkP E M_A_get [rv (gfd G 4 4 l0), iv l3] G (alAt G (gfd G 4 4 l0) l3) ∧ ((alAt G (gfd G 4 4 l0) l3) = -1 ∨ gcl G (alAt G (gfd G 4 4 l0) l3) = 1) ∧ gcl G (alAt G (gfd G 4 4 l0) l3) = 1 ∧ (((gfd G 0 0 (alAt G (gfd G 4 4 l0) l3)) = l5 → (i32 (l4 + 1) ∧ V E M_X4_addNew 5 [some (rv l0), some (rv l1), some (iv l2), some (iv l3), some (iv (l4 + 1)), none] [] G c s Q X)) ∧ ((gfd G 0 0 (alAt G (gfd G 4 4 l0) l3)) ≠ l5 → J8)))))) → J4) → (((gfd G 13 2 (gfd G 4 4 l0)) ≤ l3 → J4) ∧ (l3 < (gfd G 13 2 (gfd G 4 4 l0)) → (gcl G l0 = 5 ∧ gcl G (gfd G 4 4 l0) = 14 ∧ OkP E M_A_get [rv (gfd G 4 4 l0), iv l3] G (alAt G (gfd G 4 4 l0) l3) ∧ ((alAt G (gfd G 4 4 l0) l3) = -1 ∨ gcl G (alAt G (gfd G 4 4 l0) l3) = 1) ∧ gcl G (alAt G (gfd G 4 4 l0) l3) = 1 ∧ ((l5 ≤ (gfd G 0 0 (alAt G (gfd G 4 4 l0) l3)) → J4) ∧ ((gfd G 0 0 (alAt G (gfd G 4 4 l0) l3)) < l5 → (i32 (l3 + 1) ∧ V E M_X4_addNew 23 [some (rv l0), some (rv l1), some (iv l2), some (iv (l3 + 1)), some (iv l4), some (iv l5)] [] G c s Q X)))))))) : V E M_X4_addNew 23 [some (rv l0), some (rv l1), some (iv l2), some (iv l3), some (iv l4), some (iv l5)] [] G c s Q X := by
  refine v_iload_n (pc := 23) (dk dt_X4_addNew 13 rfl) rfl rfl ?_
  refine v_aload_n (pc := 24) (dk dt_X4_addNew 14 rfl) rfl rfl ?_
  obtain ⟨v1, h⟩ := h
  refine v_getR (pc := 25) (dk dt_X4_addNew 15 rfl) fl_X4_12 v1 (fun _ => ?_)
  obtain ⟨v2, h⟩ := h
  obtain ⟨v3, h⟩ := h
  refine v_cvPI (c := 13) (v := (gfd G 13 2 (gfd G 4 4 l0))) (As := []) (stk := [iv l3]) (pc := 28) (dk dt_X4_addNew 16 rfl) ml_X4_44 rfl rfl (Nat.le_of_ble_eq_true rfl) rfl ⟨by decide, rfl⟩ v2 rfl v3 ?_
  obtain ⟨J4, dJ4⟩ : ∃ J9 : Prop, J9 = V E M_X4_addNew 59 [some (rv l0), some (rv l1), some (iv l2), some (iv l3), some (iv l4), some (iv l5)] [] G c s Q X := ⟨_, rfl⟩
  have hJ4 : (gcl G l0 = 5 ∧ gcl G (gfd G 4 4 l0) = 14 ∧ OkP E M_A_size [rv (gfd G 4 4 l0)] G (gfd G 13 2 (gfd G 4 4 l0)) ∧ ∀ J8 : Prop, ((gcl G l0 = 5 ∧ 1 ≤ c ∧ 5 ≤ s ∧ ∀ q12 : Int, gcl G q12 = 0 → (eb E : Int) ≤ q12 → ∀ G13 : Gt, G13 = (newo G q12 0) → 0 ≤ q12 ∧ Call E M_X0_init [rv q12, iv l5, iv l2] G13 (c - 1) (s - 5) X (fun r15 G16 c17 s18 => gcl G16 (gfd G 4 4 l0) = 14 ∧ Call E M_A_addAt [rv (gfd G 4 4 l0), iv l3, rv q12] G16 c17 s18 X (fun r20 G21 c22 s23 => i32 (l4 + 1) ∧ V E M_X4_addNew 5 [some (rv l0), some (rv l1), some (iv l2), some (iv l3), some (iv (l4 + 1)), none] [] G21 c22 s23 Q X))) → J8) → (((gfd G 13 2 (gfd G 4 4 l0)) ≤ l3 → J8) ∧ (l3 < (gfd G 13 2 (gfd G 4 4 l0)) → (gcl G l0 = 5 ∧ gcl G (gfd G 4 4 l0) = 14 ∧ OkP E M_A_get [rv (gfd G 4 4 l0), iv l3] G (alAt G (gfd G 4 4 l0) l3) ∧ ((alAt G (gfd G 4 4 l0) l3) = -1 ∨ gcl G (alAt G (gfd G 4 4 l0) l3) = 1) ∧ gcl G (alAt G (gfd G 4 4 l0) l3) = 1 ∧ (((gfd G 0 0 (alAt G (gfd G 4 4 l0) l3)) = l5 → (i32 (l4 + 1) ∧ V E M_X4_addNew 5 [some (rv l0), some (rv l1), some (iv l2), some (iv l3), some (iv (l4 + 1)), none] [] G c s Q X)) ∧ ((gfd G 0 0 (alAt G (gfd G 4 4 l0) l3)) ≠ l5 → J8)))))) → J4 := by
    intro h
    rw [dJ4]
    refine v_iload_n (pc := 59) (dk dt_X4_addNew 28 rfl) rfl rfl ?_
    refine v_aload_n (pc := 60) (dk dt_X4_addNew 29 rfl) rfl rfl ?_
    obtain ⟨v5, h⟩ := h
    refine v_getR (pc := 61) (dk dt_X4_addNew 30 rfl) fl_X4_12 v5 (fun _ => ?_)
    obtain ⟨v6, h⟩ := h
    obtain ⟨v7, h⟩ := h
    refine v_cvPI (c := 13) (v := (gfd G 13 2 (gfd G 4 4 l0))) (As := []) (stk := [iv l3]) (pc := 64) (dk dt_X4_addNew 31 rfl) ml_X4_44 rfl rfl (Nat.le_of_ble_eq_true rfl) rfl ⟨by decide, rfl⟩ v6 rfl v7 ?_
    obtain ⟨J8, dJ8⟩ : ∃ J9 : Prop, J9 = V E M_X4_addNew 89 [some (rv l0), some (rv l1), some (iv l2), some (iv l3), some (iv l4), some (iv l5)] [] G c s Q X := ⟨_, rfl⟩
    have hJ8 : (gcl G l0 = 5 ∧ 1 ≤ c ∧ 5 ≤ s ∧ ∀ q12 : Int, gcl G q12 = 0 → (eb E : Int) ≤ q12 → ∀ G13 : Gt, G13 = (newo G q12 0) → 0 ≤ q12 ∧ Call E M_X0_init [rv q12, iv l5, iv l2] G13 (c - 1) (s - 5) X (fun r15 G16 c17 s18 => gcl G16 (gfd G 4 4 l0) = 14 ∧ Call E M_A_addAt [rv (gfd G 4 4 l0), iv l3, rv q12] G16 c17 s18 X (fun r20 G21 c22 s23 => i32 (l4 + 1) ∧ V E M_X4_addNew 5 [some (rv l0), some (rv l1), some (iv l2), some (iv l3), some (iv (l4 + 1)), none] [] G21 c22 s23 Q X))) → J8 := by
      intro h
      rw [dJ8]
      refine v_aload_n (pc := 89) (dk dt_X4_addNew_1 1 rfl) rfl rfl ?_
      obtain ⟨v9, h⟩ := h
      refine v_getR (pc := 90) (dk dt_X4_addNew_1 2 rfl) fl_X4_12 v9 (fun _ => ?_)
      refine v_iload_n (pc := 93) (dk dt_X4_addNew_1 3 rfl) rfl rfl ?_
      obtain ⟨v10, h⟩ := h
      obtain ⟨v11, h⟩ := h
      refine v_new (pc := 94) (dk dt_X4_addNew_1 4 rfl) nl_X4_52 v10 v11 (fun q12 hq12 gq12 => ?_)
      replace h := h q12 hq12 gq12
      generalize hG13 : (newo G q12 0) = G13
      replace h := h G13 hG13.symm
      refine v_dup (pc := 97) (dk dt_X4_addNew_1 5 rfl) (by intro h9; cases h9) ?_
      refine v_iload (pc := 98) (dk dt_X4_addNew_1 6 rfl) rfl ?_
      refine v_iload_n (pc := 100) (dk dt_X4_addNew_1 7 rfl) rfl rfl ?_
      obtain ⟨v14, h⟩ := h
      refine v_ciV (As := [iv l5, iv l2]) (stk := [rv q12, iv l3, rv (gfd G 4 4 l0)]) (pc := 101) (dk dt_X4_addNew_1 8 rfl) ml_X4_86 rfl rfl (Nat.le_of_ble_eq_true rfl) rfl v14 (Call.mono h (fun r15 G16 c17 s18 h => ?_))
      obtain ⟨v19, h⟩ := h
      refine v_cvV (c := 13) (As := [iv l3, rv q12]) (stk := []) (pc := 104) (dk dt_X4_addNew_1 9 rfl) ml_X4_89 rfl rfl (Nat.le_of_ble_eq_true rfl) rfl ⟨by decide, rfl⟩ v19 rfl (Call.mono h (fun r20 G21 c22 s23 h => ?_))
      obtain ⟨v24, h⟩ := h
      refine v_iinc (pc := 107) (ls' := [some (rv l0), some (rv l1), some (iv l2), some (iv l3), some (iv (l4 + 1)), some (iv l5)]) (dk dt_X4_addNew_1 10 rfl) (Nat.le_of_ble_eq_true rfl) rfl v24 rfl ?_
      refine v_goto (pc := 110) (tgt := 5) (dk dt_X4_addNew_1 11 rfl) (by decide) ?_
      exact v_less2 (ls' := [some (rv l0), some (rv l1), some (iv l2), some (iv l3), some (iv (l4 + 1)), none]) ⟨rfl, rfl, rfl, rfl, rfl, trivial⟩ h
    replace h := h _ hJ8
    refine v_icmp_ge (pc := 67) (tgt := 89) (dk dt_X4_addNew 32 rfl) (by decide) (fun c25 => ?_) (fun c25 => ?_)
    · replace h := h.1 c25
      rw [dJ8] at h
      exact h
    · replace h := h.2 c25
      refine v_aload_n (pc := 70) (dk dt_X4_addNew 33 rfl) rfl rfl ?_
      obtain ⟨v26, h⟩ := h
      refine v_getR (pc := 71) (dk dt_X4_addNew 34 rfl) fl_X4_12 v26 (fun _ => ?_)
      refine v_iload_n (pc := 74) (dk dt_X4_addNew 35 rfl) rfl rfl ?_
      obtain ⟨v27, h⟩ := h
      obtain ⟨v28, h⟩ := h
      refine v_cvPR (c := 13) (v := (alAt G (gfd G 4 4 l0) l3)) (As := [iv l3]) (stk := []) (pc := 75) (dk dt_X4_addNew 36 rfl) ml_X4_48 rfl rfl (Nat.le_of_ble_eq_true rfl) rfl ⟨by decide, rfl⟩ v27 rfl v28 ?_
      obtain ⟨v29, h⟩ := h
      refine v_cast (c := 0) (pc := 78) (dk dt_X4_addNew 37 rfl) (by decide) cl_X4_52 v29 ?_
      obtain ⟨v30, h⟩ := h
      refine v_getI (pc := 81) (dk dt_X4_addNew 38 rfl) fl_X4_54 v30 (fun _ => ?_)
      refine v_iload (pc := 84) (dk dt_X4_addNew 39 rfl) rfl ?_
      refine v_icmp_eq (pc := 86) (tgt := 107) (dk dt_X4_addNew_1 0 rfl) (by decide) (fun c31 => ?_) (fun c31 => ?_)
      · replace h := h.1 c31
        obtain ⟨v32, h⟩ := h
        refine v_iinc (pc := 107) (ls' := [some (rv l0), some (rv l1), some (iv l2), some (iv l3), some (iv (l4 + 1)), some (iv l5)]) (dk dt_X4_addNew_1 10 rfl) (Nat.le_of_ble_eq_true rfl) rfl v32 rfl ?_
        refine v_goto (pc := 110) (tgt := 5) (dk dt_X4_addNew_1 11 rfl) (by decide) ?_
        exact v_less2 (ls' := [some (rv l0), some (rv l1), some (iv l2), some (iv l3), some (iv (l4 + 1)), none]) ⟨rfl, rfl, rfl, rfl, rfl, trivial⟩ h
      · replace h := h.2 c31
        rw [dJ8] at h
        exact h
  replace h := h _ hJ4
  refine v_icmp_ge (pc := 31) (tgt := 59) (dk dt_X4_addNew 17 rfl) (by decide) (fun c33 => ?_) (fun c33 => ?_)
  · replace h := h.1 c33
    rw [dJ4] at h
    exact h
  · replace h := h.2 c33
    refine v_aload_n (pc := 34) (dk dt_X4_addNew 18 rfl) rfl rfl ?_
    obtain ⟨v34, h⟩ := h
    refine v_getR (pc := 35) (dk dt_X4_addNew 19 rfl) fl_X4_12 v34 (fun _ => ?_)
    refine v_iload_n (pc := 38) (dk dt_X4_addNew 20 rfl) rfl rfl ?_
    obtain ⟨v35, h⟩ := h
    obtain ⟨v36, h⟩ := h
    refine v_cvPR (c := 13) (v := (alAt G (gfd G 4 4 l0) l3)) (As := [iv l3]) (stk := []) (pc := 39) (dk dt_X4_addNew 21 rfl) ml_X4_48 rfl rfl (Nat.le_of_ble_eq_true rfl) rfl ⟨by decide, rfl⟩ v35 rfl v36 ?_
    obtain ⟨v37, h⟩ := h
    refine v_cast (c := 0) (pc := 42) (dk dt_X4_addNew 22 rfl) (by decide) cl_X4_52 v37 ?_
    obtain ⟨v38, h⟩ := h
    refine v_getI (pc := 45) (dk dt_X4_addNew 23 rfl) fl_X4_54 v38 (fun _ => ?_)
    refine v_iload (pc := 48) (dk dt_X4_addNew 24 rfl) rfl ?_
    refine v_icmp_ge (pc := 50) (tgt := 59) (dk dt_X4_addNew 25 rfl) (by decide) (fun c39 => ?_) (fun c39 => ?_)
    · replace h := h.1 c39
      rw [dJ4] at h
      exact h
    · replace h := h.2 c39
      obtain ⟨v40, h⟩ := h
      refine v_iinc (pc := 53) (ls' := [some (rv l0), some (rv l1), some (iv l2), some (iv (l3 + 1)), some (iv l4), some (iv l5)]) (dk dt_X4_addNew 26 rfl) (Nat.le_of_ble_eq_true rfl) rfl v40 rfl ?_
      refine v_goto (pc := 56) (tgt := 23) (dk dt_X4_addNew 27 rfl) (by decide) ?_
      exact h
set_option maxRecDepth 20000 in
theorem b_X5_init_0 {E : EE} {l0 l1 l2 l3 l4 l5 : Int} {G : Gt} {c s : Nat} {Q X : Int → Gt → Prop} (h : (0 ≤ l0 ∧ gcl G l0 = 6 ∧ ∀ G3 : Gt, G3 = (sfd G 5 5 l0 (-1)) → gcl G3 l0 = 6 ∧ ∀ G5 : Gt, G5 = (sfd G3 5 0 l0 l1) → gcl G5 l0 = 6 ∧ ∀ G7 : Gt, G7 = (sfd G5 5 1 l0 l2) → gcl G7 l0 = 6 ∧ ∀ G9 : Gt, G9 = (sfd G7 5 2 l0 l3) → gcl G9 l0 = 6 ∧ ∀ G11 : Gt, G11 = (sfd G9 5 3 l0 l4) → gcl G11 l0 = 6 ∧ (l5 = 0 ∨ l5 = 1) ∧ ∀ G14 : Gt, G14 = (sfd G11 5 4 l0 l5) → Q 0 G14)) : V E M_X5_init 0 [some (rv l0), some (rv l1), some (iv l2), some (iv l3), some (iv l4), some (iv l5)] [] G c s Q X := by
  refine v_aload_n (pc := 0) (dk dt_X5_init 0 rfl) rfl rfl ?_
  obtain ⟨v1, h⟩ := h
  refine v_objInit (pc := 1) (dk dt_X5_init 1 rfl) mw_X5_1 (Nat.le_of_ble_eq_true rfl) (Nat.le_of_ble_eq_true rfl) (Nat.le_of_ble_eq_true rfl) v1 ?_
  refine v_aload_n (pc := 4) (dk dt_X5_init 2 rfl) rfl rfl ?_
  refine v_null (pc := 5) (dk dt_X5_init 3 rfl) ?_
  obtain ⟨v2, h⟩ := h
  refine v_putR (pc := 6) (dk dt_X5_init 4 rfl) fl_X5_7 (Or.inl rfl) v2 ?_
  generalize hG3 : (sfd G 5 5 l0 (-1)) = G3
  replace h := h G3 hG3.symm
  refine v_aload_n (pc := 9) (dk dt_X5_init 5 rfl) rfl rfl ?_
  refine v_aload_n (pc := 10) (dk dt_X5_init 6 rfl) rfl rfl ?_
  obtain ⟨v4, h⟩ := h
  refine v_putR (pc := 11) (dk dt_X5_init 7 rfl) fl_X5_13 (Or.inr ⟨rfl, rfl⟩) v4 ?_
  generalize hG5 : (sfd G3 5 0 l0 l1) = G5
  replace h := h G5 hG5.symm
  refine v_aload_n (pc := 14) (dk dt_X5_init 8 rfl) rfl rfl ?_
  refine v_iload_n (pc := 15) (dk dt_X5_init 9 rfl) rfl rfl ?_
  obtain ⟨v6, h⟩ := h
  refine v_putI (pc := 16) (dk dt_X5_init 10 rfl) fl_X5_17 (Or.inr ⟨rfl, rfl⟩) v6 ?_
  generalize hG7 : (sfd G5 5 1 l0 l2) = G7
  replace h := h G7 hG7.symm
  refine v_aload_n (pc := 19) (dk dt_X5_init 11 rfl) rfl rfl ?_
  refine v_iload_n (pc := 20) (dk dt_X5_init 12 rfl) rfl rfl ?_
  obtain ⟨v8, h⟩ := h
  refine v_putI (pc := 21) (dk dt_X5_init 13 rfl) fl_X5_21 (Or.inr ⟨rfl, rfl⟩) v8 ?_
  generalize hG9 : (sfd G7 5 2 l0 l3) = G9
  replace h := h G9 hG9.symm
  refine v_aload_n (pc := 24) (dk dt_X5_init 14 rfl) rfl rfl ?_
  refine v_iload (pc := 25) (dk dt_X5_init 15 rfl) rfl ?_
  obtain ⟨v10, h⟩ := h
  refine v_putI (pc := 27) (dk dt_X5_init 16 rfl) fl_X5_24 (Or.inr ⟨rfl, rfl⟩) v10 ?_
  generalize hG11 : (sfd G9 5 3 l0 l4) = G11
  replace h := h G11 hG11.symm
  refine v_aload_n (pc := 30) (dk dt_X5_init 17 rfl) rfl rfl ?_
  refine v_iload (pc := 31) (dk dt_X5_init 18 rfl) rfl ?_
  obtain ⟨v12, h⟩ := h
  obtain ⟨v13, h⟩ := h
  refine v_putZ (pc := 33) (dk dt_X5_init 19 rfl) fl_X5_27 (Or.inl rfl) v12 v13 ?_
  generalize hG14 : (sfd G11 5 4 l0 l5) = G14
  replace h := h G14 hG14.symm
  exact v_vret (pc := 36) (dk dt_X5_init 20 rfl) rfl h
set_option maxRecDepth 20000 in
theorem i_X5_init {E : EE} {l0 l1 l2 l3 l4 l5 : Int} {G : Gt} {c s : Nat} {Q X : Int → Gt → Prop} (h : (0 ≤ l0 ∧ gcl G l0 = 6 ∧ ∀ G3 : Gt, G3 = (sfd G 5 5 l0 (-1)) → gcl G3 l0 = 6 ∧ ∀ G5 : Gt, G5 = (sfd G3 5 0 l0 l1) → gcl G5 l0 = 6 ∧ ∀ G7 : Gt, G7 = (sfd G5 5 1 l0 l2) → gcl G7 l0 = 6 ∧ ∀ G9 : Gt, G9 = (sfd G7 5 2 l0 l3) → gcl G9 l0 = 6 ∧ ∀ G11 : Gt, G11 = (sfd G9 5 3 l0 l4) → gcl G11 l0 = 6 ∧ (l5 = 0 ∨ l5 = 1) ∧ ∀ G14 : Gt, G14 = (sfd G11 5 4 l0 l5) → Q 0 G14)) : Ok E M_X5_init [rv l0, rv l1, iv l2, iv l3, iv l4, iv l5] G c s Q X := Ok.intro (k := 0) rfl rfl (Nat.le_of_ble_eq_true rfl) rfl (b_X5_init_0 h)
set_option maxRecDepth 20000 in
theorem b_X6_init_0 {E : EE} {l0 l1 l2 l3 : Int} {G : Gt} {c s : Nat} {Q X : Int → Gt → Prop} (h : (0 ≤ l0 ∧ gcl G l0 = 7 ∧ ∀ G3 : Gt, G3 = (sfd G 6 0 l0 l1) → gcl G3 l0 = 7 ∧ ∀ G5 : Gt, G5 = (sfd G3 6 1 l0 l2) → gcl G5 l0 = 7 ∧ ∀ G7 : Gt, G7 = (sfd G5 6 2 l0 l3) → Q 0 G7)) : V E M_X6_init 0 [some (rv l0), some (iv l1), some (iv l2), some (iv l3)] [] G c s Q X := by
  refine v_aload_n (pc := 0) (dk dt_X6_init 0 rfl) rfl rfl ?_
  obtain ⟨v1, h⟩ := h
  refine v_objInit (pc := 1) (dk dt_X6_init 1 rfl) mw_X6_1 (Nat.le_of_ble_eq_true rfl) (Nat.le_of_ble_eq_true rfl) (Nat.le_of_ble_eq_true rfl) v1 ?_
  refine v_aload_n (pc := 4) (dk dt_X6_init 2 rfl) rfl rfl ?_
  refine v_iload_n (pc := 5) (dk dt_X6_init 3 rfl) rfl rfl ?_
  obtain ⟨v2, h⟩ := h
  refine v_putI (pc := 6) (dk dt_X6_init 4 rfl) fl_X6_7 (Or.inr ⟨rfl, rfl⟩) v2 ?_
  generalize hG3 : (sfd G 6 0 l0 l1) = G3
  replace h := h G3 hG3.symm
  refine v_aload_n (pc := 9) (dk dt_X6_init 5 rfl) rfl rfl ?_
  refine v_iload_n (pc := 10) (dk dt_X6_init 6 rfl) rfl rfl ?_
  obtain ⟨v4, h⟩ := h
  refine v_putI (pc := 11) (dk dt_X6_init 7 rfl) fl_X6_13 (Or.inr ⟨rfl, rfl⟩) v4 ?_
  generalize hG5 : (sfd G3 6 1 l0 l2) = G5
  replace h := h G5 hG5.symm
  refine v_aload_n (pc := 14) (dk dt_X6_init 8 rfl) rfl rfl ?_
  refine v_iload_n (pc := 15) (dk dt_X6_init 9 rfl) rfl rfl ?_
  obtain ⟨v6, h⟩ := h
  refine v_putI (pc := 16) (dk dt_X6_init 10 rfl) fl_X6_16 (Or.inr ⟨rfl, rfl⟩) v6 ?_
  generalize hG7 : (sfd G5 6 2 l0 l3) = G7
  replace h := h G7 hG7.symm
  exact v_vret (pc := 19) (dk dt_X6_init 11 rfl) rfl h
set_option maxRecDepth 20000 in
theorem i_X6_init {E : EE} {l0 l1 l2 l3 : Int} {G : Gt} {c s : Nat} {Q X : Int → Gt → Prop} (h : (0 ≤ l0 ∧ gcl G l0 = 7 ∧ ∀ G3 : Gt, G3 = (sfd G 6 0 l0 l1) → gcl G3 l0 = 7 ∧ ∀ G5 : Gt, G5 = (sfd G3 6 1 l0 l2) → gcl G5 l0 = 7 ∧ ∀ G7 : Gt, G7 = (sfd G5 6 2 l0 l3) → Q 0 G7)) : Ok E M_X6_init [rv l0, iv l1, iv l2, iv l3] G c s Q X := Ok.intro (k := 0) rfl rfl (Nat.le_of_ble_eq_true rfl) rfl (b_X6_init_0 h)
set_option maxRecDepth 20000 in
theorem b_X6_selects_0 {E : EE} {l0 l1 : Int} {G : Gt} {c s : Nat} {Q X : Int → Gt → Prop} (h : (gcl G l0 = 7 ∧ gcl G l0 = 7 ∧ gcl G l0 = 7 ∧ ((if (and32 (and32 (and32 (ushr32 (gfd G 6 0 l0) (Int.tdiv l1 100)) (ushr32 (gfd G 6 1 l0) (Int.tmod (Int.tdiv l1 10) 10))) (ushr32 (gfd G 6 2 l0) (Int.tmod l1 10))) 1) = 1 then (1 : Int) else 0) = 0 ∨ (if (and32 (and32 (and32 (ushr32 (gfd G 6 0 l0) (Int.tdiv l1 100)) (ushr32 (gfd G 6 1 l0) (Int.tmod (Int.tdiv l1 10) 10))) (ushr32 (gfd G 6 2 l0) (Int.tmod l1 10))) 1) = 1 then (1 : Int) else 0) = 1) ∧ Q (if (and32 (and32 (and32 (ushr32 (gfd G 6 0 l0) (Int.tdiv l1 100)) (ushr32 (gfd G 6 1 l0) (Int.tmod (Int.tdiv l1 10) 10))) (ushr32 (gfd G 6 2 l0) (Int.tmod l1 10))) 1) = 1 then (1 : Int) else 0) G)) : V E M_X6_selects 0 [some (rv l0), some (iv l1), none] [] G c s Q X := by
  refine v_aload_n (pc := 0) (dk dt_X6_selects 0 rfl) rfl rfl ?_
  obtain ⟨v1, h⟩ := h
  refine v_getI (pc := 1) (dk dt_X6_selects 1 rfl) fl_X6_7 v1 (fun _ => ?_)
  refine v_iload_n (pc := 4) (dk dt_X6_selects 2 rfl) rfl rfl ?_
  refine v_bipush (pc := 5) (dk dt_X6_selects 3 rfl) (by decide) ⟨by decide, by decide⟩ ?_
  refine v_idivP (pc := 7) (dk dt_X6_selects 4 rfl) (by decide) ?_
  refine v_iushr (pc := 8) (dk dt_X6_selects 5 rfl) ?_
  refine v_aload_n (pc := 9) (dk dt_X6_selects 6 rfl) rfl rfl ?_
  obtain ⟨v2, h⟩ := h
  refine v_getI (pc := 10) (dk dt_X6_selects 7 rfl) fl_X6_13 v2 (fun _ => ?_)
  refine v_iload_n (pc := 13) (dk dt_X6_selects 8 rfl) rfl rfl ?_
  refine v_bipush (pc := 14) (dk dt_X6_selects 9 rfl) (by decide) ⟨by decide, by decide⟩ ?_
  refine v_idivP (pc := 16) (dk dt_X6_selects 10 rfl) (by decide) ?_
  refine v_bipush (pc := 17) (dk dt_X6_selects 11 rfl) (by decide) ⟨by decide, by decide⟩ ?_
  refine v_iremP (pc := 19) (dk dt_X6_selects 12 rfl) (by decide) ?_
  refine v_iushr (pc := 20) (dk dt_X6_selects 13 rfl) ?_
  refine v_iand (pc := 21) (dk dt_X6_selects 14 rfl) ?_
  refine v_aload_n (pc := 22) (dk dt_X6_selects 15 rfl) rfl rfl ?_
  obtain ⟨v3, h⟩ := h
  refine v_getI (pc := 23) (dk dt_X6_selects 16 rfl) fl_X6_16 v3 (fun _ => ?_)
  refine v_iload_n (pc := 26) (dk dt_X6_selects 17 rfl) rfl rfl ?_
  refine v_bipush (pc := 27) (dk dt_X6_selects 18 rfl) (by decide) ⟨by decide, by decide⟩ ?_
  refine v_iremP (pc := 29) (dk dt_X6_selects 19 rfl) (by decide) ?_
  refine v_iushr (pc := 30) (dk dt_X6_selects 20 rfl) ?_
  refine v_iand (pc := 31) (dk dt_X6_selects 21 rfl) ?_
  refine v_istore_n (pc := 32) (ls' := [some (rv l0), some (iv l1), some (iv (and32 (and32 (ushr32 (gfd G 6 0 l0) (Int.tdiv l1 100)) (ushr32 (gfd G 6 1 l0) (Int.tmod (Int.tdiv l1 10) 10))) (ushr32 (gfd G 6 2 l0) (Int.tmod l1 10))))]) (dk dt_X6_selects 22 rfl) rfl (Nat.le_of_ble_eq_true rfl) rfl ?_
  refine v_iload_n (pc := 33) (dk dt_X6_selects 23 rfl) rfl rfl ?_
  refine v_iconst (pc := 34) (dk dt_X6_selects 24 rfl) ⟨by decide, by decide⟩ ?_
  refine v_iand (pc := 35) (dk dt_X6_selects 25 rfl) ?_
  refine v_iconst (pc := 36) (dk dt_X6_selects 26 rfl) ⟨by decide, by decide⟩ ?_
  suffices k6 : V E M_X6_selects 45 [none, none, none] [iv (if (and32 (and32 (and32 (ushr32 (gfd G 6 0 l0) (Int.tdiv l1 100)) (ushr32 (gfd G 6 1 l0) (Int.tmod (Int.tdiv l1 10) 10))) (ushr32 (gfd G 6 2 l0) (Int.tmod l1 10))) 1) = 1 then (1 : Int) else 0)] G c s Q X by
    refine v_icmp_ne (pc := 37) (tgt := 44) (dk dt_X6_selects 27 rfl) (by decide) (fun c4 => ?_) (fun c4 => ?_)
    · refine v_iconst (pc := 44) (dk dt_X6_selects 30 rfl) ⟨by decide, by decide⟩ ?_
      exact v_less2 (ls' := [none, none, none]) trivial (by have hk9 := k6; try simp only [if_neg c4] at hk9 ⊢; exact hk9)
    · refine v_iconst (pc := 40) (dk dt_X6_selects 28 rfl) ⟨by decide, by decide⟩ ?_
      refine v_goto (pc := 41) (tgt := 45) (dk dt_X6_selects 29 rfl) (by decide) ?_
      exact v_less2 (ls' := [none, none, none]) trivial (by have hk9 := k6; try simp only [if_pos c4] at hk9 ⊢; exact hk9)
  obtain ⟨v5, h⟩ := h
  exact v_zret (pc := 45) (dk dt_X6_selects 31 rfl) rfl v5 h
set_option maxRecDepth 20000 in
theorem i_X6_selects {E : EE} {l0 l1 : Int} {G : Gt} {c s : Nat} {Q X : Int → Gt → Prop} (h : (gcl G l0 = 7 ∧ gcl G l0 = 7 ∧ gcl G l0 = 7 ∧ ((if (and32 (and32 (and32 (ushr32 (gfd G 6 0 l0) (Int.tdiv l1 100)) (ushr32 (gfd G 6 1 l0) (Int.tmod (Int.tdiv l1 10) 10))) (ushr32 (gfd G 6 2 l0) (Int.tmod l1 10))) 1) = 1 then (1 : Int) else 0) = 0 ∨ (if (and32 (and32 (and32 (ushr32 (gfd G 6 0 l0) (Int.tdiv l1 100)) (ushr32 (gfd G 6 1 l0) (Int.tmod (Int.tdiv l1 10) 10))) (ushr32 (gfd G 6 2 l0) (Int.tmod l1 10))) 1) = 1 then (1 : Int) else 0) = 1) ∧ Q (if (and32 (and32 (and32 (ushr32 (gfd G 6 0 l0) (Int.tdiv l1 100)) (ushr32 (gfd G 6 1 l0) (Int.tmod (Int.tdiv l1 10) 10))) (ushr32 (gfd G 6 2 l0) (Int.tmod l1 10))) 1) = 1 then (1 : Int) else 0) G)) : Ok E M_X6_selects [rv l0, iv l1] G c s Q X := Ok.intro (k := 1) rfl rfl (Nat.le_of_ble_eq_true rfl) rfl (b_X6_selects_0 h)
set_option maxRecDepth 20000 in
theorem b_X9_init_0 {E : EE} {l0 : Int} {G : Gt} {c s : Nat} {Q X : Int → Gt → Prop} (h : (0 ≤ l0 ∧ gcl G l0 = 10 ∧ ∀ G3 : Gt, G3 = (sfd G 9 0 l0 0) → gcl G3 l0 = 10 ∧ ∀ G5 : Gt, G5 = (sfd G3 9 1 l0 0) → gcl G5 l0 = 10 ∧ ∀ G7 : Gt, G7 = (sfd G5 9 2 l0 0) → gcl G7 l0 = 10 ∧ ∀ G9 : Gt, G9 = (sfd G7 9 3 l0 0) → gcl G9 l0 = 10 ∧ ∀ G11 : Gt, G11 = (sfd G9 9 4 l0 0) → gcl G11 l0 = 10 ∧ ∀ G13 : Gt, G13 = (sfd G11 9 5 l0 0) → gcl G13 l0 = 10 ∧ ∀ G15 : Gt, G15 = (sfd G13 9 6 l0 0) → gcl G15 l0 = 10 ∧ ∀ G17 : Gt, G17 = (sfd G15 9 7 l0 0) → gcl G17 l0 = 10 ∧ ∀ G19 : Gt, G19 = (sfd G17 9 8 l0 0) → Q 0 G19)) : V E M_X9_init 0 [some (rv l0)] [] G c s Q X := by
  refine v_aload_n (pc := 0) (dk dt_X9_init 0 rfl) rfl rfl ?_
  obtain ⟨v1, h⟩ := h
  refine v_objInit (pc := 1) (dk dt_X9_init 1 rfl) mw_X9_3 (Nat.le_of_ble_eq_true rfl) (Nat.le_of_ble_eq_true rfl) (Nat.le_of_ble_eq_true rfl) v1 ?_
  refine v_aload_n (pc := 4) (dk dt_X9_init 2 rfl) rfl rfl ?_
  refine v_iconst (pc := 5) (dk dt_X9_init 3 rfl) ⟨by decide, by decide⟩ ?_
  obtain ⟨v2, h⟩ := h
  refine v_putI (pc := 6) (dk dt_X9_init 4 rfl) fl_X9_9 (Or.inl rfl) v2 ?_
  generalize hG3 : (sfd G 9 0 l0 0) = G3
  replace h := h G3 hG3.symm
  refine v_aload_n (pc := 9) (dk dt_X9_init 5 rfl) rfl rfl ?_
  refine v_iconst (pc := 10) (dk dt_X9_init 6 rfl) ⟨by decide, by decide⟩ ?_
  obtain ⟨v4, h⟩ := h
  refine v_putI (pc := 11) (dk dt_X9_init 7 rfl) fl_X9_15 (Or.inl rfl) v4 ?_
  generalize hG5 : (sfd G3 9 1 l0 0) = G5
  replace h := h G5 hG5.symm
  refine v_aload_n (pc := 14) (dk dt_X9_init 8 rfl) rfl rfl ?_
  refine v_iconst (pc := 15) (dk dt_X9_init 9 rfl) ⟨by decide, by decide⟩ ?_
  obtain ⟨v6, h⟩ := h
  refine v_putI (pc := 16) (dk dt_X9_init 10 rfl) fl_X9_18 (Or.inl rfl) v6 ?_
  generalize hG7 : (sfd G5 9 2 l0 0) = G7
  replace h := h G7 hG7.symm
  refine v_aload_n (pc := 19) (dk dt_X9_init 11 rfl) rfl rfl ?_
  refine v_iconst (pc := 20) (dk dt_X9_init 12 rfl) ⟨by decide, by decide⟩ ?_
  obtain ⟨v8, h⟩ := h
  refine v_putI (pc := 21) (dk dt_X9_init 13 rfl) fl_X9_21 (Or.inl rfl) v8 ?_
  generalize hG9 : (sfd G7 9 3 l0 0) = G9
  replace h := h G9 hG9.symm
  refine v_aload_n (pc := 24) (dk dt_X9_init 14 rfl) rfl rfl ?_
  refine v_iconst (pc := 25) (dk dt_X9_init 15 rfl) ⟨by decide, by decide⟩ ?_
  obtain ⟨v10, h⟩ := h
  refine v_putI (pc := 26) (dk dt_X9_init 16 rfl) fl_X9_24 (Or.inl rfl) v10 ?_
  generalize hG11 : (sfd G9 9 4 l0 0) = G11
  replace h := h G11 hG11.symm
  refine v_aload_n (pc := 29) (dk dt_X9_init 17 rfl) rfl rfl ?_
  refine v_iconst (pc := 30) (dk dt_X9_init 18 rfl) ⟨by decide, by decide⟩ ?_
  obtain ⟨v12, h⟩ := h
  refine v_putI (pc := 31) (dk dt_X9_init 19 rfl) fl_X9_27 (Or.inl rfl) v12 ?_
  generalize hG13 : (sfd G11 9 5 l0 0) = G13
  replace h := h G13 hG13.symm
  refine v_aload_n (pc := 34) (dk dt_X9_init 20 rfl) rfl rfl ?_
  refine v_iconst (pc := 35) (dk dt_X9_init 21 rfl) ⟨by decide, by decide⟩ ?_
  obtain ⟨v14, h⟩ := h
  refine v_putI (pc := 36) (dk dt_X9_init 22 rfl) fl_X9_30 (Or.inl rfl) v14 ?_
  generalize hG15 : (sfd G13 9 6 l0 0) = G15
  replace h := h G15 hG15.symm
  refine v_aload_n (pc := 39) (dk dt_X9_init 23 rfl) rfl rfl ?_
  refine v_lconst (x := 0) (pc := 40) (dk dt_X9_init 24 rfl) (by decide) ⟨by decide, by decide⟩ ?_
  obtain ⟨v16, h⟩ := h
  refine v_putJ (pc := 41) (dk dt_X9_init 25 rfl) fl_X9_33 (Or.inl rfl) v16 ?_
  generalize hG17 : (sfd G15 9 7 l0 0) = G17
  replace h := h G17 hG17.symm
  refine v_aload_n (pc := 44) (dk dt_X9_init 26 rfl) rfl rfl ?_
  refine v_lconst (x := 0) (pc := 45) (dk dt_X9_init 27 rfl) (by decide) ⟨by decide, by decide⟩ ?_
  obtain ⟨v18, h⟩ := h
  refine v_putJ (pc := 46) (dk dt_X9_init 28 rfl) fl_X9_37 (Or.inl rfl) v18 ?_
  generalize hG19 : (sfd G17 9 8 l0 0) = G19
  replace h := h G19 hG19.symm
  exact v_vret (pc := 49) (dk dt_X9_init 29 rfl) rfl h
set_option maxRecDepth 20000 in
theorem i_X9_init {E : EE} {l0 : Int} {G : Gt} {c s : Nat} {Q X : Int → Gt → Prop} (h : (0 ≤ l0 ∧ gcl G l0 = 10 ∧ ∀ G3 : Gt, G3 = (sfd G 9 0 l0 0) → gcl G3 l0 = 10 ∧ ∀ G5 : Gt, G5 = (sfd G3 9 1 l0 0) → gcl G5 l0 = 10 ∧ ∀ G7 : Gt, G7 = (sfd G5 9 2 l0 0) → gcl G7 l0 = 10 ∧ ∀ G9 : Gt, G9 = (sfd G7 9 3 l0 0) → gcl G9 l0 = 10 ∧ ∀ G11 : Gt, G11 = (sfd G9 9 4 l0 0) → gcl G11 l0 = 10 ∧ ∀ G13 : Gt, G13 = (sfd G11 9 5 l0 0) → gcl G13 l0 = 10 ∧ ∀ G15 : Gt, G15 = (sfd G13 9 6 l0 0) → gcl G15 l0 = 10 ∧ ∀ G17 : Gt, G17 = (sfd G15 9 7 l0 0) → gcl G17 l0 = 10 ∧ ∀ G19 : Gt, G19 = (sfd G17 9 8 l0 0) → Q 0 G19)) : Ok E M_X9_init [rv l0] G c s Q X := Ok.intro (k := 0) rfl rfl (Nat.le_of_ble_eq_true rfl) rfl (b_X9_init_0 h)
set_option maxRecDepth 20000 in
theorem b_X9_gather_0 {E : EE} {l0 l1 l2 l3 : Int} {G : Gt} {c s : Nat} {Q X : Int → Gt → Prop} (h : (gcl G l0 = 10 ∧ ∀ G2 : Gt, G2 = (sfd G 9 0 l0 0) → i32 (l3 + 1) ∧ gcl G2 l1 = 8 ∧ Call E M_X7_countAhead [rv l1, iv (l3 + 1)] G2 c s X (fun r5 G6 c7 s8 => gcl G6 l1 = 8 ∧ Call E M_X7_countAhead [rv l1, iv l2] G6 c7 s8 X (fun r10 G11 c12 s13 => V E M_X9_gather 21 [some (rv l0), some (rv l1), none, none, some (iv r5), some (iv r10), none] [] G11 c12 s13 Q X)))) : V E M_X9_gather 0 [some (rv l0), some (rv l1), some (iv l2), some (iv l3), none, none, none] [] G c s Q X := by
  refine v_aload_n (pc := 0) (dk dt_X9_gather 0 rfl) rfl rfl ?_
  refine v_iconst (pc := 1) (dk dt_X9_gather 1 rfl) ⟨by decide, by decide⟩ ?_
  obtain ⟨v1, h⟩ := h
  refine v_putI (pc := 2) (dk dt_X9_gather 2 rfl) fl_X9_9 (Or.inl rfl) v1 ?_
  generalize hG2 : (sfd G 9 0 l0 0) = G2
  replace h := h G2 hG2.symm
  refine v_aload_n (pc := 5) (dk dt_X9_gather 3 rfl) rfl rfl ?_
  refine v_iload_n (pc := 6) (dk dt_X9_gather 4 rfl) rfl rfl ?_
  refine v_iconst (pc := 7) (dk dt_X9_gather 5 rfl) ⟨by decide, by decide⟩ ?_
  obtain ⟨v3, h⟩ := h
  refine v_iadd (pc := 8) (dk dt_X9_gather 6 rfl) v3 ?_
  obtain ⟨v4, h⟩ := h
  refine v_cvI (c := 7) (As := [iv (l3 + 1)]) (stk := []) (pc := 9) (dk dt_X9_gather 7 rfl) ml_X9_40 rfl rfl (Nat.le_of_ble_eq_true rfl) rfl ⟨by decide, rfl⟩ v4 rfl (Call.mono h (fun r5 G6 c7 s8 h => ?_))
  refine v_istore (pc := 12) (ls' := [some (rv l0), some (rv l1), some (iv l2), some (iv l3), some (iv r5), none, none]) (dk dt_X9_gather 8 rfl) (Nat.le_of_ble_eq_true rfl) rfl ?_
  refine v_aload_n (pc := 14) (dk dt_X9_gather 9 rfl) rfl rfl ?_
  refine v_iload_n (pc := 15) (dk dt_X9_gather 10 rfl) rfl rfl ?_
  obtain ⟨v9, h⟩ := h
  refine v_cvI (c := 7) (As := [iv l2]) (stk := []) (pc := 16) (dk dt_X9_gather 11 rfl) ml_X9_40 rfl rfl (Nat.le_of_ble_eq_true rfl) rfl ⟨by decide, rfl⟩ v9 rfl (Call.mono h (fun r10 G11 c12 s13 h => ?_))
  refine v_istore (pc := 19) (ls' := [some (rv l0), some (rv l1), some (iv l2), some (iv l3), some (iv r5), some (iv r10), none]) (dk dt_X9_gather 12 rfl) (Nat.le_of_ble_eq_true rfl) rfl ?_
  exact v_less2 (ls' := [some (rv l0), some (rv l1), none, none, some (iv r5), some (iv r10), none]) ⟨rfl, rfl, rfl, rfl, trivial⟩ h
set_option maxRecDepth 20000 in
theorem i_X9_gather {E : EE} {l0 l1 l2 l3 : Int} {G : Gt} {c s : Nat} {Q X : Int → Gt → Prop} (h : (gcl G l0 = 10 ∧ ∀ G2 : Gt, G2 = (sfd G 9 0 l0 0) → i32 (l3 + 1) ∧ gcl G2 l1 = 8 ∧ Call E M_X7_countAhead [rv l1, iv (l3 + 1)] G2 c s X (fun r5 G6 c7 s8 => gcl G6 l1 = 8 ∧ Call E M_X7_countAhead [rv l1, iv l2] G6 c7 s8 X (fun r10 G11 c12 s13 => V E M_X9_gather 21 [some (rv l0), some (rv l1), none, none, some (iv r5), some (iv r10), none] [] G11 c12 s13 Q X)))) : Ok E M_X9_gather [rv l0, rv l1, iv l2, iv l3] G c s Q X := Ok.intro (k := 3) rfl rfl (Nat.le_of_ble_eq_true rfl) rfl (b_X9_gather_0 h)
set_option maxRecDepth 20000 in
theorem b_X9_gather_21 {E : EE} {l0 l1 l4 l5 : Int} {G : Gt} {c s : Nat} {Q X : Int → Gt → Prop} (h : ((l4 ≤ l5 → Q 0 G) ∧ (l5 < l4 → (gcl G l1 = 8 ∧ gcl G (gfd G 7 1 l1) = 14 ∧ OkP E M_A_get [rv (gfd G 7 1 l1), iv l5] G (alAt G (gfd G 7 1 l1) l5) ∧ ((alAt G (gfd G 7 1 l1) l5) = -1 ∨ gcl G (alAt G (gfd G 7 1 l1) l5) = 6) ∧ gcl G (alAt G (gfd G 7 1 l1) l5) = 6 ∧ (((gfd G 5 2 (alAt G (gfd G 7 1 l1) l5)) = (-2147483648) → (i32 (l5 + 1) ∧ V E M_X9_gather 21 [some (rv l0), some (rv l1), none, none, some (iv l4), some (iv (l5 + 1)), none] [] G c s Q X)) ∧ ((gfd G 5 2 (alAt G (gfd G 7 1 l1) l5)) ≠ (-2147483648) → (gcl G (alAt G (gfd G 7 1 l1) l5) = 6 ∧ gcl G (alAt G (gfd G 7 1 l1) l5) = 6 ∧ gcl G l0 = 10 ∧ Call E M_X9_include [rv l0, iv (gfd G 5 1 (alAt G (gfd G 7 1 l1) l5)), iv (gfd G 5 2 (alAt G (gfd G 7 1 l1) l5))] G c s X (fun r12 G13 c14 s15 => i32 (l5 + 1) ∧ V E M_X9_gather 21 [some (rv l0), some (rv l1), none, none, some (iv l4), some (iv (l5 + 1)), none] [] G13 c14 s15 Q X)))))))) : V E M_X9_gather 21 [some (rv l0), some (rv l1), none, none, some (iv l4), some (iv l5), none] [] G c s Q X := by
  refine v_iload (pc := 21) (dk dt_X9_gather 13 rfl) rfl ?_
  refine v_iload (pc := 23) (dk dt_X9_gather 14 rfl) rfl ?_
  refine v_icmp_ge (pc := 25) (tgt := 72) (dk dt_X9_gather 15 rfl) (by decide) (fun c1 => ?_) (fun c1 => ?_)
  · replace h := h.1 c1
    exact v_vret (pc := 72) (dk dt_X9_gather 34 rfl) rfl h
  · replace h := h.2 c1
    refine v_aload_n (pc := 28) (dk dt_X9_gather 16 rfl) rfl rfl ?_
    obtain ⟨v2, h⟩ := h
    refine v_getR (pc := 29) (dk dt_X9_gather 17 rfl) fl_X9_46 v2 (fun _ => ?_)
    refine v_iload (pc := 32) (dk dt_X9_gather 18 rfl) rfl ?_
    obtain ⟨v3, h⟩ := h
    obtain ⟨v4, h⟩ := h
    refine v_cvPR (c := 13) (v := (alAt G (gfd G 7 1 l1) l5)) (As := [iv l5]) (stk := []) (pc := 34) (dk dt_X9_gather 19 rfl) ml_X9_50 rfl rfl (Nat.le_of_ble_eq_true rfl) rfl ⟨by decide, rfl⟩ v3 rfl v4 ?_
    obtain ⟨v5, h⟩ := h
    refine v_cast (c := 5) (pc := 37) (dk dt_X9_gather 20 rfl) (by decide) cl_X9_56 v5 ?_
    refine v_astore (pc := 40) (ls' := [some (rv l0), some (rv l1), none, none, some (iv l4), some (iv l5), some (rv (alAt G (gfd G 7 1 l1) l5))]) (dk dt_X9_gather 21 rfl) (Nat.le_of_ble_eq_true rfl) rfl ?_
    refine v_aload (pc := 42) (dk dt_X9_gather 22 rfl) rfl ?_
    obtain ⟨v6, h⟩ := h
    refine v_getI (pc := 44) (dk dt_X9_gather 23 rfl) fl_X9_58 v6 (fun _ => ?_)
    refine v_ldc (pc := 47) (dk dt_X9_gather 24 rfl) co_X9_61 ⟨by decide, by decide⟩ ?_
    refine v_icmp_eq (pc := 49) (tgt := 66) (dk dt_X9_gather 25 rfl) (by decide) (fun c7 => ?_) (fun c7 => ?_)
    · replace h := h.1 c7
      obtain ⟨v8, h⟩ := h
      refine v_iinc (pc := 66) (ls' := [some (rv l0), some (rv l1), none, none, some (iv l4), some (iv (l5 + 1)), some (rv (alAt G (gfd G 7 1 l1) l5))]) (dk dt_X9_gather 32 rfl) (Nat.le_of_ble_eq_true rfl) rfl v8 rfl ?_
      refine v_goto (pc := 69) (tgt := 21) (dk dt_X9_gather 33 rfl) (by decide) ?_
      exact v_less2 (ls' := [some (rv l0), some (rv l1), none, none, some (iv l4), some (iv (l5 + 1)), none]) ⟨rfl, rfl, rfl, rfl, trivial⟩ h
    · replace h := h.2 c7
      refine v_aload_n (pc := 52) (dk dt_X9_gather 26 rfl) rfl rfl ?_
      refine v_aload (pc := 53) (dk dt_X9_gather 27 rfl) rfl ?_
      obtain ⟨v9, h⟩ := h
      refine v_getI (pc := 55) (dk dt_X9_gather 28 rfl) fl_X9_62 v9 (fun _ => ?_)
      refine v_aload (pc := 58) (dk dt_X9_gather 29 rfl) rfl ?_
      obtain ⟨v10, h⟩ := h
      refine v_getI (pc := 60) (dk dt_X9_gather 30 rfl) fl_X9_58 v10 (fun _ => ?_)
      obtain ⟨v11, h⟩ := h
      refine v_cvV (c := 9) (As := [iv (gfd G 5 1 (alAt G (gfd G 7 1 l1) l5)), iv (gfd G 5 2 (alAt G (gfd G 7 1 l1) l5))]) (stk := []) (pc := 63) (dk dt_X9_gather 31 rfl) ml_X9_65 rfl rfl (Nat.le_of_ble_eq_true rfl) rfl ⟨by decide, rfl⟩ v11 rfl (Call.mono h (fun r12 G13 c14 s15 h => ?_))
      obtain ⟨v16, h⟩ := h
      refine v_iinc (pc := 66) (ls' := [some (rv l0), some (rv l1), none, none, some (iv l4), some (iv (l5 + 1)), some (rv (alAt G (gfd G 7 1 l1) l5))]) (dk dt_X9_gather 32 rfl) (Nat.le_of_ble_eq_true rfl) rfl v16 rfl ?_
      refine v_goto (pc := 69) (tgt := 21) (dk dt_X9_gather 33 rfl) (by decide) ?_
      exact v_less2 (ls' := [some (rv l0), some (rv l1), none, none, some (iv l4), some (iv (l5 + 1)), none]) ⟨rfl, rfl, rfl, rfl, trivial⟩ h
set_option maxRecDepth 20000 in
theorem b_X9_include_0 {E : EE} {l0 l1 l2 : Int} {G : Gt} {c s : Nat} {Q X : Int → Gt → Prop} (h : (gcl G l0 = 10 ∧ ∀ J2 : Gt → Nat → Nat → Prop, (∀ (G3 : Gt) (c4 s5 : Nat), (gcl G3 l0 = 10 ∧ i32 ((gfd G3 9 0 l0) + 1) ∧ gcl G3 l0 = 10 ∧ ∀ G9 : Gt, G9 = (sfd G3 9 0 l0 ((gfd G3 9 0 l0) + 1)) → gcl G9 l0 = 10 ∧ ∀ G11 : Gt, G11 = (sfd G9 9 2 l0 l1) → gcl G11 l0 = 10 ∧ ∀ G13 : Gt, G13 = (sfd G11 9 3 l0 l2) → Q 0 G13) → J2 G3 c4 s5) → (((gfd G 9 0 l0) ≠ 0 → (gcl G l0 = 10 ∧ gcl G l0 = 10 ∧ ∀ G17 : Gt, G17 = (sfd G 9 5 l0 (min (gfd G 9 5 l0) l2)) → gcl G17 l0 = 10 ∧ gcl G17 l0 = 10 ∧ ∀ G20 : Gt, G20 = (sfd G17 9 6 l0 (max (gfd G17 9 6 l0) l2)) → gcl G20 l0 = 10 ∧ i64 (1000 * l2) ∧ gcl G20 l0 = 10 ∧ i64 ((1000 * l2) - (gfd G20 9 7 l0)) ∧ i64 ((gfd G20 9 7 l0) + (Int.tdiv ((1000 * l2) - (gfd G20 9 7 l0)) 2)) ∧ gcl G20 l0 = 10 ∧ ∀ G27 : Gt, G27 = (sfd G20 9 7 l0 ((gfd G20 9 7 l0) + (Int.tdiv ((1000 * l2) - (gfd G20 9 7 l0)) 2))) → gcl G27 l0 = 10 ∧ gcl G27 l0 = 10 ∧ ((gfd G27 9 3 l0) ≤ l2 → gcl G27 l0 = 10) ∧ ((gfd G27 9 3 l0) ≤ l2 → i32 (l2 - (gfd G27 9 3 l0))) ∧ i64 ((gfd G27 9 8 l0) + (if (gfd G27 9 3 l0) ≤ l2 then ((l2 - (gfd G27 9 3 l0)) : Int) else (max l2 0))) ∧ gcl G27 l0 = 10 ∧ ∀ G35 : Gt, G35 = (sfd G27 9 8 l0 ((gfd G27 9 8 l0) + (if (gfd G27 9 3 l0) ≤ l2 then ((l2 - (gfd G27 9 3 l0)) : Int) else (max l2 0)))) → gcl G35 l0 = 10 ∧ i32 ((gfd G35 9 4 l0) + l2) ∧ gcl G35 l0 = 10 ∧ ∀ G39 : Gt, G39 = (sfd G35 9 4 l0 ((gfd G35 9 4 l0) + l2)) → J2 G39 c s)) ∧ ((gfd G 9 0 l0) = 0 → (gcl G l0 = 10 ∧ Call E M_X9_begin [rv l0, iv l1, iv l2] G c s X (fun r41 G42 c43 s44 => J2 G42 c43 s44)))))) : V E M_X9_include 0 [some (rv l0), some (iv l1), some (iv l2)] [] G c s Q X := by
  refine v_aload_n (pc := 0) (dk dt_X9_include 0 rfl) rfl rfl ?_
  obtain ⟨v1, h⟩ := h
  refine v_getI (pc := 1) (dk dt_X9_include 1 rfl) fl_X9_9 v1 (fun _ => ?_)
  obtain ⟨J2, dJ2⟩ : ∃ J9 : Gt → Nat → Nat → Prop, J9 = fun G3 c4 s5 => V E M_X9_include 107 [some (rv l0), some (iv l1), some (iv l2)] [] G3 c4 s5 Q X := ⟨_, rfl⟩
  have hJ2 : ∀ (G3 : Gt) (c4 s5 : Nat), (gcl G3 l0 = 10 ∧ i32 ((gfd G3 9 0 l0) + 1) ∧ gcl G3 l0 = 10 ∧ ∀ G9 : Gt, G9 = (sfd G3 9 0 l0 ((gfd G3 9 0 l0) + 1)) → gcl G9 l0 = 10 ∧ ∀ G11 : Gt, G11 = (sfd G9 9 2 l0 l1) → gcl G11 l0 = 10 ∧ ∀ G13 : Gt, G13 = (sfd G11 9 3 l0 l2) → Q 0 G13) → J2 G3 c4 s5 := by
    intro G3 c4 s5 h
    rw [dJ2]
    refine v_aload_n (pc := 107) (dk dt_X9_include_1 19 rfl) rfl rfl ?_
    refine v_dup (pc := 108) (dk dt_X9_include_1 20 rfl) (by intro h9; cases h9) ?_
    obtain ⟨v6, h⟩ := h
    refine v_getI (pc := 109) (dk dt_X9_include_1 21 rfl) fl_X9_9 v6 (fun _ => ?_)
    refine v_iconst (pc := 112) (dk dt_X9_include_1 22 rfl) ⟨by decide, by decide⟩ ?_
    obtain ⟨v7, h⟩ := h
    refine v_iadd (pc := 113) (dk dt_X9_include_1 23 rfl) v7 ?_
    obtain ⟨v8, h⟩ := h
    refine v_putI (pc := 114) (dk dt_X9_include_1 24 rfl) fl_X9_9 (Or.inl rfl) v8 ?_
    generalize hG9 : (sfd G3 9 0 l0 ((gfd G3 9 0 l0) + 1)) = G9
    replace h := h G9 hG9.symm
    refine v_aload_n (pc := 117) (dk dt_X9_include_1 25 rfl) rfl rfl ?_
    refine v_iload_n (pc := 118) (dk dt_X9_include_1 26 rfl) rfl rfl ?_
    obtain ⟨v10, h⟩ := h
    refine v_putI (pc := 119) (dk dt_X9_include_1 27 rfl) fl_X9_18 (Or.inl rfl) v10 ?_
    generalize hG11 : (sfd G9 9 2 l0 l1) = G11
    replace h := h G11 hG11.symm
    refine v_aload_n (pc := 122) (dk dt_X9_include_1 28 rfl) rfl rfl ?_
    refine v_iload_n (pc := 123) (dk dt_X9_include_1 29 rfl) rfl rfl ?_
    obtain ⟨v12, h⟩ := h
    refine v_putI (pc := 124) (dk dt_X9_include_1 30 rfl) fl_X9_21 (Or.inl rfl) v12 ?_
    generalize hG13 : (sfd G11 9 3 l0 l2) = G13
    replace h := h G13 hG13.symm
    exact v_vret (pc := 127) (dk dt_X9_include_1 31 rfl) rfl h
  replace h := h _ hJ2
  refine v_if_ne (pc := 4) (tgt := 16) (dk dt_X9_include 2 rfl) (by decide) (fun c14 => ?_) (fun c14 => ?_)
  · replace h := h.1 c14
    refine v_aload_n (pc := 16) (dk dt_X9_include 8 rfl) rfl rfl ?_
    refine v_aload_n (pc := 17) (dk dt_X9_include 9 rfl) rfl rfl ?_
    obtain ⟨v15, h⟩ := h
    refine v_getI (pc := 18) (dk dt_X9_include 10 rfl) fl_X9_27 v15 (fun _ => ?_)
    refine v_iload_n (pc := 21) (dk dt_X9_include 11 rfl) rfl rfl ?_
    refine v_imin (pc := 22) (dk dt_X9_include 12 rfl) mw_X9_72 (Nat.le_of_ble_eq_true rfl) (Nat.le_of_ble_eq_true rfl) (Nat.le_of_ble_eq_true rfl) ?_
    obtain ⟨v16, h⟩ := h
    refine v_putI (pc := 25) (dk dt_X9_include 13 rfl) fl_X9_27 (Or.inl rfl) v16 ?_
    generalize hG17 : (sfd G 9 5 l0 (min (gfd G 9 5 l0) l2)) = G17
    replace h := h G17 hG17.symm
    refine v_aload_n (pc := 28) (dk dt_X9_include 14 rfl) rfl rfl ?_
    refine v_aload_n (pc := 29) (dk dt_X9_include 15 rfl) rfl rfl ?_
    obtain ⟨v18, h⟩ := h
    refine v_getI (pc := 30) (dk dt_X9_include 16 rfl) fl_X9_30 v18 (fun _ => ?_)
    refine v_iload_n (pc := 33) (dk dt_X9_include 17 rfl) rfl rfl ?_
    refine v_imax (pc := 34) (dk dt_X9_include 18 rfl) mw_X9_78 (Nat.le_of_ble_eq_true rfl) (Nat.le_of_ble_eq_true rfl) (Nat.le_of_ble_eq_true rfl) ?_
    obtain ⟨v19, h⟩ := h
    refine v_putI (pc := 37) (dk dt_X9_include 19 rfl) fl_X9_30 (Or.inl rfl) v19 ?_
    generalize hG20 : (sfd G17 9 6 l0 (max (gfd G17 9 6 l0) l2)) = G20
    replace h := h G20 hG20.symm
    refine v_aload_n (pc := 40) (dk dt_X9_include 20 rfl) rfl rfl ?_
    refine v_dup (pc := 41) (dk dt_X9_include 21 rfl) (by intro h9; cases h9) ?_
    obtain ⟨v21, h⟩ := h
    refine v_getJ (pc := 42) (dk dt_X9_include 22 rfl) fl_X9_33 v21 (fun _ => ?_)
    refine v_ldc2 (pc := 45) (dk dt_X9_include 23 rfl) co_X9_81 ⟨by decide, by decide⟩ ?_
    refine v_iload_n (pc := 48) (dk dt_X9_include 24 rfl) rfl rfl ?_
    refine v_i2l (pc := 49) (dk dt_X9_include 25 rfl) ?_
    obtain ⟨v22, h⟩ := h
    refine v_lmul (pc := 50) (dk dt_X9_include 26 rfl) v22 ?_
    refine v_aload_n (pc := 51) (dk dt_X9_include 27 rfl) rfl rfl ?_
    obtain ⟨v23, h⟩ := h
    refine v_getJ (pc := 52) (dk dt_X9_include 28 rfl) fl_X9_33 v23 (fun _ => ?_)
    obtain ⟨v24, h⟩ := h
    refine v_lsub (pc := 55) (dk dt_X9_include 29 rfl) v24 ?_
    refine v_ldc2 (pc := 56) (dk dt_X9_include 30 rfl) co_X9_83 ⟨by decide, by decide⟩ ?_
    refine v_ldivP (pc := 59) (dk dt_X9_include 31 rfl) (by decide) ?_
    obtain ⟨v25, h⟩ := h
    refine v_ladd (pc := 60) (dk dt_X9_include 32 rfl) v25 ?_
    obtain ⟨v26, h⟩ := h
    refine v_putJ (pc := 61) (dk dt_X9_include 33 rfl) fl_X9_33 (Or.inl rfl) v26 ?_
    generalize hG27 : (sfd G20 9 7 l0 ((gfd G20 9 7 l0) + (Int.tdiv ((1000 * l2) - (gfd G20 9 7 l0)) 2))) = G27
    replace h := h G27 hG27.symm
    refine v_aload_n (pc := 64) (dk dt_X9_include 34 rfl) rfl rfl ?_
    refine v_dup (pc := 65) (dk dt_X9_include 35 rfl) (by intro h9; cases h9) ?_
    obtain ⟨v28, h⟩ := h
    refine v_getJ (pc := 66) (dk dt_X9_include 36 rfl) fl_X9_37 v28 (fun _ => ?_)
    refine v_iload_n (pc := 69) (dk dt_X9_include 37 rfl) rfl rfl ?_
    refine v_aload_n (pc := 70) (dk dt_X9_include 38 rfl) rfl rfl ?_
    obtain ⟨v29, h⟩ := h
    refine v_getI (pc := 71) (dk dt_X9_include 39 rfl) fl_X9_21 v29 (fun _ => ?_)
    obtain ⟨v31, v32, h⟩ := h
    suffices k45 : V E M_X9_include 93 [some (rv l0), some (iv l1), some (iv l2)] [jv (if (gfd G27 9 3 l0) ≤ l2 then ((l2 - (gfd G27 9 3 l0)) : Int) else (max l2 0)), jv (gfd G27 9 8 l0), rv l0] G27 c s Q X by
      refine v_icmp_ge (pc := 74) (tgt := 86) (dk dt_X9_include_1 0 rfl) (by decide) (fun c30 => ?_) (fun c30 => ?_)
      · refine v_iload_n (pc := 86) (dk dt_X9_include_1 6 rfl) rfl rfl ?_
        refine v_aload_n (pc := 87) (dk dt_X9_include_1 7 rfl) rfl rfl ?_
        refine v_getI (pc := 88) (dk dt_X9_include_1 8 rfl) fl_X9_21 (v31 c30) (fun _ => ?_)
        refine v_isub (pc := 91) (dk dt_X9_include_1 9 rfl) (v32 c30) ?_
        refine v_i2l (pc := 92) (dk dt_X9_include_1 10 rfl) ?_
        exact v_less2 (ls' := [some (rv l0), some (iv l1), some (iv l2)]) ⟨rfl, rfl, rfl, trivial⟩ (by have hk9 := k45; try simp only [if_pos c30] at hk9 ⊢; exact hk9)
      · refine v_iload_n (pc := 77) (dk dt_X9_include_1 1 rfl) rfl rfl ?_
        refine v_iconst (pc := 78) (dk dt_X9_include_1 2 rfl) ⟨by decide, by decide⟩ ?_
        refine v_imax (pc := 79) (dk dt_X9_include_1 3 rfl) mw_X9_78 (Nat.le_of_ble_eq_true rfl) (Nat.le_of_ble_eq_true rfl) (Nat.le_of_ble_eq_true rfl) ?_
        refine v_i2l (pc := 82) (dk dt_X9_include_1 4 rfl) ?_
        refine v_goto (pc := 83) (tgt := 93) (dk dt_X9_include_1 5 rfl) (by decide) ?_
        exact v_less2 (ls' := [some (rv l0), some (iv l1), some (iv l2)]) ⟨rfl, rfl, rfl, trivial⟩ (by have hk9 := k45; try simp only [if_neg (Int.not_le.mpr c30)] at hk9 ⊢; exact hk9)
    obtain ⟨v33, h⟩ := h
    refine v_ladd (pc := 93) (dk dt_X9_include_1 11 rfl) v33 ?_
    obtain ⟨v34, h⟩ := h
    refine v_putJ (pc := 94) (dk dt_X9_include_1 12 rfl) fl_X9_37 (Or.inl rfl) v34 ?_
    generalize hG35 : (sfd G27 9 8 l0 ((gfd G27 9 8 l0) + (if (gfd G27 9 3 l0) ≤ l2 then ((l2 - (gfd G27 9 3 l0)) : Int) else (max l2 0)))) = G35
    replace h := h G35 hG35.symm
    refine v_aload_n (pc := 97) (dk dt_X9_include_1 13 rfl) rfl rfl ?_
    refine v_dup (pc := 98) (dk dt_X9_include_1 14 rfl) (by intro h9; cases h9) ?_
    obtain ⟨v36, h⟩ := h
    refine v_getI (pc := 99) (dk dt_X9_include_1 15 rfl) fl_X9_24 v36 (fun _ => ?_)
    refine v_iload_n (pc := 102) (dk dt_X9_include_1 16 rfl) rfl rfl ?_
    obtain ⟨v37, h⟩ := h
    refine v_iadd (pc := 103) (dk dt_X9_include_1 17 rfl) v37 ?_
    obtain ⟨v38, h⟩ := h
    refine v_putI (pc := 104) (dk dt_X9_include_1 18 rfl) fl_X9_24 (Or.inl rfl) v38 ?_
    generalize hG39 : (sfd G35 9 4 l0 ((gfd G35 9 4 l0) + l2)) = G39
    replace h := h G39 hG39.symm
    rw [dJ2] at h
    exact h
  · replace h := h.2 c14
    refine v_aload_n (pc := 7) (dk dt_X9_include 3 rfl) rfl rfl ?_
    refine v_iload_n (pc := 8) (dk dt_X9_include 4 rfl) rfl rfl ?_
    refine v_iload_n (pc := 9) (dk dt_X9_include 5 rfl) rfl rfl ?_
    obtain ⟨v40, h⟩ := h
    refine v_cvV (c := 9) (As := [iv l1, iv l2]) (stk := []) (pc := 10) (dk dt_X9_include 6 rfl) ml_X9_69 rfl rfl (Nat.le_of_ble_eq_true rfl) rfl ⟨by decide, rfl⟩ v40 rfl (Call.mono h (fun r41 G42 c43 s44 h => ?_))
    refine v_goto (pc := 13) (tgt := 107) (dk dt_X9_include 7 rfl) (by decide) ?_
    rw [dJ2] at h
    exact h
set_option maxRecDepth 20000 in
theorem i_X9_include {E : EE} {l0 l1 l2 : Int} {G : Gt} {c s : Nat} {Q X : Int → Gt → Prop} (h : (gcl G l0 = 10 ∧ ∀ J2 : Gt → Nat → Nat → Prop, (∀ (G3 : Gt) (c4 s5 : Nat), (gcl G3 l0 = 10 ∧ i32 ((gfd G3 9 0 l0) + 1) ∧ gcl G3 l0 = 10 ∧ ∀ G9 : Gt, G9 = (sfd G3 9 0 l0 ((gfd G3 9 0 l0) + 1)) → gcl G9 l0 = 10 ∧ ∀ G11 : Gt, G11 = (sfd G9 9 2 l0 l1) → gcl G11 l0 = 10 ∧ ∀ G13 : Gt, G13 = (sfd G11 9 3 l0 l2) → Q 0 G13) → J2 G3 c4 s5) → (((gfd G 9 0 l0) ≠ 0 → (gcl G l0 = 10 ∧ gcl G l0 = 10 ∧ ∀ G17 : Gt, G17 = (sfd G 9 5 l0 (min (gfd G 9 5 l0) l2)) → gcl G17 l0 = 10 ∧ gcl G17 l0 = 10 ∧ ∀ G20 : Gt, G20 = (sfd G17 9 6 l0 (max (gfd G17 9 6 l0) l2)) → gcl G20 l0 = 10 ∧ i64 (1000 * l2) ∧ gcl G20 l0 = 10 ∧ i64 ((1000 * l2) - (gfd G20 9 7 l0)) ∧ i64 ((gfd G20 9 7 l0) + (Int.tdiv ((1000 * l2) - (gfd G20 9 7 l0)) 2)) ∧ gcl G20 l0 = 10 ∧ ∀ G27 : Gt, G27 = (sfd G20 9 7 l0 ((gfd G20 9 7 l0) + (Int.tdiv ((1000 * l2) - (gfd G20 9 7 l0)) 2))) → gcl G27 l0 = 10 ∧ gcl G27 l0 = 10 ∧ ((gfd G27 9 3 l0) ≤ l2 → gcl G27 l0 = 10) ∧ ((gfd G27 9 3 l0) ≤ l2 → i32 (l2 - (gfd G27 9 3 l0))) ∧ i64 ((gfd G27 9 8 l0) + (if (gfd G27 9 3 l0) ≤ l2 then ((l2 - (gfd G27 9 3 l0)) : Int) else (max l2 0))) ∧ gcl G27 l0 = 10 ∧ ∀ G35 : Gt, G35 = (sfd G27 9 8 l0 ((gfd G27 9 8 l0) + (if (gfd G27 9 3 l0) ≤ l2 then ((l2 - (gfd G27 9 3 l0)) : Int) else (max l2 0)))) → gcl G35 l0 = 10 ∧ i32 ((gfd G35 9 4 l0) + l2) ∧ gcl G35 l0 = 10 ∧ ∀ G39 : Gt, G39 = (sfd G35 9 4 l0 ((gfd G35 9 4 l0) + l2)) → J2 G39 c s)) ∧ ((gfd G 9 0 l0) = 0 → (gcl G l0 = 10 ∧ Call E M_X9_begin [rv l0, iv l1, iv l2] G c s X (fun r41 G42 c43 s44 => J2 G42 c43 s44)))))) : Ok E M_X9_include [rv l0, iv l1, iv l2] G c s Q X := Ok.intro (k := 0) rfl rfl (Nat.le_of_ble_eq_true rfl) rfl (b_X9_include_0 h)
set_option maxRecDepth 20000 in
theorem b_X9_begin_0 {E : EE} {l0 l1 l2 : Int} {G : Gt} {c s : Nat} {Q X : Int → Gt → Prop} (h : (gcl G l0 = 10 ∧ ∀ G2 : Gt, G2 = (sfd G 9 1 l0 l1) → gcl G2 l0 = 10 ∧ ∀ G4 : Gt, G4 = (sfd G2 9 5 l0 l2) → gcl G4 l0 = 10 ∧ ∀ G6 : Gt, G6 = (sfd G4 9 6 l0 l2) → i64 (1000 * l2) ∧ gcl G6 l0 = 10 ∧ ∀ G9 : Gt, G9 = (sfd G6 9 7 l0 (1000 * l2)) → gcl G9 l0 = 10 ∧ ∀ G11 : Gt, G11 = (sfd G9 9 8 l0 0) → gcl G11 l0 = 10 ∧ ∀ G13 : Gt, G13 = (sfd G11 9 4 l0 l2) → Q 0 G13)) : V E M_X9_begin 0 [some (rv l0), some (iv l1), some (iv l2)] [] G c s Q X := by
  refine v_aload_n (pc := 0) (dk dt_X9_begin 0 rfl) rfl rfl ?_
  refine v_iload_n (pc := 1) (dk dt_X9_begin 1 rfl) rfl rfl ?_
  obtain ⟨v1, h⟩ := h
  refine v_putI (pc := 2) (dk dt_X9_begin 2 rfl) fl_X9_15 (Or.inl rfl) v1 ?_
  generalize hG2 : (sfd G 9 1 l0 l1) = G2
  replace h := h G2 hG2.symm
  refine v_aload_n (pc := 5) (dk dt_X9_begin 3 rfl) rfl rfl ?_
  refine v_iload_n (pc := 6) (dk dt_X9_begin 4 rfl) rfl rfl ?_
  obtain ⟨v3, h⟩ := h
  refine v_putI (pc := 7) (dk dt_X9_begin 5 rfl) fl_X9_27 (Or.inl rfl) v3 ?_
  generalize hG4 : (sfd G2 9 5 l0 l2) = G4
  replace h := h G4 hG4.symm
  refine v_aload_n (pc := 10) (dk dt_X9_begin 6 rfl) rfl rfl ?_
  refine v_iload_n (pc := 11) (dk dt_X9_begin 7 rfl) rfl rfl ?_
  obtain ⟨v5, h⟩ := h
  refine v_putI (pc := 12) (dk dt_X9_begin 8 rfl) fl_X9_30 (Or.inl rfl) v5 ?_
  generalize hG6 : (sfd G4 9 6 l0 l2) = G6
  replace h := h G6 hG6.symm
  refine v_aload_n (pc := 15) (dk dt_X9_begin 9 rfl) rfl rfl ?_
  refine v_ldc2 (pc := 16) (dk dt_X9_begin 10 rfl) co_X9_81 ⟨by decide, by decide⟩ ?_
  refine v_iload_n (pc := 19) (dk dt_X9_begin 11 rfl) rfl rfl ?_
  refine v_i2l (pc := 20) (dk dt_X9_begin 12 rfl) ?_
  obtain ⟨v7, h⟩ := h
  refine v_lmul (pc := 21) (dk dt_X9_begin 13 rfl) v7 ?_
  obtain ⟨v8, h⟩ := h
  refine v_putJ (pc := 22) (dk dt_X9_begin 14 rfl) fl_X9_33 (Or.inl rfl) v8 ?_
  generalize hG9 : (sfd G6 9 7 l0 (1000 * l2)) = G9
  replace h := h G9 hG9.symm
  refine v_aload_n (pc := 25) (dk dt_X9_begin 15 rfl) rfl rfl ?_
  refine v_lconst (x := 0) (pc := 26) (dk dt_X9_begin 16 rfl) (by decide) ⟨by decide, by decide⟩ ?_
  obtain ⟨v10, h⟩ := h
  refine v_putJ (pc := 27) (dk dt_X9_begin 17 rfl) fl_X9_37 (Or.inl rfl) v10 ?_
  generalize hG11 : (sfd G9 9 8 l0 0) = G11
  replace h := h G11 hG11.symm
  refine v_aload_n (pc := 30) (dk dt_X9_begin 18 rfl) rfl rfl ?_
  refine v_iload_n (pc := 31) (dk dt_X9_begin 19 rfl) rfl rfl ?_
  obtain ⟨v12, h⟩ := h
  refine v_putI (pc := 32) (dk dt_X9_begin 20 rfl) fl_X9_24 (Or.inl rfl) v12 ?_
  generalize hG13 : (sfd G11 9 4 l0 l2) = G13
  replace h := h G13 hG13.symm
  exact v_vret (pc := 35) (dk dt_X9_begin 21 rfl) rfl h
set_option maxRecDepth 20000 in
theorem i_X9_begin {E : EE} {l0 l1 l2 : Int} {G : Gt} {c s : Nat} {Q X : Int → Gt → Prop} (h : (gcl G l0 = 10 ∧ ∀ G2 : Gt, G2 = (sfd G 9 1 l0 l1) → gcl G2 l0 = 10 ∧ ∀ G4 : Gt, G4 = (sfd G2 9 5 l0 l2) → gcl G4 l0 = 10 ∧ ∀ G6 : Gt, G6 = (sfd G4 9 6 l0 l2) → i64 (1000 * l2) ∧ gcl G6 l0 = 10 ∧ ∀ G9 : Gt, G9 = (sfd G6 9 7 l0 (1000 * l2)) → gcl G9 l0 = 10 ∧ ∀ G11 : Gt, G11 = (sfd G9 9 8 l0 0) → gcl G11 l0 = 10 ∧ ∀ G13 : Gt, G13 = (sfd G11 9 4 l0 l2) → Q 0 G13)) : Ok E M_X9_begin [rv l0, iv l1, iv l2] G c s Q X := Ok.intro (k := 0) rfl rfl (Nat.le_of_ble_eq_true rfl) rfl (b_X9_begin_0 h)
set_option maxRecDepth 20000 in
theorem b_X9_canTell_0 {E : EE} {l0 l1 : Int} {G : Gt} {c s : Nat} {Q X : Int → Gt → Prop} (h : (gcl G l0 = 10 ∧ ((if (gfd G 9 0 l0) < (if l1 = 7 then (2 : Int) else 1) then (0 : Int) else 1) = 0 ∨ (if (gfd G 9 0 l0) < (if l1 = 7 then (2 : Int) else 1) then (0 : Int) else 1) = 1) ∧ Q (if (gfd G 9 0 l0) < (if l1 = 7 then (2 : Int) else 1) then (0 : Int) else 1) G)) : V E M_X9_canTell 0 [some (rv l0), some (iv l1)] [] G c s Q X := by
  refine v_aload_n (pc := 0) (dk dt_X9_canTell 0 rfl) rfl rfl ?_
  obtain ⟨v1, h⟩ := h
  refine v_getI (pc := 1) (dk dt_X9_canTell 1 rfl) fl_X9_9 v1 (fun _ => ?_)
  refine v_iload_n (pc := 4) (dk dt_X9_canTell 2 rfl) rfl rfl ?_
  refine v_bipush (pc := 5) (dk dt_X9_canTell 3 rfl) (by decide) ⟨by decide, by decide⟩ ?_
  suffices k5 : V E M_X9_canTell 15 [none, none] [iv (if l1 = 7 then (2 : Int) else 1), iv (gfd G 9 0 l0)] G c s Q X by
    refine v_icmp_ne (pc := 7) (tgt := 14) (dk dt_X9_canTell 4 rfl) (by decide) (fun c2 => ?_) (fun c2 => ?_)
    · refine v_iconst (pc := 14) (dk dt_X9_canTell 7 rfl) ⟨by decide, by decide⟩ ?_
      exact v_less2 (ls' := [none, none]) trivial (by have hk9 := k5; try simp only [if_neg c2] at hk9 ⊢; exact hk9)
    · refine v_iconst (pc := 10) (dk dt_X9_canTell 5 rfl) ⟨by decide, by decide⟩ ?_
      refine v_goto (pc := 11) (tgt := 15) (dk dt_X9_canTell 6 rfl) (by decide) ?_
      exact v_less2 (ls' := [none, none]) trivial (by have hk9 := k5; try simp only [if_pos c2] at hk9 ⊢; exact hk9)
  suffices k6 : V E M_X9_canTell 23 [none, none] [iv (if (gfd G 9 0 l0) < (if l1 = 7 then (2 : Int) else 1) then (0 : Int) else 1)] G c s Q X by
    refine v_icmp_lt (pc := 15) (tgt := 22) (dk dt_X9_canTell 8 rfl) (by decide) (fun c3 => ?_) (fun c3 => ?_)
    · refine v_iconst (pc := 22) (dk dt_X9_canTell 11 rfl) ⟨by decide, by decide⟩ ?_
      exact v_less2 (ls' := [none, none]) trivial (by have hk9 := k6; try simp only [if_pos c3] at hk9 ⊢; exact hk9)
    · refine v_iconst (pc := 18) (dk dt_X9_canTell 9 rfl) ⟨by decide, by decide⟩ ?_
      refine v_goto (pc := 19) (tgt := 23) (dk dt_X9_canTell 10 rfl) (by decide) ?_
      exact v_less2 (ls' := [none, none]) trivial (by have hk9 := k6; try simp only [if_neg (Int.not_lt.mpr c3)] at hk9 ⊢; exact hk9)
  obtain ⟨v4, h⟩ := h
  exact v_zret (pc := 23) (dk dt_X9_canTell 12 rfl) rfl v4 h
set_option maxRecDepth 20000 in
theorem i_X9_canTell {E : EE} {l0 l1 : Int} {G : Gt} {c s : Nat} {Q X : Int → Gt → Prop} (h : (gcl G l0 = 10 ∧ ((if (gfd G 9 0 l0) < (if l1 = 7 then (2 : Int) else 1) then (0 : Int) else 1) = 0 ∨ (if (gfd G 9 0 l0) < (if l1 = 7 then (2 : Int) else 1) then (0 : Int) else 1) = 1) ∧ Q (if (gfd G 9 0 l0) < (if l1 = 7 then (2 : Int) else 1) then (0 : Int) else 1) G)) : Ok E M_X9_canTell [rv l0, iv l1] G c s Q X := Ok.intro (k := 0) rfl rfl (Nat.le_of_ble_eq_true rfl) rfl (b_X9_canTell_0 h)
set_option maxRecDepth 20000 in
theorem b_X9_tellOf_0 {E : EE} {l0 l1 l2 l3 : Int} {G : Gt} {c s : Nat} {Q X : Int → Gt → Prop} (h : ((l1 = 2 → (gcl G l0 = 10 ∧ i64 (1000 * (gfd G 9 0 l0)) ∧ Q (1000 * (gfd G 9 0 l0)) G)) ∧ (l1 = 3 → (gcl G l0 = 10 ∧ i64 (1000 * (gfd G 9 4 l0)) ∧ Q (1000 * (gfd G 9 4 l0)) G)) ∧ (l1 = 4 → (gcl G l0 = 10 ∧ i64 (1000 * (gfd G 9 5 l0)) ∧ Q (1000 * (gfd G 9 5 l0)) G)) ∧ (l1 = 5 → (gcl G l0 = 10 ∧ i64 (1000 * (gfd G 9 6 l0)) ∧ Q (1000 * (gfd G 9 6 l0)) G)) ∧ (l1 = 6 → (gcl G l0 = 10 ∧ Q (gfd G 9 7 l0) G)) ∧ (l1 < 2 ∨ 6 < l1 → (gcl G l0 = 10 ∧ Call E M_X9_rate [rv l0, iv l2, iv l3] G c s X (fun r11 G12 c13 s14 => Q r11 G12))))) : V E M_X9_tellOf 0 [some (rv l0), some (iv l1), some (iv l2), some (iv l3)] [] G c s Q X := by
  refine v_iload_n (pc := 0) (dk dt_X9_tellOf 0 rfl) rfl rfl ?_
  refine v_tsw2 (pc := 1) [36, 46, 56, 66, 76] 81 (dk dt_X9_tellOf 1 rfl) (by decide) ⟨rfl, rfl⟩ (by decide) (fun j hj hx => ?_) (fun hx => ?_)
  · have hj2 : j < 5 := hj
    rcases (show j = 0 ∨ j = 1 ∨ j = 2 ∨ j = 3 ∨ j = 4 by omega) with rfl | rfl | rfl | rfl | rfl
    · replace h := h.1 (by simpa using hx)
      refine v_ldc2 (pc := 36) (dk dt_X9_tellOf 2 rfl) co_X9_81 ⟨by decide, by decide⟩ ?_
      refine v_aload_n (pc := 39) (dk dt_X9_tellOf 3 rfl) rfl rfl ?_
      obtain ⟨v1, h⟩ := h
      refine v_getI (pc := 40) (dk dt_X9_tellOf 4 rfl) fl_X9_9 v1 (fun _ => ?_)
      refine v_i2l (pc := 43) (dk dt_X9_tellOf 5 rfl) ?_
      obtain ⟨v2, h⟩ := h
      refine v_lmul (pc := 44) (dk dt_X9_tellOf 6 rfl) v2 ?_
      exact v_lret (pc := 45) (dk dt_X9_tellOf 7 rfl) rfl h
    · replace h := h.2.1 (by simpa using hx)
      refine v_ldc2 (pc := 46) (dk dt_X9_tellOf 8 rfl) co_X9_81 ⟨by decide, by decide⟩ ?_
      refine v_aload_n (pc := 49) (dk dt_X9_tellOf 9 rfl) rfl rfl ?_
      obtain ⟨v3, h⟩ := h
      refine v_getI (pc := 50) (dk dt_X9_tellOf 10 rfl) fl_X9_24 v3 (fun _ => ?_)
      refine v_i2l (pc := 53) (dk dt_X9_tellOf 11 rfl) ?_
      obtain ⟨v4, h⟩ := h
      refine v_lmul (pc := 54) (dk dt_X9_tellOf 12 rfl) v4 ?_
      exact v_lret (pc := 55) (dk dt_X9_tellOf 13 rfl) rfl h
    · replace h := h.2.2.1 (by simpa using hx)
      refine v_ldc2 (pc := 56) (dk dt_X9_tellOf 14 rfl) co_X9_81 ⟨by decide, by decide⟩ ?_
      refine v_aload_n (pc := 59) (dk dt_X9_tellOf 15 rfl) rfl rfl ?_
      obtain ⟨v5, h⟩ := h
      refine v_getI (pc := 60) (dk dt_X9_tellOf 16 rfl) fl_X9_27 v5 (fun _ => ?_)
      refine v_i2l (pc := 63) (dk dt_X9_tellOf 17 rfl) ?_
      obtain ⟨v6, h⟩ := h
      refine v_lmul (pc := 64) (dk dt_X9_tellOf 18 rfl) v6 ?_
      exact v_lret (pc := 65) (dk dt_X9_tellOf 19 rfl) rfl h
    · replace h := h.2.2.2.1 (by simpa using hx)
      refine v_ldc2 (pc := 66) (dk dt_X9_tellOf 20 rfl) co_X9_81 ⟨by decide, by decide⟩ ?_
      refine v_aload_n (pc := 69) (dk dt_X9_tellOf 21 rfl) rfl rfl ?_
      obtain ⟨v7, h⟩ := h
      refine v_getI (pc := 70) (dk dt_X9_tellOf 22 rfl) fl_X9_30 v7 (fun _ => ?_)
      refine v_i2l (pc := 73) (dk dt_X9_tellOf 23 rfl) ?_
      obtain ⟨v8, h⟩ := h
      refine v_lmul (pc := 74) (dk dt_X9_tellOf 24 rfl) v8 ?_
      exact v_lret (pc := 75) (dk dt_X9_tellOf 25 rfl) rfl h
    · replace h := h.2.2.2.2.1 (by simpa using hx)
      refine v_aload_n (pc := 76) (dk dt_X9_tellOf 26 rfl) rfl rfl ?_
      obtain ⟨v9, h⟩ := h
      refine v_getJ (pc := 77) (dk dt_X9_tellOf 27 rfl) fl_X9_33 v9 (fun _ => ?_)
      exact v_lret (pc := 80) (dk dt_X9_tellOf 28 rfl) rfl h
  · replace h := h.2.2.2.2.2 hx
    refine v_aload_n (pc := 81) (dk dt_X9_tellOf 29 rfl) rfl rfl ?_
    refine v_iload_n (pc := 82) (dk dt_X9_tellOf 30 rfl) rfl rfl ?_
    refine v_iload_n (pc := 83) (dk dt_X9_tellOf 31 rfl) rfl rfl ?_
    obtain ⟨v10, h⟩ := h
    refine v_cvJ (c := 9) (As := [iv l2, iv l3]) (stk := []) (pc := 84) (dk dt_X9_tellOf 32 rfl) ml_X9_85 rfl rfl (Nat.le_of_ble_eq_true rfl) rfl ⟨by decide, rfl⟩ v10 rfl (Call.mono h (fun r11 G12 c13 s14 h => ?_))
    exact v_lret (pc := 87) (dk dt_X9_tellOf 33 rfl) rfl h
set_option maxRecDepth 20000 in
theorem i_X9_tellOf {E : EE} {l0 l1 l2 l3 : Int} {G : Gt} {c s : Nat} {Q X : Int → Gt → Prop} (h : ((l1 = 2 → (gcl G l0 = 10 ∧ i64 (1000 * (gfd G 9 0 l0)) ∧ Q (1000 * (gfd G 9 0 l0)) G)) ∧ (l1 = 3 → (gcl G l0 = 10 ∧ i64 (1000 * (gfd G 9 4 l0)) ∧ Q (1000 * (gfd G 9 4 l0)) G)) ∧ (l1 = 4 → (gcl G l0 = 10 ∧ i64 (1000 * (gfd G 9 5 l0)) ∧ Q (1000 * (gfd G 9 5 l0)) G)) ∧ (l1 = 5 → (gcl G l0 = 10 ∧ i64 (1000 * (gfd G 9 6 l0)) ∧ Q (1000 * (gfd G 9 6 l0)) G)) ∧ (l1 = 6 → (gcl G l0 = 10 ∧ Q (gfd G 9 7 l0) G)) ∧ (l1 < 2 ∨ 6 < l1 → (gcl G l0 = 10 ∧ Call E M_X9_rate [rv l0, iv l2, iv l3] G c s X (fun r11 G12 c13 s14 => Q r11 G12))))) : Ok E M_X9_tellOf [rv l0, iv l1, iv l2, iv l3] G c s Q X := Ok.intro (k := 0) rfl rfl (Nat.le_of_ble_eq_true rfl) rfl (b_X9_tellOf_0 h)
set_option maxRecDepth 20000 in
theorem b_X9_rate_0 {E : EE} {l0 l1 l2 : Int} {G : Gt} {c s : Nat} {Q X : Int → Gt → Prop} (h : (gcl G l0 = 10 ∧ gcl G l0 = 10 ∧ i32 ((gfd G 9 2 l0) - (gfd G 9 1 l0)) ∧ gcl G l0 = 10 ∧ (((gfd G 9 0 l0) < 2 → Q 0 G) ∧ (2 ≤ (gfd G 9 0 l0) → ((((gfd G 9 2 l0) - (gfd G 9 1 l0)) ≤ 0 → Q 0 G) ∧ (0 < ((gfd G 9 2 l0) - (gfd G 9 1 l0)) → ((0 < l1 → (gcl G l0 = 10 ∧ i32 ((gfd G 9 0 l0) - 1) ∧ ((gfd G 9 0 l0) - 1) ≠ 0 ∧ i64 (Int.tdiv ((gfd G 9 2 l0) - (gfd G 9 1 l0)) ((gfd G 9 0 l0) - 1)) ∧ gcl G l0 = 10 ∧ i32 (l2 - l1) ∧ i32 ((gfd G 9 1 l0) - (l2 - l1)) ∧ i64 (((gfd G 9 2 l0) - (gfd G 9 1 l0)) + (min ((gfd G 9 1 l0) - (l2 - l1)) (Int.tdiv (Int.tdiv ((gfd G 9 2 l0) - (gfd G 9 1 l0)) ((gfd G 9 0 l0) - 1)) 2))) ∧ gcl G l0 = 10 ∧ i32 (l2 - (gfd G 9 2 l0)) ∧ i64 ((((gfd G 9 2 l0) - (gfd G 9 1 l0)) + (min ((gfd G 9 1 l0) - (l2 - l1)) (Int.tdiv (Int.tdiv ((gfd G 9 2 l0) - (gfd G 9 1 l0)) ((gfd G 9 0 l0) - 1)) 2))) + (min (l2 - (gfd G 9 2 l0)) (Int.tdiv (Int.tdiv ((gfd G 9 2 l0) - (gfd G 9 1 l0)) ((gfd G 9 0 l0) - 1)) 2))) ∧ gcl G l0 = 10 ∧ i64 (1000 * (gfd G 9 8 l0)) ∧ i64 ((1000 * (gfd G 9 8 l0)) * ((((gfd G 9 2 l0) - (gfd G 9 1 l0)) + (min ((gfd G 9 1 l0) - (l2 - l1)) (Int.tdiv (Int.tdiv ((gfd G 9 2 l0) - (gfd G 9 1 l0)) ((gfd G 9 0 l0) - 1)) 2))) + (min (l2 - (gfd G 9 2 l0)) (Int.tdiv (Int.tdiv ((gfd G 9 2 l0) - (gfd G 9 1 l0)) ((gfd G 9 0 l0) - 1)) 2)))) ∧ i64 (((gfd G 9 2 l0) - (gfd G 9 1 l0)) * l1) ∧ (((gfd G 9 2 l0) - (gfd G 9 1 l0)) * l1) ≠ 0 ∧ i64 (Int.tdiv ((1000 * (gfd G 9 8 l0)) * ((((gfd G 9 2 l0) - (gfd G 9 1 l0)) + (min ((gfd G 9 1 l0) - (l2 - l1)) (Int.tdiv (Int.tdiv ((gfd G 9 2 l0) - (gfd G 9 1 l0)) ((gfd G 9 0 l0) - 1)) 2))) + (min (l2 - (gfd G 9 2 l0)) (Int.tdiv (Int.tdiv ((gfd G 9 2 l0) - (gfd G 9 1 l0)) ((gfd G 9 0 l0) - 1)) 2)))) (((gfd G 9 2 l0) - (gfd G 9 1 l0)) * l1)) ∧ Q (Int.tdiv ((1000 * (gfd G 9 8 l0)) * ((((gfd G 9 2 l0) - (gfd G 9 1 l0)) + (min ((gfd G 9 1 l0) - (l2 - l1)) (Int.tdiv (Int.tdiv ((gfd G 9 2 l0) - (gfd G 9 1 l0)) ((gfd G 9 0 l0) - 1)) 2))) + (min (l2 - (gfd G 9 2 l0)) (Int.tdiv (Int.tdiv ((gfd G 9 2 l0) - (gfd G 9 1 l0)) ((gfd G 9 0 l0) - 1)) 2)))) (((gfd G 9 2 l0) - (gfd G 9 1 l0)) * l1)) G)) ∧ (l1 ≤ 0 → Q 0 G)))))))) : V E M_X9_rate 0 [some (rv l0), some (iv l1), some (iv l2), none, none, none, none, none, none] [] G c s Q X := by
  refine v_aload_n (pc := 0) (dk dt_X9_rate 0 rfl) rfl rfl ?_
  obtain ⟨v1, h⟩ := h
  refine v_getI (pc := 1) (dk dt_X9_rate 1 rfl) fl_X9_18 v1 (fun _ => ?_)
  refine v_aload_n (pc := 4) (dk dt_X9_rate 2 rfl) rfl rfl ?_
  obtain ⟨v2, h⟩ := h
  refine v_getI (pc := 5) (dk dt_X9_rate 3 rfl) fl_X9_15 v2 (fun _ => ?_)
  obtain ⟨v3, h⟩ := h
  refine v_isub (pc := 8) (dk dt_X9_rate 4 rfl) v3 ?_
  refine v_i2l (pc := 9) (dk dt_X9_rate 5 rfl) ?_
  refine v_lstore_n (pc := 10) (ls' := [some (rv l0), some (iv l1), some (iv l2), some (jv ((gfd G 9 2 l0) - (gfd G 9 1 l0))), none, none, none, none, none]) (dk dt_X9_rate 6 rfl) rfl (Nat.le_of_ble_eq_true rfl) rfl ?_
  refine v_aload_n (pc := 11) (dk dt_X9_rate 7 rfl) rfl rfl ?_
  obtain ⟨v4, h⟩ := h
  refine v_getI (pc := 12) (dk dt_X9_rate 8 rfl) fl_X9_9 v4 (fun _ => ?_)
  refine v_iconst (pc := 15) (dk dt_X9_rate 9 rfl) ⟨by decide, by decide⟩ ?_
  refine v_icmp_lt (pc := 16) (tgt := 29) (dk dt_X9_rate 10 rfl) (by decide) (fun c5 => ?_) (fun c5 => ?_)
  · replace h := h.1 c5
    refine v_lconst (x := 0) (pc := 29) (dk dt_X9_rate 17 rfl) (by decide) ⟨by decide, by decide⟩ ?_
    exact v_lret (pc := 30) (dk dt_X9_rate 18 rfl) rfl h
  · replace h := h.2 c5
    refine v_lload_n (pc := 19) (dk dt_X9_rate 11 rfl) rfl rfl ?_
    refine v_lconst (x := 0) (pc := 20) (dk dt_X9_rate 12 rfl) (by decide) ⟨by decide, by decide⟩ ?_
    refine v_lcmp_le (pc := 21) (tgt := 29) (dk dt_X9_rate 13 rfl) (dk dt_X9_rate 14 rfl) (by decide) (fun c6 => ?_) (fun c6 => ?_)
    · replace h := h.1 c6
      refine v_lconst (x := 0) (pc := 29) (dk dt_X9_rate 17 rfl) (by decide) ⟨by decide, by decide⟩ ?_
      exact v_lret (pc := 30) (dk dt_X9_rate 18 rfl) rfl h
    · replace h := h.2 c6
      refine v_iload_n (pc := 25) (dk dt_X9_rate 15 rfl) rfl rfl ?_
      refine v_if_gt (pc := 26) (tgt := 31) (dk dt_X9_rate 16 rfl) (by decide) (fun c7 => ?_) (fun c7 => ?_)
      · replace h := h.1 c7
        refine v_lload_n (pc := 31) (dk dt_X9_rate 19 rfl) rfl rfl ?_
        refine v_aload_n (pc := 32) (dk dt_X9_rate 20 rfl) rfl rfl ?_
        obtain ⟨v8, h⟩ := h
        refine v_getI (pc := 33) (dk dt_X9_rate 21 rfl) fl_X9_9 v8 (fun _ => ?_)
        refine v_iconst (pc := 36) (dk dt_X9_rate 22 rfl) ⟨by decide, by decide⟩ ?_
        obtain ⟨v9, h⟩ := h
        refine v_isub (pc := 37) (dk dt_X9_rate 23 rfl) v9 ?_
        refine v_i2l (pc := 38) (dk dt_X9_rate 24 rfl) ?_
        obtain ⟨v10, h⟩ := h
        obtain ⟨v11, h⟩ := h
        refine v_ldiv (pc := 39) (dk dt_X9_rate 25 rfl) v10 v11 ?_
        refine v_ldc2 (pc := 40) (dk dt_X9_rate 26 rfl) co_X9_83 ⟨by decide, by decide⟩ ?_
        refine v_ldivP (pc := 43) (dk dt_X9_rate 27 rfl) (by decide) ?_
        refine v_lstore (pc := 44) (ls' := [some (rv l0), some (iv l1), some (iv l2), some (jv ((gfd G 9 2 l0) - (gfd G 9 1 l0))), none, some (jv (Int.tdiv (Int.tdiv ((gfd G 9 2 l0) - (gfd G 9 1 l0)) ((gfd G 9 0 l0) - 1)) 2)), none, none, none]) (dk dt_X9_rate 28 rfl) (Nat.le_of_ble_eq_true rfl) rfl ?_
        refine v_lload_n (pc := 46) (dk dt_X9_rate 29 rfl) rfl rfl ?_
        refine v_aload_n (pc := 47) (dk dt_X9_rate 30 rfl) rfl rfl ?_
        obtain ⟨v12, h⟩ := h
        refine v_getI (pc := 48) (dk dt_X9_rate 31 rfl) fl_X9_15 v12 (fun _ => ?_)
        refine v_iload_n (pc := 51) (dk dt_X9_rate 32 rfl) rfl rfl ?_
        refine v_iload_n (pc := 52) (dk dt_X9_rate 33 rfl) rfl rfl ?_
        obtain ⟨v13, h⟩ := h
        refine v_isub (pc := 53) (dk dt_X9_rate 34 rfl) v13 ?_
        obtain ⟨v14, h⟩ := h
        refine v_isub (pc := 54) (dk dt_X9_rate 35 rfl) v14 ?_
        refine v_i2l (pc := 55) (dk dt_X9_rate 36 rfl) ?_
        refine v_lload (pc := 56) (dk dt_X9_rate 37 rfl) rfl ?_
        refine v_lmin (pc := 58) (dk dt_X9_rate 38 rfl) mw_X9_89 (Nat.le_of_ble_eq_true rfl) (Nat.le_of_ble_eq_true rfl) (Nat.le_of_ble_eq_true rfl) ?_
        obtain ⟨v15, h⟩ := h
        refine v_ladd (pc := 61) (dk dt_X9_rate 39 rfl) v15 ?_
        refine v_iload_n (pc := 62) (dk dt_X9_rate_1 0 rfl) rfl rfl ?_
        refine v_aload_n (pc := 63) (dk dt_X9_rate_1 1 rfl) rfl rfl ?_
        obtain ⟨v16, h⟩ := h
        refine v_getI (pc := 64) (dk dt_X9_rate_1 2 rfl) fl_X9_18 v16 (fun _ => ?_)
        obtain ⟨v17, h⟩ := h
        refine v_isub (pc := 67) (dk dt_X9_rate_1 3 rfl) v17 ?_
        refine v_i2l (pc := 68) (dk dt_X9_rate_1 4 rfl) ?_
        refine v_lload (pc := 69) (dk dt_X9_rate_1 5 rfl) rfl ?_
        refine v_lmin (pc := 71) (dk dt_X9_rate_1 6 rfl) mw_X9_89 (Nat.le_of_ble_eq_true rfl) (Nat.le_of_ble_eq_true rfl) (Nat.le_of_ble_eq_true rfl) ?_
        obtain ⟨v18, h⟩ := h
        refine v_ladd (pc := 74) (dk dt_X9_rate_1 7 rfl) v18 ?_
        refine v_lstore (pc := 75) (ls' := [some (rv l0), some (iv l1), some (iv l2), some (jv ((gfd G 9 2 l0) - (gfd G 9 1 l0))), none, some (jv (Int.tdiv (Int.tdiv ((gfd G 9 2 l0) - (gfd G 9 1 l0)) ((gfd G 9 0 l0) - 1)) 2)), none, some (jv ((((gfd G 9 2 l0) - (gfd G 9 1 l0)) + (min ((gfd G 9 1 l0) - (l2 - l1)) (Int.tdiv (Int.tdiv ((gfd G 9 2 l0) - (gfd G 9 1 l0)) ((gfd G 9 0 l0) - 1)) 2))) + (min (l2 - (gfd G 9 2 l0)) (Int.tdiv (Int.tdiv ((gfd G 9 2 l0) - (gfd G 9 1 l0)) ((gfd G 9 0 l0) - 1)) 2)))), none]) (dk dt_X9_rate_1 8 rfl) (Nat.le_of_ble_eq_true rfl) rfl ?_
        refine v_ldc2 (pc := 77) (dk dt_X9_rate_1 9 rfl) co_X9_81 ⟨by decide, by decide⟩ ?_
        refine v_aload_n (pc := 80) (dk dt_X9_rate_1 10 rfl) rfl rfl ?_
        obtain ⟨v19, h⟩ := h
        refine v_getJ (pc := 81) (dk dt_X9_rate_1 11 rfl) fl_X9_37 v19 (fun _ => ?_)
        obtain ⟨v20, h⟩ := h
        refine v_lmul (pc := 84) (dk dt_X9_rate_1 12 rfl) v20 ?_
        refine v_lload (pc := 85) (dk dt_X9_rate_1 13 rfl) rfl ?_
        obtain ⟨v21, h⟩ := h
        refine v_lmul (pc := 87) (dk dt_X9_rate_1 14 rfl) v21 ?_
        refine v_lload_n (pc := 88) (dk dt_X9_rate_1 15 rfl) rfl rfl ?_
        refine v_iload_n (pc := 89) (dk dt_X9_rate_1 16 rfl) rfl rfl ?_
        refine v_i2l (pc := 90) (dk dt_X9_rate_1 17 rfl) ?_
        obtain ⟨v22, h⟩ := h
        refine v_lmul (pc := 91) (dk dt_X9_rate_1 18 rfl) v22 ?_
        obtain ⟨v23, h⟩ := h
        obtain ⟨v24, h⟩ := h
        refine v_ldiv (pc := 92) (dk dt_X9_rate_1 19 rfl) v23 v24 ?_
        exact v_lret (pc := 93) (dk dt_X9_rate_1 20 rfl) rfl h
      · replace h := h.2 c7
        refine v_lconst (x := 0) (pc := 29) (dk dt_X9_rate 17 rfl) (by decide) ⟨by decide, by decide⟩ ?_
        exact v_lret (pc := 30) (dk dt_X9_rate 18 rfl) rfl h
set_option maxRecDepth 20000 in
theorem i_X9_rate {E : EE} {l0 l1 l2 : Int} {G : Gt} {c s : Nat} {Q X : Int → Gt → Prop} (h : (gcl G l0 = 10 ∧ gcl G l0 = 10 ∧ i32 ((gfd G 9 2 l0) - (gfd G 9 1 l0)) ∧ gcl G l0 = 10 ∧ (((gfd G 9 0 l0) < 2 → Q 0 G) ∧ (2 ≤ (gfd G 9 0 l0) → ((((gfd G 9 2 l0) - (gfd G 9 1 l0)) ≤ 0 → Q 0 G) ∧ (0 < ((gfd G 9 2 l0) - (gfd G 9 1 l0)) → ((0 < l1 → (gcl G l0 = 10 ∧ i32 ((gfd G 9 0 l0) - 1) ∧ ((gfd G 9 0 l0) - 1) ≠ 0 ∧ i64 (Int.tdiv ((gfd G 9 2 l0) - (gfd G 9 1 l0)) ((gfd G 9 0 l0) - 1)) ∧ gcl G l0 = 10 ∧ i32 (l2 - l1) ∧ i32 ((gfd G 9 1 l0) - (l2 - l1)) ∧ i64 (((gfd G 9 2 l0) - (gfd G 9 1 l0)) + (min ((gfd G 9 1 l0) - (l2 - l1)) (Int.tdiv (Int.tdiv ((gfd G 9 2 l0) - (gfd G 9 1 l0)) ((gfd G 9 0 l0) - 1)) 2))) ∧ gcl G l0 = 10 ∧ i32 (l2 - (gfd G 9 2 l0)) ∧ i64 ((((gfd G 9 2 l0) - (gfd G 9 1 l0)) + (min ((gfd G 9 1 l0) - (l2 - l1)) (Int.tdiv (Int.tdiv ((gfd G 9 2 l0) - (gfd G 9 1 l0)) ((gfd G 9 0 l0) - 1)) 2))) + (min (l2 - (gfd G 9 2 l0)) (Int.tdiv (Int.tdiv ((gfd G 9 2 l0) - (gfd G 9 1 l0)) ((gfd G 9 0 l0) - 1)) 2))) ∧ gcl G l0 = 10 ∧ i64 (1000 * (gfd G 9 8 l0)) ∧ i64 ((1000 * (gfd G 9 8 l0)) * ((((gfd G 9 2 l0) - (gfd G 9 1 l0)) + (min ((gfd G 9 1 l0) - (l2 - l1)) (Int.tdiv (Int.tdiv ((gfd G 9 2 l0) - (gfd G 9 1 l0)) ((gfd G 9 0 l0) - 1)) 2))) + (min (l2 - (gfd G 9 2 l0)) (Int.tdiv (Int.tdiv ((gfd G 9 2 l0) - (gfd G 9 1 l0)) ((gfd G 9 0 l0) - 1)) 2)))) ∧ i64 (((gfd G 9 2 l0) - (gfd G 9 1 l0)) * l1) ∧ (((gfd G 9 2 l0) - (gfd G 9 1 l0)) * l1) ≠ 0 ∧ i64 (Int.tdiv ((1000 * (gfd G 9 8 l0)) * ((((gfd G 9 2 l0) - (gfd G 9 1 l0)) + (min ((gfd G 9 1 l0) - (l2 - l1)) (Int.tdiv (Int.tdiv ((gfd G 9 2 l0) - (gfd G 9 1 l0)) ((gfd G 9 0 l0) - 1)) 2))) + (min (l2 - (gfd G 9 2 l0)) (Int.tdiv (Int.tdiv ((gfd G 9 2 l0) - (gfd G 9 1 l0)) ((gfd G 9 0 l0) - 1)) 2)))) (((gfd G 9 2 l0) - (gfd G 9 1 l0)) * l1)) ∧ Q (Int.tdiv ((1000 * (gfd G 9 8 l0)) * ((((gfd G 9 2 l0) - (gfd G 9 1 l0)) + (min ((gfd G 9 1 l0) - (l2 - l1)) (Int.tdiv (Int.tdiv ((gfd G 9 2 l0) - (gfd G 9 1 l0)) ((gfd G 9 0 l0) - 1)) 2))) + (min (l2 - (gfd G 9 2 l0)) (Int.tdiv (Int.tdiv ((gfd G 9 2 l0) - (gfd G 9 1 l0)) ((gfd G 9 0 l0) - 1)) 2)))) (((gfd G 9 2 l0) - (gfd G 9 1 l0)) * l1)) G)) ∧ (l1 ≤ 0 → Q 0 G)))))))) : Ok E M_X9_rate [rv l0, iv l1, iv l2] G c s Q X := Ok.intro (k := 6) rfl rfl (Nat.le_of_ble_eq_true rfl) rfl (b_X9_rate_0 h)
set_option maxRecDepth 20000 in
theorem b_X9_tellThinned_0 {E : EE} {l0 l1 : Int} {G : Gt} {c s : Nat} {Q X : Int → Gt → Prop} (h : (gcl G l0 = 10 ∧ (((gfd G 9 0 l0) ≠ 0 → ((l1 = 0 → (gcl G l0 = 10 ∧ Q (gfd G 9 0 l0) G)) ∧ (l1 = 1 → (gcl G l0 = 10 ∧ Q (gfd G 9 4 l0) G)) ∧ (l1 = 2 → (gcl G l0 = 10 ∧ Q (gfd G 9 5 l0) G)) ∧ (l1 < 0 ∨ 2 < l1 → (gcl G l0 = 10 ∧ Q (gfd G 9 6 l0) G)))) ∧ ((gfd G 9 0 l0) = 0 → Q 0 G)))) : V E M_X9_tellThinned 0 [some (rv l0), some (iv l1)] [] G c s Q X := by
  refine v_aload_n (pc := 0) (dk dt_X9_tellThinned 0 rfl) rfl rfl ?_
  obtain ⟨v1, h⟩ := h
  refine v_getI (pc := 1) (dk dt_X9_tellThinned 1 rfl) fl_X9_9 v1 (fun _ => ?_)
  refine v_if_ne (pc := 4) (tgt := 9) (dk dt_X9_tellThinned 2 rfl) (by decide) (fun c2 => ?_) (fun c2 => ?_)
  · replace h := h.1 c2
    refine v_iload_n (pc := 9) (dk dt_X9_tellThinned 5 rfl) rfl rfl ?_
    refine v_tsw2 (pc := 10) [36, 41, 46] 51 (dk dt_X9_tellThinned 6 rfl) (by decide) ⟨rfl, rfl⟩ (by decide) (fun j hj hx => ?_) (fun hx => ?_)
    · have hj2 : j < 3 := hj
      rcases (show j = 0 ∨ j = 1 ∨ j = 2 by omega) with rfl | rfl | rfl
      · replace h := h.1 (by simpa using hx)
        refine v_aload_n (pc := 36) (dk dt_X9_tellThinned 7 rfl) rfl rfl ?_
        obtain ⟨v3, h⟩ := h
        refine v_getI (pc := 37) (dk dt_X9_tellThinned 8 rfl) fl_X9_9 v3 (fun _ => ?_)
        exact v_iret (pc := 40) (dk dt_X9_tellThinned 9 rfl) rfl h
      · replace h := h.2.1 (by simpa using hx)
        refine v_aload_n (pc := 41) (dk dt_X9_tellThinned 10 rfl) rfl rfl ?_
        obtain ⟨v4, h⟩ := h
        refine v_getI (pc := 42) (dk dt_X9_tellThinned 11 rfl) fl_X9_24 v4 (fun _ => ?_)
        exact v_iret (pc := 45) (dk dt_X9_tellThinned 12 rfl) rfl h
      · replace h := h.2.2.1 (by simpa using hx)
        refine v_aload_n (pc := 46) (dk dt_X9_tellThinned 13 rfl) rfl rfl ?_
        obtain ⟨v5, h⟩ := h
        refine v_getI (pc := 47) (dk dt_X9_tellThinned 14 rfl) fl_X9_27 v5 (fun _ => ?_)
        exact v_iret (pc := 50) (dk dt_X9_tellThinned 15 rfl) rfl h
    · replace h := h.2.2.2 hx
      refine v_aload_n (pc := 51) (dk dt_X9_tellThinned 16 rfl) rfl rfl ?_
      obtain ⟨v6, h⟩ := h
      refine v_getI (pc := 52) (dk dt_X9_tellThinned 17 rfl) fl_X9_30 v6 (fun _ => ?_)
      exact v_iret (pc := 55) (dk dt_X9_tellThinned 18 rfl) rfl h
  · replace h := h.2 c2
    refine v_iconst (pc := 7) (dk dt_X9_tellThinned 3 rfl) ⟨by decide, by decide⟩ ?_
    exact v_iret (pc := 8) (dk dt_X9_tellThinned 4 rfl) rfl h
set_option maxRecDepth 20000 in
theorem i_X9_tellThinned {E : EE} {l0 l1 : Int} {G : Gt} {c s : Nat} {Q X : Int → Gt → Prop} (h : (gcl G l0 = 10 ∧ (((gfd G 9 0 l0) ≠ 0 → ((l1 = 0 → (gcl G l0 = 10 ∧ Q (gfd G 9 0 l0) G)) ∧ (l1 = 1 → (gcl G l0 = 10 ∧ Q (gfd G 9 4 l0) G)) ∧ (l1 = 2 → (gcl G l0 = 10 ∧ Q (gfd G 9 5 l0) G)) ∧ (l1 < 0 ∨ 2 < l1 → (gcl G l0 = 10 ∧ Q (gfd G 9 6 l0) G)))) ∧ ((gfd G 9 0 l0) = 0 → Q 0 G)))) : Ok E M_X9_tellThinned [rv l0, iv l1] G c s Q X := Ok.intro (k := 0) rfl rfl (Nat.le_of_ble_eq_true rfl) rfl (b_X9_tellThinned_0 h)
set_option maxRecDepth 20000 in
theorem b_X10_init_0 {E : EE} {l0 l1 l2 l3 l4 : Int} {G : Gt} {c s : Nat} {Q X : Int → Gt → Prop} (h : (0 ≤ l0 ∧ gcl G l0 = 11 ∧ ∀ G3 : Gt, G3 = (sfd G 10 0 l0 l1) → gcl G3 l0 = 11 ∧ ∀ G5 : Gt, G5 = (sfd G3 10 1 l0 l2) → gcl G5 l0 = 11 ∧ ∀ G7 : Gt, G7 = (sfd G5 10 2 l0 l3) → gcl G7 l0 = 11 ∧ ∀ G9 : Gt, G9 = (sfd G7 10 3 l0 l4) → Q 0 G9)) : V E M_X10_init 0 [some (rv l0), some (iv l1), some (iv l2), some (iv l3), some (rv l4)] [] G c s Q X := by
  refine v_aload_n (pc := 0) (dk dt_X10_init 0 rfl) rfl rfl ?_
  obtain ⟨v1, h⟩ := h
  refine v_objInit (pc := 1) (dk dt_X10_init 1 rfl) mw_X10_3 (Nat.le_of_ble_eq_true rfl) (Nat.le_of_ble_eq_true rfl) (Nat.le_of_ble_eq_true rfl) v1 ?_
  refine v_aload_n (pc := 4) (dk dt_X10_init 2 rfl) rfl rfl ?_
  refine v_iload_n (pc := 5) (dk dt_X10_init 3 rfl) rfl rfl ?_
  obtain ⟨v2, h⟩ := h
  refine v_putI (pc := 6) (dk dt_X10_init 4 rfl) fl_X10_9 (Or.inr ⟨rfl, rfl⟩) v2 ?_
  generalize hG3 : (sfd G 10 0 l0 l1) = G3
  replace h := h G3 hG3.symm
  refine v_aload_n (pc := 9) (dk dt_X10_init 5 rfl) rfl rfl ?_
  refine v_iload_n (pc := 10) (dk dt_X10_init 6 rfl) rfl rfl ?_
  obtain ⟨v4, h⟩ := h
  refine v_putI (pc := 11) (dk dt_X10_init 7 rfl) fl_X10_15 (Or.inr ⟨rfl, rfl⟩) v4 ?_
  generalize hG5 : (sfd G3 10 1 l0 l2) = G5
  replace h := h G5 hG5.symm
  refine v_aload_n (pc := 14) (dk dt_X10_init 8 rfl) rfl rfl ?_
  refine v_iload_n (pc := 15) (dk dt_X10_init 9 rfl) rfl rfl ?_
  obtain ⟨v6, h⟩ := h
  refine v_putI (pc := 16) (dk dt_X10_init 10 rfl) fl_X10_18 (Or.inr ⟨rfl, rfl⟩) v6 ?_
  generalize hG7 : (sfd G5 10 2 l0 l3) = G7
  replace h := h G7 hG7.symm
  refine v_aload_n (pc := 19) (dk dt_X10_init 11 rfl) rfl rfl ?_
  refine v_aload (pc := 20) (dk dt_X10_init 12 rfl) rfl ?_
  obtain ⟨v8, h⟩ := h
  refine v_putR (pc := 22) (dk dt_X10_init 13 rfl) fl_X10_21 (Or.inr ⟨rfl, rfl⟩) v8 ?_
  generalize hG9 : (sfd G7 10 3 l0 l4) = G9
  replace h := h G9 hG9.symm
  exact v_vret (pc := 25) (dk dt_X10_init 14 rfl) rfl h
set_option maxRecDepth 20000 in
theorem i_X10_init {E : EE} {l0 l1 l2 l3 l4 : Int} {G : Gt} {c s : Nat} {Q X : Int → Gt → Prop} (h : (0 ≤ l0 ∧ gcl G l0 = 11 ∧ ∀ G3 : Gt, G3 = (sfd G 10 0 l0 l1) → gcl G3 l0 = 11 ∧ ∀ G5 : Gt, G5 = (sfd G3 10 1 l0 l2) → gcl G5 l0 = 11 ∧ ∀ G7 : Gt, G7 = (sfd G5 10 2 l0 l3) → gcl G7 l0 = 11 ∧ ∀ G9 : Gt, G9 = (sfd G7 10 3 l0 l4) → Q 0 G9)) : Ok E M_X10_init [rv l0, iv l1, iv l2, iv l3, rv l4] G c s Q X := Ok.intro (k := 0) rfl rfl (Nat.le_of_ble_eq_true rfl) rfl (b_X10_init_0 h)
set_option maxRecDepth 20000 in
theorem b_X10_reads_0 {E : EE} {l0 : Int} {G : Gt} {c s : Nat} {Q X : Int → Gt → Prop} (h : (OkP E M_X11_isWithin [iv l0, iv 1, iv 7] G (wIn l0 1 7) ∧ ((wIn l0 1 7) = 0 ∨ (wIn l0 1 7) = 1) ∧ Q (wIn l0 1 7) G)) : V E M_X10_reads 0 [some (iv l0)] [] G c s Q X := by
  refine v_iload_n (pc := 0) (dk dt_X10_reads 0 rfl) rfl rfl ?_
  refine v_iconst (pc := 1) (dk dt_X10_reads 1 rfl) ⟨by decide, by decide⟩ ?_
  refine v_bipush (pc := 2) (dk dt_X10_reads 2 rfl) (by decide) ⟨by decide, by decide⟩ ?_
  obtain ⟨v1, h⟩ := h
  refine v_csNPZ (v := (wIn l0 1 7)) (As := [iv l0, iv 1, iv 7]) (stk := []) (pc := 4) (dk dt_X10_reads 3 rfl) ml_X10_25 sw_X11_isWithin rfl rfl (Nat.le_of_ble_eq_true rfl) rfl rfl v1 ?_
  obtain ⟨v2, h⟩ := h
  exact v_zret (pc := 7) (dk dt_X10_reads 4 rfl) rfl v2 h
set_option maxRecDepth 20000 in
theorem i_X10_reads {E : EE} {l0 : Int} {G : Gt} {c s : Nat} {Q X : Int → Gt → Prop} (h : (OkP E M_X11_isWithin [iv l0, iv 1, iv 7] G (wIn l0 1 7) ∧ ((wIn l0 1 7) = 0 ∨ (wIn l0 1 7) = 1) ∧ Q (wIn l0 1 7) G)) : Ok E M_X10_reads [iv l0] G c s Q X := Ok.intro (k := 0) rfl rfl (Nat.le_of_ble_eq_true rfl) rfl (b_X10_reads_0 h)
set_option maxRecDepth 20000 in
theorem b_X10_joins_0 {E : EE} {l0 : Int} {G : Gt} {c s : Nat} {Q X : Int → Gt → Prop} (h : (OkP E M_X11_isWithin [iv l0, iv 10, iv 14] G (wIn l0 10 14) ∧ ((wIn l0 10 14) = 0 ∨ (wIn l0 10 14) = 1) ∧ Q (wIn l0 10 14) G)) : V E M_X10_joins 0 [some (iv l0)] [] G c s Q X := by
  refine v_iload_n (pc := 0) (dk dt_X10_joins 0 rfl) rfl rfl ?_
  refine v_bipush (pc := 1) (dk dt_X10_joins 1 rfl) (by decide) ⟨by decide, by decide⟩ ?_
  refine v_bipush (pc := 3) (dk dt_X10_joins 2 rfl) (by decide) ⟨by decide, by decide⟩ ?_
  obtain ⟨v1, h⟩ := h
  refine v_csNPZ (v := (wIn l0 10 14)) (As := [iv l0, iv 10, iv 14]) (stk := []) (pc := 5) (dk dt_X10_joins 3 rfl) ml_X10_25 sw_X11_isWithin rfl rfl (Nat.le_of_ble_eq_true rfl) rfl rfl v1 ?_
  obtain ⟨v2, h⟩ := h
  exact v_zret (pc := 8) (dk dt_X10_joins 4 rfl) rfl v2 h
set_option maxRecDepth 20000 in
theorem i_X10_joins {E : EE} {l0 : Int} {G : Gt} {c s : Nat} {Q X : Int → Gt → Prop} (h : (OkP E M_X11_isWithin [iv l0, iv 10, iv 14] G (wIn l0 10 14) ∧ ((wIn l0 10 14) = 0 ∨ (wIn l0 10 14) = 1) ∧ Q (wIn l0 10 14) G)) : Ok E M_X10_joins [iv l0] G c s Q X := Ok.intro (k := 0) rfl rfl (Nat.le_of_ble_eq_true rfl) rfl (b_X10_joins_0 h)
set_option maxRecDepth 20000 in
theorem b_X10_needs_0 {E : EE} {l0 : Int} {G : Gt} {c s : Nat} {Q X : Int → Gt → Prop} (h : ((l0 = 0 → Q 0 G) ∧ (l0 ≠ 0 → (OkP E M_X10_reads [iv l0] G (wIn l0 1 7) ∧ (((wIn l0 1 7) = 0 → (OkP E M_X10_joins [iv l0] G (wIn l0 10 14) ∧ Q (if (wIn l0 10 14) = 0 then (1 : Int) else 2) G)) ∧ ((wIn l0 1 7) ≠ 0 → Q 0 G)))))) : V E M_X10_needs 0 [some (iv l0)] [] G c s Q X := by
  refine v_iload_n (pc := 0) (dk dt_X10_needs 0 rfl) rfl rfl ?_
  refine v_if_eq (pc := 1) (tgt := 11) (dk dt_X10_needs 1 rfl) (by decide) (fun c1 => ?_) (fun c1 => ?_)
  · replace h := h.1 c1
    refine v_iconst (pc := 11) (dk dt_X10_needs 5 rfl) ⟨by decide, by decide⟩ ?_
    exact v_iret (pc := 12) (dk dt_X10_needs 6 rfl) rfl h
  · replace h := h.2 c1
    refine v_iload_n (pc := 4) (dk dt_X10_needs 2 rfl) rfl rfl ?_
    obtain ⟨v2, h⟩ := h
    refine v_csPZ (v := (wIn l0 1 7)) (As := [iv l0]) (stk := []) (pc := 5) (dk dt_X10_needs 3 rfl) ml_X10_29 rfl rfl (Nat.le_of_ble_eq_true rfl) rfl rfl v2 ?_
    refine v_if_eq (pc := 8) (tgt := 13) (dk dt_X10_needs 4 rfl) (by decide) (fun c3 => ?_) (fun c3 => ?_)
    · replace h := h.1 c3
      refine v_iload_n (pc := 13) (dk dt_X10_needs 7 rfl) rfl rfl ?_
      obtain ⟨v4, h⟩ := h
      refine v_csPZ (v := (wIn l0 10 14)) (As := [iv l0]) (stk := []) (pc := 14) (dk dt_X10_needs 8 rfl) ml_X10_33 rfl rfl (Nat.le_of_ble_eq_true rfl) rfl rfl v4 ?_
      suffices k6 : V E M_X10_needs 25 [none] [iv (if (wIn l0 10 14) = 0 then (1 : Int) else 2)] G c s Q X by
        refine v_if_eq (pc := 17) (tgt := 24) (dk dt_X10_needs 9 rfl) (by decide) (fun c5 => ?_) (fun c5 => ?_)
        · refine v_iconst (pc := 24) (dk dt_X10_needs 12 rfl) ⟨by decide, by decide⟩ ?_
          exact v_less2 (ls' := [none]) trivial (by have hk9 := k6; try simp only [if_pos c5] at hk9 ⊢; exact hk9)
        · refine v_iconst (pc := 20) (dk dt_X10_needs 10 rfl) ⟨by decide, by decide⟩ ?_
          refine v_goto (pc := 21) (tgt := 25) (dk dt_X10_needs 11 rfl) (by decide) ?_
          exact v_less2 (ls' := [none]) trivial (by have hk9 := k6; try simp only [if_neg c5] at hk9 ⊢; exact hk9)
      exact v_iret (pc := 25) (dk dt_X10_needs 13 rfl) rfl h
    · replace h := h.2 c3
      refine v_iconst (pc := 11) (dk dt_X10_needs 5 rfl) ⟨by decide, by decide⟩ ?_
      exact v_iret (pc := 12) (dk dt_X10_needs 6 rfl) rfl h
set_option maxRecDepth 20000 in
theorem i_X10_needs {E : EE} {l0 : Int} {G : Gt} {c s : Nat} {Q X : Int → Gt → Prop} (h : ((l0 = 0 → Q 0 G) ∧ (l0 ≠ 0 → (OkP E M_X10_reads [iv l0] G (wIn l0 1 7) ∧ (((wIn l0 1 7) = 0 → (OkP E M_X10_joins [iv l0] G (wIn l0 10 14) ∧ Q (if (wIn l0 10 14) = 0 then (1 : Int) else 2) G)) ∧ ((wIn l0 1 7) ≠ 0 → Q 0 G)))))) : Ok E M_X10_needs [iv l0] G c s Q X := Ok.intro (k := 0) rfl rfl (Nat.le_of_ble_eq_true rfl) rfl (b_X10_needs_0 h)
