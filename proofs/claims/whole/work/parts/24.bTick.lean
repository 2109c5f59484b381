set_option maxRecDepth 20000 in
theorem b_X11_init_0 {E : EE} {l0 : Int} {G : Gt} {c s : Nat} {Q X : Int → Gt → Prop} (h : (0 ≤ l0 ∧ 1 ≤ c ∧ 4 ≤ s ∧ ∀ q4 : Int, gcl G q4 = 0 → (eb E : Int) ≤ q4 → ∀ G5 : Gt, G5 = (newo G q4 8) → 0 ≤ q4 ∧ Call E M_X8_init [rv q4] G5 (c - 1) (s - 4) X (fun r7 G8 c9 s10 => gcl G8 l0 = 12 ∧ ∀ G12 : Gt, G12 = (sfd G8 11 0 l0 q4) → 1 ≤ c9 ∧ 4 ≤ s10 ∧ ∀ q15 : Int, gcl G12 q15 = 0 → (eb E : Int) ≤ q15 → ∀ G16 : Gt, G16 = (newo G12 q15 2) → 0 ≤ q15 ∧ Call E M_X2_init [rv q15] G16 (c9 - 1) (s10 - 4) X (fun r18 G19 c20 s21 => gcl G19 l0 = 12 ∧ ∀ G23 : Gt, G23 = (sfd G19 11 1 l0 q15) → 1 ≤ c20 ∧ 4 ≤ s21 ∧ ∀ q26 : Int, gcl G23 q26 = 0 → (eb E : Int) ≤ q26 → ∀ G27 : Gt, G27 = (newo G23 q26 3) → 0 ≤ q26 ∧ Call E M_X3_init [rv q26] G27 (c20 - 1) (s21 - 4) X (fun r29 G30 c31 s32 => gcl G30 l0 = 12 ∧ ∀ G34 : Gt, G34 = (sfd G30 11 2 l0 q26) → 1 ≤ c31 ∧ 9 ≤ s32 ∧ ∀ q37 : Int, gcl G34 q37 = 0 → (eb E : Int) ≤ q37 → ∀ G38 : Gt, G38 = (newo G34 q37 9) → 0 ≤ q37 ∧ Call E M_X9_init [rv q37] G38 (c31 - 1) (s32 - 9) X (fun r40 G41 c42 s43 => gcl G41 l0 = 12 ∧ ∀ G45 : Gt, G45 = (sfd G41 11 3 l0 q37) → 1 ≤ c42 ∧ 3 ≤ s43 ∧ ∀ q48 : Int, gcl G45 q48 = 0 → (eb E : Int) ≤ q48 → ∀ G49 : Gt, G49 = (newo G45 q48 6) → 0 ≤ q48 ∧ Call E M_X6_init [rv q48, iv 127, iv 127, iv 127] G49 (c42 - 1) (s43 - 3) X (fun r51 G52 c53 s54 => gcl G52 l0 = 12 ∧ ∀ G56 : Gt, G56 = (sfd G52 11 4 l0 q48) → 1 ≤ c53 ∧ 3 ≤ s54 ∧ ∀ q59 : Int, gcl G56 q59 = 0 → (eb E : Int) ≤ q59 → ∀ G60 : Gt, G60 = (newo G56 q59 13) → 0 ≤ q59 ∧ Call E M_A_init [rv q59] G60 (c53 - 1) (s54 - 3) X (fun r62 G63 c64 s65 => gcl G63 l0 = 12 ∧ ∀ G67 : Gt, G67 = (sfd G63 11 5 l0 q59) → 1 ≤ c64 ∧ 3 ≤ s65 ∧ ∀ q70 : Int, gcl G67 q70 = 0 → (eb E : Int) ≤ q70 → ∀ G71 : Gt, G71 = (newo G67 q70 13) → 0 ≤ q70 ∧ Call E M_A_init [rv q70] G71 (c64 - 1) (s65 - 3) X (fun r73 G74 c75 s76 => gcl G74 l0 = 12 ∧ ∀ G78 : Gt, G78 = (sfd G74 11 6 l0 q70) → 1 ≤ c75 ∧ 3 ≤ s76 ∧ ∀ q81 : Int, gcl G78 q81 = 0 → (eb E : Int) ≤ q81 → ∀ G82 : Gt, G82 = (newo G78 q81 13) → 0 ≤ q81 ∧ Call E M_A_init [rv q81] G82 (c75 - 1) (s76 - 3) X (fun r84 G85 c86 s87 => gcl G85 l0 = 12 ∧ ∀ G89 : Gt, G89 = (sfd G85 11 7 l0 q81) → 1 ≤ c86 ∧ (10 : Int).toNat ≤ s87 ∧ ∀ q90 : Int, gcl G89 q90 = 0 → (eb E : Int) ≤ q90 → ∀ G93 : Gt, G93 = (newa G89 q90 15 10) → gcl G93 l0 = 12 ∧ ∀ G95 : Gt, G95 = (sfd G93 11 8 l0 q90) → 1 ≤ (c86 - 1) ∧ (180 : Int).toNat ≤ (s87 - (10 : Int).toNat) ∧ ∀ q96 : Int, gcl G95 q96 = 0 → (eb E : Int) ≤ q96 → ∀ G99 : Gt, G99 = (newa G95 q96 15 180) → gcl G99 l0 = 12 ∧ ∀ G101 : Gt, G101 = (sfd G99 11 9 l0 q96) → 1 ≤ ((c86 - 1) - 1) ∧ 3 ≤ ((s87 - (10 : Int).toNat) - (180 : Int).toNat) ∧ ∀ q104 : Int, gcl G101 q104 = 0 → (eb E : Int) ≤ q104 → ∀ G105 : Gt, G105 = (newo G101 q104 13) → 0 ≤ q104 ∧ Call E M_A_init [rv q104] G105 (((c86 - 1) - 1) - 1) (((s87 - (10 : Int).toNat) - (180 : Int).toNat) - 3) X (fun r107 G108 c109 s110 => gcl G108 l0 = 12 ∧ ∀ G112 : Gt, G112 = (sfd G108 11 10 l0 q104) → gcl G112 l0 = 12 ∧ ∀ G114 : Gt, G114 = (sfd G112 11 11 l0 0) → gcl G114 l0 = 12 ∧ ∀ G116 : Gt, G116 = (sfd G114 11 12 l0 0) → gcl G116 l0 = 12 ∧ ∀ G118 : Gt, G118 = (sfd G116 11 13 l0 1000) → V E M_X11_init 145 [some (rv l0), some (iv 0)] [] G118 c109 s110 Q X))))))))))) : V E M_X11_init 0 [some (rv l0), none] [] G c s Q X := by
  refine v_aload_n (pc := 0) (dk dt_X11_init 0 rfl) rfl rfl ?_
  obtain ⟨v1, h⟩ := h
  refine v_objInit (pc := 1) (dk dt_X11_init 1 rfl) mw_X11_3 (Nat.le_of_ble_eq_true rfl) (Nat.le_of_ble_eq_true rfl) (Nat.le_of_ble_eq_true rfl) v1 ?_
  refine v_aload_n (pc := 4) (dk dt_X11_init 2 rfl) rfl rfl ?_
  obtain ⟨v2, h⟩ := h
  obtain ⟨v3, h⟩ := h
  refine v_new (pc := 5) (dk dt_X11_init 3 rfl) nl_X11_9 v2 v3 (fun q4 hq4 gq4 => ?_)
  replace h := h q4 hq4 gq4
  generalize hG5 : (newo G q4 8) = G5
  replace h := h G5 hG5.symm
  refine v_dup (pc := 8) (dk dt_X11_init 4 rfl) (by intro h9; cases h9) ?_
  obtain ⟨v6, h⟩ := h
  refine v_ciNV (As := []) (stk := [rv q4, rv l0]) (pc := 9) (dk dt_X11_init 5 rfl) ml_X11_11 in_X8_init rfl rfl (Nat.le_of_ble_eq_true rfl) rfl v6 (Call.mono h (fun r7 G8 c9 s10 h => ?_))
  obtain ⟨v11, h⟩ := h
  refine v_putR (pc := 12) (dk dt_X11_init 6 rfl) fl_X11_12 (Or.inr ⟨rfl, rfl⟩) v11 ?_
  generalize hG12 : (sfd G8 11 0 l0 q4) = G12
  replace h := h G12 hG12.symm
  refine v_aload_n (pc := 15) (dk dt_X11_init 7 rfl) rfl rfl ?_
  obtain ⟨v13, h⟩ := h
  obtain ⟨v14, h⟩ := h
  refine v_new (pc := 16) (dk dt_X11_init 8 rfl) nl_X11_18 v13 v14 (fun q15 hq15 gq15 => ?_)
  replace h := h q15 hq15 gq15
  generalize hG16 : (newo G12 q15 2) = G16
  replace h := h G16 hG16.symm
  refine v_dup (pc := 19) (dk dt_X11_init 9 rfl) (by intro h9; cases h9) ?_
  obtain ⟨v17, h⟩ := h
  refine v_ciV (As := []) (stk := [rv q15, rv l0]) (pc := 20) (dk dt_X11_init 10 rfl) ml_X11_20 rfl rfl (Nat.le_of_ble_eq_true rfl) rfl v17 (Call.mono h (fun r18 G19 c20 s21 h => ?_))
  obtain ⟨v22, h⟩ := h
  refine v_putR (pc := 23) (dk dt_X11_init 11 rfl) fl_X11_21 (Or.inr ⟨rfl, rfl⟩) v22 ?_
  generalize hG23 : (sfd G19 11 1 l0 q15) = G23
  replace h := h G23 hG23.symm
  refine v_aload_n (pc := 26) (dk dt_X11_init 12 rfl) rfl rfl ?_
  obtain ⟨v24, h⟩ := h
  obtain ⟨v25, h⟩ := h
  refine v_new (pc := 27) (dk dt_X11_init 13 rfl) nl_X11_25 v24 v25 (fun q26 hq26 gq26 => ?_)
  replace h := h q26 hq26 gq26
  generalize hG27 : (newo G23 q26 3) = G27
  replace h := h G27 hG27.symm
  refine v_dup (pc := 30) (dk dt_X11_init 14 rfl) (by intro h9; cases h9) ?_
  obtain ⟨v28, h⟩ := h
  refine v_ciNV (As := []) (stk := [rv q26, rv l0]) (pc := 31) (dk dt_X11_init 15 rfl) ml_X11_27 in_X3_init rfl rfl (Nat.le_of_ble_eq_true rfl) rfl v28 (Call.mono h (fun r29 G30 c31 s32 h => ?_))
  obtain ⟨v33, h⟩ := h
  refine v_putR (pc := 34) (dk dt_X11_init 16 rfl) fl_X11_28 (Or.inr ⟨rfl, rfl⟩) v33 ?_
  generalize hG34 : (sfd G30 11 2 l0 q26) = G34
  replace h := h G34 hG34.symm
  refine v_aload_n (pc := 37) (dk dt_X11_init 17 rfl) rfl rfl ?_
  obtain ⟨v35, h⟩ := h
  obtain ⟨v36, h⟩ := h
  refine v_new (pc := 38) (dk dt_X11_init 18 rfl) nl_X11_32 v35 v36 (fun q37 hq37 gq37 => ?_)
  replace h := h q37 hq37 gq37
  generalize hG38 : (newo G34 q37 9) = G38
  replace h := h G38 hG38.symm
  refine v_dup (pc := 41) (dk dt_X11_init 19 rfl) (by intro h9; cases h9) ?_
  obtain ⟨v39, h⟩ := h
  refine v_ciNV (As := []) (stk := [rv q37, rv l0]) (pc := 42) (dk dt_X11_init 20 rfl) ml_X11_34 in_X9_init rfl rfl (Nat.le_of_ble_eq_true rfl) rfl v39 (Call.mono h (fun r40 G41 c42 s43 h => ?_))
  obtain ⟨v44, h⟩ := h
  refine v_putR (pc := 45) (dk dt_X11_init 21 rfl) fl_X11_35 (Or.inr ⟨rfl, rfl⟩) v44 ?_
  generalize hG45 : (sfd G41 11 3 l0 q37) = G45
  replace h := h G45 hG45.symm
  refine v_aload_n (pc := 48) (dk dt_X11_init 22 rfl) rfl rfl ?_
  obtain ⟨v46, h⟩ := h
  obtain ⟨v47, h⟩ := h
  refine v_new (pc := 49) (dk dt_X11_init 23 rfl) nl_X11_39 v46 v47 (fun q48 hq48 gq48 => ?_)
  replace h := h q48 hq48 gq48
  generalize hG49 : (newo G45 q48 6) = G49
  replace h := h G49 hG49.symm
  refine v_dup (pc := 52) (dk dt_X11_init 24 rfl) (by intro h9; cases h9) ?_
  refine v_bipush (pc := 53) (dk dt_X11_init 25 rfl) (by decide) ⟨by decide, by decide⟩ ?_
  refine v_bipush (pc := 55) (dk dt_X11_init 26 rfl) (by decide) ⟨by decide, by decide⟩ ?_
  refine v_bipush (pc := 57) (dk dt_X11_init 27 rfl) (by decide) ⟨by decide, by decide⟩ ?_
  obtain ⟨v50, h⟩ := h
  refine v_ciV (As := [iv 127, iv 127, iv 127]) (stk := [rv q48, rv l0]) (pc := 59) (dk dt_X11_init 28 rfl) ml_X11_41 rfl rfl (Nat.le_of_ble_eq_true rfl) rfl v50 (Call.mono h (fun r51 G52 c53 s54 h => ?_))
  obtain ⟨v55, h⟩ := h
  refine v_putR (pc := 62) (dk dt_X11_init 29 rfl) fl_X11_44 (Or.inr ⟨rfl, rfl⟩) v55 ?_
  generalize hG56 : (sfd G52 11 4 l0 q48) = G56
  replace h := h G56 hG56.symm
  refine v_aload_n (pc := 65) (dk dt_X11_init 30 rfl) rfl rfl ?_
  obtain ⟨v57, h⟩ := h
  obtain ⟨v58, h⟩ := h
  refine v_new (pc := 66) (dk dt_X11_init 31 rfl) nl_X11_48 v57 v58 (fun q59 hq59 gq59 => ?_)
  replace h := h q59 hq59 gq59
  generalize hG60 : (newo G56 q59 13) = G60
  replace h := h G60 hG60.symm
  refine v_dup (pc := 69) (dk dt_X11_init 32 rfl) (by intro h9; cases h9) ?_
  obtain ⟨v61, h⟩ := h
  refine v_ciV (As := []) (stk := [rv q59, rv l0]) (pc := 70) (dk dt_X11_init 33 rfl) ml_X11_50 rfl rfl (Nat.le_of_ble_eq_true rfl) rfl v61 (Call.mono h (fun r62 G63 c64 s65 h => ?_))
  obtain ⟨v66, h⟩ := h
  refine v_putR (pc := 73) (dk dt_X11_init 34 rfl) fl_X11_51 (Or.inr ⟨rfl, rfl⟩) v66 ?_
  generalize hG67 : (sfd G63 11 5 l0 q59) = G67
  replace h := h G67 hG67.symm
  refine v_aload_n (pc := 76) (dk dt_X11_init 35 rfl) rfl rfl ?_
  obtain ⟨v68, h⟩ := h
  obtain ⟨v69, h⟩ := h
  refine v_new (pc := 77) (dk dt_X11_init 36 rfl) nl_X11_48 v68 v69 (fun q70 hq70 gq70 => ?_)
  replace h := h q70 hq70 gq70
  generalize hG71 : (newo G67 q70 13) = G71
  replace h := h G71 hG71.symm
  refine v_dup (pc := 80) (dk dt_X11_init 37 rfl) (by intro h9; cases h9) ?_
  obtain ⟨v72, h⟩ := h
  refine v_ciV (As := []) (stk := [rv q70, rv l0]) (pc := 81) (dk dt_X11_init 38 rfl) ml_X11_50 rfl rfl (Nat.le_of_ble_eq_true rfl) rfl v72 (Call.mono h (fun r73 G74 c75 s76 h => ?_))
  obtain ⟨v77, h⟩ := h
  refine v_putR (pc := 84) (dk dt_X11_init 39 rfl) fl_X11_55 (Or.inr ⟨rfl, rfl⟩) v77 ?_
  generalize hG78 : (sfd G74 11 6 l0 q70) = G78
  replace h := h G78 hG78.symm
  refine v_aload_n (pc := 87) (dk dt_X11_init_1 0 rfl) rfl rfl ?_
  obtain ⟨v79, h⟩ := h
  obtain ⟨v80, h⟩ := h
  refine v_new (pc := 88) (dk dt_X11_init_1 1 rfl) nl_X11_48 v79 v80 (fun q81 hq81 gq81 => ?_)
  replace h := h q81 hq81 gq81
  generalize hG82 : (newo G78 q81 13) = G82
  replace h := h G82 hG82.symm
  refine v_dup (pc := 91) (dk dt_X11_init_1 2 rfl) (by intro h9; cases h9) ?_
  obtain ⟨v83, h⟩ := h
  refine v_ciV (As := []) (stk := [rv q81, rv l0]) (pc := 92) (dk dt_X11_init_1 3 rfl) ml_X11_50 rfl rfl (Nat.le_of_ble_eq_true rfl) rfl v83 (Call.mono h (fun r84 G85 c86 s87 h => ?_))
  obtain ⟨v88, h⟩ := h
  refine v_putR (pc := 95) (dk dt_X11_init_1 4 rfl) fl_X11_58 (Or.inr ⟨rfl, rfl⟩) v88 ?_
  generalize hG89 : (sfd G85 11 7 l0 q81) = G89
  replace h := h G89 hG89.symm
  refine v_aload_n (pc := 98) (dk dt_X11_init_1 5 rfl) rfl rfl ?_
  refine v_bipush (pc := 99) (dk dt_X11_init_1 6 rfl) (by decide) ⟨by decide, by decide⟩ ?_
  obtain ⟨v91, h⟩ := h
  obtain ⟨v92, h⟩ := h
  refine v_newa (t := 15) (i := 0) (ty := .int) (pc := 101) (dk dt_X11_init_1 7 rfl) ac_int rfl (Or.inl ⟨rfl, rfl, rfl⟩) (by decide) (by decide) v91 v92 (fun q90 hq90 gq90 => ?_)
  replace h := h q90 hq90 gq90
  generalize hG93 : (newa G89 q90 15 10) = G93
  replace h := h G93 hG93.symm
  obtain ⟨v94, h⟩ := h
  refine v_putR (pc := 103) (dk dt_X11_init_1 8 rfl) fl_X11_61 (Or.inr ⟨rfl, rfl⟩) v94 ?_
  generalize hG95 : (sfd G93 11 8 l0 q90) = G95
  replace h := h G95 hG95.symm
  refine v_aload_n (pc := 106) (dk dt_X11_init_1 9 rfl) rfl rfl ?_
  refine v_sipush (pc := 107) (dk dt_X11_init_1 10 rfl) (by decide) ⟨by decide, by decide⟩ ?_
  obtain ⟨v97, h⟩ := h
  obtain ⟨v98, h⟩ := h
  refine v_newa (t := 15) (i := 0) (ty := .int) (pc := 110) (dk dt_X11_init_1 11 rfl) ac_int rfl (Or.inl ⟨rfl, rfl, rfl⟩) (by decide) (by decide) v97 v98 (fun q96 hq96 gq96 => ?_)
  replace h := h q96 hq96 gq96
  generalize hG99 : (newa G95 q96 15 180) = G99
  replace h := h G99 hG99.symm
  obtain ⟨v100, h⟩ := h
  refine v_putR (pc := 112) (dk dt_X11_init_1 12 rfl) fl_X11_65 (Or.inr ⟨rfl, rfl⟩) v100 ?_
  generalize hG101 : (sfd G99 11 9 l0 q96) = G101
  replace h := h G101 hG101.symm
  refine v_aload_n (pc := 115) (dk dt_X11_init_1 13 rfl) rfl rfl ?_
  obtain ⟨v102, h⟩ := h
  obtain ⟨v103, h⟩ := h
  refine v_new (pc := 116) (dk dt_X11_init_1 14 rfl) nl_X11_48 v102 v103 (fun q104 hq104 gq104 => ?_)
  replace h := h q104 hq104 gq104
  generalize hG105 : (newo G101 q104 13) = G105
  replace h := h G105 hG105.symm
  refine v_dup (pc := 119) (dk dt_X11_init_1 15 rfl) (by intro h9; cases h9) ?_
  obtain ⟨v106, h⟩ := h
  refine v_ciV (As := []) (stk := [rv q104, rv l0]) (pc := 120) (dk dt_X11_init_1 16 rfl) ml_X11_50 rfl rfl (Nat.le_of_ble_eq_true rfl) rfl v106 (Call.mono h (fun r107 G108 c109 s110 h => ?_))
  obtain ⟨v111, h⟩ := h
  refine v_putR (pc := 123) (dk dt_X11_init_1 17 rfl) fl_X11_68 (Or.inl rfl) v111 ?_
  generalize hG112 : (sfd G108 11 10 l0 q104) = G112
  replace h := h G112 hG112.symm
  refine v_aload_n (pc := 126) (dk dt_X11_init_1 18 rfl) rfl rfl ?_
  refine v_iconst (pc := 127) (dk dt_X11_init_1 19 rfl) ⟨by decide, by decide⟩ ?_
  obtain ⟨v113, h⟩ := h
  refine v_putI (pc := 128) (dk dt_X11_init_1 20 rfl) fl_X11_71 (Or.inl rfl) v113 ?_
  generalize hG114 : (sfd G112 11 11 l0 0) = G114
  replace h := h G114 hG114.symm
  refine v_aload_n (pc := 131) (dk dt_X11_init_1 21 rfl) rfl rfl ?_
  refine v_iconst (pc := 132) (dk dt_X11_init_1 22 rfl) ⟨by decide, by decide⟩ ?_
  obtain ⟨v115, h⟩ := h
  refine v_putI (pc := 133) (dk dt_X11_init_1 23 rfl) fl_X11_75 (Or.inl rfl) v115 ?_
  generalize hG116 : (sfd G114 11 12 l0 0) = G116
  replace h := h G116 hG116.symm
  refine v_aload_n (pc := 136) (dk dt_X11_init_1 24 rfl) rfl rfl ?_
  refine v_sipush (pc := 137) (dk dt_X11_init_1 25 rfl) (by decide) ⟨by decide, by decide⟩ ?_
  obtain ⟨v117, h⟩ := h
  refine v_putI (pc := 140) (dk dt_X11_init_1 26 rfl) fl_X11_78 (Or.inl rfl) v117 ?_
  generalize hG118 : (sfd G116 11 13 l0 1000) = G118
  replace h := h G118 hG118.symm
  refine v_iconst (pc := 143) (dk dt_X11_init_1 27 rfl) ⟨by decide, by decide⟩ ?_
  refine v_istore_n (pc := 144) (ls' := [some (rv l0), some (iv 0)]) (dk dt_X11_init_1 28 rfl) rfl (Nat.le_of_ble_eq_true rfl) rfl ?_
  exact h
set_option maxRecDepth 20000 in
theorem i_X11_init {E : EE} {l0 : Int} {G : Gt} {c s : Nat} {Q X : Int → Gt → Prop} (h : (0 ≤ l0 ∧ 1 ≤ c ∧ 4 ≤ s ∧ ∀ q4 : Int, gcl G q4 = 0 → (eb E : Int) ≤ q4 → ∀ G5 : Gt, G5 = (newo G q4 8) → 0 ≤ q4 ∧ Call E M_X8_init [rv q4] G5 (c - 1) (s - 4) X (fun r7 G8 c9 s10 => gcl G8 l0 = 12 ∧ ∀ G12 : Gt, G12 = (sfd G8 11 0 l0 q4) → 1 ≤ c9 ∧ 4 ≤ s10 ∧ ∀ q15 : Int, gcl G12 q15 = 0 → (eb E : Int) ≤ q15 → ∀ G16 : Gt, G16 = (newo G12 q15 2) → 0 ≤ q15 ∧ Call E M_X2_init [rv q15] G16 (c9 - 1) (s10 - 4) X (fun r18 G19 c20 s21 => gcl G19 l0 = 12 ∧ ∀ G23 : Gt, G23 = (sfd G19 11 1 l0 q15) → 1 ≤ c20 ∧ 4 ≤ s21 ∧ ∀ q26 : Int, gcl G23 q26 = 0 → (eb E : Int) ≤ q26 → ∀ G27 : Gt, G27 = (newo G23 q26 3) → 0 ≤ q26 ∧ Call E M_X3_init [rv q26] G27 (c20 - 1) (s21 - 4) X (fun r29 G30 c31 s32 => gcl G30 l0 = 12 ∧ ∀ G34 : Gt, G34 = (sfd G30 11 2 l0 q26) → 1 ≤ c31 ∧ 9 ≤ s32 ∧ ∀ q37 : Int, gcl G34 q37 = 0 → (eb E : Int) ≤ q37 → ∀ G38 : Gt, G38 = (newo G34 q37 9) → 0 ≤ q37 ∧ Call E M_X9_init [rv q37] G38 (c31 - 1) (s32 - 9) X (fun r40 G41 c42 s43 => gcl G41 l0 = 12 ∧ ∀ G45 : Gt, G45 = (sfd G41 11 3 l0 q37) → 1 ≤ c42 ∧ 3 ≤ s43 ∧ ∀ q48 : Int, gcl G45 q48 = 0 → (eb E : Int) ≤ q48 → ∀ G49 : Gt, G49 = (newo G45 q48 6) → 0 ≤ q48 ∧ Call E M_X6_init [rv q48, iv 127, iv 127, iv 127] G49 (c42 - 1) (s43 - 3) X (fun r51 G52 c53 s54 => gcl G52 l0 = 12 ∧ ∀ G56 : Gt, G56 = (sfd G52 11 4 l0 q48) → 1 ≤ c53 ∧ 3 ≤ s54 ∧ ∀ q59 : Int, gcl G56 q59 = 0 → (eb E : Int) ≤ q59 → ∀ G60 : Gt, G60 = (newo G56 q59 13) → 0 ≤ q59 ∧ Call E M_A_init [rv q59] G60 (c53 - 1) (s54 - 3) X (fun r62 G63 c64 s65 => gcl G63 l0 = 12 ∧ ∀ G67 : Gt, G67 = (sfd G63 11 5 l0 q59) → 1 ≤ c64 ∧ 3 ≤ s65 ∧ ∀ q70 : Int, gcl G67 q70 = 0 → (eb E : Int) ≤ q70 → ∀ G71 : Gt, G71 = (newo G67 q70 13) → 0 ≤ q70 ∧ Call E M_A_init [rv q70] G71 (c64 - 1) (s65 - 3) X (fun r73 G74 c75 s76 => gcl G74 l0 = 12 ∧ ∀ G78 : Gt, G78 = (sfd G74 11 6 l0 q70) → 1 ≤ c75 ∧ 3 ≤ s76 ∧ ∀ q81 : Int, gcl G78 q81 = 0 → (eb E : Int) ≤ q81 → ∀ G82 : Gt, G82 = (newo G78 q81 13) → 0 ≤ q81 ∧ Call E M_A_init [rv q81] G82 (c75 - 1) (s76 - 3) X (fun r84 G85 c86 s87 => gcl G85 l0 = 12 ∧ ∀ G89 : Gt, G89 = (sfd G85 11 7 l0 q81) → 1 ≤ c86 ∧ (10 : Int).toNat ≤ s87 ∧ ∀ q90 : Int, gcl G89 q90 = 0 → (eb E : Int) ≤ q90 → ∀ G93 : Gt, G93 = (newa G89 q90 15 10) → gcl G93 l0 = 12 ∧ ∀ G95 : Gt, G95 = (sfd G93 11 8 l0 q90) → 1 ≤ (c86 - 1) ∧ (180 : Int).toNat ≤ (s87 - (10 : Int).toNat) ∧ ∀ q96 : Int, gcl G95 q96 = 0 → (eb E : Int) ≤ q96 → ∀ G99 : Gt, G99 = (newa G95 q96 15 180) → gcl G99 l0 = 12 ∧ ∀ G101 : Gt, G101 = (sfd G99 11 9 l0 q96) → 1 ≤ ((c86 - 1) - 1) ∧ 3 ≤ ((s87 - (10 : Int).toNat) - (180 : Int).toNat) ∧ ∀ q104 : Int, gcl G101 q104 = 0 → (eb E : Int) ≤ q104 → ∀ G105 : Gt, G105 = (newo G101 q104 13) → 0 ≤ q104 ∧ Call E M_A_init [rv q104] G105 (((c86 - 1) - 1) - 1) (((s87 - (10 : Int).toNat) - (180 : Int).toNat) - 3) X (fun r107 G108 c109 s110 => gcl G108 l0 = 12 ∧ ∀ G112 : Gt, G112 = (sfd G108 11 10 l0 q104) → gcl G112 l0 = 12 ∧ ∀ G114 : Gt, G114 = (sfd G112 11 11 l0 0) → gcl G114 l0 = 12 ∧ ∀ G116 : Gt, G116 = (sfd G114 11 12 l0 0) → gcl G116 l0 = 12 ∧ ∀ G118 : Gt, G118 = (sfd G116 11 13 l0 1000) → V E M_X11_init 145 [some (rv l0), some (iv 0)] [] G118 c109 s110 Q X))))))))))) : Ok E M_X11_init [rv l0] G c s Q X := Ok.intro (k := 1) rfl rfl (Nat.le_of_ble_eq_true rfl) rfl (b_X11_init_0 h)
set_option maxRecDepth 20000 in
theorem b_X11_init_145 {E : EE} {l0 l1 : Int} {G : Gt} {c s : Nat} {Q X : Int → Gt → Prop} (h : ((4 ≤ l1 → Q 0 G) ∧ (l1 < 4 → (gcl G l0 = 12 ∧ gcl G l0 = 12 ∧ gcl G (gfd G 11 5 l0) = 14 ∧ Call E M_A_add [rv (gfd G 11 5 l0), rv (gfd G 11 4 l0)] G c s X (fun r5 G6 c7 s8 => i32 (l1 + 1) ∧ V E M_X11_init 145 [some (rv l0), some (iv (l1 + 1))] [] G6 c7 s8 Q X))))) : V E M_X11_init 145 [some (rv l0), some (iv l1)] [] G c s Q X := by
  refine v_iload_n (pc := 145) (dk dt_X11_init_1 29 rfl) rfl rfl ?_
  refine v_iconst (pc := 146) (dk dt_X11_init_1 30 rfl) ⟨by decide, by decide⟩ ?_
  refine v_icmp_ge (pc := 147) (tgt := 168) (dk dt_X11_init_1 31 rfl) (by decide) (fun c1 => ?_) (fun c1 => ?_)
  · replace h := h.1 c1
    exact v_vret (pc := 168) (dk dt_X11_init_2 0 rfl) rfl h
  · replace h := h.2 c1
    refine v_aload_n (pc := 150) (dk dt_X11_init_1 32 rfl) rfl rfl ?_
    obtain ⟨v2, h⟩ := h
    refine v_getR (pc := 151) (dk dt_X11_init_1 33 rfl) fl_X11_51 v2 (fun _ => ?_)
    refine v_aload_n (pc := 154) (dk dt_X11_init_1 34 rfl) rfl rfl ?_
    obtain ⟨v3, h⟩ := h
    refine v_getR (pc := 155) (dk dt_X11_init_1 35 rfl) fl_X11_44 v3 (fun _ => ?_)
    obtain ⟨v4, h⟩ := h
    refine v_cvZ (c := 13) (As := [rv (gfd G 11 4 l0)]) (stk := []) (pc := 158) (dk dt_X11_init_1 36 rfl) ml_X11_81 rfl rfl (Nat.le_of_ble_eq_true rfl) rfl ⟨by decide, rfl⟩ v4 rfl (Call.mono h (fun r5 G6 c7 s8 h => ?_))
    refine v_pop (pc := 161) (dk dt_X11_init_1 37 rfl) (by intro h9; cases h9) ?_
    obtain ⟨v9, h⟩ := h
    refine v_iinc (pc := 162) (ls' := [some (rv l0), some (iv (l1 + 1))]) (dk dt_X11_init_1 38 rfl) (Nat.le_of_ble_eq_true rfl) rfl v9 rfl ?_
    refine v_goto (pc := 165) (tgt := 145) (dk dt_X11_init_1 39 rfl) (by decide) ?_
    exact h
set_option maxRecDepth 20000 in
theorem b_X11_write_0 {E : EE} {l0 l1 l2 l3 l4 l5 : Int} {G : Gt} {c s : Nat} {Q X : Int → Gt → Prop} (h : (OkP E M_X11_isWithin [iv l1, iv 0, iv 6] G (wIn l1 0 6) ∧ (((wIn l1 0 6) = 0 → (1 ≤ c ∧ 6 ≤ s ∧ X 1 G)) ∧ ((wIn l1 0 6) ≠ 0 → (OkP E M_X11_isWithin [iv l2, iv 0, iv 6] G (wIn l2 0 6) ∧ (((wIn l2 0 6) = 0 → (1 ≤ c ∧ 6 ≤ s ∧ X 1 G)) ∧ ((wIn l2 0 6) ≠ 0 → (OkP E M_X11_isWithin [iv l3, iv 0, iv 6] G (wIn l3 0 6) ∧ (((wIn l3 0 6) ≠ 0 → (gcl G l0 = 12 ∧ OkP E M_X11_isWithin [iv l4, iv 0, iv (gfd G 11 12 l0)] G (wIn l4 0 (gfd G 11 12 l0)) ∧ (((wIn l4 0 (gfd G 11 12 l0)) ≠ 0 → (∀ J14 : Prop, ((gcl G l0 = 12 ∧ i32 (100 * l1) ∧ i32 (10 * l2) ∧ i32 ((100 * l1) + (10 * l2)) ∧ i32 (((100 * l1) + (10 * l2)) + l3) ∧ gcl G (gfd G 11 0 l0) = 9 ∧ Call E M_X8_take [rv (gfd G 11 0 l0), iv (((100 * l1) + (10 * l2)) + l3), iv l4, iv l5] G c s X (fun r21 G22 c23 s24 => Q r21 G22)) → J14) → ((l5 = (-2147483648) → J14) ∧ (l5 ≠ (-2147483648) → (OkP E M_X11_isWithin [iv l5, iv (-1000000), iv 1000000] G (wIn l5 (-1000000) 1000000) ∧ (((wIn l5 (-1000000) 1000000) ≠ 0 → J14) ∧ ((wIn l5 (-1000000) 1000000) = 0 → (1 ≤ c ∧ 6 ≤ s ∧ X 1 G)))))))) ∧ ((wIn l4 0 (gfd G 11 12 l0)) = 0 → (1 ≤ c ∧ 6 ≤ s ∧ X 1 G))))) ∧ ((wIn l3 0 6) = 0 → (1 ≤ c ∧ 6 ≤ s ∧ X 1 G))))))))))) : V E M_X11_write 0 [some (rv l0), some (iv l1), some (iv l2), some (iv l3), some (iv l4), some (iv l5)] [] G c s Q X := by
  refine v_iload_n (pc := 0) (dk dt_X11_write 0 rfl) rfl rfl ?_
  refine v_iconst (pc := 1) (dk dt_X11_write 1 rfl) ⟨by decide, by decide⟩ ?_
  refine v_bipush (pc := 2) (dk dt_X11_write 2 rfl) (by decide) ⟨by decide, by decide⟩ ?_
  obtain ⟨v1, h⟩ := h
  refine v_csPZ (v := (wIn l1 0 6)) (As := [iv l1, iv 0, iv 6]) (stk := []) (pc := 4) (dk dt_X11_write 3 rfl) ml_X11_85 rfl rfl (Nat.le_of_ble_eq_true rfl) rfl rfl v1 ?_
  refine v_if_eq (pc := 7) (tgt := 30) (dk dt_X11_write 4 rfl) (by decide) (fun c2 => ?_) (fun c2 => ?_)
  · replace h := h.1 c2
    obtain ⟨v3, h⟩ := h
    obtain ⟨v4, h⟩ := h
    exact v_throw (pc := 30) (text := "a label is out of range") 1 rfl (Or.inl rfl) (by decide +kernel) rfl (Nat.le_of_ble_eq_true rfl) (Nat.le_of_ble_eq_true rfl) (Nat.le_of_ble_eq_true rfl) (dk dt_X11_write 15 rfl) (dk dt_X11_write 16 rfl) (dk dt_X11_write 17 rfl) (dk dt_X11_write 18 rfl) (dk dt_X11_write 19 rfl) v3 v4 h
  · replace h := h.2 c2
    refine v_iload_n (pc := 10) (dk dt_X11_write 5 rfl) rfl rfl ?_
    refine v_iconst (pc := 11) (dk dt_X11_write 6 rfl) ⟨by decide, by decide⟩ ?_
    refine v_bipush (pc := 12) (dk dt_X11_write 7 rfl) (by decide) ⟨by decide, by decide⟩ ?_
    obtain ⟨v5, h⟩ := h
    refine v_csPZ (v := (wIn l2 0 6)) (As := [iv l2, iv 0, iv 6]) (stk := []) (pc := 14) (dk dt_X11_write 8 rfl) ml_X11_85 rfl rfl (Nat.le_of_ble_eq_true rfl) rfl rfl v5 ?_
    refine v_if_eq (pc := 17) (tgt := 30) (dk dt_X11_write 9 rfl) (by decide) (fun c6 => ?_) (fun c6 => ?_)
    · replace h := h.1 c6
      obtain ⟨v7, h⟩ := h
      obtain ⟨v8, h⟩ := h
      exact v_throw (pc := 30) (text := "a label is out of range") 1 rfl (Or.inl rfl) (by decide +kernel) rfl (Nat.le_of_ble_eq_true rfl) (Nat.le_of_ble_eq_true rfl) (Nat.le_of_ble_eq_true rfl) (dk dt_X11_write 15 rfl) (dk dt_X11_write 16 rfl) (dk dt_X11_write 17 rfl) (dk dt_X11_write 18 rfl) (dk dt_X11_write 19 rfl) v7 v8 h
    · replace h := h.2 c6
      refine v_iload_n (pc := 20) (dk dt_X11_write 10 rfl) rfl rfl ?_
      refine v_iconst (pc := 21) (dk dt_X11_write 11 rfl) ⟨by decide, by decide⟩ ?_
      refine v_bipush (pc := 22) (dk dt_X11_write 12 rfl) (by decide) ⟨by decide, by decide⟩ ?_
      obtain ⟨v9, h⟩ := h
      refine v_csPZ (v := (wIn l3 0 6)) (As := [iv l3, iv 0, iv 6]) (stk := []) (pc := 24) (dk dt_X11_write 13 rfl) ml_X11_85 rfl rfl (Nat.le_of_ble_eq_true rfl) rfl rfl v9 ?_
      refine v_if_ne (pc := 27) (tgt := 40) (dk dt_X11_write 14 rfl) (by decide) (fun c10 => ?_) (fun c10 => ?_)
      · replace h := h.1 c10
        refine v_iload (pc := 40) (dk dt_X11_write 20 rfl) rfl ?_
        refine v_iconst (pc := 42) (dk dt_X11_write 21 rfl) ⟨by decide, by decide⟩ ?_
        refine v_aload_n (pc := 43) (dk dt_X11_write 22 rfl) rfl rfl ?_
        obtain ⟨v11, h⟩ := h
        refine v_getI (pc := 44) (dk dt_X11_write 23 rfl) fl_X11_75 v11 (fun _ => ?_)
        obtain ⟨v12, h⟩ := h
        refine v_csPZ (v := (wIn l4 0 (gfd G 11 12 l0))) (As := [iv l4, iv 0, iv (gfd G 11 12 l0)]) (stk := []) (pc := 47) (dk dt_X11_write 24 rfl) ml_X11_85 rfl rfl (Nat.le_of_ble_eq_true rfl) rfl rfl v12 ?_
        refine v_if_ne (pc := 50) (tgt := 63) (dk dt_X11_write 25 rfl) (by decide) (fun c13 => ?_) (fun c13 => ?_)
        · replace h := h.1 c13
          refine v_iload (pc := 63) (dk dt_X11_write 31 rfl) rfl ?_
          refine v_ldc (pc := 65) (dk dt_X11_write 32 rfl) co_X11_98 ⟨by decide, by decide⟩ ?_
          obtain ⟨J14, dJ14⟩ : ∃ J9 : Prop, J9 = V E M_X11_write 92 [some (rv l0), some (iv l1), some (iv l2), some (iv l3), some (iv l4), some (iv l5)] [] G c s Q X := ⟨_, rfl⟩
          have hJ14 : (gcl G l0 = 12 ∧ i32 (100 * l1) ∧ i32 (10 * l2) ∧ i32 ((100 * l1) + (10 * l2)) ∧ i32 (((100 * l1) + (10 * l2)) + l3) ∧ gcl G (gfd G 11 0 l0) = 9 ∧ Call E M_X8_take [rv (gfd G 11 0 l0), iv (((100 * l1) + (10 * l2)) + l3), iv l4, iv l5] G c s X (fun r21 G22 c23 s24 => Q r21 G22)) → J14 := by
            intro h
            rw [dJ14]
            refine v_aload_n (pc := 92) (dk dt_X11_write_1 4 rfl) rfl rfl ?_
            obtain ⟨v15, h⟩ := h
            refine v_getR (pc := 93) (dk dt_X11_write_1 5 rfl) fl_X11_12 v15 (fun _ => ?_)
            refine v_bipush (pc := 96) (dk dt_X11_write_1 6 rfl) (by decide) ⟨by decide, by decide⟩ ?_
            refine v_iload_n (pc := 98) (dk dt_X11_write_1 7 rfl) rfl rfl ?_
            obtain ⟨v16, h⟩ := h
            refine v_imul (pc := 99) (dk dt_X11_write_1 8 rfl) v16 ?_
            refine v_bipush (pc := 100) (dk dt_X11_write_1 9 rfl) (by decide) ⟨by decide, by decide⟩ ?_
            refine v_iload_n (pc := 102) (dk dt_X11_write_1 10 rfl) rfl rfl ?_
            obtain ⟨v17, h⟩ := h
            refine v_imul (pc := 103) (dk dt_X11_write_1 11 rfl) v17 ?_
            obtain ⟨v18, h⟩ := h
            refine v_iadd (pc := 104) (dk dt_X11_write_1 12 rfl) v18 ?_
            refine v_iload_n (pc := 105) (dk dt_X11_write_1 13 rfl) rfl rfl ?_
            obtain ⟨v19, h⟩ := h
            refine v_iadd (pc := 106) (dk dt_X11_write_1 14 rfl) v19 ?_
            refine v_iload (pc := 107) (dk dt_X11_write_1 15 rfl) rfl ?_
            refine v_iload (pc := 109) (dk dt_X11_write_1 16 rfl) rfl ?_
            obtain ⟨v20, h⟩ := h
            refine v_cvI (c := 8) (As := [iv (((100 * l1) + (10 * l2)) + l3), iv l4, iv l5]) (stk := []) (pc := 111) (dk dt_X11_write_1 17 rfl) ml_X11_103 rfl rfl (Nat.le_of_ble_eq_true rfl) rfl ⟨by decide, rfl⟩ v20 rfl (Call.mono h (fun r21 G22 c23 s24 h => ?_))
            exact v_iret (pc := 114) (dk dt_X11_write_1 18 rfl) rfl h
          replace h := h _ hJ14
          refine v_icmp_eq (pc := 67) (tgt := 92) (dk dt_X11_write 33 rfl) (by decide) (fun c25 => ?_) (fun c25 => ?_)
          · replace h := h.1 c25
            rw [dJ14] at h
            exact h
          · replace h := h.2 c25
            refine v_iload (pc := 70) (dk dt_X11_write 34 rfl) rfl ?_
            refine v_ldc (pc := 72) (dk dt_X11_write 35 rfl) co_X11_99 ⟨by decide, by decide⟩ ?_
            refine v_ldc (pc := 74) (dk dt_X11_write 36 rfl) co_X11_100 ⟨by decide, by decide⟩ ?_
            obtain ⟨v26, h⟩ := h
            refine v_csPZ (v := (wIn l5 (-1000000) 1000000)) (As := [iv l5, iv (-1000000), iv 1000000]) (stk := []) (pc := 76) (dk dt_X11_write 37 rfl) ml_X11_85 rfl rfl (Nat.le_of_ble_eq_true rfl) rfl rfl v26 ?_
            refine v_if_ne (pc := 79) (tgt := 92) (dk dt_X11_write 38 rfl) (by decide) (fun c27 => ?_) (fun c27 => ?_)
            · replace h := h.1 c27
              rw [dJ14] at h
              exact h
            · replace h := h.2 c27
              obtain ⟨v28, h⟩ := h
              obtain ⟨v29, h⟩ := h
              exact v_throw (pc := 82) (text := "the value is out of range") 1 rfl (Or.inl rfl) (by decide +kernel) rfl (Nat.le_of_ble_eq_true rfl) (Nat.le_of_ble_eq_true rfl) (Nat.le_of_ble_eq_true rfl) (dk dt_X11_write 39 rfl) (dk dt_X11_write_1 0 rfl) (dk dt_X11_write_1 1 rfl) (dk dt_X11_write_1 2 rfl) (dk dt_X11_write_1 3 rfl) v28 v29 h
        · replace h := h.2 c13
          obtain ⟨v30, h⟩ := h
          obtain ⟨v31, h⟩ := h
          exact v_throw (pc := 53) (text := "the time is out of range") 1 rfl (Or.inl rfl) (by decide +kernel) rfl (Nat.le_of_ble_eq_true rfl) (Nat.le_of_ble_eq_true rfl) (Nat.le_of_ble_eq_true rfl) (dk dt_X11_write 26 rfl) (dk dt_X11_write 27 rfl) (dk dt_X11_write 28 rfl) (dk dt_X11_write 29 rfl) (dk dt_X11_write 30 rfl) v30 v31 h
      · replace h := h.2 c10
        obtain ⟨v32, h⟩ := h
        obtain ⟨v33, h⟩ := h
        exact v_throw (pc := 30) (text := "a label is out of range") 1 rfl (Or.inl rfl) (by decide +kernel) rfl (Nat.le_of_ble_eq_true rfl) (Nat.le_of_ble_eq_true rfl) (Nat.le_of_ble_eq_true rfl) (dk dt_X11_write 15 rfl) (dk dt_X11_write 16 rfl) (dk dt_X11_write 17 rfl) (dk dt_X11_write 18 rfl) (dk dt_X11_write 19 rfl) v32 v33 h
set_option maxRecDepth 20000 in
theorem i_X11_write {E : EE} {l0 l1 l2 l3 l4 l5 : Int} {G : Gt} {c s : Nat} {Q X : Int → Gt → Prop} (h : (OkP E M_X11_isWithin [iv l1, iv 0, iv 6] G (wIn l1 0 6) ∧ (((wIn l1 0 6) = 0 → (1 ≤ c ∧ 6 ≤ s ∧ X 1 G)) ∧ ((wIn l1 0 6) ≠ 0 → (OkP E M_X11_isWithin [iv l2, iv 0, iv 6] G (wIn l2 0 6) ∧ (((wIn l2 0 6) = 0 → (1 ≤ c ∧ 6 ≤ s ∧ X 1 G)) ∧ ((wIn l2 0 6) ≠ 0 → (OkP E M_X11_isWithin [iv l3, iv 0, iv 6] G (wIn l3 0 6) ∧ (((wIn l3 0 6) ≠ 0 → (gcl G l0 = 12 ∧ OkP E M_X11_isWithin [iv l4, iv 0, iv (gfd G 11 12 l0)] G (wIn l4 0 (gfd G 11 12 l0)) ∧ (((wIn l4 0 (gfd G 11 12 l0)) ≠ 0 → (∀ J14 : Prop, ((gcl G l0 = 12 ∧ i32 (100 * l1) ∧ i32 (10 * l2) ∧ i32 ((100 * l1) + (10 * l2)) ∧ i32 (((100 * l1) + (10 * l2)) + l3) ∧ gcl G (gfd G 11 0 l0) = 9 ∧ Call E M_X8_take [rv (gfd G 11 0 l0), iv (((100 * l1) + (10 * l2)) + l3), iv l4, iv l5] G c s X (fun r21 G22 c23 s24 => Q r21 G22)) → J14) → ((l5 = (-2147483648) → J14) ∧ (l5 ≠ (-2147483648) → (OkP E M_X11_isWithin [iv l5, iv (-1000000), iv 1000000] G (wIn l5 (-1000000) 1000000) ∧ (((wIn l5 (-1000000) 1000000) ≠ 0 → J14) ∧ ((wIn l5 (-1000000) 1000000) = 0 → (1 ≤ c ∧ 6 ≤ s ∧ X 1 G)))))))) ∧ ((wIn l4 0 (gfd G 11 12 l0)) = 0 → (1 ≤ c ∧ 6 ≤ s ∧ X 1 G))))) ∧ ((wIn l3 0 6) = 0 → (1 ≤ c ∧ 6 ≤ s ∧ X 1 G))))))))))) : Ok E M_X11_write [rv l0, iv l1, iv l2, iv l3, iv l4, iv l5] G c s Q X := Ok.intro (k := 0) rfl rfl (Nat.le_of_ble_eq_true rfl) rfl (b_X11_write_0 h)
set_option maxRecDepth 20000 in
theorem b_X11_series_0 {E : EE} {l0 : Int} {G : Gt} {c s : Nat} {Q X : Int → Gt → Prop} (h : (gcl G l0 = 12 ∧ gcl G (gfd G 11 0 l0) = 9 ∧ gcl G (gfd G 8 0 (gfd G 11 0 l0)) = 14 ∧ OkP E M_A_size [rv (gfd G 8 0 (gfd G 11 0 l0))] G (gfd G 13 2 (gfd G 8 0 (gfd G 11 0 l0))) ∧ Q (gfd G 13 2 (gfd G 8 0 (gfd G 11 0 l0))) G)) : V E M_X11_series 0 [some (rv l0)] [] G c s Q X := by
  refine v_aload_n (pc := 0) (dk dt_X11_series 0 rfl) rfl rfl ?_
  obtain ⟨v1, h⟩ := h
  refine v_getR (pc := 1) (dk dt_X11_series 1 rfl) fl_X11_12 v1 (fun _ => ?_)
  obtain ⟨v2, h⟩ := h
  refine v_getR (pc := 4) (dk dt_X11_series 2 rfl) fl_X11_107 v2 (fun _ => ?_)
  obtain ⟨v3, h⟩ := h
  obtain ⟨v4, h⟩ := h
  refine v_cvPI (c := 13) (v := (gfd G 13 2 (gfd G 8 0 (gfd G 11 0 l0)))) (As := []) (stk := []) (pc := 7) (dk dt_X11_series 3 rfl) ml_X11_110 rfl rfl (Nat.le_of_ble_eq_true rfl) rfl ⟨by decide, rfl⟩ v3 rfl v4 ?_
  exact v_iret (pc := 10) (dk dt_X11_series 4 rfl) rfl h
set_option maxRecDepth 20000 in
theorem i_X11_series {E : EE} {l0 : Int} {G : Gt} {c s : Nat} {Q X : Int → Gt → Prop} (h : (gcl G l0 = 12 ∧ gcl G (gfd G 11 0 l0) = 9 ∧ gcl G (gfd G 8 0 (gfd G 11 0 l0)) = 14 ∧ OkP E M_A_size [rv (gfd G 8 0 (gfd G 11 0 l0))] G (gfd G 13 2 (gfd G 8 0 (gfd G 11 0 l0))) ∧ Q (gfd G 13 2 (gfd G 8 0 (gfd G 11 0 l0))) G)) : Ok E M_X11_series [rv l0] G c s Q X := Ok.intro (k := 0) rfl rfl (Nat.le_of_ble_eq_true rfl) rfl (b_X11_series_0 h)
set_option maxRecDepth 20000 in
theorem b_X11_labels_0 {E : EE} {l0 l1 : Int} {G : Gt} {c s : Nat} {Q X : Int → Gt → Prop} (h : (gcl G l0 = 12 ∧ Call E M_X11_seriesOf [rv l0, iv l1] G c s X (fun r2 G3 c4 s5 => gcl G3 r2 = 8 ∧ Q (gfd G3 7 0 r2) G3))) : V E M_X11_labels 0 [some (rv l0), some (iv l1)] [] G c s Q X := by
  refine v_aload_n (pc := 0) (dk dt_X11_labels 0 rfl) rfl rfl ?_
  refine v_iload_n (pc := 1) (dk dt_X11_labels 1 rfl) rfl rfl ?_
  obtain ⟨v1, h⟩ := h
  refine v_cvR (c := 11) (As := [iv l1]) (stk := []) (pc := 2) (dk dt_X11_labels 2 rfl) ml_X11_114 rfl rfl (Nat.le_of_ble_eq_true rfl) rfl ⟨by decide, rfl⟩ v1 rfl (Call.mono h (fun r2 G3 c4 s5 h => ?_))
  obtain ⟨v6, h⟩ := h
  refine v_getI (pc := 5) (dk dt_X11_labels 3 rfl) fl_X11_118 v6 (fun _ => ?_)
  exact v_iret (pc := 8) (dk dt_X11_labels 4 rfl) rfl h
set_option maxRecDepth 20000 in
theorem i_X11_labels {E : EE} {l0 l1 : Int} {G : Gt} {c s : Nat} {Q X : Int → Gt → Prop} (h : (gcl G l0 = 12 ∧ Call E M_X11_seriesOf [rv l0, iv l1] G c s X (fun r2 G3 c4 s5 => gcl G3 r2 = 8 ∧ Q (gfd G3 7 0 r2) G3))) : Ok E M_X11_labels [rv l0, iv l1] G c s Q X := Ok.intro (k := 0) rfl rfl (Nat.le_of_ble_eq_true rfl) rfl (b_X11_labels_0 h)
set_option maxRecDepth 20000 in
theorem b_X11_samples_0 {E : EE} {l0 l1 : Int} {G : Gt} {c s : Nat} {Q X : Int → Gt → Prop} (h : (gcl G l0 = 12 ∧ Call E M_X11_seriesOf [rv l0, iv l1] G c s X (fun r2 G3 c4 s5 => gcl G3 r2 = 8 ∧ gcl G3 (gfd G3 7 1 r2) = 14 ∧ OkP E M_A_size [rv (gfd G3 7 1 r2)] G3 (gfd G3 13 2 (gfd G3 7 1 r2)) ∧ Q (gfd G3 13 2 (gfd G3 7 1 r2)) G3))) : V E M_X11_samples 0 [some (rv l0), some (iv l1)] [] G c s Q X := by
  refine v_aload_n (pc := 0) (dk dt_X11_samples 0 rfl) rfl rfl ?_
  refine v_iload_n (pc := 1) (dk dt_X11_samples 1 rfl) rfl rfl ?_
  obtain ⟨v1, h⟩ := h
  refine v_cvR (c := 11) (As := [iv l1]) (stk := []) (pc := 2) (dk dt_X11_samples 2 rfl) ml_X11_114 rfl rfl (Nat.le_of_ble_eq_true rfl) rfl ⟨by decide, rfl⟩ v1 rfl (Call.mono h (fun r2 G3 c4 s5 h => ?_))
  obtain ⟨v6, h⟩ := h
  refine v_getR (pc := 5) (dk dt_X11_samples 3 rfl) fl_X11_123 v6 (fun _ => ?_)
  obtain ⟨v7, h⟩ := h
  obtain ⟨v8, h⟩ := h
  refine v_cvPI (c := 13) (v := (gfd G3 13 2 (gfd G3 7 1 r2))) (As := []) (stk := []) (pc := 8) (dk dt_X11_samples 4 rfl) ml_X11_110 rfl rfl (Nat.le_of_ble_eq_true rfl) rfl ⟨by decide, rfl⟩ v7 rfl v8 ?_
  exact v_iret (pc := 11) (dk dt_X11_samples 5 rfl) rfl h
set_option maxRecDepth 20000 in
theorem i_X11_samples {E : EE} {l0 l1 : Int} {G : Gt} {c s : Nat} {Q X : Int → Gt → Prop} (h : (gcl G l0 = 12 ∧ Call E M_X11_seriesOf [rv l0, iv l1] G c s X (fun r2 G3 c4 s5 => gcl G3 r2 = 8 ∧ gcl G3 (gfd G3 7 1 r2) = 14 ∧ OkP E M_A_size [rv (gfd G3 7 1 r2)] G3 (gfd G3 13 2 (gfd G3 7 1 r2)) ∧ Q (gfd G3 13 2 (gfd G3 7 1 r2)) G3))) : Ok E M_X11_samples [rv l0, iv l1] G c s Q X := Ok.intro (k := 0) rfl rfl (Nat.le_of_ble_eq_true rfl) rfl (b_X11_samples_0 h)
set_option maxRecDepth 20000 in
theorem b_X11_erase_0 {E : EE} {l0 l1 l2 l3 : Int} {G : Gt} {c s : Nat} {Q X : Int → Gt → Prop} (h : (gcl G l0 = 12 ∧ Call E M_X11_selectorOf [rv l0, iv l1] G c s X (fun r2 G3 c4 s5 => OkP E M_X11_isWithin [iv l2, iv 0, iv 100000] G3 (wIn l2 0 100000) ∧ (((wIn l2 0 100000) = 0 → (1 ≤ c4 ∧ 6 ≤ s5 ∧ X 1 G3)) ∧ ((wIn l2 0 100000) ≠ 0 → (OkP E M_X11_isWithin [iv l3, iv l2, iv 100000] G3 (wIn l3 l2 100000) ∧ (((wIn l3 l2 100000) ≠ 0 → (gcl G3 l0 = 12 ∧ gcl G3 (gfd G3 11 0 l0) = 9 ∧ Call E M_X8_hide [rv (gfd G3 11 0 l0), rv r2, iv l2, iv l3] G3 c4 s5 X (fun r14 G15 c16 s17 => Q r14 G15))) ∧ ((wIn l3 l2 100000) = 0 → (1 ≤ c4 ∧ 6 ≤ s5 ∧ X 1 G3))))))))) : V E M_X11_erase 0 [some (rv l0), some (iv l1), some (iv l2), some (iv l3), none] [] G c s Q X := by
  refine v_aload_n (pc := 0) (dk dt_X11_erase 0 rfl) rfl rfl ?_
  refine v_iload_n (pc := 1) (dk dt_X11_erase 1 rfl) rfl rfl ?_
  obtain ⟨v1, h⟩ := h
  refine v_cvR (c := 11) (As := [iv l1]) (stk := []) (pc := 2) (dk dt_X11_erase 2 rfl) ml_X11_126 rfl rfl (Nat.le_of_ble_eq_true rfl) rfl ⟨by decide, rfl⟩ v1 rfl (Call.mono h (fun r2 G3 c4 s5 h => ?_))
  refine v_astore (pc := 5) (ls' := [some (rv l0), some (iv l1), some (iv l2), some (iv l3), some (rv r2)]) (dk dt_X11_erase 3 rfl) (Nat.le_of_ble_eq_true rfl) rfl ?_
  refine v_iload_n (pc := 7) (dk dt_X11_erase 4 rfl) rfl rfl ?_
  refine v_iconst (pc := 8) (dk dt_X11_erase 5 rfl) ⟨by decide, by decide⟩ ?_
  refine v_ldc (pc := 9) (dk dt_X11_erase 6 rfl) co_X11_130 ⟨by decide, by decide⟩ ?_
  obtain ⟨v6, h⟩ := h
  refine v_csPZ (v := (wIn l2 0 100000)) (As := [iv l2, iv 0, iv 100000]) (stk := []) (pc := 11) (dk dt_X11_erase 7 rfl) ml_X11_85 rfl rfl (Nat.le_of_ble_eq_true rfl) rfl rfl v6 ?_
  refine v_if_eq (pc := 14) (tgt := 27) (dk dt_X11_erase 8 rfl) (by decide) (fun c7 => ?_) (fun c7 => ?_)
  · replace h := h.1 c7
    obtain ⟨v8, h⟩ := h
    obtain ⟨v9, h⟩ := h
    exact v_throw (pc := 27) (text := "from or to is out of range") 1 rfl (Or.inl rfl) (by decide +kernel) rfl (Nat.le_of_ble_eq_true rfl) (Nat.le_of_ble_eq_true rfl) (Nat.le_of_ble_eq_true rfl) (dk dt_X11_erase 14 rfl) (dk dt_X11_erase 15 rfl) (dk dt_X11_erase 16 rfl) (dk dt_X11_erase 17 rfl) (dk dt_X11_erase 18 rfl) v8 v9 h
  · replace h := h.2 c7
    refine v_iload_n (pc := 17) (dk dt_X11_erase 9 rfl) rfl rfl ?_
    refine v_iload_n (pc := 18) (dk dt_X11_erase 10 rfl) rfl rfl ?_
    refine v_ldc (pc := 19) (dk dt_X11_erase 11 rfl) co_X11_130 ⟨by decide, by decide⟩ ?_
    obtain ⟨v10, h⟩ := h
    refine v_csPZ (v := (wIn l3 l2 100000)) (As := [iv l3, iv l2, iv 100000]) (stk := []) (pc := 21) (dk dt_X11_erase 12 rfl) ml_X11_85 rfl rfl (Nat.le_of_ble_eq_true rfl) rfl rfl v10 ?_
    refine v_if_ne (pc := 24) (tgt := 37) (dk dt_X11_erase 13 rfl) (by decide) (fun c11 => ?_) (fun c11 => ?_)
    · replace h := h.1 c11
      refine v_aload_n (pc := 37) (dk dt_X11_erase 19 rfl) rfl rfl ?_
      obtain ⟨v12, h⟩ := h
      refine v_getR (pc := 38) (dk dt_X11_erase 20 rfl) fl_X11_12 v12 (fun _ => ?_)
      refine v_aload (pc := 41) (dk dt_X11_erase 21 rfl) rfl ?_
      refine v_iload_n (pc := 43) (dk dt_X11_erase 22 rfl) rfl rfl ?_
      refine v_iload_n (pc := 44) (dk dt_X11_erase 23 rfl) rfl rfl ?_
      obtain ⟨v13, h⟩ := h
      refine v_cvI (c := 8) (As := [rv r2, iv l2, iv l3]) (stk := []) (pc := 45) (dk dt_X11_erase 24 rfl) ml_X11_133 rfl rfl (Nat.le_of_ble_eq_true rfl) rfl ⟨by decide, rfl⟩ v13 rfl (Call.mono h (fun r14 G15 c16 s17 h => ?_))
      exact v_iret (pc := 48) (dk dt_X11_erase 25 rfl) rfl h
    · replace h := h.2 c11
      obtain ⟨v18, h⟩ := h
      obtain ⟨v19, h⟩ := h
      exact v_throw (pc := 27) (text := "from or to is out of range") 1 rfl (Or.inl rfl) (by decide +kernel) rfl (Nat.le_of_ble_eq_true rfl) (Nat.le_of_ble_eq_true rfl) (Nat.le_of_ble_eq_true rfl) (dk dt_X11_erase 14 rfl) (dk dt_X11_erase 15 rfl) (dk dt_X11_erase 16 rfl) (dk dt_X11_erase 17 rfl) (dk dt_X11_erase 18 rfl) v18 v19 h
set_option maxRecDepth 20000 in
theorem i_X11_erase {E : EE} {l0 l1 l2 l3 : Int} {G : Gt} {c s : Nat} {Q X : Int → Gt → Prop} (h : (gcl G l0 = 12 ∧ Call E M_X11_selectorOf [rv l0, iv l1] G c s X (fun r2 G3 c4 s5 => OkP E M_X11_isWithin [iv l2, iv 0, iv 100000] G3 (wIn l2 0 100000) ∧ (((wIn l2 0 100000) = 0 → (1 ≤ c4 ∧ 6 ≤ s5 ∧ X 1 G3)) ∧ ((wIn l2 0 100000) ≠ 0 → (OkP E M_X11_isWithin [iv l3, iv l2, iv 100000] G3 (wIn l3 l2 100000) ∧ (((wIn l3 l2 100000) ≠ 0 → (gcl G3 l0 = 12 ∧ gcl G3 (gfd G3 11 0 l0) = 9 ∧ Call E M_X8_hide [rv (gfd G3 11 0 l0), rv r2, iv l2, iv l3] G3 c4 s5 X (fun r14 G15 c16 s17 => Q r14 G15))) ∧ ((wIn l3 l2 100000) = 0 → (1 ≤ c4 ∧ 6 ≤ s5 ∧ X 1 G3))))))))) : Ok E M_X11_erase [rv l0, iv l1, iv l2, iv l3] G c s Q X := Ok.intro (k := 1) rfl rfl (Nat.le_of_ble_eq_true rfl) rfl (b_X11_erase_0 h)
set_option maxRecDepth 20000 in
theorem b_X11_pass_0 {E : EE} {l0 l1 : Int} {G : Gt} {c s : Nat} {Q X : Int → Gt → Prop} (h : (OkP E M_X11_isWithin [iv l1, iv 1, iv 100] G (wIn l1 1 100) ∧ (((wIn l1 1 100) ≠ 0 → (gcl G l0 = 12 ∧ i32 (100000 - (gfd G 11 12 l0)) ∧ ((l1 ≤ (100000 - (gfd G 11 12 l0)) → V E M_X11_pass 43 [some (rv l0), some (iv l1), some (iv 0)] [] G c s Q X) ∧ ((100000 - (gfd G 11 12 l0)) < l1 → (1 ≤ c ∧ 6 ≤ s ∧ X 2 G))))) ∧ ((wIn l1 1 100) = 0 → (1 ≤ c ∧ 6 ≤ s ∧ X 1 G))))) : V E M_X11_pass 0 [some (rv l0), some (iv l1), none] [] G c s Q X := by
  refine v_iload_n (pc := 0) (dk dt_X11_pass 0 rfl) rfl rfl ?_
  refine v_iconst (pc := 1) (dk dt_X11_pass 1 rfl) ⟨by decide, by decide⟩ ?_
  refine v_bipush (pc := 2) (dk dt_X11_pass 2 rfl) (by decide) ⟨by decide, by decide⟩ ?_
  obtain ⟨v1, h⟩ := h
  refine v_csPZ (v := (wIn l1 1 100)) (As := [iv l1, iv 1, iv 100]) (stk := []) (pc := 4) (dk dt_X11_pass 3 rfl) ml_X11_85 rfl rfl (Nat.le_of_ble_eq_true rfl) rfl rfl v1 ?_
  refine v_if_ne (pc := 7) (tgt := 20) (dk dt_X11_pass 4 rfl) (by decide) (fun c2 => ?_) (fun c2 => ?_)
  · replace h := h.1 c2
    refine v_iload_n (pc := 20) (dk dt_X11_pass 10 rfl) rfl rfl ?_
    refine v_ldc (pc := 21) (dk dt_X11_pass 11 rfl) co_X11_130 ⟨by decide, by decide⟩ ?_
    refine v_aload_n (pc := 23) (dk dt_X11_pass 12 rfl) rfl rfl ?_
    obtain ⟨v3, h⟩ := h
    refine v_getI (pc := 24) (dk dt_X11_pass 13 rfl) fl_X11_75 v3 (fun _ => ?_)
    obtain ⟨v4, h⟩ := h
    refine v_isub (pc := 27) (dk dt_X11_pass 14 rfl) v4 ?_
    refine v_icmp_le (pc := 28) (tgt := 41) (dk dt_X11_pass 15 rfl) (by decide) (fun c5 => ?_) (fun c5 => ?_)
    · replace h := h.1 c5
      refine v_iconst (pc := 41) (dk dt_X11_pass 21 rfl) ⟨by decide, by decide⟩ ?_
      refine v_istore_n (pc := 42) (ls' := [some (rv l0), some (iv l1), some (iv 0)]) (dk dt_X11_pass 22 rfl) rfl (Nat.le_of_ble_eq_true rfl) rfl ?_
      exact h
    · replace h := h.2 c5
      obtain ⟨v6, h⟩ := h
      obtain ⟨v7, h⟩ := h
      exact v_throw (pc := 31) (text := "time would be above its end") 2 rfl (Or.inr (Or.inl rfl)) (by decide +kernel) rfl (Nat.le_of_ble_eq_true rfl) (Nat.le_of_ble_eq_true rfl) (Nat.le_of_ble_eq_true rfl) (dk dt_X11_pass 16 rfl) (dk dt_X11_pass 17 rfl) (dk dt_X11_pass 18 rfl) (dk dt_X11_pass 19 rfl) (dk dt_X11_pass 20 rfl) v6 v7 h
  · replace h := h.2 c2
    obtain ⟨v8, h⟩ := h
    obtain ⟨v9, h⟩ := h
    exact v_throw (pc := 10) (text := "times is out of range") 1 rfl (Or.inl rfl) (by decide +kernel) rfl (Nat.le_of_ble_eq_true rfl) (Nat.le_of_ble_eq_true rfl) (Nat.le_of_ble_eq_true rfl) (dk dt_X11_pass 5 rfl) (dk dt_X11_pass 6 rfl) (dk dt_X11_pass 7 rfl) (dk dt_X11_pass 8 rfl) (dk dt_X11_pass 9 rfl) v8 v9 h
set_option maxRecDepth 20000 in
theorem i_X11_pass {E : EE} {l0 l1 : Int} {G : Gt} {c s : Nat} {Q X : Int → Gt → Prop} (h : (OkP E M_X11_isWithin [iv l1, iv 1, iv 100] G (wIn l1 1 100) ∧ (((wIn l1 1 100) ≠ 0 → (gcl G l0 = 12 ∧ i32 (100000 - (gfd G 11 12 l0)) ∧ ((l1 ≤ (100000 - (gfd G 11 12 l0)) → V E M_X11_pass 43 [some (rv l0), some (iv l1), some (iv 0)] [] G c s Q X) ∧ ((100000 - (gfd G 11 12 l0)) < l1 → (1 ≤ c ∧ 6 ≤ s ∧ X 2 G))))) ∧ ((wIn l1 1 100) = 0 → (1 ≤ c ∧ 6 ≤ s ∧ X 1 G))))) : Ok E M_X11_pass [rv l0, iv l1] G c s Q X := Ok.intro (k := 1) rfl rfl (Nat.le_of_ble_eq_true rfl) rfl (b_X11_pass_0 h)
set_option maxRecDepth 20000 in
theorem b_X11_pass_43 {E : EE} {l0 l1 l2 : Int} {G : Gt} {c s : Nat} {Q X : Int → Gt → Prop} (h : ((l1 ≤ l2 → (gcl G l0 = 12 ∧ Q (gfd G 11 12 l0) G)) ∧ (l2 < l1 → (gcl G l0 = 12 ∧ i32 ((gfd G 11 12 l0) + 1) ∧ gcl G l0 = 12 ∧ ∀ G6 : Gt, G6 = (sfd G 11 12 l0 ((gfd G 11 12 l0) + 1)) → gcl G6 l0 = 12 ∧ (((Int.tmod (gfd G6 11 12 l0) 10) ≠ 0 → (i32 (l2 + 1) ∧ V E M_X11_pass 43 [some (rv l0), some (iv l1), some (iv (l2 + 1))] [] G6 c s Q X)) ∧ ((Int.tmod (gfd G6 11 12 l0) 10) = 0 → (gcl G6 l0 = 12 ∧ Call E M_X11_goThroughRules [rv l0] G6 c s X (fun r11 G12 c13 s14 => i32 (l2 + 1) ∧ V E M_X11_pass 43 [some (rv l0), some (iv l1), some (iv (l2 + 1))] [] G12 c13 s14 Q X)))))))) : V E M_X11_pass 43 [some (rv l0), some (iv l1), some (iv l2)] [] G c s Q X := by
  refine v_iload_n (pc := 43) (dk dt_X11_pass 23 rfl) rfl rfl ?_
  refine v_iload_n (pc := 44) (dk dt_X11_pass 24 rfl) rfl rfl ?_
  refine v_icmp_ge (pc := 45) (tgt := 78) (dk dt_X11_pass 25 rfl) (by decide) (fun c1 => ?_) (fun c1 => ?_)
  · replace h := h.1 c1
    refine v_aload_n (pc := 78) (dk dt_X11_pass_1 1 rfl) rfl rfl ?_
    obtain ⟨v2, h⟩ := h
    refine v_getI (pc := 79) (dk dt_X11_pass_1 2 rfl) fl_X11_75 v2 (fun _ => ?_)
    exact v_iret (pc := 82) (dk dt_X11_pass_1 3 rfl) rfl h
  · replace h := h.2 c1
    refine v_aload_n (pc := 48) (dk dt_X11_pass 26 rfl) rfl rfl ?_
    refine v_dup (pc := 49) (dk dt_X11_pass 27 rfl) (by intro h9; cases h9) ?_
    obtain ⟨v3, h⟩ := h
    refine v_getI (pc := 50) (dk dt_X11_pass 28 rfl) fl_X11_75 v3 (fun _ => ?_)
    refine v_iconst (pc := 53) (dk dt_X11_pass 29 rfl) ⟨by decide, by decide⟩ ?_
    obtain ⟨v4, h⟩ := h
    refine v_iadd (pc := 54) (dk dt_X11_pass 30 rfl) v4 ?_
    obtain ⟨v5, h⟩ := h
    refine v_putI (pc := 55) (dk dt_X11_pass 31 rfl) fl_X11_75 (Or.inl rfl) v5 ?_
    generalize hG6 : (sfd G 11 12 l0 ((gfd G 11 12 l0) + 1)) = G6
    replace h := h G6 hG6.symm
    refine v_aload_n (pc := 58) (dk dt_X11_pass 32 rfl) rfl rfl ?_
    obtain ⟨v7, h⟩ := h
    refine v_getI (pc := 59) (dk dt_X11_pass 33 rfl) fl_X11_75 v7 (fun _ => ?_)
    refine v_bipush (pc := 62) (dk dt_X11_pass 34 rfl) (by decide) ⟨by decide, by decide⟩ ?_
    refine v_iremP (pc := 64) (dk dt_X11_pass 35 rfl) (by decide) ?_
    refine v_if_ne (pc := 65) (tgt := 72) (dk dt_X11_pass 36 rfl) (by decide) (fun c8 => ?_) (fun c8 => ?_)
    · replace h := h.1 c8
      obtain ⟨v9, h⟩ := h
      refine v_iinc (pc := 72) (ls' := [some (rv l0), some (iv l1), some (iv (l2 + 1))]) (dk dt_X11_pass 39 rfl) (Nat.le_of_ble_eq_true rfl) rfl v9 rfl ?_
      refine v_goto (pc := 75) (tgt := 43) (dk dt_X11_pass_1 0 rfl) (by decide) ?_
      exact h
    · replace h := h.2 c8
      refine v_aload_n (pc := 68) (dk dt_X11_pass 37 rfl) rfl rfl ?_
      obtain ⟨v10, h⟩ := h
      refine v_cvV (c := 11) (As := []) (stk := []) (pc := 69) (dk dt_X11_pass 38 rfl) ml_X11_144 rfl rfl (Nat.le_of_ble_eq_true rfl) rfl ⟨by decide, rfl⟩ v10 rfl (Call.mono h (fun r11 G12 c13 s14 h => ?_))
      obtain ⟨v15, h⟩ := h
      refine v_iinc (pc := 72) (ls' := [some (rv l0), some (iv l1), some (iv (l2 + 1))]) (dk dt_X11_pass 39 rfl) (Nat.le_of_ble_eq_true rfl) rfl v15 rfl ?_
      refine v_goto (pc := 75) (tgt := 43) (dk dt_X11_pass_1 0 rfl) (by decide) ?_
      exact h
set_option maxRecDepth 20000 in
theorem b_X11_retain_0 {E : EE} {l0 l1 : Int} {G : Gt} {c s : Nat} {Q X : Int → Gt → Prop} (h : (OkP E M_X11_isWithin [iv l1, iv 1, iv 100000] G (wIn l1 1 100000) ∧ (((wIn l1 1 100000) ≠ 0 → (gcl G l0 = 12 ∧ gcl G l0 = 12 ∧ ∀ G5 : Gt, G5 = (sfd G 11 13 l0 l1) → Q (gfd G 11 13 l0) G5)) ∧ ((wIn l1 1 100000) = 0 → (1 ≤ c ∧ 6 ≤ s ∧ X 1 G))))) : V E M_X11_retain 0 [some (rv l0), some (iv l1), none] [] G c s Q X := by
  refine v_iload_n (pc := 0) (dk dt_X11_retain 0 rfl) rfl rfl ?_
  refine v_iconst (pc := 1) (dk dt_X11_retain 1 rfl) ⟨by decide, by decide⟩ ?_
  refine v_ldc (pc := 2) (dk dt_X11_retain 2 rfl) co_X11_130 ⟨by decide, by decide⟩ ?_
  obtain ⟨v1, h⟩ := h
  refine v_csPZ (v := (wIn l1 1 100000)) (As := [iv l1, iv 1, iv 100000]) (stk := []) (pc := 4) (dk dt_X11_retain 3 rfl) ml_X11_85 rfl rfl (Nat.le_of_ble_eq_true rfl) rfl rfl v1 ?_
  refine v_if_ne (pc := 7) (tgt := 20) (dk dt_X11_retain 4 rfl) (by decide) (fun c2 => ?_) (fun c2 => ?_)
  · replace h := h.1 c2
    refine v_aload_n (pc := 20) (dk dt_X11_retain 10 rfl) rfl rfl ?_
    obtain ⟨v3, h⟩ := h
    refine v_getI (pc := 21) (dk dt_X11_retain 11 rfl) fl_X11_78 v3 (fun _ => ?_)
    refine v_istore_n (pc := 24) (ls' := [some (rv l0), some (iv l1), some (iv (gfd G 11 13 l0))]) (dk dt_X11_retain 12 rfl) rfl (Nat.le_of_ble_eq_true rfl) rfl ?_
    refine v_aload_n (pc := 25) (dk dt_X11_retain 13 rfl) rfl rfl ?_
    refine v_iload_n (pc := 26) (dk dt_X11_retain 14 rfl) rfl rfl ?_
    obtain ⟨v4, h⟩ := h
    refine v_putI (pc := 27) (dk dt_X11_retain 15 rfl) fl_X11_78 (Or.inl rfl) v4 ?_
    generalize hG5 : (sfd G 11 13 l0 l1) = G5
    replace h := h G5 hG5.symm
    refine v_iload_n (pc := 30) (dk dt_X11_retain 16 rfl) rfl rfl ?_
    exact v_iret (pc := 31) (dk dt_X11_retain 17 rfl) rfl h
  · replace h := h.2 c2
    obtain ⟨v6, h⟩ := h
    obtain ⟨v7, h⟩ := h
    exact v_throw (pc := 10) (text := "times is out of range") 1 rfl (Or.inl rfl) (by decide +kernel) rfl (Nat.le_of_ble_eq_true rfl) (Nat.le_of_ble_eq_true rfl) (Nat.le_of_ble_eq_true rfl) (dk dt_X11_retain 5 rfl) (dk dt_X11_retain 6 rfl) (dk dt_X11_retain 7 rfl) (dk dt_X11_retain 8 rfl) (dk dt_X11_retain 9 rfl) v6 v7 h
set_option maxRecDepth 20000 in
theorem i_X11_retain {E : EE} {l0 l1 : Int} {G : Gt} {c s : Nat} {Q X : Int → Gt → Prop} (h : (OkP E M_X11_isWithin [iv l1, iv 1, iv 100000] G (wIn l1 1 100000) ∧ (((wIn l1 1 100000) ≠ 0 → (gcl G l0 = 12 ∧ gcl G l0 = 12 ∧ ∀ G5 : Gt, G5 = (sfd G 11 13 l0 l1) → Q (gfd G 11 13 l0) G5)) ∧ ((wIn l1 1 100000) = 0 → (1 ≤ c ∧ 6 ≤ s ∧ X 1 G))))) : Ok E M_X11_retain [rv l0, iv l1] G c s Q X := Ok.intro (k := 1) rfl rfl (Nat.le_of_ble_eq_true rfl) rfl (b_X11_retain_0 h)
set_option maxRecDepth 20000 in
theorem b_X11_flush_0 {E : EE} {l0 : Int} {G : Gt} {c s : Nat} {Q X : Int → Gt → Prop} (h : (gcl G l0 = 12 ∧ gcl G l0 = 12 ∧ gcl G l0 = 12 ∧ i32 ((gfd G 11 12 l0) - (gfd G 11 13 l0)) ∧ gcl G (gfd G 11 0 l0) = 9 ∧ Call E M_X8_packAll [rv (gfd G 11 0 l0), iv ((gfd G 11 12 l0) - (gfd G 11 13 l0))] G c s X (fun r6 G7 c8 s9 => Q r6 G7))) : V E M_X11_flush 0 [some (rv l0)] [] G c s Q X := by
  refine v_aload_n (pc := 0) (dk dt_X11_flush 0 rfl) rfl rfl ?_
  obtain ⟨v1, h⟩ := h
  refine v_getR (pc := 1) (dk dt_X11_flush 1 rfl) fl_X11_12 v1 (fun _ => ?_)
  refine v_aload_n (pc := 4) (dk dt_X11_flush 2 rfl) rfl rfl ?_
  obtain ⟨v2, h⟩ := h
  refine v_getI (pc := 5) (dk dt_X11_flush 3 rfl) fl_X11_75 v2 (fun _ => ?_)
  refine v_aload_n (pc := 8) (dk dt_X11_flush 4 rfl) rfl rfl ?_
  obtain ⟨v3, h⟩ := h
  refine v_getI (pc := 9) (dk dt_X11_flush 5 rfl) fl_X11_78 v3 (fun _ => ?_)
  obtain ⟨v4, h⟩ := h
  refine v_isub (pc := 12) (dk dt_X11_flush 6 rfl) v4 ?_
  obtain ⟨v5, h⟩ := h
  refine v_cvI (c := 8) (As := [iv ((gfd G 11 12 l0) - (gfd G 11 13 l0))]) (stk := []) (pc := 13) (dk dt_X11_flush 7 rfl) ml_X11_147 rfl rfl (Nat.le_of_ble_eq_true rfl) rfl ⟨by decide, rfl⟩ v5 rfl (Call.mono h (fun r6 G7 c8 s9 h => ?_))
  exact v_iret (pc := 16) (dk dt_X11_flush 8 rfl) rfl h
set_option maxRecDepth 20000 in
theorem i_X11_flush {E : EE} {l0 : Int} {G : Gt} {c s : Nat} {Q X : Int → Gt → Prop} (h : (gcl G l0 = 12 ∧ gcl G l0 = 12 ∧ gcl G l0 = 12 ∧ i32 ((gfd G 11 12 l0) - (gfd G 11 13 l0)) ∧ gcl G (gfd G 11 0 l0) = 9 ∧ Call E M_X8_packAll [rv (gfd G 11 0 l0), iv ((gfd G 11 12 l0) - (gfd G 11 13 l0))] G c s X (fun r6 G7 c8 s9 => Q r6 G7))) : Ok E M_X11_flush [rv l0] G c s Q X := Ok.intro (k := 0) rfl rfl (Nat.le_of_ble_eq_true rfl) rfl (b_X11_flush_0 h)
set_option maxRecDepth 20000 in
theorem b_X11_log_0 {E : EE} {l0 : Int} {G : Gt} {c s : Nat} {Q X : Int → Gt → Prop} (h : (gcl G l0 = 12 ∧ gcl G (gfd G 11 0 l0) = 9 ∧ gcl G (gfd G 8 1 (gfd G 11 0 l0)) = 14 ∧ OkP E M_A_size [rv (gfd G 8 1 (gfd G 11 0 l0))] G (gfd G 13 2 (gfd G 8 1 (gfd G 11 0 l0))) ∧ Q (gfd G 13 2 (gfd G 8 1 (gfd G 11 0 l0))) G)) : V E M_X11_log 0 [some (rv l0)] [] G c s Q X := by
  refine v_aload_n (pc := 0) (dk dt_X11_log 0 rfl) rfl rfl ?_
  obtain ⟨v1, h⟩ := h
  refine v_getR (pc := 1) (dk dt_X11_log 1 rfl) fl_X11_12 v1 (fun _ => ?_)
  obtain ⟨v2, h⟩ := h
  refine v_getR (pc := 4) (dk dt_X11_log 2 rfl) fl_X11_151 v2 (fun _ => ?_)
  obtain ⟨v3, h⟩ := h
  obtain ⟨v4, h⟩ := h
  refine v_cvPI (c := 13) (v := (gfd G 13 2 (gfd G 8 1 (gfd G 11 0 l0)))) (As := []) (stk := []) (pc := 7) (dk dt_X11_log 3 rfl) ml_X11_110 rfl rfl (Nat.le_of_ble_eq_true rfl) rfl ⟨by decide, rfl⟩ v3 rfl v4 ?_
  exact v_iret (pc := 10) (dk dt_X11_log 4 rfl) rfl h
set_option maxRecDepth 20000 in
theorem i_X11_log {E : EE} {l0 : Int} {G : Gt} {c s : Nat} {Q X : Int → Gt → Prop} (h : (gcl G l0 = 12 ∧ gcl G (gfd G 11 0 l0) = 9 ∧ gcl G (gfd G 8 1 (gfd G 11 0 l0)) = 14 ∧ OkP E M_A_size [rv (gfd G 8 1 (gfd G 11 0 l0))] G (gfd G 13 2 (gfd G 8 1 (gfd G 11 0 l0))) ∧ Q (gfd G 13 2 (gfd G 8 1 (gfd G 11 0 l0))) G)) : Ok E M_X11_log [rv l0] G c s Q X := Ok.intro (k := 0) rfl rfl (Nat.le_of_ble_eq_true rfl) rfl (b_X11_log_0 h)
set_option maxRecDepth 20000 in
theorem b_X11_crash_0 {E : EE} {l0 l1 : Int} {G : Gt} {c s : Nat} {Q X : Int → Gt → Prop} (h : (OkP E M_X11_isWithin [iv l1, iv 0, iv 1000] G (wIn l1 0 1000) ∧ (((wIn l1 0 1000) ≠ 0 → (gcl G l0 = 12 ∧ gcl G (gfd G 11 0 l0) = 9 ∧ Call E M_X8_tearOff [rv (gfd G 11 0 l0), iv l1] G c s X (fun r5 G6 c7 s8 => Q r5 G6))) ∧ ((wIn l1 0 1000) = 0 → (1 ≤ c ∧ 6 ≤ s ∧ X 1 G))))) : V E M_X11_crash 0 [some (rv l0), some (iv l1)] [] G c s Q X := by
  refine v_iload_n (pc := 0) (dk dt_X11_crash 0 rfl) rfl rfl ?_
  refine v_iconst (pc := 1) (dk dt_X11_crash 1 rfl) ⟨by decide, by decide⟩ ?_
  refine v_sipush (pc := 2) (dk dt_X11_crash 2 rfl) (by decide) ⟨by decide, by decide⟩ ?_
  obtain ⟨v1, h⟩ := h
  refine v_csPZ (v := (wIn l1 0 1000)) (As := [iv l1, iv 0, iv 1000]) (stk := []) (pc := 5) (dk dt_X11_crash 3 rfl) ml_X11_85 rfl rfl (Nat.le_of_ble_eq_true rfl) rfl rfl v1 ?_
  refine v_if_ne (pc := 8) (tgt := 21) (dk dt_X11_crash 4 rfl) (by decide) (fun c2 => ?_) (fun c2 => ?_)
  · replace h := h.1 c2
    refine v_aload_n (pc := 21) (dk dt_X11_crash 10 rfl) rfl rfl ?_
    obtain ⟨v3, h⟩ := h
    refine v_getR (pc := 22) (dk dt_X11_crash 11 rfl) fl_X11_12 v3 (fun _ => ?_)
    refine v_iload_n (pc := 25) (dk dt_X11_crash 12 rfl) rfl rfl ?_
    obtain ⟨v4, h⟩ := h
    refine v_cvI (c := 8) (As := [iv l1]) (stk := []) (pc := 26) (dk dt_X11_crash 13 rfl) ml_X11_156 rfl rfl (Nat.le_of_ble_eq_true rfl) rfl ⟨by decide, rfl⟩ v4 rfl (Call.mono h (fun r5 G6 c7 s8 h => ?_))
    exact v_iret (pc := 29) (dk dt_X11_crash 14 rfl) rfl h
  · replace h := h.2 c2
    obtain ⟨v9, h⟩ := h
    obtain ⟨v10, h⟩ := h
    exact v_throw (pc := 11) (text := "records is out of range") 1 rfl (Or.inl rfl) (by decide +kernel) rfl (Nat.le_of_ble_eq_true rfl) (Nat.le_of_ble_eq_true rfl) (Nat.le_of_ble_eq_true rfl) (dk dt_X11_crash 5 rfl) (dk dt_X11_crash 6 rfl) (dk dt_X11_crash 7 rfl) (dk dt_X11_crash 8 rfl) (dk dt_X11_crash 9 rfl) v9 v10 h
set_option maxRecDepth 20000 in
theorem i_X11_crash {E : EE} {l0 l1 : Int} {G : Gt} {c s : Nat} {Q X : Int → Gt → Prop} (h : (OkP E M_X11_isWithin [iv l1, iv 0, iv 1000] G (wIn l1 0 1000) ∧ (((wIn l1 0 1000) ≠ 0 → (gcl G l0 = 12 ∧ gcl G (gfd G 11 0 l0) = 9 ∧ Call E M_X8_tearOff [rv (gfd G 11 0 l0), iv l1] G c s X (fun r5 G6 c7 s8 => Q r5 G6))) ∧ ((wIn l1 0 1000) = 0 → (1 ≤ c ∧ 6 ≤ s ∧ X 1 G))))) : Ok E M_X11_crash [rv l0, iv l1] G c s Q X := Ok.intro (k := 0) rfl rfl (Nat.le_of_ble_eq_true rfl) rfl (b_X11_crash_0 h)
set_option maxRecDepth 20000 in
theorem b_X11_bits_0 {E : EE} {l0 l1 l2 : Int} {G : Gt} {c s : Nat} {Q X : Int → Gt → Prop} (h : (gcl G l0 = 12 ∧ Call E M_X11_seriesOf [rv l0, iv l1] G c s X (fun r2 G3 c4 s5 => gcl G3 r2 = 8 ∧ Call E M_X7_bitsOfBlock [rv r2, iv l2] G3 c4 s5 X (fun r7 G8 c9 s10 => ((r7 ≠ (-1) → Q r7 G8) ∧ (r7 = (-1) → (1 ≤ c9 ∧ 6 ≤ s10 ∧ X 3 G8))))))) : V E M_X11_bits 0 [some (rv l0), some (iv l1), some (iv l2), none] [] G c s Q X := by
  refine v_aload_n (pc := 0) (dk dt_X11_bits 0 rfl) rfl rfl ?_
  refine v_iload_n (pc := 1) (dk dt_X11_bits 1 rfl) rfl rfl ?_
  obtain ⟨v1, h⟩ := h
  refine v_cvR (c := 11) (As := [iv l1]) (stk := []) (pc := 2) (dk dt_X11_bits 2 rfl) ml_X11_114 rfl rfl (Nat.le_of_ble_eq_true rfl) rfl ⟨by decide, rfl⟩ v1 rfl (Call.mono h (fun r2 G3 c4 s5 h => ?_))
  refine v_iload_n (pc := 5) (dk dt_X11_bits 3 rfl) rfl rfl ?_
  obtain ⟨v6, h⟩ := h
  refine v_cvI (c := 7) (As := [iv l2]) (stk := []) (pc := 6) (dk dt_X11_bits 4 rfl) ml_X11_159 rfl rfl (Nat.le_of_ble_eq_true rfl) rfl ⟨by decide, rfl⟩ v6 rfl (Call.mono h (fun r7 G8 c9 s10 h => ?_))
  refine v_istore_n (pc := 9) (ls' := [some (rv l0), some (iv l1), some (iv l2), some (iv r7)]) (dk dt_X11_bits 5 rfl) rfl (Nat.le_of_ble_eq_true rfl) rfl ?_
  refine v_iload_n (pc := 10) (dk dt_X11_bits 6 rfl) rfl rfl ?_
  refine v_iconst (pc := 11) (dk dt_X11_bits 7 rfl) ⟨by decide, by decide⟩ ?_
  refine v_icmp_ne (pc := 12) (tgt := 25) (dk dt_X11_bits 8 rfl) (by decide) (fun c11 => ?_) (fun c11 => ?_)
  · replace h := h.1 c11
    refine v_iload_n (pc := 25) (dk dt_X11_bits 14 rfl) rfl rfl ?_
    exact v_iret (pc := 26) (dk dt_X11_bits 15 rfl) rfl h
  · replace h := h.2 c11
    obtain ⟨v12, h⟩ := h
    obtain ⟨v13, h⟩ := h
    exact v_throw (pc := 15) (text := "no such block") 3 rfl (Or.inr (Or.inr rfl)) (by decide +kernel) rfl (Nat.le_of_ble_eq_true rfl) (Nat.le_of_ble_eq_true rfl) (Nat.le_of_ble_eq_true rfl) (dk dt_X11_bits 9 rfl) (dk dt_X11_bits 10 rfl) (dk dt_X11_bits 11 rfl) (dk dt_X11_bits 12 rfl) (dk dt_X11_bits 13 rfl) v12 v13 h
set_option maxRecDepth 20000 in
theorem i_X11_bits {E : EE} {l0 l1 l2 : Int} {G : Gt} {c s : Nat} {Q X : Int → Gt → Prop} (h : (gcl G l0 = 12 ∧ Call E M_X11_seriesOf [rv l0, iv l1] G c s X (fun r2 G3 c4 s5 => gcl G3 r2 = 8 ∧ Call E M_X7_bitsOfBlock [rv r2, iv l2] G3 c4 s5 X (fun r7 G8 c9 s10 => ((r7 ≠ (-1) → Q r7 G8) ∧ (r7 = (-1) → (1 ≤ c9 ∧ 6 ≤ s10 ∧ X 3 G8))))))) : Ok E M_X11_bits [rv l0, iv l1, iv l2] G c s Q X := Ok.intro (k := 1) rfl rfl (Nat.le_of_ble_eq_true rfl) rfl (b_X11_bits_0 h)
set_option maxRecDepth 20000 in
theorem b_X11_select_0 {E : EE} {l0 l1 l2 l3 l4 : Int} {G : Gt} {c s : Nat} {Q X : Int → Gt → Prop} (h : (gcl G l0 = 12 ∧ gcl G (gfd G 11 5 l0) = 14 ∧ OkP E M_A_size [rv (gfd G 11 5 l0)] G (gfd G 13 2 (gfd G 11 5 l0)) ∧ i32 ((gfd G 13 2 (gfd G 11 5 l0)) - 1) ∧ OkP E M_X11_isWithin [iv l1, iv 0, iv ((gfd G 13 2 (gfd G 11 5 l0)) - 1)] G (wIn l1 0 ((gfd G 13 2 (gfd G 11 5 l0)) - 1)) ∧ (((wIn l1 0 ((gfd G 13 2 (gfd G 11 5 l0)) - 1)) ≠ 0 → (OkP E M_X11_isWithin [iv l2, iv 0, iv 127] G (wIn l2 0 127) ∧ (((wIn l2 0 127) = 0 → (1 ≤ c ∧ 6 ≤ s ∧ X 1 G)) ∧ ((wIn l2 0 127) ≠ 0 → (OkP E M_X11_isWithin [iv l3, iv 0, iv 127] G (wIn l3 0 127) ∧ (((wIn l3 0 127) = 0 → (1 ≤ c ∧ 6 ≤ s ∧ X 1 G)) ∧ ((wIn l3 0 127) ≠ 0 → (OkP E M_X11_isWithin [iv l4, iv 0, iv 127] G (wIn l4 0 127) ∧ (((wIn l4 0 127) ≠ 0 → (1 ≤ c ∧ 3 ≤ s ∧ ∀ q19 : Int, gcl G q19 = 0 → (eb E : Int) ≤ q19 → ∀ G20 : Gt, G20 = (newo G q19 6) → 0 ≤ q19 ∧ Call E M_X6_init [rv q19, iv l2, iv l3, iv l4] G20 (c - 1) (s - 3) X (fun r22 G23 c24 s25 => gcl G23 l0 = 12 ∧ gcl G23 (gfd G23 11 5 l0) = 14 ∧ Call E M_A_set [rv (gfd G23 11 5 l0), iv l1, rv q19] G23 c24 s25 X (fun r28 G29 c30 s31 => gcl G29 l0 = 12 ∧ gcl G29 (gfd G29 11 0 l0) = 9 ∧ Call E M_X8_countSelected [rv (gfd G29 11 0 l0), rv q19] G29 c30 s31 X (fun r34 G35 c36 s37 => Q r34 G35))))) ∧ ((wIn l4 0 127) = 0 → (1 ≤ c ∧ 6 ≤ s ∧ X 1 G))))))))))) ∧ ((wIn l1 0 ((gfd G 13 2 (gfd G 11 5 l0)) - 1)) = 0 → (1 ≤ c ∧ 6 ≤ s ∧ X 3 G))))) : V E M_X11_select 0 [some (rv l0), some (iv l1), some (iv l2), some (iv l3), some (iv l4), none] [] G c s Q X := by
  refine v_iload_n (pc := 0) (dk dt_X11_select 0 rfl) rfl rfl ?_
  refine v_iconst (pc := 1) (dk dt_X11_select 1 rfl) ⟨by decide, by decide⟩ ?_
  refine v_aload_n (pc := 2) (dk dt_X11_select 2 rfl) rfl rfl ?_
  obtain ⟨v1, h⟩ := h
  refine v_getR (pc := 3) (dk dt_X11_select 3 rfl) fl_X11_51 v1 (fun _ => ?_)
  obtain ⟨v2, h⟩ := h
  obtain ⟨v3, h⟩ := h
  refine v_cvPI (c := 13) (v := (gfd G 13 2 (gfd G 11 5 l0))) (As := []) (stk := [iv 0, iv l1]) (pc := 6) (dk dt_X11_select 4 rfl) ml_X11_110 rfl rfl (Nat.le_of_ble_eq_true rfl) rfl ⟨by decide, rfl⟩ v2 rfl v3 ?_
  refine v_iconst (pc := 9) (dk dt_X11_select 5 rfl) ⟨by decide, by decide⟩ ?_
  obtain ⟨v4, h⟩ := h
  refine v_isub (pc := 10) (dk dt_X11_select 6 rfl) v4 ?_
  obtain ⟨v5, h⟩ := h
  refine v_csPZ (v := (wIn l1 0 ((gfd G 13 2 (gfd G 11 5 l0)) - 1))) (As := [iv l1, iv 0, iv ((gfd G 13 2 (gfd G 11 5 l0)) - 1)]) (stk := []) (pc := 11) (dk dt_X11_select 7 rfl) ml_X11_85 rfl rfl (Nat.le_of_ble_eq_true rfl) rfl rfl v5 ?_
  refine v_if_ne (pc := 14) (tgt := 27) (dk dt_X11_select 8 rfl) (by decide) (fun c6 => ?_) (fun c6 => ?_)
  · replace h := h.1 c6
    refine v_iload_n (pc := 27) (dk dt_X11_select 14 rfl) rfl rfl ?_
    refine v_iconst (pc := 28) (dk dt_X11_select 15 rfl) ⟨by decide, by decide⟩ ?_
    refine v_bipush (pc := 29) (dk dt_X11_select 16 rfl) (by decide) ⟨by decide, by decide⟩ ?_
    obtain ⟨v7, h⟩ := h
    refine v_csPZ (v := (wIn l2 0 127)) (As := [iv l2, iv 0, iv 127]) (stk := []) (pc := 31) (dk dt_X11_select 17 rfl) ml_X11_85 rfl rfl (Nat.le_of_ble_eq_true rfl) rfl rfl v7 ?_
    refine v_if_eq (pc := 34) (tgt := 58) (dk dt_X11_select 18 rfl) (by decide) (fun c8 => ?_) (fun c8 => ?_)
    · replace h := h.1 c8
      obtain ⟨v9, h⟩ := h
      obtain ⟨v10, h⟩ := h
      exact v_throw (pc := 58) (text := "a set of values is out of range") 1 rfl (Or.inl rfl) (by decide +kernel) rfl (Nat.le_of_ble_eq_true rfl) (Nat.le_of_ble_eq_true rfl) (Nat.le_of_ble_eq_true rfl) (dk dt_X11_select 29 rfl) (dk dt_X11_select 30 rfl) (dk dt_X11_select 31 rfl) (dk dt_X11_select 32 rfl) (dk dt_X11_select 33 rfl) v9 v10 h
    · replace h := h.2 c8
      refine v_iload_n (pc := 37) (dk dt_X11_select 19 rfl) rfl rfl ?_
      refine v_iconst (pc := 38) (dk dt_X11_select 20 rfl) ⟨by decide, by decide⟩ ?_
      refine v_bipush (pc := 39) (dk dt_X11_select 21 rfl) (by decide) ⟨by decide, by decide⟩ ?_
      obtain ⟨v11, h⟩ := h
      refine v_csPZ (v := (wIn l3 0 127)) (As := [iv l3, iv 0, iv 127]) (stk := []) (pc := 41) (dk dt_X11_select 22 rfl) ml_X11_85 rfl rfl (Nat.le_of_ble_eq_true rfl) rfl rfl v11 ?_
      refine v_if_eq (pc := 44) (tgt := 58) (dk dt_X11_select 23 rfl) (by decide) (fun c12 => ?_) (fun c12 => ?_)
      · replace h := h.1 c12
        obtain ⟨v13, h⟩ := h
        obtain ⟨v14, h⟩ := h
        exact v_throw (pc := 58) (text := "a set of values is out of range") 1 rfl (Or.inl rfl) (by decide +kernel) rfl (Nat.le_of_ble_eq_true rfl) (Nat.le_of_ble_eq_true rfl) (Nat.le_of_ble_eq_true rfl) (dk dt_X11_select 29 rfl) (dk dt_X11_select 30 rfl) (dk dt_X11_select 31 rfl) (dk dt_X11_select 32 rfl) (dk dt_X11_select 33 rfl) v13 v14 h
      · replace h := h.2 c12
        refine v_iload (pc := 47) (dk dt_X11_select 24 rfl) rfl ?_
        refine v_iconst (pc := 49) (dk dt_X11_select 25 rfl) ⟨by decide, by decide⟩ ?_
        refine v_bipush (pc := 50) (dk dt_X11_select 26 rfl) (by decide) ⟨by decide, by decide⟩ ?_
        obtain ⟨v15, h⟩ := h
        refine v_csPZ (v := (wIn l4 0 127)) (As := [iv l4, iv 0, iv 127]) (stk := []) (pc := 52) (dk dt_X11_select 27 rfl) ml_X11_85 rfl rfl (Nat.le_of_ble_eq_true rfl) rfl rfl v15 ?_
        refine v_if_ne (pc := 55) (tgt := 68) (dk dt_X11_select 28 rfl) (by decide) (fun c16 => ?_) (fun c16 => ?_)
        · replace h := h.1 c16
          obtain ⟨v17, h⟩ := h
          obtain ⟨v18, h⟩ := h
          refine v_new (pc := 68) (dk dt_X11_select 34 rfl) nl_X11_39 v17 v18 (fun q19 hq19 gq19 => ?_)
          replace h := h q19 hq19 gq19
          generalize hG20 : (newo G q19 6) = G20
          replace h := h G20 hG20.symm
          refine v_dup (pc := 71) (dk dt_X11_select 35 rfl) (by intro h9; cases h9) ?_
          refine v_iload_n (pc := 72) (dk dt_X11_select 36 rfl) rfl rfl ?_
          refine v_iload_n (pc := 73) (dk dt_X11_select 37 rfl) rfl rfl ?_
          refine v_iload (pc := 74) (dk dt_X11_select 38 rfl) rfl ?_
          obtain ⟨v21, h⟩ := h
          refine v_ciV (As := [iv l2, iv l3, iv l4]) (stk := [rv q19]) (pc := 76) (dk dt_X11_select 39 rfl) ml_X11_41 rfl rfl (Nat.le_of_ble_eq_true rfl) rfl v21 (Call.mono h (fun r22 G23 c24 s25 h => ?_))
          refine v_astore (pc := 79) (ls' := [some (rv l0), some (iv l1), some (iv l2), some (iv l3), some (iv l4), some (rv q19)]) (dk dt_X11_select_1 0 rfl) (Nat.le_of_ble_eq_true rfl) rfl ?_
          refine v_aload_n (pc := 81) (dk dt_X11_select_1 1 rfl) rfl rfl ?_
          obtain ⟨v26, h⟩ := h
          refine v_getR (pc := 82) (dk dt_X11_select_1 2 rfl) fl_X11_51 v26 (fun _ => ?_)
          refine v_iload_n (pc := 85) (dk dt_X11_select_1 3 rfl) rfl rfl ?_
          refine v_aload (pc := 86) (dk dt_X11_select_1 4 rfl) rfl ?_
          obtain ⟨v27, h⟩ := h
          refine v_cvR (c := 13) (As := [iv l1, rv q19]) (stk := []) (pc := 88) (dk dt_X11_select_1 5 rfl) ml_X11_171 rfl rfl (Nat.le_of_ble_eq_true rfl) rfl ⟨by decide, rfl⟩ v27 rfl (Call.mono h (fun r28 G29 c30 s31 h => ?_))
          refine v_pop (pc := 91) (dk dt_X11_select_1 6 rfl) (by intro h9; cases h9) ?_
          refine v_aload_n (pc := 92) (dk dt_X11_select_1 7 rfl) rfl rfl ?_
          obtain ⟨v32, h⟩ := h
          refine v_getR (pc := 93) (dk dt_X11_select_1 8 rfl) fl_X11_12 v32 (fun _ => ?_)
          refine v_aload (pc := 96) (dk dt_X11_select_1 9 rfl) rfl ?_
          obtain ⟨v33, h⟩ := h
          refine v_cvI (c := 8) (As := [rv q19]) (stk := []) (pc := 98) (dk dt_X11_select_1 10 rfl) ml_X11_175 rfl rfl (Nat.le_of_ble_eq_true rfl) rfl ⟨by decide, rfl⟩ v33 rfl (Call.mono h (fun r34 G35 c36 s37 h => ?_))
          exact v_iret (pc := 101) (dk dt_X11_select_1 11 rfl) rfl h
        · replace h := h.2 c16
          obtain ⟨v38, h⟩ := h
          obtain ⟨v39, h⟩ := h
          exact v_throw (pc := 58) (text := "a set of values is out of range") 1 rfl (Or.inl rfl) (by decide +kernel) rfl (Nat.le_of_ble_eq_true rfl) (Nat.le_of_ble_eq_true rfl) (Nat.le_of_ble_eq_true rfl) (dk dt_X11_select 29 rfl) (dk dt_X11_select 30 rfl) (dk dt_X11_select 31 rfl) (dk dt_X11_select 32 rfl) (dk dt_X11_select 33 rfl) v38 v39 h
  · replace h := h.2 c6
    obtain ⟨v40, h⟩ := h
    obtain ⟨v41, h⟩ := h
    exact v_throw (pc := 17) (text := "no such selector") 3 rfl (Or.inr (Or.inr rfl)) (by decide +kernel) rfl (Nat.le_of_ble_eq_true rfl) (Nat.le_of_ble_eq_true rfl) (Nat.le_of_ble_eq_true rfl) (dk dt_X11_select 9 rfl) (dk dt_X11_select 10 rfl) (dk dt_X11_select 11 rfl) (dk dt_X11_select 12 rfl) (dk dt_X11_select 13 rfl) v40 v41 h
set_option maxRecDepth 20000 in
theorem i_X11_select {E : EE} {l0 l1 l2 l3 l4 : Int} {G : Gt} {c s : Nat} {Q X : Int → Gt → Prop} (h : (gcl G l0 = 12 ∧ gcl G (gfd G 11 5 l0) = 14 ∧ OkP E M_A_size [rv (gfd G 11 5 l0)] G (gfd G 13 2 (gfd G 11 5 l0)) ∧ i32 ((gfd G 13 2 (gfd G 11 5 l0)) - 1) ∧ OkP E M_X11_isWithin [iv l1, iv 0, iv ((gfd G 13 2 (gfd G 11 5 l0)) - 1)] G (wIn l1 0 ((gfd G 13 2 (gfd G 11 5 l0)) - 1)) ∧ (((wIn l1 0 ((gfd G 13 2 (gfd G 11 5 l0)) - 1)) ≠ 0 → (OkP E M_X11_isWithin [iv l2, iv 0, iv 127] G (wIn l2 0 127) ∧ (((wIn l2 0 127) = 0 → (1 ≤ c ∧ 6 ≤ s ∧ X 1 G)) ∧ ((wIn l2 0 127) ≠ 0 → (OkP E M_X11_isWithin [iv l3, iv 0, iv 127] G (wIn l3 0 127) ∧ (((wIn l3 0 127) = 0 → (1 ≤ c ∧ 6 ≤ s ∧ X 1 G)) ∧ ((wIn l3 0 127) ≠ 0 → (OkP E M_X11_isWithin [iv l4, iv 0, iv 127] G (wIn l4 0 127) ∧ (((wIn l4 0 127) ≠ 0 → (1 ≤ c ∧ 3 ≤ s ∧ ∀ q19 : Int, gcl G q19 = 0 → (eb E : Int) ≤ q19 → ∀ G20 : Gt, G20 = (newo G q19 6) → 0 ≤ q19 ∧ Call E M_X6_init [rv q19, iv l2, iv l3, iv l4] G20 (c - 1) (s - 3) X (fun r22 G23 c24 s25 => gcl G23 l0 = 12 ∧ gcl G23 (gfd G23 11 5 l0) = 14 ∧ Call E M_A_set [rv (gfd G23 11 5 l0), iv l1, rv q19] G23 c24 s25 X (fun r28 G29 c30 s31 => gcl G29 l0 = 12 ∧ gcl G29 (gfd G29 11 0 l0) = 9 ∧ Call E M_X8_countSelected [rv (gfd G29 11 0 l0), rv q19] G29 c30 s31 X (fun r34 G35 c36 s37 => Q r34 G35))))) ∧ ((wIn l4 0 127) = 0 → (1 ≤ c ∧ 6 ≤ s ∧ X 1 G))))))))))) ∧ ((wIn l1 0 ((gfd G 13 2 (gfd G 11 5 l0)) - 1)) = 0 → (1 ≤ c ∧ 6 ≤ s ∧ X 3 G))))) : Ok E M_X11_select [rv l0, iv l1, iv l2, iv l3, iv l4] G c s Q X := Ok.intro (k := 1) rfl rfl (Nat.le_of_ble_eq_true rfl) rfl (b_X11_select_0 h)
set_option maxRecDepth 20000 in
theorem b_X11_word_0 {E : EE} {l0 l1 l2 l3 : Int} {G : Gt} {c s : Nat} {Q X : Int → Gt → Prop} (h : (OkP E M_X11_isWithin [iv l1, iv 0, iv 15] G (wIn l1 0 15) ∧ (((wIn l1 0 15) = 0 → (1 ≤ c ∧ 6 ≤ s ∧ X 1 G)) ∧ ((wIn l1 0 15) ≠ 0 → (Call E M_X11_isFirstFit [iv l1, iv l2] G c s X (fun r5 G6 c7 s8 => ((r5 = 0 → (1 ≤ c7 ∧ 6 ≤ s8 ∧ X 1 G6)) ∧ (r5 ≠ 0 → (Call E M_X11_isSecondFit [iv l1, iv l3] G6 c7 s8 X (fun r12 G13 c14 s15 => ((r12 ≠ 0 → (gcl G13 l0 = 12 ∧ gcl G13 (gfd G13 11 10 l0) = 14 ∧ OkP E M_A_size [rv (gfd G13 11 10 l0)] G13 (gfd G13 13 2 (gfd G13 11 10 l0)) ∧ ((10 ≤ (gfd G13 13 2 (gfd G13 11 10 l0)) → (1 ≤ c14 ∧ 6 ≤ s15 ∧ X 2 G13)) ∧ ((gfd G13 13 2 (gfd G13 11 10 l0)) < 10 → (gcl G13 l0 = 12 ∧ Call E M_X11_resultsLeft [rv l0] G13 c14 s15 X (fun r24 G25 c26 s27 => OkP E M_X10_needs [iv l1] G25 (wNeeds l1) ∧ (((wNeeds l1) ≤ r24 → (gcl G25 l0 = 12 ∧ OkP E M_X10_reads [iv l1] G25 (wIn l1 1 7) ∧ ((wIn l1 1 7) ≠ 0 → gcl G25 l0 = 12) ∧ ((wIn l1 1 7) ≠ 0 → gcl G25 (gfd G25 11 5 l0) = 14) ∧ ((wIn l1 1 7) ≠ 0 → OkP E M_A_size [rv (gfd G25 11 5 l0)] G25 (gfd G25 13 2 (gfd G25 11 5 l0))) ∧ ((wIn l1 1 7) ≠ 0 → i32 ((gfd G25 13 2 (gfd G25 11 5 l0)) - 1)) ∧ ((wIn l1 1 7) ≠ 0 → OkP E M_X11_isWithin [iv l2, iv 0, iv ((gfd G25 13 2 (gfd G25 11 5 l0)) - 1)] G25 (wIn l2 0 ((gfd G25 13 2 (gfd G25 11 5 l0)) - 1))) ∧ ((wIn l1 1 7) ≠ 0 → (wIn l2 0 ((gfd G25 13 2 (gfd G25 11 5 l0)) - 1)) ≠ 0 → gcl G25 l0 = 12) ∧ ((wIn l1 1 7) ≠ 0 → (wIn l2 0 ((gfd G25 13 2 (gfd G25 11 5 l0)) - 1)) ≠ 0 → gcl G25 (gfd G25 11 5 l0) = 14) ∧ ((wIn l1 1 7) ≠ 0 → (wIn l2 0 ((gfd G25 13 2 (gfd G25 11 5 l0)) - 1)) ≠ 0 → OkP E M_A_get [rv (gfd G25 11 5 l0), iv l2] G25 (alAt G25 (gfd G25 11 5 l0) l2)) ∧ ((wIn l1 1 7) ≠ 0 → (wIn l2 0 ((gfd G25 13 2 (gfd G25 11 5 l0)) - 1)) ≠ 0 → (alAt G25 (gfd G25 11 5 l0) l2) = -1 ∨ gcl G25 (alAt G25 (gfd G25 11 5 l0) l2) = 7) ∧ gcl G25 l0 = 12 ∧ 1 ≤ c26 ∧ 4 ≤ s27 ∧ ∀ q46 : Int, gcl G25 q46 = 0 → (eb E : Int) ≤ q46 → ∀ G47 : Gt, G47 = (newo G25 q46 10) → 0 ≤ q46 ∧ Call E M_X10_init [rv q46, iv l1, iv l2, iv l3, rv (if (wIn l1 1 7) = 0 then ((gfd G25 11 4 l0) : Int) else (if (wIn l2 0 ((gfd G25 13 2 (gfd G25 11 5 l0)) - 1)) = 0 then ((gfd G25 11 4 l0) : Int) else (alAt G25 (gfd G25 11 5 l0) l2)))] G47 (c26 - 1) (s27 - 4) X (fun r49 G50 c51 s52 => gcl G50 (gfd G25 11 10 l0) = 14 ∧ Call E M_A_add [rv (gfd G25 11 10 l0), rv q46] G50 c51 s52 X (fun r54 G55 c56 s57 => gcl G55 l0 = 12 ∧ gcl G55 (gfd G55 11 10 l0) = 14 ∧ OkP E M_A_size [rv (gfd G55 11 10 l0)] G55 (gfd G55 13 2 (gfd G55 11 10 l0)) ∧ Q (gfd G55 13 2 (gfd G55 11 10 l0)) G55)))) ∧ (r24 < (wNeeds l1) → (1 ≤ c26 ∧ 6 ≤ s27 ∧ X 2 G25))))))))) ∧ (r12 = 0 → (1 ≤ c14 ∧ 6 ≤ s15 ∧ X 1 G13))))))))))))) : V E M_X11_word 0 [some (rv l0), some (iv l1), some (iv l2), some (iv l3), none] [] G c s Q X := by
  refine v_iload_n (pc := 0) (dk dt_X11_word 0 rfl) rfl rfl ?_
  refine v_iconst (pc := 1) (dk dt_X11_word 1 rfl) ⟨by decide, by decide⟩ ?_
  refine v_bipush (pc := 2) (dk dt_X11_word 2 rfl) (by decide) ⟨by decide, by decide⟩ ?_
  obtain ⟨v1, h⟩ := h
  refine v_csPZ (v := (wIn l1 0 15)) (As := [iv l1, iv 0, iv 15]) (stk := []) (pc := 4) (dk dt_X11_word 3 rfl) ml_X11_85 rfl rfl (Nat.le_of_ble_eq_true rfl) rfl rfl v1 ?_
  refine v_if_eq (pc := 7) (tgt := 26) (dk dt_X11_word 4 rfl) (by decide) (fun c2 => ?_) (fun c2 => ?_)
  · replace h := h.1 c2
    obtain ⟨v3, h⟩ := h
    obtain ⟨v4, h⟩ := h
    exact v_throw (pc := 26) (text := "what, one or two is out of range") 1 rfl (Or.inl rfl) (by decide +kernel) rfl (Nat.le_of_ble_eq_true rfl) (Nat.le_of_ble_eq_true rfl) (Nat.le_of_ble_eq_true rfl) (dk dt_X11_word 13 rfl) (dk dt_X11_word 14 rfl) (dk dt_X11_word 15 rfl) (dk dt_X11_word 16 rfl) (dk dt_X11_word 17 rfl) v3 v4 h
  · replace h := h.2 c2
    refine v_iload_n (pc := 10) (dk dt_X11_word 5 rfl) rfl rfl ?_
    refine v_iload_n (pc := 11) (dk dt_X11_word 6 rfl) rfl rfl ?_
    refine v_csZ (As := [iv l1, iv l2]) (stk := []) (pc := 12) (dk dt_X11_word 7 rfl) ml_X11_179 rfl rfl (Nat.le_of_ble_eq_true rfl) rfl rfl (Call.mono h (fun r5 G6 c7 s8 h => ?_))
    refine v_if_eq (pc := 15) (tgt := 26) (dk dt_X11_word 8 rfl) (by decide) (fun c9 => ?_) (fun c9 => ?_)
    · replace h := h.1 c9
      obtain ⟨v10, h⟩ := h
      obtain ⟨v11, h⟩ := h
      exact v_throw (pc := 26) (text := "what, one or two is out of range") 1 rfl (Or.inl rfl) (by decide +kernel) rfl (Nat.le_of_ble_eq_true rfl) (Nat.le_of_ble_eq_true rfl) (Nat.le_of_ble_eq_true rfl) (dk dt_X11_word 13 rfl) (dk dt_X11_word 14 rfl) (dk dt_X11_word 15 rfl) (dk dt_X11_word 16 rfl) (dk dt_X11_word 17 rfl) v10 v11 h
    · replace h := h.2 c9
      refine v_iload_n (pc := 18) (dk dt_X11_word 9 rfl) rfl rfl ?_
      refine v_iload_n (pc := 19) (dk dt_X11_word 10 rfl) rfl rfl ?_
      refine v_csZ (As := [iv l1, iv l3]) (stk := []) (pc := 20) (dk dt_X11_word 11 rfl) ml_X11_183 rfl rfl (Nat.le_of_ble_eq_true rfl) rfl rfl (Call.mono h (fun r12 G13 c14 s15 h => ?_))
      refine v_if_ne (pc := 23) (tgt := 36) (dk dt_X11_word 12 rfl) (by decide) (fun c16 => ?_) (fun c16 => ?_)
      · replace h := h.1 c16
        refine v_aload_n (pc := 36) (dk dt_X11_word 18 rfl) rfl rfl ?_
        obtain ⟨v17, h⟩ := h
        refine v_getR (pc := 37) (dk dt_X11_word 19 rfl) fl_X11_68 v17 (fun _ => ?_)
        obtain ⟨v18, h⟩ := h
        obtain ⟨v19, h⟩ := h
        refine v_cvPI (c := 13) (v := (gfd G13 13 2 (gfd G13 11 10 l0))) (As := []) (stk := []) (pc := 40) (dk dt_X11_word 20 rfl) ml_X11_110 rfl rfl (Nat.le_of_ble_eq_true rfl) rfl ⟨by decide, rfl⟩ v18 rfl v19 ?_
        refine v_bipush (pc := 43) (dk dt_X11_word 21 rfl) (by decide) ⟨by decide, by decide⟩ ?_
        refine v_icmp_ge (pc := 45) (tgt := 59) (dk dt_X11_word 22 rfl) (by decide) (fun c20 => ?_) (fun c20 => ?_)
        · replace h := h.1 c20
          obtain ⟨v21, h⟩ := h
          obtain ⟨v22, h⟩ := h
          exact v_throw (pc := 59) (text := "too many words, or too few results") 2 rfl (Or.inr (Or.inl rfl)) (by decide +kernel) rfl (Nat.le_of_ble_eq_true rfl) (Nat.le_of_ble_eq_true rfl) (Nat.le_of_ble_eq_true rfl) (dk dt_X11_word 28 rfl) (dk dt_X11_word 29 rfl) (dk dt_X11_word 30 rfl) (dk dt_X11_word 31 rfl) (dk dt_X11_word 32 rfl) v21 v22 h
        · replace h := h.2 c20
          refine v_aload_n (pc := 48) (dk dt_X11_word 23 rfl) rfl rfl ?_
          obtain ⟨v23, h⟩ := h
          refine v_cvI (c := 11) (As := []) (stk := []) (pc := 49) (dk dt_X11_word 24 rfl) ml_X11_188 rfl rfl (Nat.le_of_ble_eq_true rfl) rfl ⟨by decide, rfl⟩ v23 rfl (Call.mono h (fun r24 G25 c26 s27 h => ?_))
          refine v_iload_n (pc := 52) (dk dt_X11_word 25 rfl) rfl rfl ?_
          obtain ⟨v28, h⟩ := h
          refine v_csPI (v := (wNeeds l1)) (As := [iv l1]) (stk := [iv r24]) (pc := 53) (dk dt_X11_word 26 rfl) ml_X11_191 rfl rfl (Nat.le_of_ble_eq_true rfl) rfl rfl v28 ?_
          refine v_icmp_ge (pc := 56) (tgt := 69) (dk dt_X11_word 27 rfl) (by decide) (fun c29 => ?_) (fun c29 => ?_)
          · replace h := h.1 c29
            refine v_aload_n (pc := 69) (dk dt_X11_word 33 rfl) rfl rfl ?_
            obtain ⟨v30, h⟩ := h
            refine v_getR (pc := 70) (dk dt_X11_word 34 rfl) fl_X11_44 v30 (fun _ => ?_)
            refine v_astore (pc := 73) (ls' := [some (rv l0), some (iv l1), some (iv l2), some (iv l3), some (rv (gfd G25 11 4 l0))]) (dk dt_X11_word 35 rfl) (Nat.le_of_ble_eq_true rfl) rfl ?_
            refine v_iload_n (pc := 75) (dk dt_X11_word 36 rfl) rfl rfl ?_
            obtain ⟨v31, h⟩ := h
            refine v_csPZ (v := (wIn l1 1 7)) (As := [iv l1]) (stk := []) (pc := 76) (dk dt_X11_word 37 rfl) ml_X11_198 rfl rfl (Nat.le_of_ble_eq_true rfl) rfl rfl v31 ?_
            obtain ⟨v33, v34, v35, v36, v37, v39, v40, v41, v42, h⟩ := h
            suffices k65 : V E M_X11_word 112 [some (rv l0), some (iv l1), some (iv l2), some (iv l3), some (rv (if (wIn l1 1 7) = 0 then ((gfd G25 11 4 l0) : Int) else (if (wIn l2 0 ((gfd G25 13 2 (gfd G25 11 5 l0)) - 1)) = 0 then ((gfd G25 11 4 l0) : Int) else (alAt G25 (gfd G25 11 5 l0) l2))))] [] G25 c26 s27 Q X by
              refine v_if_eq (pc := 79) (tgt := 112) (dk dt_X11_word 38 rfl) (by decide) (fun c32 => ?_) (fun c32 => ?_)
              · exact v_less2 (ls' := [some (rv l0), some (iv l1), some (iv l2), some (iv l3), some (rv (gfd G25 11 4 l0))]) ⟨rfl, rfl, rfl, rfl, rfl, trivial⟩ (by have hk9 := k65; try simp only [if_pos c32] at hk9 ⊢; exact hk9)
              · refine v_iload_n (pc := 82) (dk dt_X11_word 39 rfl) rfl rfl ?_
                refine v_iconst (pc := 83) (dk dt_X11_word_1 0 rfl) ⟨by decide, by decide⟩ ?_
                refine v_aload_n (pc := 84) (dk dt_X11_word_1 1 rfl) rfl rfl ?_
                refine v_getR (pc := 85) (dk dt_X11_word_1 2 rfl) fl_X11_51 (v33 c32) (fun _ => ?_)
                refine v_cvPI (c := 13) (v := (gfd G25 13 2 (gfd G25 11 5 l0))) (As := []) (stk := [iv 0, iv l2]) (pc := 88) (dk dt_X11_word_1 3 rfl) ml_X11_110 rfl rfl (Nat.le_of_ble_eq_true rfl) rfl ⟨by decide, rfl⟩ (v34 c32) rfl (v35 c32) ?_
                refine v_iconst (pc := 91) (dk dt_X11_word_1 4 rfl) ⟨by decide, by decide⟩ ?_
                refine v_isub (pc := 92) (dk dt_X11_word_1 5 rfl) (v36 c32) ?_
                refine v_csPZ (v := (wIn l2 0 ((gfd G25 13 2 (gfd G25 11 5 l0)) - 1))) (As := [iv l2, iv 0, iv ((gfd G25 13 2 (gfd G25 11 5 l0)) - 1)]) (stk := []) (pc := 93) (dk dt_X11_word_1 6 rfl) ml_X11_85 rfl rfl (Nat.le_of_ble_eq_true rfl) rfl rfl (v37 c32) ?_
                refine v_if_eq (pc := 96) (tgt := 112) (dk dt_X11_word_1 7 rfl) (by decide) (fun c38 => ?_) (fun c38 => ?_)
                · exact v_less2 (ls' := [some (rv l0), some (iv l1), some (iv l2), some (iv l3), some (rv (gfd G25 11 4 l0))]) ⟨rfl, rfl, rfl, rfl, rfl, trivial⟩ (by have hk9 := k65; try simp only [if_neg c32] at hk9 ⊢; try simp only [if_pos c38] at hk9 ⊢; exact hk9)
                · refine v_aload_n (pc := 99) (dk dt_X11_word_1 8 rfl) rfl rfl ?_
                  refine v_getR (pc := 100) (dk dt_X11_word_1 9 rfl) fl_X11_51 (v39 c32 c38) (fun _ => ?_)
                  refine v_iload_n (pc := 103) (dk dt_X11_word_1 10 rfl) rfl rfl ?_
                  refine v_cvPR (c := 13) (v := (alAt G25 (gfd G25 11 5 l0) l2)) (As := [iv l2]) (stk := []) (pc := 104) (dk dt_X11_word_1 11 rfl) ml_X11_202 rfl rfl (Nat.le_of_ble_eq_true rfl) rfl ⟨by decide, rfl⟩ (v40 c32 c38) rfl (v41 c32 c38) ?_
                  refine v_cast (c := 6) (pc := 107) (dk dt_X11_word_1 12 rfl) (by decide) cl_X11_39 (v42 c32 c38) ?_
                  refine v_astore (pc := 110) (ls' := [some (rv l0), some (iv l1), some (iv l2), some (iv l3), some (rv (alAt G25 (gfd G25 11 5 l0) l2))]) (dk dt_X11_word_1 13 rfl) (Nat.le_of_ble_eq_true rfl) rfl ?_
                  exact v_less2 (ls' := [some (rv l0), some (iv l1), some (iv l2), some (iv l3), some (rv (alAt G25 (gfd G25 11 5 l0) l2))]) ⟨rfl, rfl, rfl, rfl, rfl, trivial⟩ (by have hk9 := k65; try simp only [if_neg c32] at hk9 ⊢; try simp only [if_neg c38] at hk9 ⊢; exact hk9)
            refine v_aload_n (pc := 112) (dk dt_X11_word_1 14 rfl) rfl rfl ?_
            obtain ⟨v43, h⟩ := h
            refine v_getR (pc := 113) (dk dt_X11_word_1 15 rfl) fl_X11_68 v43 (fun _ => ?_)
            obtain ⟨v44, h⟩ := h
            obtain ⟨v45, h⟩ := h
            refine v_new (pc := 116) (dk dt_X11_word_1 16 rfl) nl_X11_192 v44 v45 (fun q46 hq46 gq46 => ?_)
            replace h := h q46 hq46 gq46
            generalize hG47 : (newo G25 q46 10) = G47
            replace h := h G47 hG47.symm
            refine v_dup (pc := 119) (dk dt_X11_word_1 17 rfl) (by intro h9; cases h9) ?_
            refine v_iload_n (pc := 120) (dk dt_X11_word_1 18 rfl) rfl rfl ?_
            refine v_iload_n (pc := 121) (dk dt_X11_word_1 19 rfl) rfl rfl ?_
            refine v_iload_n (pc := 122) (dk dt_X11_word_1 20 rfl) rfl rfl ?_
            refine v_aload (pc := 123) (dk dt_X11_word_1 21 rfl) rfl ?_
            obtain ⟨v48, h⟩ := h
            refine v_ciV (As := [iv l1, iv l2, iv l3, rv (if (wIn l1 1 7) = 0 then ((gfd G25 11 4 l0) : Int) else (if (wIn l2 0 ((gfd G25 13 2 (gfd G25 11 5 l0)) - 1)) = 0 then ((gfd G25 11 4 l0) : Int) else (alAt G25 (gfd G25 11 5 l0) l2)))]) (stk := [rv q46, rv (gfd G25 11 10 l0)]) (pc := 125) (dk dt_X11_word_1 22 rfl) ml_X11_206 rfl rfl (Nat.le_of_ble_eq_true rfl) rfl v48 (Call.mono h (fun r49 G50 c51 s52 h => ?_))
            obtain ⟨v53, h⟩ := h
            refine v_cvZ (c := 13) (As := [rv q46]) (stk := []) (pc := 128) (dk dt_X11_word_1 23 rfl) ml_X11_81 rfl rfl (Nat.le_of_ble_eq_true rfl) rfl ⟨by decide, rfl⟩ v53 rfl (Call.mono h (fun r54 G55 c56 s57 h => ?_))
            refine v_pop (pc := 131) (dk dt_X11_word_1 24 rfl) (by intro h9; cases h9) ?_
            refine v_aload_n (pc := 132) (dk dt_X11_word_1 25 rfl) rfl rfl ?_
            obtain ⟨v58, h⟩ := h
            refine v_getR (pc := 133) (dk dt_X11_word_1 26 rfl) fl_X11_68 v58 (fun _ => ?_)
            obtain ⟨v59, h⟩ := h
            obtain ⟨v60, h⟩ := h
            refine v_cvPI (c := 13) (v := (gfd G55 13 2 (gfd G55 11 10 l0))) (As := []) (stk := []) (pc := 136) (dk dt_X11_word_1 27 rfl) ml_X11_110 rfl rfl (Nat.le_of_ble_eq_true rfl) rfl ⟨by decide, rfl⟩ v59 rfl v60 ?_
            exact v_iret (pc := 139) (dk dt_X11_word_1 28 rfl) rfl h
          · replace h := h.2 c29
            obtain ⟨v61, h⟩ := h
            obtain ⟨v62, h⟩ := h
            exact v_throw (pc := 59) (text := "too many words, or too few results") 2 rfl (Or.inr (Or.inl rfl)) (by decide +kernel) rfl (Nat.le_of_ble_eq_true rfl) (Nat.le_of_ble_eq_true rfl) (Nat.le_of_ble_eq_true rfl) (dk dt_X11_word 28 rfl) (dk dt_X11_word 29 rfl) (dk dt_X11_word 30 rfl) (dk dt_X11_word 31 rfl) (dk dt_X11_word 32 rfl) v61 v62 h
      · replace h := h.2 c16
        obtain ⟨v63, h⟩ := h
        obtain ⟨v64, h⟩ := h
        exact v_throw (pc := 26) (text := "what, one or two is out of range") 1 rfl (Or.inl rfl) (by decide +kernel) rfl (Nat.le_of_ble_eq_true rfl) (Nat.le_of_ble_eq_true rfl) (Nat.le_of_ble_eq_true rfl) (dk dt_X11_word 13 rfl) (dk dt_X11_word 14 rfl) (dk dt_X11_word 15 rfl) (dk dt_X11_word 16 rfl) (dk dt_X11_word 17 rfl) v63 v64 h
set_option maxRecDepth 20000 in
theorem i_X11_word {E : EE} {l0 l1 l2 l3 : Int} {G : Gt} {c s : Nat} {Q X : Int → Gt → Prop} (h : (OkP E M_X11_isWithin [iv l1, iv 0, iv 15] G (wIn l1 0 15) ∧ (((wIn l1 0 15) = 0 → (1 ≤ c ∧ 6 ≤ s ∧ X 1 G)) ∧ ((wIn l1 0 15) ≠ 0 → (Call E M_X11_isFirstFit [iv l1, iv l2] G c s X (fun r5 G6 c7 s8 => ((r5 = 0 → (1 ≤ c7 ∧ 6 ≤ s8 ∧ X 1 G6)) ∧ (r5 ≠ 0 → (Call E M_X11_isSecondFit [iv l1, iv l3] G6 c7 s8 X (fun r12 G13 c14 s15 => ((r12 ≠ 0 → (gcl G13 l0 = 12 ∧ gcl G13 (gfd G13 11 10 l0) = 14 ∧ OkP E M_A_size [rv (gfd G13 11 10 l0)] G13 (gfd G13 13 2 (gfd G13 11 10 l0)) ∧ ((10 ≤ (gfd G13 13 2 (gfd G13 11 10 l0)) → (1 ≤ c14 ∧ 6 ≤ s15 ∧ X 2 G13)) ∧ ((gfd G13 13 2 (gfd G13 11 10 l0)) < 10 → (gcl G13 l0 = 12 ∧ Call E M_X11_resultsLeft [rv l0] G13 c14 s15 X (fun r24 G25 c26 s27 => OkP E M_X10_needs [iv l1] G25 (wNeeds l1) ∧ (((wNeeds l1) ≤ r24 → (gcl G25 l0 = 12 ∧ OkP E M_X10_reads [iv l1] G25 (wIn l1 1 7) ∧ ((wIn l1 1 7) ≠ 0 → gcl G25 l0 = 12) ∧ ((wIn l1 1 7) ≠ 0 → gcl G25 (gfd G25 11 5 l0) = 14) ∧ ((wIn l1 1 7) ≠ 0 → OkP E M_A_size [rv (gfd G25 11 5 l0)] G25 (gfd G25 13 2 (gfd G25 11 5 l0))) ∧ ((wIn l1 1 7) ≠ 0 → i32 ((gfd G25 13 2 (gfd G25 11 5 l0)) - 1)) ∧ ((wIn l1 1 7) ≠ 0 → OkP E M_X11_isWithin [iv l2, iv 0, iv ((gfd G25 13 2 (gfd G25 11 5 l0)) - 1)] G25 (wIn l2 0 ((gfd G25 13 2 (gfd G25 11 5 l0)) - 1))) ∧ ((wIn l1 1 7) ≠ 0 → (wIn l2 0 ((gfd G25 13 2 (gfd G25 11 5 l0)) - 1)) ≠ 0 → gcl G25 l0 = 12) ∧ ((wIn l1 1 7) ≠ 0 → (wIn l2 0 ((gfd G25 13 2 (gfd G25 11 5 l0)) - 1)) ≠ 0 → gcl G25 (gfd G25 11 5 l0) = 14) ∧ ((wIn l1 1 7) ≠ 0 → (wIn l2 0 ((gfd G25 13 2 (gfd G25 11 5 l0)) - 1)) ≠ 0 → OkP E M_A_get [rv (gfd G25 11 5 l0), iv l2] G25 (alAt G25 (gfd G25 11 5 l0) l2)) ∧ ((wIn l1 1 7) ≠ 0 → (wIn l2 0 ((gfd G25 13 2 (gfd G25 11 5 l0)) - 1)) ≠ 0 → (alAt G25 (gfd G25 11 5 l0) l2) = -1 ∨ gcl G25 (alAt G25 (gfd G25 11 5 l0) l2) = 7) ∧ gcl G25 l0 = 12 ∧ 1 ≤ c26 ∧ 4 ≤ s27 ∧ ∀ q46 : Int, gcl G25 q46 = 0 → (eb E : Int) ≤ q46 → ∀ G47 : Gt, G47 = (newo G25 q46 10) → 0 ≤ q46 ∧ Call E M_X10_init [rv q46, iv l1, iv l2, iv l3, rv (if (wIn l1 1 7) = 0 then ((gfd G25 11 4 l0) : Int) else (if (wIn l2 0 ((gfd G25 13 2 (gfd G25 11 5 l0)) - 1)) = 0 then ((gfd G25 11 4 l0) : Int) else (alAt G25 (gfd G25 11 5 l0) l2)))] G47 (c26 - 1) (s27 - 4) X (fun r49 G50 c51 s52 => gcl G50 (gfd G25 11 10 l0) = 14 ∧ Call E M_A_add [rv (gfd G25 11 10 l0), rv q46] G50 c51 s52 X (fun r54 G55 c56 s57 => gcl G55 l0 = 12 ∧ gcl G55 (gfd G55 11 10 l0) = 14 ∧ OkP E M_A_size [rv (gfd G55 11 10 l0)] G55 (gfd G55 13 2 (gfd G55 11 10 l0)) ∧ Q (gfd G55 13 2 (gfd G55 11 10 l0)) G55)))) ∧ (r24 < (wNeeds l1) → (1 ≤ c26 ∧ 6 ≤ s27 ∧ X 2 G25))))))))) ∧ (r12 = 0 → (1 ≤ c14 ∧ 6 ≤ s15 ∧ X 1 G13))))))))))))) : Ok E M_X11_word [rv l0, iv l1, iv l2, iv l3] G c s Q X := Ok.intro (k := 1) rfl rfl (Nat.le_of_ble_eq_true rfl) rfl (b_X11_word_0 h)
set_option maxRecDepth 20000 in
theorem b_X11_clear_0 {E : EE} {l0 : Int} {G : Gt} {c s : Nat} {Q X : Int → Gt → Prop} (h : (gcl G l0 = 12 ∧ gcl G (gfd G 11 10 l0) = 14 ∧ OkP E M_A_size [rv (gfd G 11 10 l0)] G (gfd G 13 2 (gfd G 11 10 l0)) ∧ gcl G l0 = 12 ∧ gcl G (gfd G 11 10 l0) = 14 ∧ Call E M_A_clear [rv (gfd G 11 10 l0)] G c s X (fun r6 G7 c8 s9 => Q (gfd G 13 2 (gfd G 11 10 l0)) G7))) : V E M_X11_clear 0 [some (rv l0), none] [] G c s Q X := by
  refine v_aload_n (pc := 0) (dk dt_X11_clear 0 rfl) rfl rfl ?_
  obtain ⟨v1, h⟩ := h
  refine v_getR (pc := 1) (dk dt_X11_clear 1 rfl) fl_X11_68 v1 (fun _ => ?_)
  obtain ⟨v2, h⟩ := h
  obtain ⟨v3, h⟩ := h
  refine v_cvPI (c := 13) (v := (gfd G 13 2 (gfd G 11 10 l0))) (As := []) (stk := []) (pc := 4) (dk dt_X11_clear 2 rfl) ml_X11_110 rfl rfl (Nat.le_of_ble_eq_true rfl) rfl ⟨by decide, rfl⟩ v2 rfl v3 ?_
  refine v_istore_n (pc := 7) (ls' := [some (rv l0), some (iv (gfd G 13 2 (gfd G 11 10 l0)))]) (dk dt_X11_clear 3 rfl) rfl (Nat.le_of_ble_eq_true rfl) rfl ?_
  refine v_aload_n (pc := 8) (dk dt_X11_clear 4 rfl) rfl rfl ?_
  obtain ⟨v4, h⟩ := h
  refine v_getR (pc := 9) (dk dt_X11_clear 5 rfl) fl_X11_68 v4 (fun _ => ?_)
  obtain ⟨v5, h⟩ := h
  refine v_cvV (c := 13) (As := []) (stk := []) (pc := 12) (dk dt_X11_clear 6 rfl) ml_X11_209 rfl rfl (Nat.le_of_ble_eq_true rfl) rfl ⟨by decide, rfl⟩ v5 rfl (Call.mono h (fun r6 G7 c8 s9 h => ?_))
  refine v_iload_n (pc := 15) (dk dt_X11_clear 7 rfl) rfl rfl ?_
  exact v_iret (pc := 16) (dk dt_X11_clear 8 rfl) rfl h
set_option maxRecDepth 20000 in
theorem i_X11_clear {E : EE} {l0 : Int} {G : Gt} {c s : Nat} {Q X : Int → Gt → Prop} (h : (gcl G l0 = 12 ∧ gcl G (gfd G 11 10 l0) = 14 ∧ OkP E M_A_size [rv (gfd G 11 10 l0)] G (gfd G 13 2 (gfd G 11 10 l0)) ∧ gcl G l0 = 12 ∧ gcl G (gfd G 11 10 l0) = 14 ∧ Call E M_A_clear [rv (gfd G 11 10 l0)] G c s X (fun r6 G7 c8 s9 => Q (gfd G 13 2 (gfd G 11 10 l0)) G7))) : Ok E M_X11_clear [rv l0] G c s Q X := Ok.intro (k := 1) rfl rfl (Nat.le_of_ble_eq_true rfl) rfl (b_X11_clear_0 h)
set_option maxRecDepth 20000 in
theorem b_X11_ask_0 {E : EE} {l0 l1 : Int} {G : Gt} {c s : Nat} {Q X : Int → Gt → Prop} (h : (OkP E M_X11_isWithin [iv l1, iv 0, iv 100000] G (wIn l1 0 100000) ∧ (((wIn l1 0 100000) ≠ 0 → (gcl G l0 = 12 ∧ Call E M_X11_resultsLeft [rv l0] G c s X (fun r4 G5 c6 s7 => ((r4 = 1 → (gcl G5 l0 = 12 ∧ gcl G5 l0 = 12 ∧ gcl G5 l0 = 12 ∧ gcl G5 (gfd G5 11 0 l0) = 9 ∧ gcl G5 (gfd G5 11 1 l0) = 3 ∧ Call E M_X2_reckon [rv (gfd G5 11 1 l0), rv (gfd G5 11 10 l0), rv (gfd G5 8 0 (gfd G5 11 0 l0)), iv l1] G5 c6 s7 X (fun r14 G15 c16 s17 => gcl G15 l0 = 12 ∧ gcl G15 (gfd G15 11 2 l0) = 4 ∧ Call E M_X3_becomeVector [rv (gfd G15 11 2 l0)] G15 c16 s17 X (fun r20 G21 c22 s23 => ((0 ≤ r14 → V E M_X11_ask 73 [some (rv l0), none, some (rv r14), some (iv 0)] [] G21 c22 s23 Q X) ∧ (r14 = -1 → Q (-1) G21)))))) ∧ (r4 ≠ 1 → (1 ≤ c6 ∧ 6 ≤ s7 ∧ X 2 G5)))))) ∧ ((wIn l1 0 100000) = 0 → (1 ≤ c ∧ 6 ≤ s ∧ X 1 G))))) : V E M_X11_ask 0 [some (rv l0), some (iv l1), none, none] [] G c s Q X := by
  refine v_iload_n (pc := 0) (dk dt_X11_ask 0 rfl) rfl rfl ?_
  refine v_iconst (pc := 1) (dk dt_X11_ask 1 rfl) ⟨by decide, by decide⟩ ?_
  refine v_ldc (pc := 2) (dk dt_X11_ask 2 rfl) co_X11_130 ⟨by decide, by decide⟩ ?_
  obtain ⟨v1, h⟩ := h
  refine v_csPZ (v := (wIn l1 0 100000)) (As := [iv l1, iv 0, iv 100000]) (stk := []) (pc := 4) (dk dt_X11_ask 3 rfl) ml_X11_85 rfl rfl (Nat.le_of_ble_eq_true rfl) rfl rfl v1 ?_
  refine v_if_ne (pc := 7) (tgt := 20) (dk dt_X11_ask 4 rfl) (by decide) (fun c2 => ?_) (fun c2 => ?_)
  · replace h := h.1 c2
    refine v_aload_n (pc := 20) (dk dt_X11_ask 10 rfl) rfl rfl ?_
    obtain ⟨v3, h⟩ := h
    refine v_cvI (c := 11) (As := []) (stk := []) (pc := 21) (dk dt_X11_ask 11 rfl) ml_X11_188 rfl rfl (Nat.le_of_ble_eq_true rfl) rfl ⟨by decide, rfl⟩ v3 rfl (Call.mono h (fun r4 G5 c6 s7 h => ?_))
    refine v_iconst (pc := 24) (dk dt_X11_ask 12 rfl) ⟨by decide, by decide⟩ ?_
    refine v_icmp_eq (pc := 25) (tgt := 38) (dk dt_X11_ask 13 rfl) (by decide) (fun c8 => ?_) (fun c8 => ?_)
    · replace h := h.1 c8
      refine v_aload_n (pc := 38) (dk dt_X11_ask 19 rfl) rfl rfl ?_
      obtain ⟨v9, h⟩ := h
      refine v_getR (pc := 39) (dk dt_X11_ask 20 rfl) fl_X11_21 v9 (fun _ => ?_)
      refine v_aload_n (pc := 42) (dk dt_X11_ask 21 rfl) rfl rfl ?_
      obtain ⟨v10, h⟩ := h
      refine v_getR (pc := 43) (dk dt_X11_ask 22 rfl) fl_X11_68 v10 (fun _ => ?_)
      refine v_aload_n (pc := 46) (dk dt_X11_ask 23 rfl) rfl rfl ?_
      obtain ⟨v11, h⟩ := h
      refine v_getR (pc := 47) (dk dt_X11_ask 24 rfl) fl_X11_12 v11 (fun _ => ?_)
      obtain ⟨v12, h⟩ := h
      refine v_getR (pc := 50) (dk dt_X11_ask 25 rfl) fl_X11_107 v12 (fun _ => ?_)
      refine v_iload_n (pc := 53) (dk dt_X11_ask 26 rfl) rfl rfl ?_
      obtain ⟨v13, h⟩ := h
      refine v_cvR (c := 2) (As := [rv (gfd G5 11 10 l0), rv (gfd G5 8 0 (gfd G5 11 0 l0)), iv l1]) (stk := []) (pc := 54) (dk dt_X11_ask 27 rfl) ml_X11_214 rfl rfl (Nat.le_of_ble_eq_true rfl) rfl ⟨by decide, rfl⟩ v13 rfl (Call.mono h (fun r14 G15 c16 s17 h => ?_))
      refine v_astore_n (pc := 57) (ls' := [some (rv l0), some (iv l1), some (rv r14), none]) (dk dt_X11_ask 28 rfl) rfl (Nat.le_of_ble_eq_true rfl) rfl ?_
      refine v_aload_n (pc := 58) (dk dt_X11_ask 29 rfl) rfl rfl ?_
      obtain ⟨v18, h⟩ := h
      refine v_getR (pc := 59) (dk dt_X11_ask 30 rfl) fl_X11_28 v18 (fun _ => ?_)
      obtain ⟨v19, h⟩ := h
      refine v_cvV (c := 3) (As := []) (stk := []) (pc := 62) (dk dt_X11_ask 31 rfl) ml_X11_218 rfl rfl (Nat.le_of_ble_eq_true rfl) rfl ⟨by decide, rfl⟩ v19 rfl (Call.mono h (fun r20 G21 c22 s23 h => ?_))
      refine v_aload_n (pc := 65) (dk dt_X11_ask 32 rfl) rfl rfl ?_
      refine v_ifnonnull (pc := 66) (tgt := 71) (dk dt_X11_ask 33 rfl) (by decide) (fun c24 => ?_) (fun c24 => ?_)
      · replace h := h.1 c24
        refine v_iconst (pc := 71) (dk dt_X11_ask 36 rfl) ⟨by decide, by decide⟩ ?_
        refine v_istore_n (pc := 72) (ls' := [some (rv l0), some (iv l1), some (rv r14), some (iv 0)]) (dk dt_X11_ask 37 rfl) rfl (Nat.le_of_ble_eq_true rfl) rfl ?_
        exact v_less2 (ls' := [some (rv l0), none, some (rv r14), some (iv 0)]) ⟨rfl, rfl, rfl, trivial⟩ h
      · replace h := h.2 c24
        refine v_iconst (pc := 69) (dk dt_X11_ask 34 rfl) ⟨by decide, by decide⟩ ?_
        exact v_iret (pc := 70) (dk dt_X11_ask 35 rfl) rfl h
    · replace h := h.2 c8
      obtain ⟨v25, h⟩ := h
      obtain ⟨v26, h⟩ := h
      exact v_throw (pc := 28) (text := "the draft does not leave just one result") 2 rfl (Or.inr (Or.inl rfl)) (by decide +kernel) rfl (Nat.le_of_ble_eq_true rfl) (Nat.le_of_ble_eq_true rfl) (Nat.le_of_ble_eq_true rfl) (dk dt_X11_ask 14 rfl) (dk dt_X11_ask 15 rfl) (dk dt_X11_ask 16 rfl) (dk dt_X11_ask 17 rfl) (dk dt_X11_ask 18 rfl) v25 v26 h
  · replace h := h.2 c2
    obtain ⟨v27, h⟩ := h
    obtain ⟨v28, h⟩ := h
    exact v_throw (pc := 10) (text := "the time is out of range") 1 rfl (Or.inl rfl) (by decide +kernel) rfl (Nat.le_of_ble_eq_true rfl) (Nat.le_of_ble_eq_true rfl) (Nat.le_of_ble_eq_true rfl) (dk dt_X11_ask 5 rfl) (dk dt_X11_ask 6 rfl) (dk dt_X11_ask 7 rfl) (dk dt_X11_ask 8 rfl) (dk dt_X11_ask 9 rfl) v27 v28 h
set_option maxRecDepth 20000 in
theorem i_X11_ask {E : EE} {l0 l1 : Int} {G : Gt} {c s : Nat} {Q X : Int → Gt → Prop} (h : (OkP E M_X11_isWithin [iv l1, iv 0, iv 100000] G (wIn l1 0 100000) ∧ (((wIn l1 0 100000) ≠ 0 → (gcl G l0 = 12 ∧ Call E M_X11_resultsLeft [rv l0] G c s X (fun r4 G5 c6 s7 => ((r4 = 1 → (gcl G5 l0 = 12 ∧ gcl G5 l0 = 12 ∧ gcl G5 l0 = 12 ∧ gcl G5 (gfd G5 11 0 l0) = 9 ∧ gcl G5 (gfd G5 11 1 l0) = 3 ∧ Call E M_X2_reckon [rv (gfd G5 11 1 l0), rv (gfd G5 11 10 l0), rv (gfd G5 8 0 (gfd G5 11 0 l0)), iv l1] G5 c6 s7 X (fun r14 G15 c16 s17 => gcl G15 l0 = 12 ∧ gcl G15 (gfd G15 11 2 l0) = 4 ∧ Call E M_X3_becomeVector [rv (gfd G15 11 2 l0)] G15 c16 s17 X (fun r20 G21 c22 s23 => ((0 ≤ r14 → V E M_X11_ask 73 [some (rv l0), none, some (rv r14), some (iv 0)] [] G21 c22 s23 Q X) ∧ (r14 = -1 → Q (-1) G21)))))) ∧ (r4 ≠ 1 → (1 ≤ c6 ∧ 6 ≤ s7 ∧ X 2 G5)))))) ∧ ((wIn l1 0 100000) = 0 → (1 ≤ c ∧ 6 ≤ s ∧ X 1 G))))) : Ok E M_X11_ask [rv l0, iv l1] G c s Q X := Ok.intro (k := 2) rfl rfl (Nat.le_of_ble_eq_true rfl) rfl (b_X11_ask_0 h)
set_option maxRecDepth 20000 in
theorem b_X11_ask_73 {E : EE} {l0 l2 l3 : Int} {G : Gt} {c s : Nat} {Q X : Int → Gt → Prop} (h : (gcl G l2 = 4 ∧ (((gfd G 3 2 l2) ≤ l3 → (gcl G l0 = 12 ∧ gcl G (gfd G 11 2 l0) = 4 ∧ Q (gfd G 3 2 (gfd G 11 2 l0)) G)) ∧ (l3 < (gfd G 3 2 l2) → (gcl G l0 = 12 ∧ gcl G l2 = 4 ∧ gcl G (gfd G 3 0 l2) = 15 ∧ 0 ≤ l3 ∧ l3 < gln G (gfd G 3 0 l2) ∧ gcl G l2 = 4 ∧ gcl G (gfd G 3 1 l2) = 16 ∧ 0 ≤ l3 ∧ l3 < gln G (gfd G 3 1 l2) ∧ gcl G (gfd G 11 2 l0) = 4 ∧ Call E M_X3_put [rv (gfd G 11 2 l0), iv (gel G (gfd G 3 0 l2) l3), jv (gel G (gfd G 3 1 l2) l3)] G c s X (fun r15 G16 c17 s18 => i32 (l3 + 1) ∧ V E M_X11_ask 73 [some (rv l0), none, some (rv l2), some (iv (l3 + 1))] [] G16 c17 s18 Q X)))))) : V E M_X11_ask 73 [some (rv l0), none, some (rv l2), some (iv l3)] [] G c s Q X := by
  refine v_iload_n (pc := 73) (dk dt_X11_ask 38 rfl) rfl rfl ?_
  refine v_aload_n (pc := 74) (dk dt_X11_ask 39 rfl) rfl rfl ?_
  obtain ⟨v1, h⟩ := h
  refine v_getI (pc := 75) (dk dt_X11_ask_1 0 rfl) fl_X11_221 v1 (fun _ => ?_)
  refine v_icmp_ge (pc := 78) (tgt := 106) (dk dt_X11_ask_1 1 rfl) (by decide) (fun c2 => ?_) (fun c2 => ?_)
  · replace h := h.1 c2
    refine v_aload_n (pc := 106) (dk dt_X11_ask_1 15 rfl) rfl rfl ?_
    obtain ⟨v3, h⟩ := h
    refine v_getR (pc := 107) (dk dt_X11_ask_1 16 rfl) fl_X11_28 v3 (fun _ => ?_)
    obtain ⟨v4, h⟩ := h
    refine v_getI (pc := 110) (dk dt_X11_ask_1 17 rfl) fl_X11_221 v4 (fun _ => ?_)
    exact v_iret (pc := 113) (dk dt_X11_ask_1 18 rfl) rfl h
  · replace h := h.2 c2
    refine v_aload_n (pc := 81) (dk dt_X11_ask_1 2 rfl) rfl rfl ?_
    obtain ⟨v5, h⟩ := h
    refine v_getR (pc := 82) (dk dt_X11_ask_1 3 rfl) fl_X11_28 v5 (fun _ => ?_)
    refine v_aload_n (pc := 85) (dk dt_X11_ask_1 4 rfl) rfl rfl ?_
    obtain ⟨v6, h⟩ := h
    refine v_getR (pc := 86) (dk dt_X11_ask_1 5 rfl) fl_X11_223 v6 (fun _ => ?_)
    refine v_iload_n (pc := 89) (dk dt_X11_ask_1 6 rfl) rfl rfl ?_
    obtain ⟨v7, h⟩ := h
    obtain ⟨v8, h⟩ := h
    obtain ⟨v9, h⟩ := h
    refine v_iald (pc := 90) (dk dt_X11_ask_1 7 rfl) (Or.inl v7) v8 v9 (fun _ => ?_)
    refine v_aload_n (pc := 91) (dk dt_X11_ask_1 8 rfl) rfl rfl ?_
    obtain ⟨v10, h⟩ := h
    refine v_getR (pc := 92) (dk dt_X11_ask_1 9 rfl) fl_X11_225 v10 (fun _ => ?_)
    refine v_iload_n (pc := 95) (dk dt_X11_ask_1 10 rfl) rfl rfl ?_
    obtain ⟨v11, h⟩ := h
    obtain ⟨v12, h⟩ := h
    obtain ⟨v13, h⟩ := h
    refine v_lald (pc := 96) (dk dt_X11_ask_1 11 rfl) v11 v12 v13 (fun _ => ?_)
    obtain ⟨v14, h⟩ := h
    refine v_cvV (c := 3) (As := [iv (gel G (gfd G 3 0 l2) l3), jv (gel G (gfd G 3 1 l2) l3)]) (stk := []) (pc := 97) (dk dt_X11_ask_1 12 rfl) ml_X11_229 rfl rfl (Nat.le_of_ble_eq_true rfl) rfl ⟨by decide, rfl⟩ v14 rfl (Call.mono h (fun r15 G16 c17 s18 h => ?_))
    obtain ⟨v19, h⟩ := h
    refine v_iinc (pc := 100) (ls' := [some (rv l0), none, some (rv l2), some (iv (l3 + 1))]) (dk dt_X11_ask_1 13 rfl) (Nat.le_of_ble_eq_true rfl) rfl v19 rfl ?_
    refine v_goto (pc := 103) (tgt := 73) (dk dt_X11_ask_1 14 rfl) (by decide) ?_
    exact h
set_option maxRecDepth 20000 in
theorem b_X11_value_0 {E : EE} {l0 l1 : Int} {G : Gt} {c s : Nat} {Q X : Int → Gt → Prop} (h : (gcl G l0 = 12 ∧ gcl G (gfd G 11 2 l0) = 4 ∧ i32 ((gfd G 3 2 (gfd G 11 2 l0)) - 1) ∧ OkP E M_X11_isWithin [iv l1, iv 0, iv ((gfd G 3 2 (gfd G 11 2 l0)) - 1)] G (wIn l1 0 ((gfd G 3 2 (gfd G 11 2 l0)) - 1)) ∧ (((wIn l1 0 ((gfd G 3 2 (gfd G 11 2 l0)) - 1)) ≠ 0 → (gcl G l0 = 12 ∧ gcl G (gfd G 11 2 l0) = 4 ∧ gcl G (gfd G 3 1 (gfd G 11 2 l0)) = 16 ∧ 0 ≤ l1 ∧ l1 < gln G (gfd G 3 1 (gfd G 11 2 l0)) ∧ Q (gel G (gfd G 3 1 (gfd G 11 2 l0)) l1) G)) ∧ ((wIn l1 0 ((gfd G 3 2 (gfd G 11 2 l0)) - 1)) = 0 → (1 ≤ c ∧ 6 ≤ s ∧ X 3 G))))) : V E M_X11_value 0 [some (rv l0), some (iv l1)] [] G c s Q X := by
  refine v_iload_n (pc := 0) (dk dt_X11_value 0 rfl) rfl rfl ?_
  refine v_iconst (pc := 1) (dk dt_X11_value 1 rfl) ⟨by decide, by decide⟩ ?_
  refine v_aload_n (pc := 2) (dk dt_X11_value 2 rfl) rfl rfl ?_
  obtain ⟨v1, h⟩ := h
  refine v_getR (pc := 3) (dk dt_X11_value 3 rfl) fl_X11_28 v1 (fun _ => ?_)
  obtain ⟨v2, h⟩ := h
  refine v_getI (pc := 6) (dk dt_X11_value 4 rfl) fl_X11_221 v2 (fun _ => ?_)
  refine v_iconst (pc := 9) (dk dt_X11_value 5 rfl) ⟨by decide, by decide⟩ ?_
  obtain ⟨v3, h⟩ := h
  refine v_isub (pc := 10) (dk dt_X11_value 6 rfl) v3 ?_
  obtain ⟨v4, h⟩ := h
  refine v_csPZ (v := (wIn l1 0 ((gfd G 3 2 (gfd G 11 2 l0)) - 1))) (As := [iv l1, iv 0, iv ((gfd G 3 2 (gfd G 11 2 l0)) - 1)]) (stk := []) (pc := 11) (dk dt_X11_value 7 rfl) ml_X11_85 rfl rfl (Nat.le_of_ble_eq_true rfl) rfl rfl v4 ?_
  refine v_if_ne (pc := 14) (tgt := 27) (dk dt_X11_value 8 rfl) (by decide) (fun c5 => ?_) (fun c5 => ?_)
  · replace h := h.1 c5
    refine v_aload_n (pc := 27) (dk dt_X11_value 14 rfl) rfl rfl ?_
    obtain ⟨v6, h⟩ := h
    refine v_getR (pc := 28) (dk dt_X11_value 15 rfl) fl_X11_28 v6 (fun _ => ?_)
    obtain ⟨v7, h⟩ := h
    refine v_getR (pc := 31) (dk dt_X11_value 16 rfl) fl_X11_225 v7 (fun _ => ?_)
    refine v_iload_n (pc := 34) (dk dt_X11_value 17 rfl) rfl rfl ?_
    obtain ⟨v8, h⟩ := h
    obtain ⟨v9, h⟩ := h
    obtain ⟨v10, h⟩ := h
    refine v_lald (pc := 35) (dk dt_X11_value 18 rfl) v8 v9 v10 (fun _ => ?_)
    exact v_lret (pc := 36) (dk dt_X11_value 19 rfl) rfl h
  · replace h := h.2 c5
    obtain ⟨v11, h⟩ := h
    obtain ⟨v12, h⟩ := h
    exact v_throw (pc := 17) (text := "no such entry") 3 rfl (Or.inr (Or.inr rfl)) (by decide +kernel) rfl (Nat.le_of_ble_eq_true rfl) (Nat.le_of_ble_eq_true rfl) (Nat.le_of_ble_eq_true rfl) (dk dt_X11_value 9 rfl) (dk dt_X11_value 10 rfl) (dk dt_X11_value 11 rfl) (dk dt_X11_value 12 rfl) (dk dt_X11_value 13 rfl) v11 v12 h
set_option maxRecDepth 20000 in
theorem i_X11_value {E : EE} {l0 l1 : Int} {G : Gt} {c s : Nat} {Q X : Int → Gt → Prop} (h : (gcl G l0 = 12 ∧ gcl G (gfd G 11 2 l0) = 4 ∧ i32 ((gfd G 3 2 (gfd G 11 2 l0)) - 1) ∧ OkP E M_X11_isWithin [iv l1, iv 0, iv ((gfd G 3 2 (gfd G 11 2 l0)) - 1)] G (wIn l1 0 ((gfd G 3 2 (gfd G 11 2 l0)) - 1)) ∧ (((wIn l1 0 ((gfd G 3 2 (gfd G 11 2 l0)) - 1)) ≠ 0 → (gcl G l0 = 12 ∧ gcl G (gfd G 11 2 l0) = 4 ∧ gcl G (gfd G 3 1 (gfd G 11 2 l0)) = 16 ∧ 0 ≤ l1 ∧ l1 < gln G (gfd G 3 1 (gfd G 11 2 l0)) ∧ Q (gel G (gfd G 3 1 (gfd G 11 2 l0)) l1) G)) ∧ ((wIn l1 0 ((gfd G 3 2 (gfd G 11 2 l0)) - 1)) = 0 → (1 ≤ c ∧ 6 ≤ s ∧ X 3 G))))) : Ok E M_X11_value [rv l0, iv l1] G c s Q X := Ok.intro (k := 0) rfl rfl (Nat.le_of_ble_eq_true rfl) rfl (b_X11_value_0 h)
set_option maxRecDepth 20000 in
theorem b_X11_labelsOf_0 {E : EE} {l0 l1 : Int} {G : Gt} {c s : Nat} {Q X : Int → Gt → Prop} (h : (gcl G l0 = 12 ∧ gcl G (gfd G 11 2 l0) = 4 ∧ i32 ((gfd G 3 2 (gfd G 11 2 l0)) - 1) ∧ OkP E M_X11_isWithin [iv l1, iv 0, iv ((gfd G 3 2 (gfd G 11 2 l0)) - 1)] G (wIn l1 0 ((gfd G 3 2 (gfd G 11 2 l0)) - 1)) ∧ (((wIn l1 0 ((gfd G 3 2 (gfd G 11 2 l0)) - 1)) ≠ 0 → (gcl G l0 = 12 ∧ gcl G (gfd G 11 2 l0) = 4 ∧ gcl G (gfd G 3 0 (gfd G 11 2 l0)) = 15 ∧ 0 ≤ l1 ∧ l1 < gln G (gfd G 3 0 (gfd G 11 2 l0)) ∧ Q (gel G (gfd G 3 0 (gfd G 11 2 l0)) l1) G)) ∧ ((wIn l1 0 ((gfd G 3 2 (gfd G 11 2 l0)) - 1)) = 0 → (1 ≤ c ∧ 6 ≤ s ∧ X 3 G))))) : V E M_X11_labelsOf 0 [some (rv l0), some (iv l1)] [] G c s Q X := by
  refine v_iload_n (pc := 0) (dk dt_X11_labelsOf 0 rfl) rfl rfl ?_
  refine v_iconst (pc := 1) (dk dt_X11_labelsOf 1 rfl) ⟨by decide, by decide⟩ ?_
  refine v_aload_n (pc := 2) (dk dt_X11_labelsOf 2 rfl) rfl rfl ?_
  obtain ⟨v1, h⟩ := h
  refine v_getR (pc := 3) (dk dt_X11_labelsOf 3 rfl) fl_X11_28 v1 (fun _ => ?_)
  obtain ⟨v2, h⟩ := h
  refine v_getI (pc := 6) (dk dt_X11_labelsOf 4 rfl) fl_X11_221 v2 (fun _ => ?_)
  refine v_iconst (pc := 9) (dk dt_X11_labelsOf 5 rfl) ⟨by decide, by decide⟩ ?_
  obtain ⟨v3, h⟩ := h
  refine v_isub (pc := 10) (dk dt_X11_labelsOf 6 rfl) v3 ?_
  obtain ⟨v4, h⟩ := h
  refine v_csPZ (v := (wIn l1 0 ((gfd G 3 2 (gfd G 11 2 l0)) - 1))) (As := [iv l1, iv 0, iv ((gfd G 3 2 (gfd G 11 2 l0)) - 1)]) (stk := []) (pc := 11) (dk dt_X11_labelsOf 7 rfl) ml_X11_85 rfl rfl (Nat.le_of_ble_eq_true rfl) rfl rfl v4 ?_
  refine v_if_ne (pc := 14) (tgt := 27) (dk dt_X11_labelsOf 8 rfl) (by decide) (fun c5 => ?_) (fun c5 => ?_)
  · replace h := h.1 c5
    refine v_aload_n (pc := 27) (dk dt_X11_labelsOf 14 rfl) rfl rfl ?_
    obtain ⟨v6, h⟩ := h
    refine v_getR (pc := 28) (dk dt_X11_labelsOf 15 rfl) fl_X11_28 v6 (fun _ => ?_)
    obtain ⟨v7, h⟩ := h
    refine v_getR (pc := 31) (dk dt_X11_labelsOf 16 rfl) fl_X11_223 v7 (fun _ => ?_)
    refine v_iload_n (pc := 34) (dk dt_X11_labelsOf 17 rfl) rfl rfl ?_
    obtain ⟨v8, h⟩ := h
    obtain ⟨v9, h⟩ := h
    obtain ⟨v10, h⟩ := h
    refine v_iald (pc := 35) (dk dt_X11_labelsOf 18 rfl) (Or.inl v8) v9 v10 (fun _ => ?_)
    exact v_iret (pc := 36) (dk dt_X11_labelsOf 19 rfl) rfl h
  · replace h := h.2 c5
    obtain ⟨v11, h⟩ := h
    obtain ⟨v12, h⟩ := h
    exact v_throw (pc := 17) (text := "no such entry") 3 rfl (Or.inr (Or.inr rfl)) (by decide +kernel) rfl (Nat.le_of_ble_eq_true rfl) (Nat.le_of_ble_eq_true rfl) (Nat.le_of_ble_eq_true rfl) (dk dt_X11_labelsOf 9 rfl) (dk dt_X11_labelsOf 10 rfl) (dk dt_X11_labelsOf 11 rfl) (dk dt_X11_labelsOf 12 rfl) (dk dt_X11_labelsOf 13 rfl) v11 v12 h
set_option maxRecDepth 20000 in
theorem i_X11_labelsOf {E : EE} {l0 l1 : Int} {G : Gt} {c s : Nat} {Q X : Int → Gt → Prop} (h : (gcl G l0 = 12 ∧ gcl G (gfd G 11 2 l0) = 4 ∧ i32 ((gfd G 3 2 (gfd G 11 2 l0)) - 1) ∧ OkP E M_X11_isWithin [iv l1, iv 0, iv ((gfd G 3 2 (gfd G 11 2 l0)) - 1)] G (wIn l1 0 ((gfd G 3 2 (gfd G 11 2 l0)) - 1)) ∧ (((wIn l1 0 ((gfd G 3 2 (gfd G 11 2 l0)) - 1)) ≠ 0 → (gcl G l0 = 12 ∧ gcl G (gfd G 11 2 l0) = 4 ∧ gcl G (gfd G 3 0 (gfd G 11 2 l0)) = 15 ∧ 0 ≤ l1 ∧ l1 < gln G (gfd G 3 0 (gfd G 11 2 l0)) ∧ Q (gel G (gfd G 3 0 (gfd G 11 2 l0)) l1) G)) ∧ ((wIn l1 0 ((gfd G 3 2 (gfd G 11 2 l0)) - 1)) = 0 → (1 ≤ c ∧ 6 ≤ s ∧ X 3 G))))) : Ok E M_X11_labelsOf [rv l0, iv l1] G c s Q X := Ok.intro (k := 0) rfl rfl (Nat.le_of_ble_eq_true rfl) rfl (b_X11_labelsOf_0 h)
set_option maxRecDepth 20000 in
theorem b_X11_record_0 {E : EE} {l0 l1 : Int} {G : Gt} {c s : Nat} {Q X : Int → Gt → Prop} (h : (OkP E M_X11_isWithin [iv l1, iv 0, iv 5] G (wIn l1 0 5) ∧ (((wIn l1 0 5) ≠ 0 → (gcl G l0 = 12 ∧ Call E M_X11_resultsLeft [rv l0] G c s X (fun r4 G5 c6 s7 => ((r4 ≠ 1 → (1 ≤ c6 ∧ 6 ≤ s7 ∧ X 2 G5)) ∧ (r4 = 1 → (gcl G5 l0 = 12 ∧ gcl G5 (gfd G5 11 6 l0) = 14 ∧ OkP E M_A_size [rv (gfd G5 11 6 l0)] G5 (gfd G5 13 2 (gfd G5 11 6 l0)) ∧ (((gfd G5 13 2 (gfd G5 11 6 l0)) < 8 → (gcl G5 l0 = 12 ∧ Call E M_X11_addRule [rv l0, iv l1, iv 0, iv 0] G5 c6 s7 X (fun r16 G17 c18 s19 => gcl G17 l0 = 12 ∧ gcl G17 (gfd G17 11 6 l0) = 14 ∧ OkP E M_A_size [rv (gfd G17 11 6 l0)] G17 (gfd G17 13 2 (gfd G17 11 6 l0)) ∧ Q (gfd G17 13 2 (gfd G17 11 6 l0)) G17))) ∧ (8 ≤ (gfd G5 13 2 (gfd G5 11 6 l0)) → (1 ≤ c6 ∧ 6 ≤ s7 ∧ X 2 G5))))))))) ∧ ((wIn l1 0 5) = 0 → (1 ≤ c ∧ 6 ≤ s ∧ X 1 G))))) : V E M_X11_record 0 [some (rv l0), some (iv l1)] [] G c s Q X := by
  refine v_iload_n (pc := 0) (dk dt_X11_record 0 rfl) rfl rfl ?_
  refine v_iconst (pc := 1) (dk dt_X11_record 1 rfl) ⟨by decide, by decide⟩ ?_
  refine v_iconst (pc := 2) (dk dt_X11_record 2 rfl) ⟨by decide, by decide⟩ ?_
  obtain ⟨v1, h⟩ := h
  refine v_csPZ (v := (wIn l1 0 5)) (As := [iv l1, iv 0, iv 5]) (stk := []) (pc := 3) (dk dt_X11_record 3 rfl) ml_X11_85 rfl rfl (Nat.le_of_ble_eq_true rfl) rfl rfl v1 ?_
  refine v_if_ne (pc := 6) (tgt := 19) (dk dt_X11_record 4 rfl) (by decide) (fun c2 => ?_) (fun c2 => ?_)
  · replace h := h.1 c2
    refine v_aload_n (pc := 19) (dk dt_X11_record 10 rfl) rfl rfl ?_
    obtain ⟨v3, h⟩ := h
    refine v_cvI (c := 11) (As := []) (stk := []) (pc := 20) (dk dt_X11_record 11 rfl) ml_X11_188 rfl rfl (Nat.le_of_ble_eq_true rfl) rfl ⟨by decide, rfl⟩ v3 rfl (Call.mono h (fun r4 G5 c6 s7 h => ?_))
    refine v_iconst (pc := 23) (dk dt_X11_record 12 rfl) ⟨by decide, by decide⟩ ?_
    refine v_icmp_ne (pc := 24) (tgt := 39) (dk dt_X11_record 13 rfl) (by decide) (fun c8 => ?_) (fun c8 => ?_)
    · replace h := h.1 c8
      obtain ⟨v9, h⟩ := h
      obtain ⟨v10, h⟩ := h
      exact v_throw (pc := 39) (text := "not just one result, or too many rules") 2 rfl (Or.inr (Or.inl rfl)) (by decide +kernel) rfl (Nat.le_of_ble_eq_true rfl) (Nat.le_of_ble_eq_true rfl) (Nat.le_of_ble_eq_true rfl) (dk dt_X11_record 19 rfl) (dk dt_X11_record 20 rfl) (dk dt_X11_record 21 rfl) (dk dt_X11_record 22 rfl) (dk dt_X11_record 23 rfl) v9 v10 h
    · replace h := h.2 c8
      refine v_aload_n (pc := 27) (dk dt_X11_record 14 rfl) rfl rfl ?_
      obtain ⟨v11, h⟩ := h
      refine v_getR (pc := 28) (dk dt_X11_record 15 rfl) fl_X11_55 v11 (fun _ => ?_)
      obtain ⟨v12, h⟩ := h
      obtain ⟨v13, h⟩ := h
      refine v_cvPI (c := 13) (v := (gfd G5 13 2 (gfd G5 11 6 l0))) (As := []) (stk := []) (pc := 31) (dk dt_X11_record 16 rfl) ml_X11_110 rfl rfl (Nat.le_of_ble_eq_true rfl) rfl ⟨by decide, rfl⟩ v12 rfl v13 ?_
      refine v_bipush (pc := 34) (dk dt_X11_record 17 rfl) (by decide) ⟨by decide, by decide⟩ ?_
      refine v_icmp_lt (pc := 36) (tgt := 49) (dk dt_X11_record 18 rfl) (by decide) (fun c14 => ?_) (fun c14 => ?_)
      · replace h := h.1 c14
        refine v_aload_n (pc := 49) (dk dt_X11_record 24 rfl) rfl rfl ?_
        refine v_iload_n (pc := 50) (dk dt_X11_record 25 rfl) rfl rfl ?_
        refine v_iconst (pc := 51) (dk dt_X11_record 26 rfl) ⟨by decide, by decide⟩ ?_
        refine v_iconst (pc := 52) (dk dt_X11_record 27 rfl) ⟨by decide, by decide⟩ ?_
        obtain ⟨v15, h⟩ := h
        refine v_cvV (c := 11) (As := [iv l1, iv 0, iv 0]) (stk := []) (pc := 53) (dk dt_X11_record 28 rfl) ml_X11_239 rfl rfl (Nat.le_of_ble_eq_true rfl) rfl ⟨by decide, rfl⟩ v15 rfl (Call.mono h (fun r16 G17 c18 s19 h => ?_))
        refine v_aload_n (pc := 56) (dk dt_X11_record 29 rfl) rfl rfl ?_
        obtain ⟨v20, h⟩ := h
        refine v_getR (pc := 57) (dk dt_X11_record 30 rfl) fl_X11_55 v20 (fun _ => ?_)
        obtain ⟨v21, h⟩ := h
        obtain ⟨v22, h⟩ := h
        refine v_cvPI (c := 13) (v := (gfd G17 13 2 (gfd G17 11 6 l0))) (As := []) (stk := []) (pc := 60) (dk dt_X11_record 31 rfl) ml_X11_110 rfl rfl (Nat.le_of_ble_eq_true rfl) rfl ⟨by decide, rfl⟩ v21 rfl v22 ?_
        exact v_iret (pc := 63) (dk dt_X11_record 32 rfl) rfl h
      · replace h := h.2 c14
        obtain ⟨v23, h⟩ := h
        obtain ⟨v24, h⟩ := h
        exact v_throw (pc := 39) (text := "not just one result, or too many rules") 2 rfl (Or.inr (Or.inl rfl)) (by decide +kernel) rfl (Nat.le_of_ble_eq_true rfl) (Nat.le_of_ble_eq_true rfl) (Nat.le_of_ble_eq_true rfl) (dk dt_X11_record 19 rfl) (dk dt_X11_record 20 rfl) (dk dt_X11_record 21 rfl) (dk dt_X11_record 22 rfl) (dk dt_X11_record 23 rfl) v23 v24 h
  · replace h := h.2 c2
    obtain ⟨v25, h⟩ := h
    obtain ⟨v26, h⟩ := h
    exact v_throw (pc := 9) (text := "two is out of range") 1 rfl (Or.inl rfl) (by decide +kernel) rfl (Nat.le_of_ble_eq_true rfl) (Nat.le_of_ble_eq_true rfl) (Nat.le_of_ble_eq_true rfl) (dk dt_X11_record 5 rfl) (dk dt_X11_record 6 rfl) (dk dt_X11_record 7 rfl) (dk dt_X11_record 8 rfl) (dk dt_X11_record 9 rfl) v25 v26 h
set_option maxRecDepth 20000 in
theorem i_X11_record {E : EE} {l0 l1 : Int} {G : Gt} {c s : Nat} {Q X : Int → Gt → Prop} (h : (OkP E M_X11_isWithin [iv l1, iv 0, iv 5] G (wIn l1 0 5) ∧ (((wIn l1 0 5) ≠ 0 → (gcl G l0 = 12 ∧ Call E M_X11_resultsLeft [rv l0] G c s X (fun r4 G5 c6 s7 => ((r4 ≠ 1 → (1 ≤ c6 ∧ 6 ≤ s7 ∧ X 2 G5)) ∧ (r4 = 1 → (gcl G5 l0 = 12 ∧ gcl G5 (gfd G5 11 6 l0) = 14 ∧ OkP E M_A_size [rv (gfd G5 11 6 l0)] G5 (gfd G5 13 2 (gfd G5 11 6 l0)) ∧ (((gfd G5 13 2 (gfd G5 11 6 l0)) < 8 → (gcl G5 l0 = 12 ∧ Call E M_X11_addRule [rv l0, iv l1, iv 0, iv 0] G5 c6 s7 X (fun r16 G17 c18 s19 => gcl G17 l0 = 12 ∧ gcl G17 (gfd G17 11 6 l0) = 14 ∧ OkP E M_A_size [rv (gfd G17 11 6 l0)] G17 (gfd G17 13 2 (gfd G17 11 6 l0)) ∧ Q (gfd G17 13 2 (gfd G17 11 6 l0)) G17))) ∧ (8 ≤ (gfd G5 13 2 (gfd G5 11 6 l0)) → (1 ≤ c6 ∧ 6 ≤ s7 ∧ X 2 G5))))))))) ∧ ((wIn l1 0 5) = 0 → (1 ≤ c ∧ 6 ≤ s ∧ X 1 G))))) : Ok E M_X11_record [rv l0, iv l1] G c s Q X := Ok.intro (k := 0) rfl rfl (Nat.le_of_ble_eq_true rfl) rfl (b_X11_record_0 h)
set_option maxRecDepth 20000 in
theorem b_X11_alert_0 {E : EE} {l0 l1 l2 : Int} {G : Gt} {c s : Nat} {Q X : Int → Gt → Prop} (h : (OkP E M_X11_isWithin [iv l1, iv 0, iv 1000] G (wIn l1 0 1000) ∧ (((wIn l1 0 1000) = 0 → (1 ≤ c ∧ 6 ≤ s ∧ X 1 G)) ∧ ((wIn l1 0 1000) ≠ 0 → (OkP E M_X11_isWithin [iv l2, iv 0, iv 1000] G (wIn l2 0 1000) ∧ (((wIn l2 0 1000) ≠ 0 → (gcl G l0 = 12 ∧ Call E M_X11_resultsLeft [rv l0] G c s X (fun r8 G9 c10 s11 => ((r8 ≠ 1 → (1 ≤ c10 ∧ 6 ≤ s11 ∧ X 2 G9)) ∧ (r8 = 1 → (gcl G9 l0 = 12 ∧ gcl G9 (gfd G9 11 6 l0) = 14 ∧ OkP E M_A_size [rv (gfd G9 11 6 l0)] G9 (gfd G9 13 2 (gfd G9 11 6 l0)) ∧ (((gfd G9 13 2 (gfd G9 11 6 l0)) < 8 → (gcl G9 l0 = 12 ∧ Call E M_X11_addRule [rv l0, iv (-1), iv l1, iv l2] G9 c10 s11 X (fun r20 G21 c22 s23 => gcl G21 l0 = 12 ∧ gcl G21 (gfd G21 11 6 l0) = 14 ∧ OkP E M_A_size [rv (gfd G21 11 6 l0)] G21 (gfd G21 13 2 (gfd G21 11 6 l0)) ∧ i32 ((gfd G21 13 2 (gfd G21 11 6 l0)) - 1) ∧ Q ((gfd G21 13 2 (gfd G21 11 6 l0)) - 1) G21))) ∧ (8 ≤ (gfd G9 13 2 (gfd G9 11 6 l0)) → (1 ≤ c10 ∧ 6 ≤ s11 ∧ X 2 G9))))))))) ∧ ((wIn l2 0 1000) = 0 → (1 ≤ c ∧ 6 ≤ s ∧ X 1 G)))))))) : V E M_X11_alert 0 [some (rv l0), some (iv l1), some (iv l2)] [] G c s Q X := by
  refine v_iload_n (pc := 0) (dk dt_X11_alert 0 rfl) rfl rfl ?_
  refine v_iconst (pc := 1) (dk dt_X11_alert 1 rfl) ⟨by decide, by decide⟩ ?_
  refine v_sipush (pc := 2) (dk dt_X11_alert 2 rfl) (by decide) ⟨by decide, by decide⟩ ?_
  obtain ⟨v1, h⟩ := h
  refine v_csPZ (v := (wIn l1 0 1000)) (As := [iv l1, iv 0, iv 1000]) (stk := []) (pc := 5) (dk dt_X11_alert 3 rfl) ml_X11_85 rfl rfl (Nat.le_of_ble_eq_true rfl) rfl rfl v1 ?_
  refine v_if_eq (pc := 8) (tgt := 22) (dk dt_X11_alert 4 rfl) (by decide) (fun c2 => ?_) (fun c2 => ?_)
  · replace h := h.1 c2
    obtain ⟨v3, h⟩ := h
    obtain ⟨v4, h⟩ := h
    exact v_throw (pc := 22) (text := "wait or keep is out of range") 1 rfl (Or.inl rfl) (by decide +kernel) rfl (Nat.le_of_ble_eq_true rfl) (Nat.le_of_ble_eq_true rfl) (Nat.le_of_ble_eq_true rfl) (dk dt_X11_alert 10 rfl) (dk dt_X11_alert 11 rfl) (dk dt_X11_alert 12 rfl) (dk dt_X11_alert 13 rfl) (dk dt_X11_alert 14 rfl) v3 v4 h
  · replace h := h.2 c2
    refine v_iload_n (pc := 11) (dk dt_X11_alert 5 rfl) rfl rfl ?_
    refine v_iconst (pc := 12) (dk dt_X11_alert 6 rfl) ⟨by decide, by decide⟩ ?_
    refine v_sipush (pc := 13) (dk dt_X11_alert 7 rfl) (by decide) ⟨by decide, by decide⟩ ?_
    obtain ⟨v5, h⟩ := h
    refine v_csPZ (v := (wIn l2 0 1000)) (As := [iv l2, iv 0, iv 1000]) (stk := []) (pc := 16) (dk dt_X11_alert 8 rfl) ml_X11_85 rfl rfl (Nat.le_of_ble_eq_true rfl) rfl rfl v5 ?_
    refine v_if_ne (pc := 19) (tgt := 32) (dk dt_X11_alert 9 rfl) (by decide) (fun c6 => ?_) (fun c6 => ?_)
    · replace h := h.1 c6
      refine v_aload_n (pc := 32) (dk dt_X11_alert 15 rfl) rfl rfl ?_
      obtain ⟨v7, h⟩ := h
      refine v_cvI (c := 11) (As := []) (stk := []) (pc := 33) (dk dt_X11_alert 16 rfl) ml_X11_188 rfl rfl (Nat.le_of_ble_eq_true rfl) rfl ⟨by decide, rfl⟩ v7 rfl (Call.mono h (fun r8 G9 c10 s11 h => ?_))
      refine v_iconst (pc := 36) (dk dt_X11_alert 17 rfl) ⟨by decide, by decide⟩ ?_
      refine v_icmp_ne (pc := 37) (tgt := 52) (dk dt_X11_alert 18 rfl) (by decide) (fun c12 => ?_) (fun c12 => ?_)
      · replace h := h.1 c12
        obtain ⟨v13, h⟩ := h
        obtain ⟨v14, h⟩ := h
        exact v_throw (pc := 52) (text := "not just one result, or too many rules") 2 rfl (Or.inr (Or.inl rfl)) (by decide +kernel) rfl (Nat.le_of_ble_eq_true rfl) (Nat.le_of_ble_eq_true rfl) (Nat.le_of_ble_eq_true rfl) (dk dt_X11_alert 24 rfl) (dk dt_X11_alert 25 rfl) (dk dt_X11_alert 26 rfl) (dk dt_X11_alert 27 rfl) (dk dt_X11_alert 28 rfl) v13 v14 h
      · replace h := h.2 c12
        refine v_aload_n (pc := 40) (dk dt_X11_alert 19 rfl) rfl rfl ?_
        obtain ⟨v15, h⟩ := h
        refine v_getR (pc := 41) (dk dt_X11_alert 20 rfl) fl_X11_55 v15 (fun _ => ?_)
        obtain ⟨v16, h⟩ := h
        obtain ⟨v17, h⟩ := h
        refine v_cvPI (c := 13) (v := (gfd G9 13 2 (gfd G9 11 6 l0))) (As := []) (stk := []) (pc := 44) (dk dt_X11_alert 21 rfl) ml_X11_110 rfl rfl (Nat.le_of_ble_eq_true rfl) rfl ⟨by decide, rfl⟩ v16 rfl v17 ?_
        refine v_bipush (pc := 47) (dk dt_X11_alert 22 rfl) (by decide) ⟨by decide, by decide⟩ ?_
        refine v_icmp_lt (pc := 49) (tgt := 62) (dk dt_X11_alert 23 rfl) (by decide) (fun c18 => ?_) (fun c18 => ?_)
        · replace h := h.1 c18
          refine v_aload_n (pc := 62) (dk dt_X11_alert 29 rfl) rfl rfl ?_
          refine v_iconst (pc := 63) (dk dt_X11_alert 30 rfl) ⟨by decide, by decide⟩ ?_
          refine v_iload_n (pc := 64) (dk dt_X11_alert 31 rfl) rfl rfl ?_
          refine v_iload_n (pc := 65) (dk dt_X11_alert 32 rfl) rfl rfl ?_
          obtain ⟨v19, h⟩ := h
          refine v_cvV (c := 11) (As := [iv (-1), iv l1, iv l2]) (stk := []) (pc := 66) (dk dt_X11_alert 33 rfl) ml_X11_239 rfl rfl (Nat.le_of_ble_eq_true rfl) rfl ⟨by decide, rfl⟩ v19 rfl (Call.mono h (fun r20 G21 c22 s23 h => ?_))
          refine v_aload_n (pc := 69) (dk dt_X11_alert 34 rfl) rfl rfl ?_
          obtain ⟨v24, h⟩ := h
          refine v_getR (pc := 70) (dk dt_X11_alert 35 rfl) fl_X11_55 v24 (fun _ => ?_)
          obtain ⟨v25, h⟩ := h
          obtain ⟨v26, h⟩ := h
          refine v_cvPI (c := 13) (v := (gfd G21 13 2 (gfd G21 11 6 l0))) (As := []) (stk := []) (pc := 73) (dk dt_X11_alert 36 rfl) ml_X11_110 rfl rfl (Nat.le_of_ble_eq_true rfl) rfl ⟨by decide, rfl⟩ v25 rfl v26 ?_
          refine v_iconst (pc := 76) (dk dt_X11_alert 37 rfl) ⟨by decide, by decide⟩ ?_
          obtain ⟨v27, h⟩ := h
          refine v_isub (pc := 77) (dk dt_X11_alert 38 rfl) v27 ?_
          exact v_iret (pc := 78) (dk dt_X11_alert 39 rfl) rfl h
        · replace h := h.2 c18
          obtain ⟨v28, h⟩ := h
          obtain ⟨v29, h⟩ := h
          exact v_throw (pc := 52) (text := "not just one result, or too many rules") 2 rfl (Or.inr (Or.inl rfl)) (by decide +kernel) rfl (Nat.le_of_ble_eq_true rfl) (Nat.le_of_ble_eq_true rfl) (Nat.le_of_ble_eq_true rfl) (dk dt_X11_alert 24 rfl) (dk dt_X11_alert 25 rfl) (dk dt_X11_alert 26 rfl) (dk dt_X11_alert 27 rfl) (dk dt_X11_alert 28 rfl) v28 v29 h
    · replace h := h.2 c6
      obtain ⟨v30, h⟩ := h
      obtain ⟨v31, h⟩ := h
      exact v_throw (pc := 22) (text := "wait or keep is out of range") 1 rfl (Or.inl rfl) (by decide +kernel) rfl (Nat.le_of_ble_eq_true rfl) (Nat.le_of_ble_eq_true rfl) (Nat.le_of_ble_eq_true rfl) (dk dt_X11_alert 10 rfl) (dk dt_X11_alert 11 rfl) (dk dt_X11_alert 12 rfl) (dk dt_X11_alert 13 rfl) (dk dt_X11_alert 14 rfl) v30 v31 h
set_option maxRecDepth 20000 in
theorem i_X11_alert {E : EE} {l0 l1 l2 : Int} {G : Gt} {c s : Nat} {Q X : Int → Gt → Prop} (h : (OkP E M_X11_isWithin [iv l1, iv 0, iv 1000] G (wIn l1 0 1000) ∧ (((wIn l1 0 1000) = 0 → (1 ≤ c ∧ 6 ≤ s ∧ X 1 G)) ∧ ((wIn l1 0 1000) ≠ 0 → (OkP E M_X11_isWithin [iv l2, iv 0, iv 1000] G (wIn l2 0 1000) ∧ (((wIn l2 0 1000) ≠ 0 → (gcl G l0 = 12 ∧ Call E M_X11_resultsLeft [rv l0] G c s X (fun r8 G9 c10 s11 => ((r8 ≠ 1 → (1 ≤ c10 ∧ 6 ≤ s11 ∧ X 2 G9)) ∧ (r8 = 1 → (gcl G9 l0 = 12 ∧ gcl G9 (gfd G9 11 6 l0) = 14 ∧ OkP E M_A_size [rv (gfd G9 11 6 l0)] G9 (gfd G9 13 2 (gfd G9 11 6 l0)) ∧ (((gfd G9 13 2 (gfd G9 11 6 l0)) < 8 → (gcl G9 l0 = 12 ∧ Call E M_X11_addRule [rv l0, iv (-1), iv l1, iv l2] G9 c10 s11 X (fun r20 G21 c22 s23 => gcl G21 l0 = 12 ∧ gcl G21 (gfd G21 11 6 l0) = 14 ∧ OkP E M_A_size [rv (gfd G21 11 6 l0)] G21 (gfd G21 13 2 (gfd G21 11 6 l0)) ∧ i32 ((gfd G21 13 2 (gfd G21 11 6 l0)) - 1) ∧ Q ((gfd G21 13 2 (gfd G21 11 6 l0)) - 1) G21))) ∧ (8 ≤ (gfd G9 13 2 (gfd G9 11 6 l0)) → (1 ≤ c10 ∧ 6 ≤ s11 ∧ X 2 G9))))))))) ∧ ((wIn l2 0 1000) = 0 → (1 ≤ c ∧ 6 ≤ s ∧ X 1 G)))))))) : Ok E M_X11_alert [rv l0, iv l1, iv l2] G c s Q X := Ok.intro (k := 0) rfl rfl (Nat.le_of_ble_eq_true rfl) rfl (b_X11_alert_0 h)
set_option maxRecDepth 20000 in
theorem b_X11_inhibit_0 {E : EE} {l0 l1 l2 : Int} {G : Gt} {c s : Nat} {Q X : Int → Gt → Prop} (h : (gcl G l0 = 12 ∧ Call E M_X11_alertOf [rv l0, iv l1] G c s X (fun r2 G3 c4 s5 => ((l2 = (-1) → (gcl G3 r2 = 5 ∧ gcl G3 r2 = 5 ∧ ∀ G9 : Gt, G9 = (sfd G3 4 5 r2 l2) → Q (gfd G3 4 5 r2) G9)) ∧ (l2 ≠ (-1) → (gcl G3 l0 = 12 ∧ Call E M_X11_isAlert [rv l0, iv l2] G3 c4 s5 X (fun r11 G12 c13 s14 => ((r11 = 0 → (1 ≤ c13 ∧ 6 ≤ s14 ∧ X 3 G12)) ∧ (r11 ≠ 0 → ((l2 < l1 → (gcl G12 r2 = 5 ∧ gcl G12 r2 = 5 ∧ ∀ G21 : Gt, G21 = (sfd G12 4 5 r2 l2) → Q (gfd G12 4 5 r2) G21)) ∧ (l1 ≤ l2 → (1 ≤ c13 ∧ 6 ≤ s14 ∧ X 3 G12)))))))))))) : V E M_X11_inhibit 0 [some (rv l0), some (iv l1), some (iv l2), none, none] [] G c s Q X := by
  refine v_aload_n (pc := 0) (dk dt_X11_inhibit 0 rfl) rfl rfl ?_
  refine v_iload_n (pc := 1) (dk dt_X11_inhibit 1 rfl) rfl rfl ?_
  obtain ⟨v1, h⟩ := h
  refine v_cvR (c := 11) (As := [iv l1]) (stk := []) (pc := 2) (dk dt_X11_inhibit 2 rfl) ml_X11_244 rfl rfl (Nat.le_of_ble_eq_true rfl) rfl ⟨by decide, rfl⟩ v1 rfl (Call.mono h (fun r2 G3 c4 s5 h => ?_))
  refine v_astore_n (pc := 5) (ls' := [some (rv l0), some (iv l1), some (iv l2), some (rv r2), none]) (dk dt_X11_inhibit 3 rfl) rfl (Nat.le_of_ble_eq_true rfl) rfl ?_
  refine v_iload_n (pc := 6) (dk dt_X11_inhibit 4 rfl) rfl rfl ?_
  refine v_iconst (pc := 7) (dk dt_X11_inhibit 5 rfl) ⟨by decide, by decide⟩ ?_
  refine v_icmp_eq (pc := 8) (tgt := 34) (dk dt_X11_inhibit 6 rfl) (by decide) (fun c6 => ?_) (fun c6 => ?_)
  · replace h := h.1 c6
    refine v_aload_n (pc := 34) (dk dt_X11_inhibit 19 rfl) rfl rfl ?_
    obtain ⟨v7, h⟩ := h
    refine v_getI (pc := 35) (dk dt_X11_inhibit 20 rfl) fl_X11_253 v7 (fun _ => ?_)
    refine v_istore (pc := 38) (ls' := [some (rv l0), some (iv l1), some (iv l2), some (rv r2), some (iv (gfd G3 4 5 r2))]) (dk dt_X11_inhibit 21 rfl) (Nat.le_of_ble_eq_true rfl) rfl ?_
    refine v_aload_n (pc := 40) (dk dt_X11_inhibit 22 rfl) rfl rfl ?_
    refine v_iload_n (pc := 41) (dk dt_X11_inhibit 23 rfl) rfl rfl ?_
    obtain ⟨v8, h⟩ := h
    refine v_putI (pc := 42) (dk dt_X11_inhibit 24 rfl) fl_X11_253 (Or.inl rfl) v8 ?_
    generalize hG9 : (sfd G3 4 5 r2 l2) = G9
    replace h := h G9 hG9.symm
    refine v_iload (pc := 45) (dk dt_X11_inhibit 25 rfl) rfl ?_
    exact v_iret (pc := 47) (dk dt_X11_inhibit 26 rfl) rfl h
  · replace h := h.2 c6
    refine v_aload_n (pc := 11) (dk dt_X11_inhibit 7 rfl) rfl rfl ?_
    refine v_iload_n (pc := 12) (dk dt_X11_inhibit 8 rfl) rfl rfl ?_
    obtain ⟨v10, h⟩ := h
    refine v_cvZ (c := 11) (As := [iv l2]) (stk := []) (pc := 13) (dk dt_X11_inhibit 9 rfl) ml_X11_248 rfl rfl (Nat.le_of_ble_eq_true rfl) rfl ⟨by decide, rfl⟩ v10 rfl (Call.mono h (fun r11 G12 c13 s14 h => ?_))
    refine v_if_eq (pc := 16) (tgt := 24) (dk dt_X11_inhibit 10 rfl) (by decide) (fun c15 => ?_) (fun c15 => ?_)
    · replace h := h.1 c15
      obtain ⟨v16, h⟩ := h
      obtain ⟨v17, h⟩ := h
      exact v_throw (pc := 24) (text := "no such lower alert") 3 rfl (Or.inr (Or.inr rfl)) (by decide +kernel) rfl (Nat.le_of_ble_eq_true rfl) (Nat.le_of_ble_eq_true rfl) (Nat.le_of_ble_eq_true rfl) (dk dt_X11_inhibit 14 rfl) (dk dt_X11_inhibit 15 rfl) (dk dt_X11_inhibit 16 rfl) (dk dt_X11_inhibit 17 rfl) (dk dt_X11_inhibit 18 rfl) v16 v17 h
    · replace h := h.2 c15
      refine v_iload_n (pc := 19) (dk dt_X11_inhibit 11 rfl) rfl rfl ?_
      refine v_iload_n (pc := 20) (dk dt_X11_inhibit 12 rfl) rfl rfl ?_
      refine v_icmp_lt (pc := 21) (tgt := 34) (dk dt_X11_inhibit 13 rfl) (by decide) (fun c18 => ?_) (fun c18 => ?_)
      · replace h := h.1 c18
        refine v_aload_n (pc := 34) (dk dt_X11_inhibit 19 rfl) rfl rfl ?_
        obtain ⟨v19, h⟩ := h
        refine v_getI (pc := 35) (dk dt_X11_inhibit 20 rfl) fl_X11_253 v19 (fun _ => ?_)
        refine v_istore (pc := 38) (ls' := [some (rv l0), some (iv l1), some (iv l2), some (rv r2), some (iv (gfd G12 4 5 r2))]) (dk dt_X11_inhibit 21 rfl) (Nat.le_of_ble_eq_true rfl) rfl ?_
        refine v_aload_n (pc := 40) (dk dt_X11_inhibit 22 rfl) rfl rfl ?_
        refine v_iload_n (pc := 41) (dk dt_X11_inhibit 23 rfl) rfl rfl ?_
        obtain ⟨v20, h⟩ := h
        refine v_putI (pc := 42) (dk dt_X11_inhibit 24 rfl) fl_X11_253 (Or.inl rfl) v20 ?_
        generalize hG21 : (sfd G12 4 5 r2 l2) = G21
        replace h := h G21 hG21.symm
        refine v_iload (pc := 45) (dk dt_X11_inhibit 25 rfl) rfl ?_
        exact v_iret (pc := 47) (dk dt_X11_inhibit 26 rfl) rfl h
      · replace h := h.2 c18
        obtain ⟨v22, h⟩ := h
        obtain ⟨v23, h⟩ := h
        exact v_throw (pc := 24) (text := "no such lower alert") 3 rfl (Or.inr (Or.inr rfl)) (by decide +kernel) rfl (Nat.le_of_ble_eq_true rfl) (Nat.le_of_ble_eq_true rfl) (Nat.le_of_ble_eq_true rfl) (dk dt_X11_inhibit 14 rfl) (dk dt_X11_inhibit 15 rfl) (dk dt_X11_inhibit 16 rfl) (dk dt_X11_inhibit 17 rfl) (dk dt_X11_inhibit 18 rfl) v22 v23 h
set_option maxRecDepth 20000 in
theorem i_X11_inhibit {E : EE} {l0 l1 l2 : Int} {G : Gt} {c s : Nat} {Q X : Int → Gt → Prop} (h : (gcl G l0 = 12 ∧ Call E M_X11_alertOf [rv l0, iv l1] G c s X (fun r2 G3 c4 s5 => ((l2 = (-1) → (gcl G3 r2 = 5 ∧ gcl G3 r2 = 5 ∧ ∀ G9 : Gt, G9 = (sfd G3 4 5 r2 l2) → Q (gfd G3 4 5 r2) G9)) ∧ (l2 ≠ (-1) → (gcl G3 l0 = 12 ∧ Call E M_X11_isAlert [rv l0, iv l2] G3 c4 s5 X (fun r11 G12 c13 s14 => ((r11 = 0 → (1 ≤ c13 ∧ 6 ≤ s14 ∧ X 3 G12)) ∧ (r11 ≠ 0 → ((l2 < l1 → (gcl G12 r2 = 5 ∧ gcl G12 r2 = 5 ∧ ∀ G21 : Gt, G21 = (sfd G12 4 5 r2 l2) → Q (gfd G12 4 5 r2) G21)) ∧ (l1 ≤ l2 → (1 ≤ c13 ∧ 6 ≤ s14 ∧ X 3 G12)))))))))))) : Ok E M_X11_inhibit [rv l0, iv l1, iv l2] G c s Q X := Ok.intro (k := 2) rfl rfl (Nat.le_of_ble_eq_true rfl) rfl (b_X11_inhibit_0 h)
set_option maxRecDepth 20000 in
theorem b_X11_silence_0 {E : EE} {l0 l1 l2 : Int} {G : Gt} {c s : Nat} {Q X : Int → Gt → Prop} (h : (gcl G l0 = 12 ∧ Call E M_X11_selectorOf [rv l0, iv l1] G c s X (fun r2 G3 c4 s5 => OkP E M_X11_isWithin [iv l2, iv 0, iv 100000] G3 (wIn l2 0 100000) ∧ (((wIn l2 0 100000) ≠ 0 → (gcl G3 l0 = 12 ∧ gcl G3 (gfd G3 11 7 l0) = 14 ∧ OkP E M_A_size [rv (gfd G3 11 7 l0)] G3 (gfd G3 13 2 (gfd G3 11 7 l0)) ∧ gcl G3 l0 = 12 ∧ 15 ≤ gcl G3 (gfd G3 11 8 l0) ∧ (((gfd G3 13 2 (gfd G3 11 7 l0)) < (gln G3 (gfd G3 11 8 l0)) → (gcl G3 l0 = 12 ∧ gcl G3 (gfd G3 11 8 l0) = 15 ∧ 0 ≤ (gfd G3 13 2 (gfd G3 11 7 l0)) ∧ (gfd G3 13 2 (gfd G3 11 7 l0)) < gln G3 (gfd G3 11 8 l0) ∧ ∀ G18 : Gt, G18 = (sel G3 (gfd G3 11 8 l0) (gfd G3 13 2 (gfd G3 11 7 l0)) l2) → gcl G18 l0 = 12 ∧ gcl G18 (gfd G18 11 7 l0) = 14 ∧ Call E M_A_add [rv (gfd G18 11 7 l0), rv r2] G18 c4 s5 X (fun r21 G22 c23 s24 => gcl G22 l0 = 12 ∧ gcl G22 (gfd G22 11 7 l0) = 14 ∧ OkP E M_A_size [rv (gfd G22 11 7 l0)] G22 (gfd G22 13 2 (gfd G22 11 7 l0)) ∧ Q (gfd G22 13 2 (gfd G22 11 7 l0)) G22))) ∧ ((gln G3 (gfd G3 11 8 l0)) ≤ (gfd G3 13 2 (gfd G3 11 7 l0)) → (1 ≤ c4 ∧ 6 ≤ s5 ∧ X 2 G3))))) ∧ ((wIn l2 0 100000) = 0 → (1 ≤ c4 ∧ 6 ≤ s5 ∧ X 1 G3)))))) : V E M_X11_silence 0 [some (rv l0), some (iv l1), some (iv l2), none, none] [] G c s Q X := by
  refine v_aload_n (pc := 0) (dk dt_X11_silence 0 rfl) rfl rfl ?_
  refine v_iload_n (pc := 1) (dk dt_X11_silence 1 rfl) rfl rfl ?_
  obtain ⟨v1, h⟩ := h
  refine v_cvR (c := 11) (As := [iv l1]) (stk := []) (pc := 2) (dk dt_X11_silence 2 rfl) ml_X11_126 rfl rfl (Nat.le_of_ble_eq_true rfl) rfl ⟨by decide, rfl⟩ v1 rfl (Call.mono h (fun r2 G3 c4 s5 h => ?_))
  refine v_astore_n (pc := 5) (ls' := [some (rv l0), some (iv l1), some (iv l2), some (rv r2), none]) (dk dt_X11_silence 3 rfl) rfl (Nat.le_of_ble_eq_true rfl) rfl ?_
  refine v_iload_n (pc := 6) (dk dt_X11_silence 4 rfl) rfl rfl ?_
  refine v_iconst (pc := 7) (dk dt_X11_silence 5 rfl) ⟨by decide, by decide⟩ ?_
  refine v_ldc (pc := 8) (dk dt_X11_silence 6 rfl) co_X11_130 ⟨by decide, by decide⟩ ?_
  obtain ⟨v6, h⟩ := h
  refine v_csPZ (v := (wIn l2 0 100000)) (As := [iv l2, iv 0, iv 100000]) (stk := []) (pc := 10) (dk dt_X11_silence 7 rfl) ml_X11_85 rfl rfl (Nat.le_of_ble_eq_true rfl) rfl rfl v6 ?_
  refine v_if_ne (pc := 13) (tgt := 27) (dk dt_X11_silence 8 rfl) (by decide) (fun c7 => ?_) (fun c7 => ?_)
  · replace h := h.1 c7
    refine v_aload_n (pc := 27) (dk dt_X11_silence 14 rfl) rfl rfl ?_
    obtain ⟨v8, h⟩ := h
    refine v_getR (pc := 28) (dk dt_X11_silence 15 rfl) fl_X11_58 v8 (fun _ => ?_)
    obtain ⟨v9, h⟩ := h
    obtain ⟨v10, h⟩ := h
    refine v_cvPI (c := 13) (v := (gfd G3 13 2 (gfd G3 11 7 l0))) (As := []) (stk := []) (pc := 31) (dk dt_X11_silence 16 rfl) ml_X11_110 rfl rfl (Nat.le_of_ble_eq_true rfl) rfl ⟨by decide, rfl⟩ v9 rfl v10 ?_
    refine v_istore (pc := 34) (ls' := [some (rv l0), some (iv l1), some (iv l2), some (rv r2), some (iv (gfd G3 13 2 (gfd G3 11 7 l0)))]) (dk dt_X11_silence 17 rfl) (Nat.le_of_ble_eq_true rfl) rfl ?_
    refine v_iload (pc := 36) (dk dt_X11_silence 18 rfl) rfl ?_
    refine v_aload_n (pc := 38) (dk dt_X11_silence 19 rfl) rfl rfl ?_
    obtain ⟨v11, h⟩ := h
    refine v_getR (pc := 39) (dk dt_X11_silence 20 rfl) fl_X11_61 v11 (fun _ => ?_)
    obtain ⟨v12, h⟩ := h
    refine v_alen (pc := 42) (dk dt_X11_silence 21 rfl) v12 (fun _ => ?_)
    refine v_icmp_lt (pc := 43) (tgt := 57) (dk dt_X11_silence 22 rfl) (by decide) (fun c13 => ?_) (fun c13 => ?_)
    · replace h := h.1 c13
      refine v_aload_n (pc := 57) (dk dt_X11_silence 28 rfl) rfl rfl ?_
      obtain ⟨v14, h⟩ := h
      refine v_getR (pc := 58) (dk dt_X11_silence 29 rfl) fl_X11_61 v14 (fun _ => ?_)
      refine v_iload (pc := 61) (dk dt_X11_silence 30 rfl) rfl ?_
      refine v_iload_n (pc := 63) (dk dt_X11_silence 31 rfl) rfl rfl ?_
      obtain ⟨v15, h⟩ := h
      obtain ⟨v16, h⟩ := h
      obtain ⟨v17, h⟩ := h
      refine v_iast (pc := 64) (dk dt_X11_silence 32 rfl) v15 v16 v17 ?_
      generalize hG18 : (sel G3 (gfd G3 11 8 l0) (gfd G3 13 2 (gfd G3 11 7 l0)) l2) = G18
      replace h := h G18 hG18.symm
      refine v_aload_n (pc := 65) (dk dt_X11_silence 33 rfl) rfl rfl ?_
      obtain ⟨v19, h⟩ := h
      refine v_getR (pc := 66) (dk dt_X11_silence 34 rfl) fl_X11_58 v19 (fun _ => ?_)
      refine v_aload_n (pc := 69) (dk dt_X11_silence 35 rfl) rfl rfl ?_
      obtain ⟨v20, h⟩ := h
      refine v_cvZ (c := 13) (As := [rv r2]) (stk := []) (pc := 70) (dk dt_X11_silence 36 rfl) ml_X11_81 rfl rfl (Nat.le_of_ble_eq_true rfl) rfl ⟨by decide, rfl⟩ v20 rfl (Call.mono h (fun r21 G22 c23 s24 h => ?_))
      refine v_pop (pc := 73) (dk dt_X11_silence 37 rfl) (by intro h9; cases h9) ?_
      refine v_aload_n (pc := 74) (dk dt_X11_silence 38 rfl) rfl rfl ?_
      obtain ⟨v25, h⟩ := h
      refine v_getR (pc := 75) (dk dt_X11_silence 39 rfl) fl_X11_58 v25 (fun _ => ?_)
      obtain ⟨v26, h⟩ := h
      obtain ⟨v27, h⟩ := h
      refine v_cvPI (c := 13) (v := (gfd G22 13 2 (gfd G22 11 7 l0))) (As := []) (stk := []) (pc := 78) (dk dt_X11_silence_1 0 rfl) ml_X11_110 rfl rfl (Nat.le_of_ble_eq_true rfl) rfl ⟨by decide, rfl⟩ v26 rfl v27 ?_
      exact v_iret (pc := 81) (dk dt_X11_silence_1 1 rfl) rfl h
    · replace h := h.2 c13
      obtain ⟨v28, h⟩ := h
      obtain ⟨v29, h⟩ := h
      exact v_throwW (pc := 46) (text := "too many silences") 2 rfl (Or.inr (Or.inl rfl)) (by decide +kernel) rfl (Nat.le_of_ble_eq_true rfl) (Nat.le_of_ble_eq_true rfl) (Nat.le_of_ble_eq_true rfl) (dk dt_X11_silence 23 rfl) (dk dt_X11_silence 24 rfl) (dk dt_X11_silence 25 rfl) (dk dt_X11_silence 26 rfl) (dk dt_X11_silence 27 rfl) v28 v29 h
  · replace h := h.2 c7
    obtain ⟨v30, h⟩ := h
    obtain ⟨v31, h⟩ := h
    exact v_throwW (pc := 16) (text := "until is out of range") 1 rfl (Or.inl rfl) (by decide +kernel) rfl (Nat.le_of_ble_eq_true rfl) (Nat.le_of_ble_eq_true rfl) (Nat.le_of_ble_eq_true rfl) (dk dt_X11_silence 9 rfl) (dk dt_X11_silence 10 rfl) (dk dt_X11_silence 11 rfl) (dk dt_X11_silence 12 rfl) (dk dt_X11_silence 13 rfl) v30 v31 h
set_option maxRecDepth 20000 in
theorem i_X11_silence {E : EE} {l0 l1 l2 : Int} {G : Gt} {c s : Nat} {Q X : Int → Gt → Prop} (h : (gcl G l0 = 12 ∧ Call E M_X11_selectorOf [rv l0, iv l1] G c s X (fun r2 G3 c4 s5 => OkP E M_X11_isWithin [iv l2, iv 0, iv 100000] G3 (wIn l2 0 100000) ∧ (((wIn l2 0 100000) ≠ 0 → (gcl G3 l0 = 12 ∧ gcl G3 (gfd G3 11 7 l0) = 14 ∧ OkP E M_A_size [rv (gfd G3 11 7 l0)] G3 (gfd G3 13 2 (gfd G3 11 7 l0)) ∧ gcl G3 l0 = 12 ∧ 15 ≤ gcl G3 (gfd G3 11 8 l0) ∧ (((gfd G3 13 2 (gfd G3 11 7 l0)) < (gln G3 (gfd G3 11 8 l0)) → (gcl G3 l0 = 12 ∧ gcl G3 (gfd G3 11 8 l0) = 15 ∧ 0 ≤ (gfd G3 13 2 (gfd G3 11 7 l0)) ∧ (gfd G3 13 2 (gfd G3 11 7 l0)) < gln G3 (gfd G3 11 8 l0) ∧ ∀ G18 : Gt, G18 = (sel G3 (gfd G3 11 8 l0) (gfd G3 13 2 (gfd G3 11 7 l0)) l2) → gcl G18 l0 = 12 ∧ gcl G18 (gfd G18 11 7 l0) = 14 ∧ Call E M_A_add [rv (gfd G18 11 7 l0), rv r2] G18 c4 s5 X (fun r21 G22 c23 s24 => gcl G22 l0 = 12 ∧ gcl G22 (gfd G22 11 7 l0) = 14 ∧ OkP E M_A_size [rv (gfd G22 11 7 l0)] G22 (gfd G22 13 2 (gfd G22 11 7 l0)) ∧ Q (gfd G22 13 2 (gfd G22 11 7 l0)) G22))) ∧ ((gln G3 (gfd G3 11 8 l0)) ≤ (gfd G3 13 2 (gfd G3 11 7 l0)) → (1 ≤ c4 ∧ 6 ≤ s5 ∧ X 2 G3))))) ∧ ((wIn l2 0 100000) = 0 → (1 ≤ c4 ∧ 6 ≤ s5 ∧ X 1 G3)))))) : Ok E M_X11_silence [rv l0, iv l1, iv l2] G c s Q X := Ok.intro (k := 2) rfl rfl (Nat.le_of_ble_eq_true rfl) rfl (b_X11_silence_0 h)
set_option maxRecDepth 20000 in
theorem b_X11_entries_0 {E : EE} {l0 l1 l2 : Int} {G : Gt} {c s : Nat} {Q X : Int → Gt → Prop} (h : (gcl G l0 = 12 ∧ Call E M_X11_alertOf [rv l0, iv l1] G c s X (fun r2 G3 c4 s5 => gcl G3 r2 = 5 ∧ V E M_X11_entries 15 [none, none, some (iv l2), some (rv (gfd G3 4 4 r2)), some (iv 0), some (iv 0)] [] G3 c4 s5 Q X))) : V E M_X11_entries 0 [some (rv l0), some (iv l1), some (iv l2), none, none, none] [] G c s Q X := by
  refine v_aload_n (pc := 0) (dk dt_X11_entries 0 rfl) rfl rfl ?_
  refine v_iload_n (pc := 1) (dk dt_X11_entries 1 rfl) rfl rfl ?_
  obtain ⟨v1, h⟩ := h
  refine v_cvR (c := 11) (As := [iv l1]) (stk := []) (pc := 2) (dk dt_X11_entries 2 rfl) ml_X11_244 rfl rfl (Nat.le_of_ble_eq_true rfl) rfl ⟨by decide, rfl⟩ v1 rfl (Call.mono h (fun r2 G3 c4 s5 h => ?_))
  obtain ⟨v6, h⟩ := h
  refine v_getR (pc := 5) (dk dt_X11_entries 3 rfl) fl_X11_262 v6 (fun _ => ?_)
  refine v_astore_n (pc := 8) (ls' := [some (rv l0), some (iv l1), some (iv l2), some (rv (gfd G3 4 4 r2)), none, none]) (dk dt_X11_entries 4 rfl) rfl (Nat.le_of_ble_eq_true rfl) rfl ?_
  refine v_iconst (pc := 9) (dk dt_X11_entries 5 rfl) ⟨by decide, by decide⟩ ?_
  refine v_istore (pc := 10) (ls' := [some (rv l0), some (iv l1), some (iv l2), some (rv (gfd G3 4 4 r2)), some (iv 0), none]) (dk dt_X11_entries 6 rfl) (Nat.le_of_ble_eq_true rfl) rfl ?_
  refine v_iconst (pc := 12) (dk dt_X11_entries 7 rfl) ⟨by decide, by decide⟩ ?_
  refine v_istore (pc := 13) (ls' := [some (rv l0), some (iv l1), some (iv l2), some (rv (gfd G3 4 4 r2)), some (iv 0), some (iv 0)]) (dk dt_X11_entries 8 rfl) (Nat.le_of_ble_eq_true rfl) rfl ?_
  exact v_less2 (ls' := [none, none, some (iv l2), some (rv (gfd G3 4 4 r2)), some (iv 0), some (iv 0)]) ⟨rfl, rfl, rfl, rfl, trivial⟩ h
set_option maxRecDepth 20000 in
theorem i_X11_entries {E : EE} {l0 l1 l2 : Int} {G : Gt} {c s : Nat} {Q X : Int → Gt → Prop} (h : (gcl G l0 = 12 ∧ Call E M_X11_alertOf [rv l0, iv l1] G c s X (fun r2 G3 c4 s5 => gcl G3 r2 = 5 ∧ V E M_X11_entries 15 [none, none, some (iv l2), some (rv (gfd G3 4 4 r2)), some (iv 0), some (iv 0)] [] G3 c4 s5 Q X))) : Ok E M_X11_entries [rv l0, iv l1, iv l2] G c s Q X := Ok.intro (k := 3) rfl rfl (Nat.le_of_ble_eq_true rfl) rfl (b_X11_entries_0 h)
set_option maxRecDepth 20000 in
theorem b_X11_entries_15 {E : EE} {l2 l3 l4 l5 : Int} {G : Gt} {c s : Nat} {Q X : Int → Gt → Prop} (h : (gcl G l3 = 14 ∧ OkP E M_A_size [rv l3] G (gfd G 13 2 l3) ∧ (((gfd G 13 2 l3) ≤ l5 → Q l4 G) ∧ (l5 < (gfd G 13 2 l3) → ((l2 = 0 → i32 (l4 + 1)) ∧ (l2 ≠ 0 → gcl G l3 = 14) ∧ (l2 ≠ 0 → OkP E M_A_get [rv l3, iv l5] G (alAt G l3 l5)) ∧ (l2 ≠ 0 → (alAt G l3 l5) = -1 ∨ gcl G (alAt G l3 l5) = 1) ∧ (l2 ≠ 0 → gcl G (alAt G l3 l5) = 1) ∧ (l2 ≠ 0 → (gfd G 0 1 (alAt G l3 l5)) ≠ 0 → i32 (l4 + 1)) ∧ i32 (l5 + 1) ∧ V E M_X11_entries 15 [none, none, some (iv l2), some (rv l3), some (iv (if l2 = 0 then ((l4 + 1) : Int) else (if (gfd G 0 1 (alAt G l3 l5)) = 0 then (l4 : Int) else (l4 + 1)))), some (iv (l5 + 1))] [] G c s Q X))))) : V E M_X11_entries 15 [none, none, some (iv l2), some (rv l3), some (iv l4), some (iv l5)] [] G c s Q X := by
  refine v_iload (pc := 15) (dk dt_X11_entries 9 rfl) rfl ?_
  refine v_aload_n (pc := 17) (dk dt_X11_entries 10 rfl) rfl rfl ?_
  obtain ⟨v1, h⟩ := h
  obtain ⟨v2, h⟩ := h
  refine v_cvPI (c := 13) (v := (gfd G 13 2 l3)) (As := []) (stk := [iv l5]) (pc := 18) (dk dt_X11_entries 11 rfl) ml_X11_110 rfl rfl (Nat.le_of_ble_eq_true rfl) rfl ⟨by decide, rfl⟩ v1 rfl v2 ?_
  refine v_icmp_ge (pc := 21) (tgt := 52) (dk dt_X11_entries 12 rfl) (by decide) (fun c3 => ?_) (fun c3 => ?_)
  · replace h := h.1 c3
    refine v_iload (pc := 52) (dk dt_X11_entries 24 rfl) rfl ?_
    exact v_iret (pc := 54) (dk dt_X11_entries 25 rfl) rfl h
  · replace h := h.2 c3
    refine v_iload_n (pc := 24) (dk dt_X11_entries 13 rfl) rfl rfl ?_
    obtain ⟨v5, v6, v7, v8, v9, v11, h⟩ := h
    suffices k13 : V E M_X11_entries 46 [none, none, some (iv l2), some (rv l3), some (iv (if l2 = 0 then ((l4 + 1) : Int) else (if (gfd G 0 1 (alAt G l3 l5)) = 0 then (l4 : Int) else (l4 + 1)))), some (iv l5)] [] G c s Q X by
      refine v_if_eq (pc := 25) (tgt := 43) (dk dt_X11_entries 14 rfl) (by decide) (fun c4 => ?_) (fun c4 => ?_)
      · refine v_iinc (pc := 43) (ls' := [none, none, some (iv l2), some (rv l3), some (iv (l4 + 1)), some (iv l5)]) (dk dt_X11_entries 21 rfl) (Nat.le_of_ble_eq_true rfl) rfl (v5 c4) rfl ?_
        exact v_less2 (ls' := [none, none, some (iv l2), some (rv l3), some (iv (l4 + 1)), some (iv l5)]) ⟨rfl, rfl, rfl, rfl, trivial⟩ (by have hk9 := k13; try simp only [if_pos c4] at hk9 ⊢; exact hk9)
      · refine v_aload_n (pc := 28) (dk dt_X11_entries 15 rfl) rfl rfl ?_
        refine v_iload (pc := 29) (dk dt_X11_entries 16 rfl) rfl ?_
        refine v_cvPR (c := 13) (v := (alAt G l3 l5)) (As := [iv l5]) (stk := []) (pc := 31) (dk dt_X11_entries 17 rfl) ml_X11_202 rfl rfl (Nat.le_of_ble_eq_true rfl) rfl ⟨by decide, rfl⟩ (v6 c4) rfl (v7 c4) ?_
        refine v_cast (c := 0) (pc := 34) (dk dt_X11_entries 18 rfl) (by decide) cl_X11_265 (v8 c4) ?_
        refine v_getZ (pc := 37) (dk dt_X11_entries 19 rfl) fl_X11_267 (v9 c4) (fun _ => ?_)
        refine v_if_eq (pc := 40) (tgt := 46) (dk dt_X11_entries 20 rfl) (by decide) (fun c10 => ?_) (fun c10 => ?_)
        · exact v_less2 (ls' := [none, none, some (iv l2), some (rv l3), some (iv l4), some (iv l5)]) ⟨rfl, rfl, rfl, rfl, trivial⟩ (by have hk9 := k13; try simp only [if_neg c4] at hk9 ⊢; try simp only [if_pos c10] at hk9 ⊢; exact hk9)
        · refine v_iinc (pc := 43) (ls' := [none, none, some (iv l2), some (rv l3), some (iv (l4 + 1)), some (iv l5)]) (dk dt_X11_entries 21 rfl) (Nat.le_of_ble_eq_true rfl) rfl (v11 c4 c10) rfl ?_
          exact v_less2 (ls' := [none, none, some (iv l2), some (rv l3), some (iv (l4 + 1)), some (iv l5)]) ⟨rfl, rfl, rfl, rfl, trivial⟩ (by have hk9 := k13; try simp only [if_neg c4] at hk9 ⊢; try simp only [if_neg c10] at hk9 ⊢; exact hk9)
    obtain ⟨v12, h⟩ := h
    refine v_iinc (pc := 46) (ls' := [none, none, some (iv l2), some (rv l3), some (iv (if l2 = 0 then ((l4 + 1) : Int) else (if (gfd G 0 1 (alAt G l3 l5)) = 0 then (l4 : Int) else (l4 + 1)))), some (iv (l5 + 1))]) (dk dt_X11_entries 22 rfl) (Nat.le_of_ble_eq_true rfl) rfl v12 rfl ?_
    refine v_goto (pc := 49) (tgt := 15) (dk dt_X11_entries 23 rfl) (by decide) ?_
    exact h
set_option maxRecDepth 20000 in
theorem b_X11_entry_0 {E : EE} {l0 l1 l2 l3 : Int} {G : Gt} {c s : Nat} {Q X : Int → Gt → Prop} (h : (gcl G l0 = 12 ∧ Call E M_X11_alertOf [rv l0, iv l1] G c s X (fun r2 G3 c4 s5 => gcl G3 r2 = 5 ∧ gcl G3 (gfd G3 4 4 r2) = 14 ∧ OkP E M_A_size [rv (gfd G3 4 4 r2)] G3 (gfd G3 13 2 (gfd G3 4 4 r2)) ∧ i32 ((gfd G3 13 2 (gfd G3 4 4 r2)) - 1) ∧ OkP E M_X11_isWithin [iv l2, iv 0, iv ((gfd G3 13 2 (gfd G3 4 4 r2)) - 1)] G3 (wIn l2 0 ((gfd G3 13 2 (gfd G3 4 4 r2)) - 1)) ∧ (((wIn l2 0 ((gfd G3 13 2 (gfd G3 4 4 r2)) - 1)) ≠ 0 → (OkP E M_X11_isWithin [iv l3, iv 0, iv 3] G3 (wIn l3 0 3) ∧ (((wIn l3 0 3) ≠ 0 → (gcl G3 (gfd G3 4 4 r2) = 14 ∧ OkP E M_A_get [rv (gfd G3 4 4 r2), iv l2] G3 (alAt G3 (gfd G3 4 4 r2) l2) ∧ ((alAt G3 (gfd G3 4 4 r2) l2) = -1 ∨ gcl G3 (alAt G3 (gfd G3 4 4 r2) l2) = 1) ∧ gcl G3 (alAt G3 (gfd G3 4 4 r2) l2) = 1 ∧ Call E M_X0_tell [rv (alAt G3 (gfd G3 4 4 r2) l2), iv l3] G3 c4 s5 X (fun r18 G19 c20 s21 => Q r18 G19))) ∧ ((wIn l3 0 3) = 0 → (1 ≤ c4 ∧ 6 ≤ s5 ∧ X 1 G3))))) ∧ ((wIn l2 0 ((gfd G3 13 2 (gfd G3 4 4 r2)) - 1)) = 0 → (1 ≤ c4 ∧ 6 ≤ s5 ∧ X 3 G3)))))) : V E M_X11_entry 0 [some (rv l0), some (iv l1), some (iv l2), some (iv l3), none] [] G c s Q X := by
  refine v_aload_n (pc := 0) (dk dt_X11_entry 0 rfl) rfl rfl ?_
  refine v_iload_n (pc := 1) (dk dt_X11_entry 1 rfl) rfl rfl ?_
  obtain ⟨v1, h⟩ := h
  refine v_cvR (c := 11) (As := [iv l1]) (stk := []) (pc := 2) (dk dt_X11_entry 2 rfl) ml_X11_244 rfl rfl (Nat.le_of_ble_eq_true rfl) rfl ⟨by decide, rfl⟩ v1 rfl (Call.mono h (fun r2 G3 c4 s5 h => ?_))
  obtain ⟨v6, h⟩ := h
  refine v_getR (pc := 5) (dk dt_X11_entry 3 rfl) fl_X11_262 v6 (fun _ => ?_)
  refine v_astore (pc := 8) (ls' := [some (rv l0), some (iv l1), some (iv l2), some (iv l3), some (rv (gfd G3 4 4 r2))]) (dk dt_X11_entry 4 rfl) (Nat.le_of_ble_eq_true rfl) rfl ?_
  refine v_iload_n (pc := 10) (dk dt_X11_entry 5 rfl) rfl rfl ?_
  refine v_iconst (pc := 11) (dk dt_X11_entry 6 rfl) ⟨by decide, by decide⟩ ?_
  refine v_aload (pc := 12) (dk dt_X11_entry 7 rfl) rfl ?_
  obtain ⟨v7, h⟩ := h
  obtain ⟨v8, h⟩ := h
  refine v_cvPI (c := 13) (v := (gfd G3 13 2 (gfd G3 4 4 r2))) (As := []) (stk := [iv 0, iv l2]) (pc := 14) (dk dt_X11_entry 8 rfl) ml_X11_110 rfl rfl (Nat.le_of_ble_eq_true rfl) rfl ⟨by decide, rfl⟩ v7 rfl v8 ?_
  refine v_iconst (pc := 17) (dk dt_X11_entry 9 rfl) ⟨by decide, by decide⟩ ?_
  obtain ⟨v9, h⟩ := h
  refine v_isub (pc := 18) (dk dt_X11_entry 10 rfl) v9 ?_
  obtain ⟨v10, h⟩ := h
  refine v_csPZ (v := (wIn l2 0 ((gfd G3 13 2 (gfd G3 4 4 r2)) - 1))) (As := [iv l2, iv 0, iv ((gfd G3 13 2 (gfd G3 4 4 r2)) - 1)]) (stk := []) (pc := 19) (dk dt_X11_entry 11 rfl) ml_X11_85 rfl rfl (Nat.le_of_ble_eq_true rfl) rfl rfl v10 ?_
  refine v_if_ne (pc := 22) (tgt := 35) (dk dt_X11_entry 12 rfl) (by decide) (fun c11 => ?_) (fun c11 => ?_)
  · replace h := h.1 c11
    refine v_iload_n (pc := 35) (dk dt_X11_entry 18 rfl) rfl rfl ?_
    refine v_iconst (pc := 36) (dk dt_X11_entry 19 rfl) ⟨by decide, by decide⟩ ?_
    refine v_iconst (pc := 37) (dk dt_X11_entry 20 rfl) ⟨by decide, by decide⟩ ?_
    obtain ⟨v12, h⟩ := h
    refine v_csPZ (v := (wIn l3 0 3)) (As := [iv l3, iv 0, iv 3]) (stk := []) (pc := 38) (dk dt_X11_entry 21 rfl) ml_X11_85 rfl rfl (Nat.le_of_ble_eq_true rfl) rfl rfl v12 ?_
    refine v_if_ne (pc := 41) (tgt := 55) (dk dt_X11_entry 22 rfl) (by decide) (fun c13 => ?_) (fun c13 => ?_)
    · replace h := h.1 c13
      refine v_aload (pc := 55) (dk dt_X11_entry 28 rfl) rfl ?_
      refine v_iload_n (pc := 57) (dk dt_X11_entry 29 rfl) rfl rfl ?_
      obtain ⟨v14, h⟩ := h
      obtain ⟨v15, h⟩ := h
      refine v_cvPR (c := 13) (v := (alAt G3 (gfd G3 4 4 r2) l2)) (As := [iv l2]) (stk := []) (pc := 58) (dk dt_X11_entry 30 rfl) ml_X11_202 rfl rfl (Nat.le_of_ble_eq_true rfl) rfl ⟨by decide, rfl⟩ v14 rfl v15 ?_
      obtain ⟨v16, h⟩ := h
      refine v_cast (c := 0) (pc := 61) (dk dt_X11_entry 31 rfl) (by decide) cl_X11_265 v16 ?_
      refine v_iload_n (pc := 64) (dk dt_X11_entry 32 rfl) rfl rfl ?_
      obtain ⟨v17, h⟩ := h
      refine v_cvI (c := 0) (As := [iv l3]) (stk := []) (pc := 65) (dk dt_X11_entry 33 rfl) ml_X11_273 rfl rfl (Nat.le_of_ble_eq_true rfl) rfl ⟨by decide, rfl⟩ v17 rfl (Call.mono h (fun r18 G19 c20 s21 h => ?_))
      exact v_iret (pc := 68) (dk dt_X11_entry 34 rfl) rfl h
    · replace h := h.2 c13
      obtain ⟨v22, h⟩ := h
      obtain ⟨v23, h⟩ := h
      exact v_throwW (pc := 44) (text := "what is out of range") 1 rfl (Or.inl rfl) (by decide +kernel) rfl (Nat.le_of_ble_eq_true rfl) (Nat.le_of_ble_eq_true rfl) (Nat.le_of_ble_eq_true rfl) (dk dt_X11_entry 23 rfl) (dk dt_X11_entry 24 rfl) (dk dt_X11_entry 25 rfl) (dk dt_X11_entry 26 rfl) (dk dt_X11_entry 27 rfl) v22 v23 h
  · replace h := h.2 c11
    obtain ⟨v24, h⟩ := h
    obtain ⟨v25, h⟩ := h
    exact v_throw (pc := 25) (text := "no such entry") 3 rfl (Or.inr (Or.inr rfl)) (by decide +kernel) rfl (Nat.le_of_ble_eq_true rfl) (Nat.le_of_ble_eq_true rfl) (Nat.le_of_ble_eq_true rfl) (dk dt_X11_entry 13 rfl) (dk dt_X11_entry 14 rfl) (dk dt_X11_entry 15 rfl) (dk dt_X11_entry 16 rfl) (dk dt_X11_entry 17 rfl) v24 v25 h
set_option maxRecDepth 20000 in
theorem i_X11_entry {E : EE} {l0 l1 l2 l3 : Int} {G : Gt} {c s : Nat} {Q X : Int → Gt → Prop} (h : (gcl G l0 = 12 ∧ Call E M_X11_alertOf [rv l0, iv l1] G c s X (fun r2 G3 c4 s5 => gcl G3 r2 = 5 ∧ gcl G3 (gfd G3 4 4 r2) = 14 ∧ OkP E M_A_size [rv (gfd G3 4 4 r2)] G3 (gfd G3 13 2 (gfd G3 4 4 r2)) ∧ i32 ((gfd G3 13 2 (gfd G3 4 4 r2)) - 1) ∧ OkP E M_X11_isWithin [iv l2, iv 0, iv ((gfd G3 13 2 (gfd G3 4 4 r2)) - 1)] G3 (wIn l2 0 ((gfd G3 13 2 (gfd G3 4 4 r2)) - 1)) ∧ (((wIn l2 0 ((gfd G3 13 2 (gfd G3 4 4 r2)) - 1)) ≠ 0 → (OkP E M_X11_isWithin [iv l3, iv 0, iv 3] G3 (wIn l3 0 3) ∧ (((wIn l3 0 3) ≠ 0 → (gcl G3 (gfd G3 4 4 r2) = 14 ∧ OkP E M_A_get [rv (gfd G3 4 4 r2), iv l2] G3 (alAt G3 (gfd G3 4 4 r2) l2) ∧ ((alAt G3 (gfd G3 4 4 r2) l2) = -1 ∨ gcl G3 (alAt G3 (gfd G3 4 4 r2) l2) = 1) ∧ gcl G3 (alAt G3 (gfd G3 4 4 r2) l2) = 1 ∧ Call E M_X0_tell [rv (alAt G3 (gfd G3 4 4 r2) l2), iv l3] G3 c4 s5 X (fun r18 G19 c20 s21 => Q r18 G19))) ∧ ((wIn l3 0 3) = 0 → (1 ≤ c4 ∧ 6 ≤ s5 ∧ X 1 G3))))) ∧ ((wIn l2 0 ((gfd G3 13 2 (gfd G3 4 4 r2)) - 1)) = 0 → (1 ≤ c4 ∧ 6 ≤ s5 ∧ X 3 G3)))))) : Ok E M_X11_entry [rv l0, iv l1, iv l2, iv l3] G c s Q X := Ok.intro (k := 1) rfl rfl (Nat.le_of_ble_eq_true rfl) rfl (b_X11_entry_0 h)
set_option maxRecDepth 20000 in
theorem b_X11_notices_0 {E : EE} {l0 : Int} {G : Gt} {c s : Nat} {Q X : Int → Gt → Prop} (h : (gcl G l0 = 12 ∧ Q (gfd G 11 11 l0) G)) : V E M_X11_notices 0 [some (rv l0)] [] G c s Q X := by
  refine v_aload_n (pc := 0) (dk dt_X11_notices 0 rfl) rfl rfl ?_
  obtain ⟨v1, h⟩ := h
  refine v_getI (pc := 1) (dk dt_X11_notices 1 rfl) fl_X11_71 v1 (fun _ => ?_)
  exact v_iret (pc := 4) (dk dt_X11_notices 2 rfl) rfl h
set_option maxRecDepth 20000 in
theorem i_X11_notices {E : EE} {l0 : Int} {G : Gt} {c s : Nat} {Q X : Int → Gt → Prop} (h : (gcl G l0 = 12 ∧ Q (gfd G 11 11 l0) G)) : Ok E M_X11_notices [rv l0] G c s Q X := Ok.intro (k := 0) rfl rfl (Nat.le_of_ble_eq_true rfl) rfl (b_X11_notices_0 h)
set_option maxRecDepth 20000 in
theorem b_X11_notice_0 {E : EE} {l0 l1 l2 : Int} {G : Gt} {c s : Nat} {Q X : Int → Gt → Prop} (h : (gcl G l0 = 12 ∧ i32 ((min (gfd G 11 11 l0) 60) - 1) ∧ OkP E M_X11_isWithin [iv l1, iv 0, iv ((min (gfd G 11 11 l0) 60) - 1)] G (wIn l1 0 ((min (gfd G 11 11 l0) 60) - 1)) ∧ (((wIn l1 0 ((min (gfd G 11 11 l0) 60) - 1)) ≠ 0 → (OkP E M_X11_isWithin [iv l2, iv 0, iv 2] G (wIn l2 0 2) ∧ (((wIn l2 0 2) ≠ 0 → (gcl G l0 = 12 ∧ i32 (l1 * 3) ∧ i32 ((l1 * 3) + l2) ∧ gcl G (gfd G 11 9 l0) = 15 ∧ 0 ≤ ((l1 * 3) + l2) ∧ ((l1 * 3) + l2) < gln G (gfd G 11 9 l0) ∧ Q (gel G (gfd G 11 9 l0) ((l1 * 3) + l2)) G)) ∧ ((wIn l2 0 2) = 0 → (1 ≤ c ∧ 6 ≤ s ∧ X 1 G))))) ∧ ((wIn l1 0 ((min (gfd G 11 11 l0) 60) - 1)) = 0 → (1 ≤ c ∧ 6 ≤ s ∧ X 3 G))))) : V E M_X11_notice 0 [some (rv l0), some (iv l1), some (iv l2)] [] G c s Q X := by
  refine v_iload_n (pc := 0) (dk dt_X11_notice 0 rfl) rfl rfl ?_
  refine v_iconst (pc := 1) (dk dt_X11_notice 1 rfl) ⟨by decide, by decide⟩ ?_
  refine v_aload_n (pc := 2) (dk dt_X11_notice 2 rfl) rfl rfl ?_
  obtain ⟨v1, h⟩ := h
  refine v_getI (pc := 3) (dk dt_X11_notice 3 rfl) fl_X11_71 v1 (fun _ => ?_)
  refine v_bipush (pc := 6) (dk dt_X11_notice 4 rfl) (by decide) ⟨by decide, by decide⟩ ?_
  refine v_imin (pc := 8) (dk dt_X11_notice 5 rfl) mw_X11_276 (Nat.le_of_ble_eq_true rfl) (Nat.le_of_ble_eq_true rfl) (Nat.le_of_ble_eq_true rfl) ?_
  refine v_iconst (pc := 11) (dk dt_X11_notice 6 rfl) ⟨by decide, by decide⟩ ?_
  obtain ⟨v2, h⟩ := h
  refine v_isub (pc := 12) (dk dt_X11_notice 7 rfl) v2 ?_
  obtain ⟨v3, h⟩ := h
  refine v_csPZ (v := (wIn l1 0 ((min (gfd G 11 11 l0) 60) - 1))) (As := [iv l1, iv 0, iv ((min (gfd G 11 11 l0) 60) - 1)]) (stk := []) (pc := 13) (dk dt_X11_notice 8 rfl) ml_X11_85 rfl rfl (Nat.le_of_ble_eq_true rfl) rfl rfl v3 ?_
  refine v_if_ne (pc := 16) (tgt := 30) (dk dt_X11_notice 9 rfl) (by decide) (fun c4 => ?_) (fun c4 => ?_)
  · replace h := h.1 c4
    refine v_iload_n (pc := 30) (dk dt_X11_notice 15 rfl) rfl rfl ?_
    refine v_iconst (pc := 31) (dk dt_X11_notice 16 rfl) ⟨by decide, by decide⟩ ?_
    refine v_iconst (pc := 32) (dk dt_X11_notice 17 rfl) ⟨by decide, by decide⟩ ?_
    obtain ⟨v5, h⟩ := h
    refine v_csPZ (v := (wIn l2 0 2)) (As := [iv l2, iv 0, iv 2]) (stk := []) (pc := 33) (dk dt_X11_notice 18 rfl) ml_X11_85 rfl rfl (Nat.le_of_ble_eq_true rfl) rfl rfl v5 ?_
    refine v_if_ne (pc := 36) (tgt := 50) (dk dt_X11_notice 19 rfl) (by decide) (fun c6 => ?_) (fun c6 => ?_)
    · replace h := h.1 c6
      refine v_aload_n (pc := 50) (dk dt_X11_notice 25 rfl) rfl rfl ?_
      obtain ⟨v7, h⟩ := h
      refine v_getR (pc := 51) (dk dt_X11_notice 26 rfl) fl_X11_65 v7 (fun _ => ?_)
      refine v_iload_n (pc := 54) (dk dt_X11_notice 27 rfl) rfl rfl ?_
      refine v_iconst (pc := 55) (dk dt_X11_notice 28 rfl) ⟨by decide, by decide⟩ ?_
      obtain ⟨v8, h⟩ := h
      refine v_imul (pc := 56) (dk dt_X11_notice 29 rfl) v8 ?_
      refine v_iload_n (pc := 57) (dk dt_X11_notice 30 rfl) rfl rfl ?_
      obtain ⟨v9, h⟩ := h
      refine v_iadd (pc := 58) (dk dt_X11_notice 31 rfl) v9 ?_
      obtain ⟨v10, h⟩ := h
      obtain ⟨v11, h⟩ := h
      obtain ⟨v12, h⟩ := h
      refine v_iald (pc := 59) (dk dt_X11_notice 32 rfl) (Or.inl v10) v11 v12 (fun _ => ?_)
      exact v_iret (pc := 60) (dk dt_X11_notice 33 rfl) rfl h
    · replace h := h.2 c6
      obtain ⟨v13, h⟩ := h
      obtain ⟨v14, h⟩ := h
      exact v_throwW (pc := 39) (text := "what is out of range") 1 rfl (Or.inl rfl) (by decide +kernel) rfl (Nat.le_of_ble_eq_true rfl) (Nat.le_of_ble_eq_true rfl) (Nat.le_of_ble_eq_true rfl) (dk dt_X11_notice 20 rfl) (dk dt_X11_notice 21 rfl) (dk dt_X11_notice 22 rfl) (dk dt_X11_notice 23 rfl) (dk dt_X11_notice 24 rfl) v13 v14 h
  · replace h := h.2 c4
    obtain ⟨v15, h⟩ := h
    obtain ⟨v16, h⟩ := h
    exact v_throwW (pc := 19) (text := "no such notice") 3 rfl (Or.inr (Or.inr rfl)) (by decide +kernel) rfl (Nat.le_of_ble_eq_true rfl) (Nat.le_of_ble_eq_true rfl) (Nat.le_of_ble_eq_true rfl) (dk dt_X11_notice 10 rfl) (dk dt_X11_notice 11 rfl) (dk dt_X11_notice 12 rfl) (dk dt_X11_notice 13 rfl) (dk dt_X11_notice 14 rfl) v15 v16 h
set_option maxRecDepth 20000 in
theorem i_X11_notice {E : EE} {l0 l1 l2 : Int} {G : Gt} {c s : Nat} {Q X : Int → Gt → Prop} (h : (gcl G l0 = 12 ∧ i32 ((min (gfd G 11 11 l0) 60) - 1) ∧ OkP E M_X11_isWithin [iv l1, iv 0, iv ((min (gfd G 11 11 l0) 60) - 1)] G (wIn l1 0 ((min (gfd G 11 11 l0) 60) - 1)) ∧ (((wIn l1 0 ((min (gfd G 11 11 l0) 60) - 1)) ≠ 0 → (OkP E M_X11_isWithin [iv l2, iv 0, iv 2] G (wIn l2 0 2) ∧ (((wIn l2 0 2) ≠ 0 → (gcl G l0 = 12 ∧ i32 (l1 * 3) ∧ i32 ((l1 * 3) + l2) ∧ gcl G (gfd G 11 9 l0) = 15 ∧ 0 ≤ ((l1 * 3) + l2) ∧ ((l1 * 3) + l2) < gln G (gfd G 11 9 l0) ∧ Q (gel G (gfd G 11 9 l0) ((l1 * 3) + l2)) G)) ∧ ((wIn l2 0 2) = 0 → (1 ≤ c ∧ 6 ≤ s ∧ X 1 G))))) ∧ ((wIn l1 0 ((min (gfd G 11 11 l0) 60) - 1)) = 0 → (1 ≤ c ∧ 6 ≤ s ∧ X 3 G))))) : Ok E M_X11_notice [rv l0, iv l1, iv l2] G c s Q X := Ok.intro (k := 0) rfl rfl (Nat.le_of_ble_eq_true rfl) rfl (b_X11_notice_0 h)
set_option maxRecDepth 20000 in
theorem b_X11_thinned_0 {E : EE} {l0 l1 l2 l3 l4 : Int} {G : Gt} {c s : Nat} {Q X : Int → Gt → Prop} (h : (gcl G l0 = 12 ∧ Call E M_X11_seriesOf [rv l0, iv l1] G c s X (fun r2 G3 c4 s5 => OkP E M_X11_isLevel [iv l2] G3 (wLevel l2) ∧ (((wLevel l2) = 0 → (1 ≤ c4 ∧ 6 ≤ s5 ∧ X 1 G3)) ∧ ((wLevel l2) ≠ 0 → (OkP E M_X11_isWithin [iv l3, iv 0, iv 10000] G3 (wIn l3 0 10000) ∧ (((wIn l3 0 10000) = 0 → (1 ≤ c4 ∧ 6 ≤ s5 ∧ X 1 G3)) ∧ ((wIn l3 0 10000) ≠ 0 → (OkP E M_X11_isWithin [iv l4, iv 0, iv 3] G3 (wIn l4 0 3) ∧ (((wIn l4 0 3) ≠ 0 → (gcl G3 l0 = 12 ∧ i32 (l3 * l2) ∧ i32 (l3 * l2) ∧ i32 ((l3 * l2) + l2) ∧ i32 (((l3 * l2) + l2) - 1) ∧ gcl G3 (gfd G3 11 3 l0) = 10 ∧ Call E M_X9_gather [rv (gfd G3 11 3 l0), rv r2, iv (l3 * l2), iv (((l3 * l2) + l2) - 1)] G3 c4 s5 X (fun r22 G23 c24 s25 => gcl G23 l0 = 12 ∧ gcl G23 (gfd G23 11 3 l0) = 10 ∧ Call E M_X9_tellThinned [rv (gfd G23 11 3 l0), iv l4] G23 c24 s25 X (fun r28 G29 c30 s31 => Q r28 G29)))) ∧ ((wIn l4 0 3) = 0 → (1 ≤ c4 ∧ 6 ≤ s5 ∧ X 1 G3)))))))))))) : V E M_X11_thinned 0 [some (rv l0), some (iv l1), some (iv l2), some (iv l3), some (iv l4), none] [] G c s Q X := by
  refine v_aload_n (pc := 0) (dk dt_X11_thinned 0 rfl) rfl rfl ?_
  refine v_iload_n (pc := 1) (dk dt_X11_thinned 1 rfl) rfl rfl ?_
  obtain ⟨v1, h⟩ := h
  refine v_cvR (c := 11) (As := [iv l1]) (stk := []) (pc := 2) (dk dt_X11_thinned 2 rfl) ml_X11_114 rfl rfl (Nat.le_of_ble_eq_true rfl) rfl ⟨by decide, rfl⟩ v1 rfl (Call.mono h (fun r2 G3 c4 s5 h => ?_))
  refine v_astore (pc := 5) (ls' := [some (rv l0), some (iv l1), some (iv l2), some (iv l3), some (iv l4), some (rv r2)]) (dk dt_X11_thinned 3 rfl) (Nat.le_of_ble_eq_true rfl) rfl ?_
  refine v_iload_n (pc := 7) (dk dt_X11_thinned 4 rfl) rfl rfl ?_
  obtain ⟨v6, h⟩ := h
  refine v_csPZ (v := (wLevel l2)) (As := [iv l2]) (stk := []) (pc := 8) (dk dt_X11_thinned 5 rfl) ml_X11_284 rfl rfl (Nat.le_of_ble_eq_true rfl) rfl rfl v6 ?_
  refine v_if_eq (pc := 11) (tgt := 35) (dk dt_X11_thinned 6 rfl) (by decide) (fun c7 => ?_) (fun c7 => ?_)
  · replace h := h.1 c7
    obtain ⟨v8, h⟩ := h
    obtain ⟨v9, h⟩ := h
    exact v_throwW (pc := 35) (text := "level, span or what is out of range") 1 rfl (Or.inl rfl) (by decide +kernel) rfl (Nat.le_of_ble_eq_true rfl) (Nat.le_of_ble_eq_true rfl) (Nat.le_of_ble_eq_true rfl) (dk dt_X11_thinned 17 rfl) (dk dt_X11_thinned 18 rfl) (dk dt_X11_thinned 19 rfl) (dk dt_X11_thinned 20 rfl) (dk dt_X11_thinned 21 rfl) v8 v9 h
  · replace h := h.2 c7
    refine v_iload_n (pc := 14) (dk dt_X11_thinned 7 rfl) rfl rfl ?_
    refine v_iconst (pc := 15) (dk dt_X11_thinned 8 rfl) ⟨by decide, by decide⟩ ?_
    refine v_sipush (pc := 16) (dk dt_X11_thinned 9 rfl) (by decide) ⟨by decide, by decide⟩ ?_
    obtain ⟨v10, h⟩ := h
    refine v_csPZ (v := (wIn l3 0 10000)) (As := [iv l3, iv 0, iv 10000]) (stk := []) (pc := 19) (dk dt_X11_thinned 10 rfl) ml_X11_85 rfl rfl (Nat.le_of_ble_eq_true rfl) rfl rfl v10 ?_
    refine v_if_eq (pc := 22) (tgt := 35) (dk dt_X11_thinned 11 rfl) (by decide) (fun c11 => ?_) (fun c11 => ?_)
    · replace h := h.1 c11
      obtain ⟨v12, h⟩ := h
      obtain ⟨v13, h⟩ := h
      exact v_throwW (pc := 35) (text := "level, span or what is out of range") 1 rfl (Or.inl rfl) (by decide +kernel) rfl (Nat.le_of_ble_eq_true rfl) (Nat.le_of_ble_eq_true rfl) (Nat.le_of_ble_eq_true rfl) (dk dt_X11_thinned 17 rfl) (dk dt_X11_thinned 18 rfl) (dk dt_X11_thinned 19 rfl) (dk dt_X11_thinned 20 rfl) (dk dt_X11_thinned 21 rfl) v12 v13 h
    · replace h := h.2 c11
      refine v_iload (pc := 25) (dk dt_X11_thinned 12 rfl) rfl ?_
      refine v_iconst (pc := 27) (dk dt_X11_thinned 13 rfl) ⟨by decide, by decide⟩ ?_
      refine v_iconst (pc := 28) (dk dt_X11_thinned 14 rfl) ⟨by decide, by decide⟩ ?_
      obtain ⟨v14, h⟩ := h
      refine v_csPZ (v := (wIn l4 0 3)) (As := [iv l4, iv 0, iv 3]) (stk := []) (pc := 29) (dk dt_X11_thinned 15 rfl) ml_X11_85 rfl rfl (Nat.le_of_ble_eq_true rfl) rfl rfl v14 ?_
      refine v_if_ne (pc := 32) (tgt := 46) (dk dt_X11_thinned 16 rfl) (by decide) (fun c15 => ?_) (fun c15 => ?_)
      · replace h := h.1 c15
        refine v_aload_n (pc := 46) (dk dt_X11_thinned 22 rfl) rfl rfl ?_
        obtain ⟨v16, h⟩ := h
        refine v_getR (pc := 47) (dk dt_X11_thinned 23 rfl) fl_X11_35 v16 (fun _ => ?_)
        refine v_aload (pc := 50) (dk dt_X11_thinned 24 rfl) rfl ?_
        refine v_iload_n (pc := 52) (dk dt_X11_thinned 25 rfl) rfl rfl ?_
        refine v_iload_n (pc := 53) (dk dt_X11_thinned 26 rfl) rfl rfl ?_
        obtain ⟨v17, h⟩ := h
        refine v_imul (pc := 54) (dk dt_X11_thinned 27 rfl) v17 ?_
        refine v_iload_n (pc := 55) (dk dt_X11_thinned 28 rfl) rfl rfl ?_
        refine v_iload_n (pc := 56) (dk dt_X11_thinned 29 rfl) rfl rfl ?_
        obtain ⟨v18, h⟩ := h
        refine v_imul (pc := 57) (dk dt_X11_thinned 30 rfl) v18 ?_
        refine v_iload_n (pc := 58) (dk dt_X11_thinned 31 rfl) rfl rfl ?_
        obtain ⟨v19, h⟩ := h
        refine v_iadd (pc := 59) (dk dt_X11_thinned 32 rfl) v19 ?_
        refine v_iconst (pc := 60) (dk dt_X11_thinned 33 rfl) ⟨by decide, by decide⟩ ?_
        obtain ⟨v20, h⟩ := h
        refine v_isub (pc := 61) (dk dt_X11_thinned 34 rfl) v20 ?_
        obtain ⟨v21, h⟩ := h
        refine v_cvV (c := 9) (As := [rv r2, iv (l3 * l2), iv (((l3 * l2) + l2) - 1)]) (stk := []) (pc := 62) (dk dt_X11_thinned 35 rfl) ml_X11_289 rfl rfl (Nat.le_of_ble_eq_true rfl) rfl ⟨by decide, rfl⟩ v21 rfl (Call.mono h (fun r22 G23 c24 s25 h => ?_))
        refine v_aload_n (pc := 65) (dk dt_X11_thinned 36 rfl) rfl rfl ?_
        obtain ⟨v26, h⟩ := h
        refine v_getR (pc := 66) (dk dt_X11_thinned 37 rfl) fl_X11_35 v26 (fun _ => ?_)
        refine v_iload (pc := 69) (dk dt_X11_thinned 38 rfl) rfl ?_
        obtain ⟨v27, h⟩ := h
        refine v_cvI (c := 9) (As := [iv l4]) (stk := []) (pc := 71) (dk dt_X11_thinned 39 rfl) ml_X11_293 rfl rfl (Nat.le_of_ble_eq_true rfl) rfl ⟨by decide, rfl⟩ v27 rfl (Call.mono h (fun r28 G29 c30 s31 h => ?_))
        exact v_iret (pc := 74) (dk dt_X11_thinned_1 0 rfl) rfl h
      · replace h := h.2 c15
        obtain ⟨v32, h⟩ := h
        obtain ⟨v33, h⟩ := h
        exact v_throwW (pc := 35) (text := "level, span or what is out of range") 1 rfl (Or.inl rfl) (by decide +kernel) rfl (Nat.le_of_ble_eq_true rfl) (Nat.le_of_ble_eq_true rfl) (Nat.le_of_ble_eq_true rfl) (dk dt_X11_thinned 17 rfl) (dk dt_X11_thinned 18 rfl) (dk dt_X11_thinned 19 rfl) (dk dt_X11_thinned 20 rfl) (dk dt_X11_thinned 21 rfl) v32 v33 h
set_option maxRecDepth 20000 in
theorem i_X11_thinned {E : EE} {l0 l1 l2 l3 l4 : Int} {G : Gt} {c s : Nat} {Q X : Int → Gt → Prop} (h : (gcl G l0 = 12 ∧ Call E M_X11_seriesOf [rv l0, iv l1] G c s X (fun r2 G3 c4 s5 => OkP E M_X11_isLevel [iv l2] G3 (wLevel l2) ∧ (((wLevel l2) = 0 → (1 ≤ c4 ∧ 6 ≤ s5 ∧ X 1 G3)) ∧ ((wLevel l2) ≠ 0 → (OkP E M_X11_isWithin [iv l3, iv 0, iv 10000] G3 (wIn l3 0 10000) ∧ (((wIn l3 0 10000) = 0 → (1 ≤ c4 ∧ 6 ≤ s5 ∧ X 1 G3)) ∧ ((wIn l3 0 10000) ≠ 0 → (OkP E M_X11_isWithin [iv l4, iv 0, iv 3] G3 (wIn l4 0 3) ∧ (((wIn l4 0 3) ≠ 0 → (gcl G3 l0 = 12 ∧ i32 (l3 * l2) ∧ i32 (l3 * l2) ∧ i32 ((l3 * l2) + l2) ∧ i32 (((l3 * l2) + l2) - 1) ∧ gcl G3 (gfd G3 11 3 l0) = 10 ∧ Call E M_X9_gather [rv (gfd G3 11 3 l0), rv r2, iv (l3 * l2), iv (((l3 * l2) + l2) - 1)] G3 c4 s5 X (fun r22 G23 c24 s25 => gcl G23 l0 = 12 ∧ gcl G23 (gfd G23 11 3 l0) = 10 ∧ Call E M_X9_tellThinned [rv (gfd G23 11 3 l0), iv l4] G23 c24 s25 X (fun r28 G29 c30 s31 => Q r28 G29)))) ∧ ((wIn l4 0 3) = 0 → (1 ≤ c4 ∧ 6 ≤ s5 ∧ X 1 G3)))))))))))) : Ok E M_X11_thinned [rv l0, iv l1, iv l2, iv l3, iv l4] G c s Q X := Ok.intro (k := 1) rfl rfl (Nat.le_of_ble_eq_true rfl) rfl (b_X11_thinned_0 h)
set_option maxRecDepth 20000 in
theorem b_X11_suits_0 {E : EE} {l0 l1 l2 l3 : Int} {G : Gt} {c s : Nat} {Q X : Int → Gt → Prop} (h : (OkP E M_X11_isLevel [iv l1] G (wLevel l1) ∧ (((wLevel l1) = 0 → (1 ≤ c ∧ 6 ≤ s ∧ X 1 G)) ∧ ((wLevel l1) ≠ 0 → (OkP E M_X11_isWithin [iv l2, iv 0, iv 100000] G (wIn l2 0 100000) ∧ (((wIn l2 0 100000) = 0 → (1 ≤ c ∧ 6 ≤ s ∧ X 1 G)) ∧ ((wIn l2 0 100000) ≠ 0 → (OkP E M_X11_isWithin [iv l3, iv 1, iv 1000] G (wIn l3 1 1000) ∧ (((wIn l3 1 1000) ≠ 0 → (i32 (l2 + 1) ∧ OkP E M_T_floorMod [iv (l2 + 1), iv l1] G (Int.emod (l2 + 1) l1) ∧ ((Int.emod (l2 + 1) l1) = 0 → OkP E M_T_floorMod [iv l3, iv l1] G (Int.emod l3 l1)) ∧ ((if (Int.emod (l2 + 1) l1) = 0 then ((if (Int.emod l3 l1) = 0 then (1 : Int) else 0) : Int) else 0) = 0 ∨ (if (Int.emod (l2 + 1) l1) = 0 then ((if (Int.emod l3 l1) = 0 then (1 : Int) else 0) : Int) else 0) = 1) ∧ Q (if (Int.emod (l2 + 1) l1) = 0 then ((if (Int.emod l3 l1) = 0 then (1 : Int) else 0) : Int) else 0) G)) ∧ ((wIn l3 1 1000) = 0 → (1 ≤ c ∧ 6 ≤ s ∧ X 1 G))))))))))) : V E M_X11_suits 0 [some (rv l0), some (iv l1), some (iv l2), some (iv l3)] [] G c s Q X := by
  refine v_iload_n (pc := 0) (dk dt_X11_suits 0 rfl) rfl rfl ?_
  obtain ⟨v1, h⟩ := h
  refine v_csPZ (v := (wLevel l1)) (As := [iv l1]) (stk := []) (pc := 1) (dk dt_X11_suits 1 rfl) ml_X11_284 rfl rfl (Nat.le_of_ble_eq_true rfl) rfl rfl v1 ?_
  refine v_if_eq (pc := 4) (tgt := 28) (dk dt_X11_suits 2 rfl) (by decide) (fun c2 => ?_) (fun c2 => ?_)
  · replace h := h.1 c2
    obtain ⟨v3, h⟩ := h
    obtain ⟨v4, h⟩ := h
    exact v_throwW (pc := 28) (text := "level, time or window is out of range") 1 rfl (Or.inl rfl) (by decide +kernel) rfl (Nat.le_of_ble_eq_true rfl) (Nat.le_of_ble_eq_true rfl) (Nat.le_of_ble_eq_true rfl) (dk dt_X11_suits 13 rfl) (dk dt_X11_suits 14 rfl) (dk dt_X11_suits 15 rfl) (dk dt_X11_suits 16 rfl) (dk dt_X11_suits 17 rfl) v3 v4 h
  · replace h := h.2 c2
    refine v_iload_n (pc := 7) (dk dt_X11_suits 3 rfl) rfl rfl ?_
    refine v_iconst (pc := 8) (dk dt_X11_suits 4 rfl) ⟨by decide, by decide⟩ ?_
    refine v_ldc (pc := 9) (dk dt_X11_suits 5 rfl) co_X11_130 ⟨by decide, by decide⟩ ?_
    obtain ⟨v5, h⟩ := h
    refine v_csPZ (v := (wIn l2 0 100000)) (As := [iv l2, iv 0, iv 100000]) (stk := []) (pc := 11) (dk dt_X11_suits 6 rfl) ml_X11_85 rfl rfl (Nat.le_of_ble_eq_true rfl) rfl rfl v5 ?_
    refine v_if_eq (pc := 14) (tgt := 28) (dk dt_X11_suits 7 rfl) (by decide) (fun c6 => ?_) (fun c6 => ?_)
    · replace h := h.1 c6
      obtain ⟨v7, h⟩ := h
      obtain ⟨v8, h⟩ := h
      exact v_throwW (pc := 28) (text := "level, time or window is out of range") 1 rfl (Or.inl rfl) (by decide +kernel) rfl (Nat.le_of_ble_eq_true rfl) (Nat.le_of_ble_eq_true rfl) (Nat.le_of_ble_eq_true rfl) (dk dt_X11_suits 13 rfl) (dk dt_X11_suits 14 rfl) (dk dt_X11_suits 15 rfl) (dk dt_X11_suits 16 rfl) (dk dt_X11_suits 17 rfl) v7 v8 h
    · replace h := h.2 c6
      refine v_iload_n (pc := 17) (dk dt_X11_suits 8 rfl) rfl rfl ?_
      refine v_iconst (pc := 18) (dk dt_X11_suits 9 rfl) ⟨by decide, by decide⟩ ?_
      refine v_sipush (pc := 19) (dk dt_X11_suits 10 rfl) (by decide) ⟨by decide, by decide⟩ ?_
      obtain ⟨v9, h⟩ := h
      refine v_csPZ (v := (wIn l3 1 1000)) (As := [iv l3, iv 1, iv 1000]) (stk := []) (pc := 22) (dk dt_X11_suits 11 rfl) ml_X11_85 rfl rfl (Nat.le_of_ble_eq_true rfl) rfl rfl v9 ?_
      refine v_if_ne (pc := 25) (tgt := 39) (dk dt_X11_suits 12 rfl) (by decide) (fun c10 => ?_) (fun c10 => ?_)
      · replace h := h.1 c10
        refine v_iload_n (pc := 39) (dk dt_X11_suits 18 rfl) rfl rfl ?_
        refine v_iconst (pc := 40) (dk dt_X11_suits 19 rfl) ⟨by decide, by decide⟩ ?_
        obtain ⟨v11, h⟩ := h
        refine v_iadd (pc := 41) (dk dt_X11_suits 20 rfl) v11 ?_
        refine v_iload_n (pc := 42) (dk dt_X11_suits 21 rfl) rfl rfl ?_
        obtain ⟨v12, h⟩ := h
        refine v_csPI (v := (Int.emod (l2 + 1) l1)) (As := [iv (l2 + 1), iv l1]) (stk := []) (pc := 43) (dk dt_X11_suits 22 rfl) ml_X11_298 rfl rfl (Nat.le_of_ble_eq_true rfl) rfl rfl v12 ?_
        obtain ⟨v14, h⟩ := h
        suffices k19 : V E M_X11_suits 62 [none, none, none, none] [iv (if (Int.emod (l2 + 1) l1) = 0 then ((if (Int.emod l3 l1) = 0 then (1 : Int) else 0) : Int) else 0)] G c s Q X by
          refine v_if_ne (pc := 46) (tgt := 61) (dk dt_X11_suits 23 rfl) (by decide) (fun c13 => ?_) (fun c13 => ?_)
          · refine v_iconst (pc := 61) (dk dt_X11_suits 30 rfl) ⟨by decide, by decide⟩ ?_
            exact v_less2 (ls' := [none, none, none, none]) trivial (by have hk9 := k19; try simp only [if_neg c13] at hk9 ⊢; exact hk9)
          · refine v_iload_n (pc := 49) (dk dt_X11_suits 24 rfl) rfl rfl ?_
            refine v_iload_n (pc := 50) (dk dt_X11_suits 25 rfl) rfl rfl ?_
            refine v_csPI (v := (Int.emod l3 l1)) (As := [iv l3, iv l1]) (stk := []) (pc := 51) (dk dt_X11_suits 26 rfl) ml_X11_298 rfl rfl (Nat.le_of_ble_eq_true rfl) rfl rfl (v14 c13) ?_
            refine v_if_ne (pc := 54) (tgt := 61) (dk dt_X11_suits 27 rfl) (by decide) (fun c15 => ?_) (fun c15 => ?_)
            · refine v_iconst (pc := 61) (dk dt_X11_suits 30 rfl) ⟨by decide, by decide⟩ ?_
              exact v_less2 (ls' := [none, none, none, none]) trivial (by have hk9 := k19; try simp only [if_pos c13] at hk9 ⊢; try simp only [if_neg c15] at hk9 ⊢; exact hk9)
            · refine v_iconst (pc := 57) (dk dt_X11_suits 28 rfl) ⟨by decide, by decide⟩ ?_
              refine v_goto (pc := 58) (tgt := 62) (dk dt_X11_suits 29 rfl) (by decide) ?_
              exact v_less2 (ls' := [none, none, none, none]) trivial (by have hk9 := k19; try simp only [if_pos c13] at hk9 ⊢; try simp only [if_pos c15] at hk9 ⊢; exact hk9)
        obtain ⟨v16, h⟩ := h
        exact v_zret (pc := 62) (dk dt_X11_suits 31 rfl) rfl v16 h
      · replace h := h.2 c10
        obtain ⟨v17, h⟩ := h
        obtain ⟨v18, h⟩ := h
        exact v_throwW (pc := 28) (text := "level, time or window is out of range") 1 rfl (Or.inl rfl) (by decide +kernel) rfl (Nat.le_of_ble_eq_true rfl) (Nat.le_of_ble_eq_true rfl) (Nat.le_of_ble_eq_true rfl) (dk dt_X11_suits 13 rfl) (dk dt_X11_suits 14 rfl) (dk dt_X11_suits 15 rfl) (dk dt_X11_suits 16 rfl) (dk dt_X11_suits 17 rfl) v17 v18 h
set_option maxRecDepth 20000 in
theorem i_X11_suits {E : EE} {l0 l1 l2 l3 : Int} {G : Gt} {c s : Nat} {Q X : Int → Gt → Prop} (h : (OkP E M_X11_isLevel [iv l1] G (wLevel l1) ∧ (((wLevel l1) = 0 → (1 ≤ c ∧ 6 ≤ s ∧ X 1 G)) ∧ ((wLevel l1) ≠ 0 → (OkP E M_X11_isWithin [iv l2, iv 0, iv 100000] G (wIn l2 0 100000) ∧ (((wIn l2 0 100000) = 0 → (1 ≤ c ∧ 6 ≤ s ∧ X 1 G)) ∧ ((wIn l2 0 100000) ≠ 0 → (OkP E M_X11_isWithin [iv l3, iv 1, iv 1000] G (wIn l3 1 1000) ∧ (((wIn l3 1 1000) ≠ 0 → (i32 (l2 + 1) ∧ OkP E M_T_floorMod [iv (l2 + 1), iv l1] G (Int.emod (l2 + 1) l1) ∧ ((Int.emod (l2 + 1) l1) = 0 → OkP E M_T_floorMod [iv l3, iv l1] G (Int.emod l3 l1)) ∧ ((if (Int.emod (l2 + 1) l1) = 0 then ((if (Int.emod l3 l1) = 0 then (1 : Int) else 0) : Int) else 0) = 0 ∨ (if (Int.emod (l2 + 1) l1) = 0 then ((if (Int.emod l3 l1) = 0 then (1 : Int) else 0) : Int) else 0) = 1) ∧ Q (if (Int.emod (l2 + 1) l1) = 0 then ((if (Int.emod l3 l1) = 0 then (1 : Int) else 0) : Int) else 0) G)) ∧ ((wIn l3 1 1000) = 0 → (1 ≤ c ∧ 6 ≤ s ∧ X 1 G))))))))))) : Ok E M_X11_suits [rv l0, iv l1, iv l2, iv l3] G c s Q X := Ok.intro (k := 0) rfl rfl (Nat.le_of_ble_eq_true rfl) rfl (b_X11_suits_0 h)
set_option maxRecDepth 20000 in
theorem b_X11_down_0 {E : EE} {l0 l1 : Int} {G : Gt} {c s : Nat} {Q X : Int → Gt → Prop} (h : (gcl G l0 = 12 ∧ gcl G (gfd G 11 0 l0) = 9 ∧ gcl G l0 = 12 ∧ gcl G (gfd G 11 0 l0) = 9 ∧ (l1 = 0 ∨ l1 = 1) ∧ ∀ G6 : Gt, G6 = (sfd G 8 2 (gfd G 11 0 l0) l1) → ((gfd G 8 2 (gfd G 11 0 l0)) = 0 ∨ (gfd G 8 2 (gfd G 11 0 l0)) = 1) ∧ Q (gfd G 8 2 (gfd G 11 0 l0)) G6)) : V E M_X11_down 0 [some (rv l0), some (iv l1), none] [] G c s Q X := by
  refine v_aload_n (pc := 0) (dk dt_X11_down 0 rfl) rfl rfl ?_
  obtain ⟨v1, h⟩ := h
  refine v_getR (pc := 1) (dk dt_X11_down 1 rfl) fl_X11_12 v1 (fun _ => ?_)
  obtain ⟨v2, h⟩ := h
  refine v_getZ (pc := 4) (dk dt_X11_down 2 rfl) fl_X11_301 v2 (fun _ => ?_)
  refine v_istore_n (pc := 7) (ls' := [some (rv l0), some (iv l1), some (iv (gfd G 8 2 (gfd G 11 0 l0)))]) (dk dt_X11_down 3 rfl) rfl (Nat.le_of_ble_eq_true rfl) rfl ?_
  refine v_aload_n (pc := 8) (dk dt_X11_down 4 rfl) rfl rfl ?_
  obtain ⟨v3, h⟩ := h
  refine v_getR (pc := 9) (dk dt_X11_down 5 rfl) fl_X11_12 v3 (fun _ => ?_)
  refine v_iload_n (pc := 12) (dk dt_X11_down 6 rfl) rfl rfl ?_
  obtain ⟨v4, h⟩ := h
  obtain ⟨v5, h⟩ := h
  refine v_putZ (pc := 13) (dk dt_X11_down 7 rfl) fl_X11_301 (Or.inl rfl) v4 v5 ?_
  generalize hG6 : (sfd G 8 2 (gfd G 11 0 l0) l1) = G6
  replace h := h G6 hG6.symm
  refine v_iload_n (pc := 16) (dk dt_X11_down 8 rfl) rfl rfl ?_
  obtain ⟨v7, h⟩ := h
  exact v_zret (pc := 17) (dk dt_X11_down 9 rfl) rfl v7 h
set_option maxRecDepth 20000 in
theorem i_X11_down {E : EE} {l0 l1 : Int} {G : Gt} {c s : Nat} {Q X : Int → Gt → Prop} (h : (gcl G l0 = 12 ∧ gcl G (gfd G 11 0 l0) = 9 ∧ gcl G l0 = 12 ∧ gcl G (gfd G 11 0 l0) = 9 ∧ (l1 = 0 ∨ l1 = 1) ∧ ∀ G6 : Gt, G6 = (sfd G 8 2 (gfd G 11 0 l0) l1) → ((gfd G 8 2 (gfd G 11 0 l0)) = 0 ∨ (gfd G 8 2 (gfd G 11 0 l0)) = 1) ∧ Q (gfd G 8 2 (gfd G 11 0 l0)) G6)) : Ok E M_X11_down [rv l0, iv l1] G c s Q X := Ok.intro (k := 1) rfl rfl (Nat.le_of_ble_eq_true rfl) rfl (b_X11_down_0 h)
set_option maxRecDepth 20000 in
theorem b_X11_behind_0 {E : EE} {l0 : Int} {G : Gt} {c s : Nat} {Q X : Int → Gt → Prop} (h : (gcl G l0 = 12 ∧ gcl G (gfd G 11 0 l0) = 9 ∧ Call E M_X8_countNotCopied [rv (gfd G 11 0 l0)] G c s X (fun r3 G4 c5 s6 => Q r3 G4))) : V E M_X11_behind 0 [some (rv l0)] [] G c s Q X := by
  refine v_aload_n (pc := 0) (dk dt_X11_behind 0 rfl) rfl rfl ?_
  obtain ⟨v1, h⟩ := h
  refine v_getR (pc := 1) (dk dt_X11_behind 1 rfl) fl_X11_12 v1 (fun _ => ?_)
  obtain ⟨v2, h⟩ := h
  refine v_cvI (c := 8) (As := []) (stk := []) (pc := 4) (dk dt_X11_behind 2 rfl) ml_X11_304 rfl rfl (Nat.le_of_ble_eq_true rfl) rfl ⟨by decide, rfl⟩ v2 rfl (Call.mono h (fun r3 G4 c5 s6 h => ?_))
  exact v_iret (pc := 7) (dk dt_X11_behind 3 rfl) rfl h
set_option maxRecDepth 20000 in
theorem i_X11_behind {E : EE} {l0 : Int} {G : Gt} {c s : Nat} {Q X : Int → Gt → Prop} (h : (gcl G l0 = 12 ∧ gcl G (gfd G 11 0 l0) = 9 ∧ Call E M_X8_countNotCopied [rv (gfd G 11 0 l0)] G c s X (fun r3 G4 c5 s6 => Q r3 G4))) : Ok E M_X11_behind [rv l0] G c s Q X := Ok.intro (k := 0) rfl rfl (Nat.le_of_ble_eq_true rfl) rfl (b_X11_behind_0 h)
set_option maxRecDepth 20000 in
theorem b_X11_mend_0 {E : EE} {l0 l1 : Int} {G : Gt} {c s : Nat} {Q X : Int → Gt → Prop} (h : (OkP E M_X11_isWithin [iv l1, iv 1, iv 1000] G (wIn l1 1 1000) ∧ (((wIn l1 1 1000) ≠ 0 → (gcl G l0 = 12 ∧ gcl G (gfd G 11 0 l0) = 9 ∧ Call E M_X8_copyFirst [rv (gfd G 11 0 l0), iv l1] G c s X (fun r5 G6 c7 s8 => Q r5 G6))) ∧ ((wIn l1 1 1000) = 0 → (1 ≤ c ∧ 6 ≤ s ∧ X 1 G))))) : V E M_X11_mend 0 [some (rv l0), some (iv l1)] [] G c s Q X := by
  refine v_iload_n (pc := 0) (dk dt_X11_mend 0 rfl) rfl rfl ?_
  refine v_iconst (pc := 1) (dk dt_X11_mend 1 rfl) ⟨by decide, by decide⟩ ?_
  refine v_sipush (pc := 2) (dk dt_X11_mend 2 rfl) (by decide) ⟨by decide, by decide⟩ ?_
  obtain ⟨v1, h⟩ := h
  refine v_csPZ (v := (wIn l1 1 1000)) (As := [iv l1, iv 1, iv 1000]) (stk := []) (pc := 5) (dk dt_X11_mend 3 rfl) ml_X11_85 rfl rfl (Nat.le_of_ble_eq_true rfl) rfl rfl v1 ?_
  refine v_if_ne (pc := 8) (tgt := 22) (dk dt_X11_mend 4 rfl) (by decide) (fun c2 => ?_) (fun c2 => ?_)
  · replace h := h.1 c2
    refine v_aload_n (pc := 22) (dk dt_X11_mend 10 rfl) rfl rfl ?_
    obtain ⟨v3, h⟩ := h
    refine v_getR (pc := 23) (dk dt_X11_mend 11 rfl) fl_X11_12 v3 (fun _ => ?_)
    refine v_iload_n (pc := 26) (dk dt_X11_mend 12 rfl) rfl rfl ?_
    obtain ⟨v4, h⟩ := h
    refine v_cvI (c := 8) (As := [iv l1]) (stk := []) (pc := 27) (dk dt_X11_mend 13 rfl) ml_X11_309 rfl rfl (Nat.le_of_ble_eq_true rfl) rfl ⟨by decide, rfl⟩ v4 rfl (Call.mono h (fun r5 G6 c7 s8 h => ?_))
    exact v_iret (pc := 30) (dk dt_X11_mend 14 rfl) rfl h
  · replace h := h.2 c2
    obtain ⟨v9, h⟩ := h
    obtain ⟨v10, h⟩ := h
    exact v_throwW (pc := 11) (text := "many is out of range") 1 rfl (Or.inl rfl) (by decide +kernel) rfl (Nat.le_of_ble_eq_true rfl) (Nat.le_of_ble_eq_true rfl) (Nat.le_of_ble_eq_true rfl) (dk dt_X11_mend 5 rfl) (dk dt_X11_mend 6 rfl) (dk dt_X11_mend 7 rfl) (dk dt_X11_mend 8 rfl) (dk dt_X11_mend 9 rfl) v9 v10 h
set_option maxRecDepth 20000 in
theorem i_X11_mend {E : EE} {l0 l1 : Int} {G : Gt} {c s : Nat} {Q X : Int → Gt → Prop} (h : (OkP E M_X11_isWithin [iv l1, iv 1, iv 1000] G (wIn l1 1 1000) ∧ (((wIn l1 1 1000) ≠ 0 → (gcl G l0 = 12 ∧ gcl G (gfd G 11 0 l0) = 9 ∧ Call E M_X8_copyFirst [rv (gfd G 11 0 l0), iv l1] G c s X (fun r5 G6 c7 s8 => Q r5 G6))) ∧ ((wIn l1 1 1000) = 0 → (1 ≤ c ∧ 6 ≤ s ∧ X 1 G))))) : Ok E M_X11_mend [rv l0, iv l1] G c s Q X := Ok.intro (k := 0) rfl rfl (Nat.le_of_ble_eq_true rfl) rfl (b_X11_mend_0 h)
set_option maxRecDepth 20000 in
theorem b_X11_isWithin_0 {E : EE} {l0 l1 l2 : Int} {G : Gt} {c s : Nat} {Q X : Int → Gt → Prop} (h : (((if l0 < l1 then (0 : Int) else (if l2 < l0 then (0 : Int) else 1)) = 0 ∨ (if l0 < l1 then (0 : Int) else (if l2 < l0 then (0 : Int) else 1)) = 1) ∧ Q (if l0 < l1 then (0 : Int) else (if l2 < l0 then (0 : Int) else 1)) G)) : V E M_X11_isWithin 0 [some (iv l0), some (iv l1), some (iv l2)] [] G c s Q X := by
  refine v_iload_n (pc := 0) (dk dt_X11_isWithin 0 rfl) rfl rfl ?_
  refine v_iload_n (pc := 1) (dk dt_X11_isWithin 1 rfl) rfl rfl ?_
  suffices k4 : V E M_X11_isWithin 15 [none, none, none] [iv (if l0 < l1 then (0 : Int) else (if l2 < l0 then (0 : Int) else 1))] G c s Q X by
    refine v_icmp_lt (pc := 2) (tgt := 14) (dk dt_X11_isWithin 2 rfl) (by decide) (fun c1 => ?_) (fun c1 => ?_)
    · refine v_iconst (pc := 14) (dk dt_X11_isWithin 8 rfl) ⟨by decide, by decide⟩ ?_
      exact v_less2 (ls' := [none, none, none]) trivial (by have hk9 := k4; try simp only [if_pos c1] at hk9 ⊢; exact hk9)
    · refine v_iload_n (pc := 5) (dk dt_X11_isWithin 3 rfl) rfl rfl ?_
      refine v_iload_n (pc := 6) (dk dt_X11_isWithin 4 rfl) rfl rfl ?_
      refine v_icmp_gt (pc := 7) (tgt := 14) (dk dt_X11_isWithin 5 rfl) (by decide) (fun c2 => ?_) (fun c2 => ?_)
      · refine v_iconst (pc := 14) (dk dt_X11_isWithin 8 rfl) ⟨by decide, by decide⟩ ?_
        exact v_less2 (ls' := [none, none, none]) trivial (by have hk9 := k4; try simp only [if_neg (Int.not_lt.mpr c1)] at hk9 ⊢; try simp only [if_pos c2] at hk9 ⊢; exact hk9)
      · refine v_iconst (pc := 10) (dk dt_X11_isWithin 6 rfl) ⟨by decide, by decide⟩ ?_
        refine v_goto (pc := 11) (tgt := 15) (dk dt_X11_isWithin 7 rfl) (by decide) ?_
        exact v_less2 (ls' := [none, none, none]) trivial (by have hk9 := k4; try simp only [if_neg (Int.not_lt.mpr c1)] at hk9 ⊢; try simp only [if_neg (Int.not_lt.mpr c2)] at hk9 ⊢; exact hk9)
  obtain ⟨v3, h⟩ := h
  exact v_zret (pc := 15) (dk dt_X11_isWithin 9 rfl) rfl v3 h
set_option maxRecDepth 20000 in
theorem i_X11_isWithin {E : EE} {l0 l1 l2 : Int} {G : Gt} {c s : Nat} {Q X : Int → Gt → Prop} (h : (((if l0 < l1 then (0 : Int) else (if l2 < l0 then (0 : Int) else 1)) = 0 ∨ (if l0 < l1 then (0 : Int) else (if l2 < l0 then (0 : Int) else 1)) = 1) ∧ Q (if l0 < l1 then (0 : Int) else (if l2 < l0 then (0 : Int) else 1)) G)) : Ok E M_X11_isWithin [iv l0, iv l1, iv l2] G c s Q X := Ok.intro (k := 0) rfl rfl (Nat.le_of_ble_eq_true rfl) rfl (b_X11_isWithin_0 h)
set_option maxRecDepth 20000 in
theorem b_X11_isLevel_0 {E : EE} {l0 : Int} {G : Gt} {c s : Nat} {Q X : Int → Gt → Prop} (h : (((if l0 = 10 then (1 : Int) else (if l0 = 100 then (1 : Int) else 0)) = 0 ∨ (if l0 = 10 then (1 : Int) else (if l0 = 100 then (1 : Int) else 0)) = 1) ∧ Q (if l0 = 10 then (1 : Int) else (if l0 = 100 then (1 : Int) else 0)) G)) : V E M_X11_isLevel 0 [some (iv l0)] [] G c s Q X := by
  refine v_iload_n (pc := 0) (dk dt_X11_isLevel 0 rfl) rfl rfl ?_
  refine v_bipush (pc := 1) (dk dt_X11_isLevel 1 rfl) (by decide) ⟨by decide, by decide⟩ ?_
  suffices k4 : V E M_X11_isLevel 17 [none] [iv (if l0 = 10 then (1 : Int) else (if l0 = 100 then (1 : Int) else 0))] G c s Q X by
    refine v_icmp_eq (pc := 3) (tgt := 12) (dk dt_X11_isLevel 2 rfl) (by decide) (fun c1 => ?_) (fun c1 => ?_)
    · refine v_iconst (pc := 12) (dk dt_X11_isLevel 6 rfl) ⟨by decide, by decide⟩ ?_
      refine v_goto (pc := 13) (tgt := 17) (dk dt_X11_isLevel 7 rfl) (by decide) ?_
      exact v_less2 (ls' := [none]) trivial (by have hk9 := k4; try simp only [if_pos c1] at hk9 ⊢; exact hk9)
    · refine v_iload_n (pc := 6) (dk dt_X11_isLevel 3 rfl) rfl rfl ?_
      refine v_bipush (pc := 7) (dk dt_X11_isLevel 4 rfl) (by decide) ⟨by decide, by decide⟩ ?_
      refine v_icmp_ne (pc := 9) (tgt := 16) (dk dt_X11_isLevel 5 rfl) (by decide) (fun c2 => ?_) (fun c2 => ?_)
      · refine v_iconst (pc := 16) (dk dt_X11_isLevel 8 rfl) ⟨by decide, by decide⟩ ?_
        exact v_less2 (ls' := [none]) trivial (by have hk9 := k4; try simp only [if_neg c1] at hk9 ⊢; try simp only [if_neg c2] at hk9 ⊢; exact hk9)
      · refine v_iconst (pc := 12) (dk dt_X11_isLevel 6 rfl) ⟨by decide, by decide⟩ ?_
        refine v_goto (pc := 13) (tgt := 17) (dk dt_X11_isLevel 7 rfl) (by decide) ?_
        exact v_less2 (ls' := [none]) trivial (by have hk9 := k4; try simp only [if_neg c1] at hk9 ⊢; try simp only [if_pos c2] at hk9 ⊢; exact hk9)
  obtain ⟨v3, h⟩ := h
  exact v_zret (pc := 17) (dk dt_X11_isLevel 9 rfl) rfl v3 h
set_option maxRecDepth 20000 in
theorem i_X11_isLevel {E : EE} {l0 : Int} {G : Gt} {c s : Nat} {Q X : Int → Gt → Prop} (h : (((if l0 = 10 then (1 : Int) else (if l0 = 100 then (1 : Int) else 0)) = 0 ∨ (if l0 = 10 then (1 : Int) else (if l0 = 100 then (1 : Int) else 0)) = 1) ∧ Q (if l0 = 10 then (1 : Int) else (if l0 = 100 then (1 : Int) else 0)) G)) : Ok E M_X11_isLevel [iv l0] G c s Q X := Ok.intro (k := 0) rfl rfl (Nat.le_of_ble_eq_true rfl) rfl (b_X11_isLevel_0 h)
set_option maxRecDepth 20000 in
theorem b_X11_isFirstFit_0 {E : EE} {l0 l1 : Int} {G : Gt} {c s : Nat} {Q X : Int → Gt → Prop} (h : ((l0 ≠ 0 → (OkP E M_X10_reads [iv l0] G (wIn l0 1 7) ∧ (((wIn l0 1 7) = 0 → (OkP E M_X11_isWithin [iv l1, iv 0, iv (if l0 = 15 then (1000 : Int) else 7)] G (wIn l1 0 (if l0 = 15 then (1000 : Int) else 7)) ∧ ((wIn l1 0 (if l0 = 15 then (1000 : Int) else 7)) = 0 ∨ (wIn l1 0 (if l0 = 15 then (1000 : Int) else 7)) = 1) ∧ Q (wIn l1 0 (if l0 = 15 then (1000 : Int) else 7)) G)) ∧ ((wIn l0 1 7) ≠ 0 → (OkP E M_X11_isWithin [iv l1, iv 0, iv 3] G (wIn l1 0 3) ∧ ((wIn l1 0 3) = 0 ∨ (wIn l1 0 3) = 1) ∧ Q (wIn l1 0 3) G))))) ∧ (l0 = 0 → (OkP E M_X11_isWithin [iv l1, iv (-1000000), iv 1000000] G (wIn l1 (-1000000) 1000000) ∧ ((wIn l1 (-1000000) 1000000) = 0 ∨ (wIn l1 (-1000000) 1000000) = 1) ∧ Q (wIn l1 (-1000000) 1000000) G)))) : V E M_X11_isFirstFit 0 [some (iv l0), some (iv l1)] [] G c s Q X := by
  refine v_iload_n (pc := 0) (dk dt_X11_isFirstFit 0 rfl) rfl rfl ?_
  refine v_if_ne (pc := 1) (tgt := 13) (dk dt_X11_isFirstFit 1 rfl) (by decide) (fun c1 => ?_) (fun c1 => ?_)
  · replace h := h.1 c1
    refine v_iload_n (pc := 13) (dk dt_X11_isFirstFit 7 rfl) rfl rfl ?_
    obtain ⟨v2, h⟩ := h
    refine v_csPZ (v := (wIn l0 1 7)) (As := [iv l0]) (stk := []) (pc := 14) (dk dt_X11_isFirstFit 8 rfl) ml_X11_198 rfl rfl (Nat.le_of_ble_eq_true rfl) rfl rfl v2 ?_
    refine v_if_eq (pc := 17) (tgt := 27) (dk dt_X11_isFirstFit 9 rfl) (by decide) (fun c3 => ?_) (fun c3 => ?_)
    · replace h := h.1 c3
      refine v_iload_n (pc := 27) (dk dt_X11_isFirstFit 15 rfl) rfl rfl ?_
      refine v_iconst (pc := 28) (dk dt_X11_isFirstFit 16 rfl) ⟨by decide, by decide⟩ ?_
      refine v_iload_n (pc := 29) (dk dt_X11_isFirstFit 17 rfl) rfl rfl ?_
      refine v_bipush (pc := 30) (dk dt_X11_isFirstFit 18 rfl) (by decide) ⟨by decide, by decide⟩ ?_
      suffices k11 : V E M_X11_isFirstFit 43 [none, none] [iv (if l0 = 15 then (1000 : Int) else 7), iv 0, iv l1] G c s Q X by
        refine v_icmp_ne (pc := 32) (tgt := 41) (dk dt_X11_isFirstFit 19 rfl) (by decide) (fun c4 => ?_) (fun c4 => ?_)
        · refine v_bipush (pc := 41) (dk dt_X11_isFirstFit 22 rfl) (by decide) ⟨by decide, by decide⟩ ?_
          exact v_less2 (ls' := [none, none]) trivial (by have hk9 := k11; try simp only [if_neg c4] at hk9 ⊢; exact hk9)
        · refine v_sipush (pc := 35) (dk dt_X11_isFirstFit 20 rfl) (by decide) ⟨by decide, by decide⟩ ?_
          refine v_goto (pc := 38) (tgt := 43) (dk dt_X11_isFirstFit 21 rfl) (by decide) ?_
          exact v_less2 (ls' := [none, none]) trivial (by have hk9 := k11; try simp only [if_pos c4] at hk9 ⊢; exact hk9)
      obtain ⟨v5, h⟩ := h
      refine v_csPZ (v := (wIn l1 0 (if l0 = 15 then (1000 : Int) else 7))) (As := [iv l1, iv 0, iv (if l0 = 15 then (1000 : Int) else 7)]) (stk := []) (pc := 43) (dk dt_X11_isFirstFit 23 rfl) ml_X11_85 rfl rfl (Nat.le_of_ble_eq_true rfl) rfl rfl v5 ?_
      obtain ⟨v6, h⟩ := h
      exact v_zret (pc := 46) (dk dt_X11_isFirstFit 24 rfl) rfl v6 h
    · replace h := h.2 c3
      refine v_iload_n (pc := 20) (dk dt_X11_isFirstFit 10 rfl) rfl rfl ?_
      refine v_iconst (pc := 21) (dk dt_X11_isFirstFit 11 rfl) ⟨by decide, by decide⟩ ?_
      refine v_iconst (pc := 22) (dk dt_X11_isFirstFit 12 rfl) ⟨by decide, by decide⟩ ?_
      obtain ⟨v7, h⟩ := h
      refine v_csPZ (v := (wIn l1 0 3)) (As := [iv l1, iv 0, iv 3]) (stk := []) (pc := 23) (dk dt_X11_isFirstFit 13 rfl) ml_X11_85 rfl rfl (Nat.le_of_ble_eq_true rfl) rfl rfl v7 ?_
      obtain ⟨v8, h⟩ := h
      exact v_zret (pc := 26) (dk dt_X11_isFirstFit 14 rfl) rfl v8 h
  · replace h := h.2 c1
    refine v_iload_n (pc := 4) (dk dt_X11_isFirstFit 2 rfl) rfl rfl ?_
    refine v_ldc (pc := 5) (dk dt_X11_isFirstFit 3 rfl) co_X11_99 ⟨by decide, by decide⟩ ?_
    refine v_ldc (pc := 7) (dk dt_X11_isFirstFit 4 rfl) co_X11_100 ⟨by decide, by decide⟩ ?_
    obtain ⟨v9, h⟩ := h
    refine v_csPZ (v := (wIn l1 (-1000000) 1000000)) (As := [iv l1, iv (-1000000), iv 1000000]) (stk := []) (pc := 9) (dk dt_X11_isFirstFit 5 rfl) ml_X11_85 rfl rfl (Nat.le_of_ble_eq_true rfl) rfl rfl v9 ?_
    obtain ⟨v10, h⟩ := h
    exact v_zret (pc := 12) (dk dt_X11_isFirstFit 6 rfl) rfl v10 h
set_option maxRecDepth 20000 in
theorem i_X11_isFirstFit {E : EE} {l0 l1 : Int} {G : Gt} {c s : Nat} {Q X : Int → Gt → Prop} (h : ((l0 ≠ 0 → (OkP E M_X10_reads [iv l0] G (wIn l0 1 7) ∧ (((wIn l0 1 7) = 0 → (OkP E M_X11_isWithin [iv l1, iv 0, iv (if l0 = 15 then (1000 : Int) else 7)] G (wIn l1 0 (if l0 = 15 then (1000 : Int) else 7)) ∧ ((wIn l1 0 (if l0 = 15 then (1000 : Int) else 7)) = 0 ∨ (wIn l1 0 (if l0 = 15 then (1000 : Int) else 7)) = 1) ∧ Q (wIn l1 0 (if l0 = 15 then (1000 : Int) else 7)) G)) ∧ ((wIn l0 1 7) ≠ 0 → (OkP E M_X11_isWithin [iv l1, iv 0, iv 3] G (wIn l1 0 3) ∧ ((wIn l1 0 3) = 0 ∨ (wIn l1 0 3) = 1) ∧ Q (wIn l1 0 3) G))))) ∧ (l0 = 0 → (OkP E M_X11_isWithin [iv l1, iv (-1000000), iv 1000000] G (wIn l1 (-1000000) 1000000) ∧ ((wIn l1 (-1000000) 1000000) = 0 ∨ (wIn l1 (-1000000) 1000000) = 1) ∧ Q (wIn l1 (-1000000) 1000000) G)))) : Ok E M_X11_isFirstFit [iv l0, iv l1] G c s Q X := Ok.intro (k := 0) rfl rfl (Nat.le_of_ble_eq_true rfl) rfl (b_X11_isFirstFit_0 h)
set_option maxRecDepth 20000 in
theorem b_X11_isSecondFit_0 {E : EE} {l0 l1 : Int} {G : Gt} {c s : Nat} {Q X : Int → Gt → Prop} (h : (OkP E M_X10_reads [iv l0] G (wIn l0 1 7) ∧ ((wIn l0 1 7) ≠ 0 → l0 ≠ 1 → OkP E M_X11_isWithin [iv l1, iv 1, iv 1000] G (wIn l1 1 1000)) ∧ ((wIn l0 1 7) ≠ 0 → l0 = 1 → OkP E M_X11_isWithin [iv l1, iv 0, iv 1000] G (wIn l1 0 1000)) ∧ ((if (wIn l0 1 7) = 0 then (1 : Int) else (if l0 = 1 then ((if (wIn l1 0 1000) = 0 then (0 : Int) else 1) : Int) else (if (wIn l1 1 1000) = 0 then (0 : Int) else 1))) = 0 ∨ (if (wIn l0 1 7) = 0 then (1 : Int) else (if l0 = 1 then ((if (wIn l1 0 1000) = 0 then (0 : Int) else 1) : Int) else (if (wIn l1 1 1000) = 0 then (0 : Int) else 1))) = 1) ∧ Q (if (wIn l0 1 7) = 0 then (1 : Int) else (if l0 = 1 then ((if (wIn l1 0 1000) = 0 then (0 : Int) else 1) : Int) else (if (wIn l1 1 1000) = 0 then (0 : Int) else 1))) G)) : V E M_X11_isSecondFit 0 [some (iv l0), some (iv l1)] [] G c s Q X := by
  refine v_iload_n (pc := 0) (dk dt_X11_isSecondFit 0 rfl) rfl rfl ?_
  obtain ⟨v1, h⟩ := h
  refine v_csPZ (v := (wIn l0 1 7)) (As := [iv l0]) (stk := []) (pc := 1) (dk dt_X11_isSecondFit 1 rfl) ml_X11_198 rfl rfl (Nat.le_of_ble_eq_true rfl) rfl rfl v1 ?_
  obtain ⟨v4, v6, h⟩ := h
  suffices k9 : V E M_X11_isSecondFit 32 [none, none] [iv (if (wIn l0 1 7) = 0 then (1 : Int) else (if l0 = 1 then ((if (wIn l1 0 1000) = 0 then (0 : Int) else 1) : Int) else (if (wIn l1 1 1000) = 0 then (0 : Int) else 1)))] G c s Q X by
    refine v_if_eq (pc := 4) (tgt := 27) (dk dt_X11_isSecondFit 2 rfl) (by decide) (fun c2 => ?_) (fun c2 => ?_)
    · refine v_iconst (pc := 27) (dk dt_X11_isSecondFit 13 rfl) ⟨by decide, by decide⟩ ?_
      refine v_goto (pc := 28) (tgt := 32) (dk dt_X11_isSecondFit 14 rfl) (by decide) ?_
      exact v_less2 (ls' := [none, none]) trivial (by have hk9 := k9; try simp only [if_pos c2] at hk9 ⊢; exact hk9)
    · refine v_iload_n (pc := 7) (dk dt_X11_isSecondFit 3 rfl) rfl rfl ?_
      refine v_iload_n (pc := 8) (dk dt_X11_isSecondFit 4 rfl) rfl rfl ?_
      refine v_iconst (pc := 9) (dk dt_X11_isSecondFit 5 rfl) ⟨by decide, by decide⟩ ?_
      refine v_icmp_ne (pc := 10) (tgt := 17) (dk dt_X11_isSecondFit 6 rfl) (by decide) (fun c3 => ?_) (fun c3 => ?_)
      · refine v_iconst (pc := 17) (dk dt_X11_isSecondFit 9 rfl) ⟨by decide, by decide⟩ ?_
        refine v_sipush (pc := 18) (dk dt_X11_isSecondFit 10 rfl) (by decide) ⟨by decide, by decide⟩ ?_
        refine v_csPZ (v := (wIn l1 1 1000)) (As := [iv l1, iv 1, iv 1000]) (stk := []) (pc := 21) (dk dt_X11_isSecondFit 11 rfl) ml_X11_85 rfl rfl (Nat.le_of_ble_eq_true rfl) rfl rfl (v4 c2 c3) ?_
        refine v_if_eq (pc := 24) (tgt := 31) (dk dt_X11_isSecondFit 12 rfl) (by decide) (fun c5 => ?_) (fun c5 => ?_)
        · refine v_iconst (pc := 31) (dk dt_X11_isSecondFit 15 rfl) ⟨by decide, by decide⟩ ?_
          exact v_less2 (ls' := [none, none]) trivial (by have hk9 := k9; try simp only [if_neg c2] at hk9 ⊢; try simp only [if_neg c3] at hk9 ⊢; try simp only [if_pos c5] at hk9 ⊢; exact hk9)
        · refine v_iconst (pc := 27) (dk dt_X11_isSecondFit 13 rfl) ⟨by decide, by decide⟩ ?_
          refine v_goto (pc := 28) (tgt := 32) (dk dt_X11_isSecondFit 14 rfl) (by decide) ?_
          exact v_less2 (ls' := [none, none]) trivial (by have hk9 := k9; try simp only [if_neg c2] at hk9 ⊢; try simp only [if_neg c3] at hk9 ⊢; try simp only [if_neg c5] at hk9 ⊢; exact hk9)
      · refine v_iconst (pc := 13) (dk dt_X11_isSecondFit 7 rfl) ⟨by decide, by decide⟩ ?_
        refine v_goto (pc := 14) (tgt := 18) (dk dt_X11_isSecondFit 8 rfl) (by decide) ?_
        refine v_sipush (pc := 18) (dk dt_X11_isSecondFit 10 rfl) (by decide) ⟨by decide, by decide⟩ ?_
        refine v_csPZ (v := (wIn l1 0 1000)) (As := [iv l1, iv 0, iv 1000]) (stk := []) (pc := 21) (dk dt_X11_isSecondFit 11 rfl) ml_X11_85 rfl rfl (Nat.le_of_ble_eq_true rfl) rfl rfl (v6 c2 c3) ?_
        refine v_if_eq (pc := 24) (tgt := 31) (dk dt_X11_isSecondFit 12 rfl) (by decide) (fun c7 => ?_) (fun c7 => ?_)
        · refine v_iconst (pc := 31) (dk dt_X11_isSecondFit 15 rfl) ⟨by decide, by decide⟩ ?_
          exact v_less2 (ls' := [none, none]) trivial (by have hk9 := k9; try simp only [if_neg c2] at hk9 ⊢; try simp only [if_pos c3] at hk9 ⊢; try simp only [if_pos c7] at hk9 ⊢; exact hk9)
        · refine v_iconst (pc := 27) (dk dt_X11_isSecondFit 13 rfl) ⟨by decide, by decide⟩ ?_
          refine v_goto (pc := 28) (tgt := 32) (dk dt_X11_isSecondFit 14 rfl) (by decide) ?_
          exact v_less2 (ls' := [none, none]) trivial (by have hk9 := k9; try simp only [if_neg c2] at hk9 ⊢; try simp only [if_pos c3] at hk9 ⊢; try simp only [if_neg c7] at hk9 ⊢; exact hk9)
  obtain ⟨v8, h⟩ := h
  exact v_zret (pc := 32) (dk dt_X11_isSecondFit 16 rfl) rfl v8 h
set_option maxRecDepth 20000 in
theorem i_X11_isSecondFit {E : EE} {l0 l1 : Int} {G : Gt} {c s : Nat} {Q X : Int → Gt → Prop} (h : (OkP E M_X10_reads [iv l0] G (wIn l0 1 7) ∧ ((wIn l0 1 7) ≠ 0 → l0 ≠ 1 → OkP E M_X11_isWithin [iv l1, iv 1, iv 1000] G (wIn l1 1 1000)) ∧ ((wIn l0 1 7) ≠ 0 → l0 = 1 → OkP E M_X11_isWithin [iv l1, iv 0, iv 1000] G (wIn l1 0 1000)) ∧ ((if (wIn l0 1 7) = 0 then (1 : Int) else (if l0 = 1 then ((if (wIn l1 0 1000) = 0 then (0 : Int) else 1) : Int) else (if (wIn l1 1 1000) = 0 then (0 : Int) else 1))) = 0 ∨ (if (wIn l0 1 7) = 0 then (1 : Int) else (if l0 = 1 then ((if (wIn l1 0 1000) = 0 then (0 : Int) else 1) : Int) else (if (wIn l1 1 1000) = 0 then (0 : Int) else 1))) = 1) ∧ Q (if (wIn l0 1 7) = 0 then (1 : Int) else (if l0 = 1 then ((if (wIn l1 0 1000) = 0 then (0 : Int) else 1) : Int) else (if (wIn l1 1 1000) = 0 then (0 : Int) else 1))) G)) : Ok E M_X11_isSecondFit [iv l0, iv l1] G c s Q X := Ok.intro (k := 0) rfl rfl (Nat.le_of_ble_eq_true rfl) rfl (b_X11_isSecondFit_0 h)
set_option maxRecDepth 20000 in
theorem b_X11_seriesOf_0 {E : EE} {l0 l1 : Int} {G : Gt} {c s : Nat} {Q X : Int → Gt → Prop} (h : (gcl G l0 = 12 ∧ gcl G (gfd G 11 0 l0) = 9 ∧ gcl G (gfd G 8 0 (gfd G 11 0 l0)) = 14 ∧ OkP E M_A_size [rv (gfd G 8 0 (gfd G 11 0 l0))] G (gfd G 13 2 (gfd G 8 0 (gfd G 11 0 l0))) ∧ i32 ((gfd G 13 2 (gfd G 8 0 (gfd G 11 0 l0))) - 1) ∧ OkP E M_X11_isWithin [iv l1, iv 0, iv ((gfd G 13 2 (gfd G 8 0 (gfd G 11 0 l0))) - 1)] G (wIn l1 0 ((gfd G 13 2 (gfd G 8 0 (gfd G 11 0 l0))) - 1)) ∧ (((wIn l1 0 ((gfd G 13 2 (gfd G 8 0 (gfd G 11 0 l0))) - 1)) ≠ 0 → (gcl G l0 = 12 ∧ gcl G (gfd G 11 0 l0) = 9 ∧ gcl G (gfd G 8 0 (gfd G 11 0 l0)) = 14 ∧ OkP E M_A_get [rv (gfd G 8 0 (gfd G 11 0 l0)), iv l1] G (alAt G (gfd G 8 0 (gfd G 11 0 l0)) l1) ∧ ((alAt G (gfd G 8 0 (gfd G 11 0 l0)) l1) = -1 ∨ gcl G (alAt G (gfd G 8 0 (gfd G 11 0 l0)) l1) = 8) ∧ Q (alAt G (gfd G 8 0 (gfd G 11 0 l0)) l1) G)) ∧ ((wIn l1 0 ((gfd G 13 2 (gfd G 8 0 (gfd G 11 0 l0))) - 1)) = 0 → (1 ≤ c ∧ 6 ≤ s ∧ X 3 G))))) : V E M_X11_seriesOf 0 [some (rv l0), some (iv l1)] [] G c s Q X := by
  refine v_iload_n (pc := 0) (dk dt_X11_seriesOf 0 rfl) rfl rfl ?_
  refine v_iconst (pc := 1) (dk dt_X11_seriesOf 1 rfl) ⟨by decide, by decide⟩ ?_
  refine v_aload_n (pc := 2) (dk dt_X11_seriesOf 2 rfl) rfl rfl ?_
  obtain ⟨v1, h⟩ := h
  refine v_getR (pc := 3) (dk dt_X11_seriesOf 3 rfl) fl_X11_12 v1 (fun _ => ?_)
  obtain ⟨v2, h⟩ := h
  refine v_getR (pc := 6) (dk dt_X11_seriesOf 4 rfl) fl_X11_107 v2 (fun _ => ?_)
  obtain ⟨v3, h⟩ := h
  obtain ⟨v4, h⟩ := h
  refine v_cvPI (c := 13) (v := (gfd G 13 2 (gfd G 8 0 (gfd G 11 0 l0)))) (As := []) (stk := [iv 0, iv l1]) (pc := 9) (dk dt_X11_seriesOf 5 rfl) ml_X11_110 rfl rfl (Nat.le_of_ble_eq_true rfl) rfl ⟨by decide, rfl⟩ v3 rfl v4 ?_
  refine v_iconst (pc := 12) (dk dt_X11_seriesOf 6 rfl) ⟨by decide, by decide⟩ ?_
  obtain ⟨v5, h⟩ := h
  refine v_isub (pc := 13) (dk dt_X11_seriesOf 7 rfl) v5 ?_
  obtain ⟨v6, h⟩ := h
  refine v_csPZ (v := (wIn l1 0 ((gfd G 13 2 (gfd G 8 0 (gfd G 11 0 l0))) - 1))) (As := [iv l1, iv 0, iv ((gfd G 13 2 (gfd G 8 0 (gfd G 11 0 l0))) - 1)]) (stk := []) (pc := 14) (dk dt_X11_seriesOf 8 rfl) ml_X11_85 rfl rfl (Nat.le_of_ble_eq_true rfl) rfl rfl v6 ?_
  refine v_if_ne (pc := 17) (tgt := 31) (dk dt_X11_seriesOf 9 rfl) (by decide) (fun c7 => ?_) (fun c7 => ?_)
  · replace h := h.1 c7
    refine v_aload_n (pc := 31) (dk dt_X11_seriesOf 15 rfl) rfl rfl ?_
    obtain ⟨v8, h⟩ := h
    refine v_getR (pc := 32) (dk dt_X11_seriesOf 16 rfl) fl_X11_12 v8 (fun _ => ?_)
    obtain ⟨v9, h⟩ := h
    refine v_getR (pc := 35) (dk dt_X11_seriesOf 17 rfl) fl_X11_107 v9 (fun _ => ?_)
    refine v_iload_n (pc := 38) (dk dt_X11_seriesOf 18 rfl) rfl rfl ?_
    obtain ⟨v10, h⟩ := h
    obtain ⟨v11, h⟩ := h
    refine v_cvPR (c := 13) (v := (alAt G (gfd G 8 0 (gfd G 11 0 l0)) l1)) (As := [iv l1]) (stk := []) (pc := 39) (dk dt_X11_seriesOf 19 rfl) ml_X11_202 rfl rfl (Nat.le_of_ble_eq_true rfl) rfl ⟨by decide, rfl⟩ v10 rfl v11 ?_
    obtain ⟨v12, h⟩ := h
    refine v_cast (c := 7) (pc := 42) (dk dt_X11_seriesOf 20 rfl) (by decide) cl_X11_119 v12 ?_
    exact v_aret (pc := 45) (dk dt_X11_seriesOf 21 rfl) rfl (by first | exact Or.inl ⟨_, rfl⟩ | exact Or.inr ⟨_, rfl⟩) h
  · replace h := h.2 c7
    obtain ⟨v13, h⟩ := h
    obtain ⟨v14, h⟩ := h
    exact v_throwW (pc := 20) (text := "no such series") 3 rfl (Or.inr (Or.inr rfl)) (by decide +kernel) rfl (Nat.le_of_ble_eq_true rfl) (Nat.le_of_ble_eq_true rfl) (Nat.le_of_ble_eq_true rfl) (dk dt_X11_seriesOf 10 rfl) (dk dt_X11_seriesOf 11 rfl) (dk dt_X11_seriesOf 12 rfl) (dk dt_X11_seriesOf 13 rfl) (dk dt_X11_seriesOf 14 rfl) v13 v14 h
set_option maxRecDepth 20000 in
theorem i_X11_seriesOf {E : EE} {l0 l1 : Int} {G : Gt} {c s : Nat} {Q X : Int → Gt → Prop} (h : (gcl G l0 = 12 ∧ gcl G (gfd G 11 0 l0) = 9 ∧ gcl G (gfd G 8 0 (gfd G 11 0 l0)) = 14 ∧ OkP E M_A_size [rv (gfd G 8 0 (gfd G 11 0 l0))] G (gfd G 13 2 (gfd G 8 0 (gfd G 11 0 l0))) ∧ i32 ((gfd G 13 2 (gfd G 8 0 (gfd G 11 0 l0))) - 1) ∧ OkP E M_X11_isWithin [iv l1, iv 0, iv ((gfd G 13 2 (gfd G 8 0 (gfd G 11 0 l0))) - 1)] G (wIn l1 0 ((gfd G 13 2 (gfd G 8 0 (gfd G 11 0 l0))) - 1)) ∧ (((wIn l1 0 ((gfd G 13 2 (gfd G 8 0 (gfd G 11 0 l0))) - 1)) ≠ 0 → (gcl G l0 = 12 ∧ gcl G (gfd G 11 0 l0) = 9 ∧ gcl G (gfd G 8 0 (gfd G 11 0 l0)) = 14 ∧ OkP E M_A_get [rv (gfd G 8 0 (gfd G 11 0 l0)), iv l1] G (alAt G (gfd G 8 0 (gfd G 11 0 l0)) l1) ∧ ((alAt G (gfd G 8 0 (gfd G 11 0 l0)) l1) = -1 ∨ gcl G (alAt G (gfd G 8 0 (gfd G 11 0 l0)) l1) = 8) ∧ Q (alAt G (gfd G 8 0 (gfd G 11 0 l0)) l1) G)) ∧ ((wIn l1 0 ((gfd G 13 2 (gfd G 8 0 (gfd G 11 0 l0))) - 1)) = 0 → (1 ≤ c ∧ 6 ≤ s ∧ X 3 G))))) : Ok E M_X11_seriesOf [rv l0, iv l1] G c s Q X := Ok.intro (k := 0) rfl rfl (Nat.le_of_ble_eq_true rfl) rfl (b_X11_seriesOf_0 h)
set_option maxRecDepth 20000 in
theorem b_X11_selectorOf_0 {E : EE} {l0 l1 : Int} {G : Gt} {c s : Nat} {Q X : Int → Gt → Prop} (h : (gcl G l0 = 12 ∧ gcl G (gfd G 11 5 l0) = 14 ∧ OkP E M_A_size [rv (gfd G 11 5 l0)] G (gfd G 13 2 (gfd G 11 5 l0)) ∧ i32 ((gfd G 13 2 (gfd G 11 5 l0)) - 1) ∧ OkP E M_X11_isWithin [iv l1, iv 0, iv ((gfd G 13 2 (gfd G 11 5 l0)) - 1)] G (wIn l1 0 ((gfd G 13 2 (gfd G 11 5 l0)) - 1)) ∧ (((wIn l1 0 ((gfd G 13 2 (gfd G 11 5 l0)) - 1)) ≠ 0 → (gcl G l0 = 12 ∧ gcl G (gfd G 11 5 l0) = 14 ∧ OkP E M_A_get [rv (gfd G 11 5 l0), iv l1] G (alAt G (gfd G 11 5 l0) l1) ∧ ((alAt G (gfd G 11 5 l0) l1) = -1 ∨ gcl G (alAt G (gfd G 11 5 l0) l1) = 7) ∧ Q (alAt G (gfd G 11 5 l0) l1) G)) ∧ ((wIn l1 0 ((gfd G 13 2 (gfd G 11 5 l0)) - 1)) = 0 → (1 ≤ c ∧ 6 ≤ s ∧ X 3 G))))) : V E M_X11_selectorOf 0 [some (rv l0), some (iv l1)] [] G c s Q X := by
  refine v_iload_n (pc := 0) (dk dt_X11_selectorOf 0 rfl) rfl rfl ?_
  refine v_iconst (pc := 1) (dk dt_X11_selectorOf 1 rfl) ⟨by decide, by decide⟩ ?_
  refine v_aload_n (pc := 2) (dk dt_X11_selectorOf 2 rfl) rfl rfl ?_
  obtain ⟨v1, h⟩ := h
  refine v_getR (pc := 3) (dk dt_X11_selectorOf 3 rfl) fl_X11_51 v1 (fun _ => ?_)
  obtain ⟨v2, h⟩ := h
  obtain ⟨v3, h⟩ := h
  refine v_cvPI (c := 13) (v := (gfd G 13 2 (gfd G 11 5 l0))) (As := []) (stk := [iv 0, iv l1]) (pc := 6) (dk dt_X11_selectorOf 4 rfl) ml_X11_110 rfl rfl (Nat.le_of_ble_eq_true rfl) rfl ⟨by decide, rfl⟩ v2 rfl v3 ?_
  refine v_iconst (pc := 9) (dk dt_X11_selectorOf 5 rfl) ⟨by decide, by decide⟩ ?_
  obtain ⟨v4, h⟩ := h
  refine v_isub (pc := 10) (dk dt_X11_selectorOf 6 rfl) v4 ?_
  obtain ⟨v5, h⟩ := h
  refine v_csPZ (v := (wIn l1 0 ((gfd G 13 2 (gfd G 11 5 l0)) - 1))) (As := [iv l1, iv 0, iv ((gfd G 13 2 (gfd G 11 5 l0)) - 1)]) (stk := []) (pc := 11) (dk dt_X11_selectorOf 7 rfl) ml_X11_85 rfl rfl (Nat.le_of_ble_eq_true rfl) rfl rfl v5 ?_
  refine v_if_ne (pc := 14) (tgt := 27) (dk dt_X11_selectorOf 8 rfl) (by decide) (fun c6 => ?_) (fun c6 => ?_)
  · replace h := h.1 c6
    refine v_aload_n (pc := 27) (dk dt_X11_selectorOf 14 rfl) rfl rfl ?_
    obtain ⟨v7, h⟩ := h
    refine v_getR (pc := 28) (dk dt_X11_selectorOf 15 rfl) fl_X11_51 v7 (fun _ => ?_)
    refine v_iload_n (pc := 31) (dk dt_X11_selectorOf 16 rfl) rfl rfl ?_
    obtain ⟨v8, h⟩ := h
    obtain ⟨v9, h⟩ := h
    refine v_cvPR (c := 13) (v := (alAt G (gfd G 11 5 l0) l1)) (As := [iv l1]) (stk := []) (pc := 32) (dk dt_X11_selectorOf 17 rfl) ml_X11_202 rfl rfl (Nat.le_of_ble_eq_true rfl) rfl ⟨by decide, rfl⟩ v8 rfl v9 ?_
    obtain ⟨v10, h⟩ := h
    refine v_cast (c := 6) (pc := 35) (dk dt_X11_selectorOf 18 rfl) (by decide) cl_X11_39 v10 ?_
    exact v_aret (pc := 38) (dk dt_X11_selectorOf 19 rfl) rfl (by first | exact Or.inl ⟨_, rfl⟩ | exact Or.inr ⟨_, rfl⟩) h
  · replace h := h.2 c6
    obtain ⟨v11, h⟩ := h
    obtain ⟨v12, h⟩ := h
    exact v_throw (pc := 17) (text := "no such selector") 3 rfl (Or.inr (Or.inr rfl)) (by decide +kernel) rfl (Nat.le_of_ble_eq_true rfl) (Nat.le_of_ble_eq_true rfl) (Nat.le_of_ble_eq_true rfl) (dk dt_X11_selectorOf 9 rfl) (dk dt_X11_selectorOf 10 rfl) (dk dt_X11_selectorOf 11 rfl) (dk dt_X11_selectorOf 12 rfl) (dk dt_X11_selectorOf 13 rfl) v11 v12 h
set_option maxRecDepth 20000 in
theorem i_X11_selectorOf {E : EE} {l0 l1 : Int} {G : Gt} {c s : Nat} {Q X : Int → Gt → Prop} (h : (gcl G l0 = 12 ∧ gcl G (gfd G 11 5 l0) = 14 ∧ OkP E M_A_size [rv (gfd G 11 5 l0)] G (gfd G 13 2 (gfd G 11 5 l0)) ∧ i32 ((gfd G 13 2 (gfd G 11 5 l0)) - 1) ∧ OkP E M_X11_isWithin [iv l1, iv 0, iv ((gfd G 13 2 (gfd G 11 5 l0)) - 1)] G (wIn l1 0 ((gfd G 13 2 (gfd G 11 5 l0)) - 1)) ∧ (((wIn l1 0 ((gfd G 13 2 (gfd G 11 5 l0)) - 1)) ≠ 0 → (gcl G l0 = 12 ∧ gcl G (gfd G 11 5 l0) = 14 ∧ OkP E M_A_get [rv (gfd G 11 5 l0), iv l1] G (alAt G (gfd G 11 5 l0) l1) ∧ ((alAt G (gfd G 11 5 l0) l1) = -1 ∨ gcl G (alAt G (gfd G 11 5 l0) l1) = 7) ∧ Q (alAt G (gfd G 11 5 l0) l1) G)) ∧ ((wIn l1 0 ((gfd G 13 2 (gfd G 11 5 l0)) - 1)) = 0 → (1 ≤ c ∧ 6 ≤ s ∧ X 3 G))))) : Ok E M_X11_selectorOf [rv l0, iv l1] G c s Q X := Ok.intro (k := 0) rfl rfl (Nat.le_of_ble_eq_true rfl) rfl (b_X11_selectorOf_0 h)
set_option maxRecDepth 20000 in
theorem b_X11_isAlert_0 {E : EE} {l0 l1 : Int} {G : Gt} {c s : Nat} {Q X : Int → Gt → Prop} (h : (gcl G l0 = 12 ∧ gcl G (gfd G 11 6 l0) = 14 ∧ OkP E M_A_size [rv (gfd G 11 6 l0)] G (gfd G 13 2 (gfd G 11 6 l0)) ∧ i32 ((gfd G 13 2 (gfd G 11 6 l0)) - 1) ∧ OkP E M_X11_isWithin [iv l1, iv 0, iv ((gfd G 13 2 (gfd G 11 6 l0)) - 1)] G (wIn l1 0 ((gfd G 13 2 (gfd G 11 6 l0)) - 1)) ∧ ((wIn l1 0 ((gfd G 13 2 (gfd G 11 6 l0)) - 1)) ≠ 0 → gcl G l0 = 12) ∧ ((wIn l1 0 ((gfd G 13 2 (gfd G 11 6 l0)) - 1)) ≠ 0 → gcl G (gfd G 11 6 l0) = 14) ∧ ((wIn l1 0 ((gfd G 13 2 (gfd G 11 6 l0)) - 1)) ≠ 0 → OkP E M_A_get [rv (gfd G 11 6 l0), iv l1] G (alAt G (gfd G 11 6 l0) l1)) ∧ ((wIn l1 0 ((gfd G 13 2 (gfd G 11 6 l0)) - 1)) ≠ 0 → (alAt G (gfd G 11 6 l0) l1) = -1 ∨ gcl G (alAt G (gfd G 11 6 l0) l1) = 5) ∧ ((wIn l1 0 ((gfd G 13 2 (gfd G 11 6 l0)) - 1)) ≠ 0 → gcl G (alAt G (gfd G 11 6 l0) l1) = 5) ∧ ((wIn l1 0 ((gfd G 13 2 (gfd G 11 6 l0)) - 1)) ≠ 0 → OkP E M_X4_records [rv (alAt G (gfd G 11 6 l0) l1)] G (if gfd G 4 1 (alAt G (gfd G 11 6 l0) l1) = -1 then (0 : Int) else 1)) ∧ ((if (wIn l1 0 ((gfd G 13 2 (gfd G 11 6 l0)) - 1)) = 0 then (0 : Int) else (if (if gfd G 4 1 (alAt G (gfd G 11 6 l0) l1) = -1 then (0 : Int) else 1) = 0 then (1 : Int) else 0)) = 0 ∨ (if (wIn l1 0 ((gfd G 13 2 (gfd G 11 6 l0)) - 1)) = 0 then (0 : Int) else (if (if gfd G 4 1 (alAt G (gfd G 11 6 l0) l1) = -1 then (0 : Int) else 1) = 0 then (1 : Int) else 0)) = 1) ∧ Q (if (wIn l1 0 ((gfd G 13 2 (gfd G 11 6 l0)) - 1)) = 0 then (0 : Int) else (if (if gfd G 4 1 (alAt G (gfd G 11 6 l0) l1) = -1 then (0 : Int) else 1) = 0 then (1 : Int) else 0)) G)) : V E M_X11_isAlert 0 [some (rv l0), some (iv l1)] [] G c s Q X := by
  refine v_iload_n (pc := 0) (dk dt_X11_isAlert 0 rfl) rfl rfl ?_
  refine v_iconst (pc := 1) (dk dt_X11_isAlert 1 rfl) ⟨by decide, by decide⟩ ?_
  refine v_aload_n (pc := 2) (dk dt_X11_isAlert 2 rfl) rfl rfl ?_
  obtain ⟨v1, h⟩ := h
  refine v_getR (pc := 3) (dk dt_X11_isAlert 3 rfl) fl_X11_55 v1 (fun _ => ?_)
  obtain ⟨v2, h⟩ := h
  obtain ⟨v3, h⟩ := h
  refine v_cvPI (c := 13) (v := (gfd G 13 2 (gfd G 11 6 l0))) (As := []) (stk := [iv 0, iv l1]) (pc := 6) (dk dt_X11_isAlert 4 rfl) ml_X11_110 rfl rfl (Nat.le_of_ble_eq_true rfl) rfl ⟨by decide, rfl⟩ v2 rfl v3 ?_
  refine v_iconst (pc := 9) (dk dt_X11_isAlert 5 rfl) ⟨by decide, by decide⟩ ?_
  obtain ⟨v4, h⟩ := h
  refine v_isub (pc := 10) (dk dt_X11_isAlert 6 rfl) v4 ?_
  obtain ⟨v5, h⟩ := h
  refine v_csPZ (v := (wIn l1 0 ((gfd G 13 2 (gfd G 11 6 l0)) - 1))) (As := [iv l1, iv 0, iv ((gfd G 13 2 (gfd G 11 6 l0)) - 1)]) (stk := []) (pc := 11) (dk dt_X11_isAlert 7 rfl) ml_X11_85 rfl rfl (Nat.le_of_ble_eq_true rfl) rfl rfl v5 ?_
  obtain ⟨v7, v8, v9, v10, v11, v12, h⟩ := h
  suffices k15 : V E M_X11_isAlert 39 [none, none] [iv (if (wIn l1 0 ((gfd G 13 2 (gfd G 11 6 l0)) - 1)) = 0 then (0 : Int) else (if (if gfd G 4 1 (alAt G (gfd G 11 6 l0) l1) = -1 then (0 : Int) else 1) = 0 then (1 : Int) else 0))] G c s Q X by
    refine v_if_eq (pc := 14) (tgt := 38) (dk dt_X11_isAlert 8 rfl) (by decide) (fun c6 => ?_) (fun c6 => ?_)
    · refine v_iconst (pc := 38) (dk dt_X11_isAlert 18 rfl) ⟨by decide, by decide⟩ ?_
      exact v_less2 (ls' := [none, none]) trivial (by have hk9 := k15; try simp only [if_pos c6] at hk9 ⊢; exact hk9)
    · refine v_aload_n (pc := 17) (dk dt_X11_isAlert 9 rfl) rfl rfl ?_
      refine v_getR (pc := 18) (dk dt_X11_isAlert 10 rfl) fl_X11_55 (v7 c6) (fun _ => ?_)
      refine v_iload_n (pc := 21) (dk dt_X11_isAlert 11 rfl) rfl rfl ?_
      refine v_cvPR (c := 13) (v := (alAt G (gfd G 11 6 l0) l1)) (As := [iv l1]) (stk := []) (pc := 22) (dk dt_X11_isAlert 12 rfl) ml_X11_202 rfl rfl (Nat.le_of_ble_eq_true rfl) rfl ⟨by decide, rfl⟩ (v8 c6) rfl (v9 c6) ?_
      refine v_cast (c := 4) (pc := 25) (dk dt_X11_isAlert 13 rfl) (by decide) cl_X11_254 (v10 c6) ?_
      refine v_cvPZ (c := 4) (v := (if gfd G 4 1 (alAt G (gfd G 11 6 l0) l1) = -1 then (0 : Int) else 1)) (As := []) (stk := []) (pc := 28) (dk dt_X11_isAlert 14 rfl) ml_X11_314 rfl rfl (Nat.le_of_ble_eq_true rfl) rfl ⟨by decide, rfl⟩ (v11 c6) rfl (v12 c6) ?_
      refine v_if_ne (pc := 31) (tgt := 38) (dk dt_X11_isAlert 15 rfl) (by decide) (fun c13 => ?_) (fun c13 => ?_)
      · refine v_iconst (pc := 38) (dk dt_X11_isAlert 18 rfl) ⟨by decide, by decide⟩ ?_
        exact v_less2 (ls' := [none, none]) trivial (by have hk9 := k15; try simp only [if_neg c6] at hk9 ⊢; try simp only [if_neg c13] at hk9 ⊢; exact hk9)
      · refine v_iconst (pc := 34) (dk dt_X11_isAlert 16 rfl) ⟨by decide, by decide⟩ ?_
        refine v_goto (pc := 35) (tgt := 39) (dk dt_X11_isAlert 17 rfl) (by decide) ?_
        exact v_less2 (ls' := [none, none]) trivial (by have hk9 := k15; try simp only [if_neg c6] at hk9 ⊢; try simp only [if_pos c13] at hk9 ⊢; exact hk9)
  obtain ⟨v14, h⟩ := h
  exact v_zret (pc := 39) (dk dt_X11_isAlert 19 rfl) rfl v14 h
set_option maxRecDepth 20000 in
theorem i_X11_isAlert {E : EE} {l0 l1 : Int} {G : Gt} {c s : Nat} {Q X : Int → Gt → Prop} (h : (gcl G l0 = 12 ∧ gcl G (gfd G 11 6 l0) = 14 ∧ OkP E M_A_size [rv (gfd G 11 6 l0)] G (gfd G 13 2 (gfd G 11 6 l0)) ∧ i32 ((gfd G 13 2 (gfd G 11 6 l0)) - 1) ∧ OkP E M_X11_isWithin [iv l1, iv 0, iv ((gfd G 13 2 (gfd G 11 6 l0)) - 1)] G (wIn l1 0 ((gfd G 13 2 (gfd G 11 6 l0)) - 1)) ∧ ((wIn l1 0 ((gfd G 13 2 (gfd G 11 6 l0)) - 1)) ≠ 0 → gcl G l0 = 12) ∧ ((wIn l1 0 ((gfd G 13 2 (gfd G 11 6 l0)) - 1)) ≠ 0 → gcl G (gfd G 11 6 l0) = 14) ∧ ((wIn l1 0 ((gfd G 13 2 (gfd G 11 6 l0)) - 1)) ≠ 0 → OkP E M_A_get [rv (gfd G 11 6 l0), iv l1] G (alAt G (gfd G 11 6 l0) l1)) ∧ ((wIn l1 0 ((gfd G 13 2 (gfd G 11 6 l0)) - 1)) ≠ 0 → (alAt G (gfd G 11 6 l0) l1) = -1 ∨ gcl G (alAt G (gfd G 11 6 l0) l1) = 5) ∧ ((wIn l1 0 ((gfd G 13 2 (gfd G 11 6 l0)) - 1)) ≠ 0 → gcl G (alAt G (gfd G 11 6 l0) l1) = 5) ∧ ((wIn l1 0 ((gfd G 13 2 (gfd G 11 6 l0)) - 1)) ≠ 0 → OkP E M_X4_records [rv (alAt G (gfd G 11 6 l0) l1)] G (if gfd G 4 1 (alAt G (gfd G 11 6 l0) l1) = -1 then (0 : Int) else 1)) ∧ ((if (wIn l1 0 ((gfd G 13 2 (gfd G 11 6 l0)) - 1)) = 0 then (0 : Int) else (if (if gfd G 4 1 (alAt G (gfd G 11 6 l0) l1) = -1 then (0 : Int) else 1) = 0 then (1 : Int) else 0)) = 0 ∨ (if (wIn l1 0 ((gfd G 13 2 (gfd G 11 6 l0)) - 1)) = 0 then (0 : Int) else (if (if gfd G 4 1 (alAt G (gfd G 11 6 l0) l1) = -1 then (0 : Int) else 1) = 0 then (1 : Int) else 0)) = 1) ∧ Q (if (wIn l1 0 ((gfd G 13 2 (gfd G 11 6 l0)) - 1)) = 0 then (0 : Int) else (if (if gfd G 4 1 (alAt G (gfd G 11 6 l0) l1) = -1 then (0 : Int) else 1) = 0 then (1 : Int) else 0)) G)) : Ok E M_X11_isAlert [rv l0, iv l1] G c s Q X := Ok.intro (k := 0) rfl rfl (Nat.le_of_ble_eq_true rfl) rfl (b_X11_isAlert_0 h)
set_option maxRecDepth 20000 in
theorem b_X11_alertOf_0 {E : EE} {l0 l1 : Int} {G : Gt} {c s : Nat} {Q X : Int → Gt → Prop} (h : (gcl G l0 = 12 ∧ gcl G (gfd G 11 6 l0) = 14 ∧ OkP E M_A_size [rv (gfd G 11 6 l0)] G (gfd G 13 2 (gfd G 11 6 l0)) ∧ i32 ((gfd G 13 2 (gfd G 11 6 l0)) - 1) ∧ OkP E M_X11_isWithin [iv l1, iv 0, iv ((gfd G 13 2 (gfd G 11 6 l0)) - 1)] G (wIn l1 0 ((gfd G 13 2 (gfd G 11 6 l0)) - 1)) ∧ (((wIn l1 0 ((gfd G 13 2 (gfd G 11 6 l0)) - 1)) = 0 → (1 ≤ c ∧ 6 ≤ s ∧ X 3 G)) ∧ ((wIn l1 0 ((gfd G 13 2 (gfd G 11 6 l0)) - 1)) ≠ 0 → (gcl G l0 = 12 ∧ gcl G (gfd G 11 6 l0) = 14 ∧ OkP E M_A_get [rv (gfd G 11 6 l0), iv l1] G (alAt G (gfd G 11 6 l0) l1) ∧ ((alAt G (gfd G 11 6 l0) l1) = -1 ∨ gcl G (alAt G (gfd G 11 6 l0) l1) = 5) ∧ gcl G (alAt G (gfd G 11 6 l0) l1) = 5 ∧ OkP E M_X4_records [rv (alAt G (gfd G 11 6 l0) l1)] G (if gfd G 4 1 (alAt G (gfd G 11 6 l0) l1) = -1 then (0 : Int) else 1) ∧ (((if gfd G 4 1 (alAt G (gfd G 11 6 l0) l1) = -1 then (0 : Int) else 1) = 0 → (gcl G l0 = 12 ∧ gcl G (gfd G 11 6 l0) = 14 ∧ OkP E M_A_get [rv (gfd G 11 6 l0), iv l1] G (alAt G (gfd G 11 6 l0) l1) ∧ ((alAt G (gfd G 11 6 l0) l1) = -1 ∨ gcl G (alAt G (gfd G 11 6 l0) l1) = 5) ∧ Q (alAt G (gfd G 11 6 l0) l1) G)) ∧ ((if gfd G 4 1 (alAt G (gfd G 11 6 l0) l1) = -1 then (0 : Int) else 1) ≠ 0 → (1 ≤ c ∧ 6 ≤ s ∧ X 3 G)))))))) : V E M_X11_alertOf 0 [some (rv l0), some (iv l1)] [] G c s Q X := by
  refine v_iload_n (pc := 0) (dk dt_X11_alertOf 0 rfl) rfl rfl ?_
  refine v_iconst (pc := 1) (dk dt_X11_alertOf 1 rfl) ⟨by decide, by decide⟩ ?_
  refine v_aload_n (pc := 2) (dk dt_X11_alertOf 2 rfl) rfl rfl ?_
  obtain ⟨v1, h⟩ := h
  refine v_getR (pc := 3) (dk dt_X11_alertOf 3 rfl) fl_X11_55 v1 (fun _ => ?_)
  obtain ⟨v2, h⟩ := h
  obtain ⟨v3, h⟩ := h
  refine v_cvPI (c := 13) (v := (gfd G 13 2 (gfd G 11 6 l0))) (As := []) (stk := [iv 0, iv l1]) (pc := 6) (dk dt_X11_alertOf 4 rfl) ml_X11_110 rfl rfl (Nat.le_of_ble_eq_true rfl) rfl ⟨by decide, rfl⟩ v2 rfl v3 ?_
  refine v_iconst (pc := 9) (dk dt_X11_alertOf 5 rfl) ⟨by decide, by decide⟩ ?_
  obtain ⟨v4, h⟩ := h
  refine v_isub (pc := 10) (dk dt_X11_alertOf 6 rfl) v4 ?_
  obtain ⟨v5, h⟩ := h
  refine v_csPZ (v := (wIn l1 0 ((gfd G 13 2 (gfd G 11 6 l0)) - 1))) (As := [iv l1, iv 0, iv ((gfd G 13 2 (gfd G 11 6 l0)) - 1)]) (stk := []) (pc := 11) (dk dt_X11_alertOf 7 rfl) ml_X11_85 rfl rfl (Nat.le_of_ble_eq_true rfl) rfl rfl v5 ?_
  refine v_if_eq (pc := 14) (tgt := 34) (dk dt_X11_alertOf 8 rfl) (by decide) (fun c6 => ?_) (fun c6 => ?_)
  · replace h := h.1 c6
    obtain ⟨v7, h⟩ := h
    obtain ⟨v8, h⟩ := h
    exact v_throwW (pc := 34) (text := "no such alert") 3 rfl (Or.inr (Or.inr rfl)) (by decide +kernel) rfl (Nat.le_of_ble_eq_true rfl) (Nat.le_of_ble_eq_true rfl) (Nat.le_of_ble_eq_true rfl) (dk dt_X11_alertOf 16 rfl) (dk dt_X11_alertOf 17 rfl) (dk dt_X11_alertOf 18 rfl) (dk dt_X11_alertOf 19 rfl) (dk dt_X11_alertOf 20 rfl) v7 v8 h
  · replace h := h.2 c6
    refine v_aload_n (pc := 17) (dk dt_X11_alertOf 9 rfl) rfl rfl ?_
    obtain ⟨v9, h⟩ := h
    refine v_getR (pc := 18) (dk dt_X11_alertOf 10 rfl) fl_X11_55 v9 (fun _ => ?_)
    refine v_iload_n (pc := 21) (dk dt_X11_alertOf 11 rfl) rfl rfl ?_
    obtain ⟨v10, h⟩ := h
    obtain ⟨v11, h⟩ := h
    refine v_cvPR (c := 13) (v := (alAt G (gfd G 11 6 l0) l1)) (As := [iv l1]) (stk := []) (pc := 22) (dk dt_X11_alertOf 12 rfl) ml_X11_202 rfl rfl (Nat.le_of_ble_eq_true rfl) rfl ⟨by decide, rfl⟩ v10 rfl v11 ?_
    obtain ⟨v12, h⟩ := h
    refine v_cast (c := 4) (pc := 25) (dk dt_X11_alertOf 13 rfl) (by decide) cl_X11_254 v12 ?_
    obtain ⟨v13, h⟩ := h
    obtain ⟨v14, h⟩ := h
    refine v_cvPZ (c := 4) (v := (if gfd G 4 1 (alAt G (gfd G 11 6 l0) l1) = -1 then (0 : Int) else 1)) (As := []) (stk := []) (pc := 28) (dk dt_X11_alertOf 14 rfl) ml_X11_314 rfl rfl (Nat.le_of_ble_eq_true rfl) rfl ⟨by decide, rfl⟩ v13 rfl v14 ?_
    refine v_if_eq (pc := 31) (tgt := 45) (dk dt_X11_alertOf 15 rfl) (by decide) (fun c15 => ?_) (fun c15 => ?_)
    · replace h := h.1 c15
      refine v_aload_n (pc := 45) (dk dt_X11_alertOf 21 rfl) rfl rfl ?_
      obtain ⟨v16, h⟩ := h
      refine v_getR (pc := 46) (dk dt_X11_alertOf 22 rfl) fl_X11_55 v16 (fun _ => ?_)
      refine v_iload_n (pc := 49) (dk dt_X11_alertOf 23 rfl) rfl rfl ?_
      obtain ⟨v17, h⟩ := h
      obtain ⟨v18, h⟩ := h
      refine v_cvPR (c := 13) (v := (alAt G (gfd G 11 6 l0) l1)) (As := [iv l1]) (stk := []) (pc := 50) (dk dt_X11_alertOf 24 rfl) ml_X11_202 rfl rfl (Nat.le_of_ble_eq_true rfl) rfl ⟨by decide, rfl⟩ v17 rfl v18 ?_
      obtain ⟨v19, h⟩ := h
      refine v_cast (c := 4) (pc := 53) (dk dt_X11_alertOf 25 rfl) (by decide) cl_X11_254 v19 ?_
      exact v_aret (pc := 56) (dk dt_X11_alertOf 26 rfl) rfl (by first | exact Or.inl ⟨_, rfl⟩ | exact Or.inr ⟨_, rfl⟩) h
    · replace h := h.2 c15
      obtain ⟨v20, h⟩ := h
      obtain ⟨v21, h⟩ := h
      exact v_throwW (pc := 34) (text := "no such alert") 3 rfl (Or.inr (Or.inr rfl)) (by decide +kernel) rfl (Nat.le_of_ble_eq_true rfl) (Nat.le_of_ble_eq_true rfl) (Nat.le_of_ble_eq_true rfl) (dk dt_X11_alertOf 16 rfl) (dk dt_X11_alertOf 17 rfl) (dk dt_X11_alertOf 18 rfl) (dk dt_X11_alertOf 19 rfl) (dk dt_X11_alertOf 20 rfl) v20 v21 h
set_option maxRecDepth 20000 in
theorem i_X11_alertOf {E : EE} {l0 l1 : Int} {G : Gt} {c s : Nat} {Q X : Int → Gt → Prop} (h : (gcl G l0 = 12 ∧ gcl G (gfd G 11 6 l0) = 14 ∧ OkP E M_A_size [rv (gfd G 11 6 l0)] G (gfd G 13 2 (gfd G 11 6 l0)) ∧ i32 ((gfd G 13 2 (gfd G 11 6 l0)) - 1) ∧ OkP E M_X11_isWithin [iv l1, iv 0, iv ((gfd G 13 2 (gfd G 11 6 l0)) - 1)] G (wIn l1 0 ((gfd G 13 2 (gfd G 11 6 l0)) - 1)) ∧ (((wIn l1 0 ((gfd G 13 2 (gfd G 11 6 l0)) - 1)) = 0 → (1 ≤ c ∧ 6 ≤ s ∧ X 3 G)) ∧ ((wIn l1 0 ((gfd G 13 2 (gfd G 11 6 l0)) - 1)) ≠ 0 → (gcl G l0 = 12 ∧ gcl G (gfd G 11 6 l0) = 14 ∧ OkP E M_A_get [rv (gfd G 11 6 l0), iv l1] G (alAt G (gfd G 11 6 l0) l1) ∧ ((alAt G (gfd G 11 6 l0) l1) = -1 ∨ gcl G (alAt G (gfd G 11 6 l0) l1) = 5) ∧ gcl G (alAt G (gfd G 11 6 l0) l1) = 5 ∧ OkP E M_X4_records [rv (alAt G (gfd G 11 6 l0) l1)] G (if gfd G 4 1 (alAt G (gfd G 11 6 l0) l1) = -1 then (0 : Int) else 1) ∧ (((if gfd G 4 1 (alAt G (gfd G 11 6 l0) l1) = -1 then (0 : Int) else 1) = 0 → (gcl G l0 = 12 ∧ gcl G (gfd G 11 6 l0) = 14 ∧ OkP E M_A_get [rv (gfd G 11 6 l0), iv l1] G (alAt G (gfd G 11 6 l0) l1) ∧ ((alAt G (gfd G 11 6 l0) l1) = -1 ∨ gcl G (alAt G (gfd G 11 6 l0) l1) = 5) ∧ Q (alAt G (gfd G 11 6 l0) l1) G)) ∧ ((if gfd G 4 1 (alAt G (gfd G 11 6 l0) l1) = -1 then (0 : Int) else 1) ≠ 0 → (1 ≤ c ∧ 6 ≤ s ∧ X 3 G)))))))) : Ok E M_X11_alertOf [rv l0, iv l1] G c s Q X := Ok.intro (k := 0) rfl rfl (Nat.le_of_ble_eq_true rfl) rfl (b_X11_alertOf_0 h)
set_option maxRecDepth 20000 in
theorem b_X11_resultsLeft_0 {E : EE} {l0 : Int} {G : Gt} {c s : Nat} {Q X : Int → Gt → Prop} (h : V E M_X11_resultsLeft 4 [some (rv l0), some (iv 0), some (iv 0)] [] G c s Q X) : V E M_X11_resultsLeft 0 [some (rv l0), none, none] [] G c s Q X := by
  refine v_iconst (pc := 0) (dk dt_X11_resultsLeft 0 rfl) ⟨by decide, by decide⟩ ?_
  refine v_istore_n (pc := 1) (ls' := [some (rv l0), some (iv 0), none]) (dk dt_X11_resultsLeft 1 rfl) rfl (Nat.le_of_ble_eq_true rfl) rfl ?_
  refine v_iconst (pc := 2) (dk dt_X11_resultsLeft 2 rfl) ⟨by decide, by decide⟩ ?_
  refine v_istore_n (pc := 3) (ls' := [some (rv l0), some (iv 0), some (iv 0)]) (dk dt_X11_resultsLeft 3 rfl) rfl (Nat.le_of_ble_eq_true rfl) rfl ?_
  exact h
set_option maxRecDepth 20000 in
theorem i_X11_resultsLeft {E : EE} {l0 : Int} {G : Gt} {c s : Nat} {Q X : Int → Gt → Prop} (h : V E M_X11_resultsLeft 4 [some (rv l0), some (iv 0), some (iv 0)] [] G c s Q X) : Ok E M_X11_resultsLeft [rv l0] G c s Q X := Ok.intro (k := 2) rfl rfl (Nat.le_of_ble_eq_true rfl) rfl (b_X11_resultsLeft_0 h)
set_option maxRecDepth 20000 in
theorem b_X11_resultsLeft_4 {E : EE} {l0 l1 l2 : Int} {G : Gt} {c s : Nat} {Q X : Int → Gt → Prop} (h : (gcl G l0 = 12 ∧ gcl G (gfd G 11 10 l0) = 14 ∧ OkP E M_A_size [rv (gfd G 11 10 l0)] G (gfd G 13 2 (gfd G 11 10 l0)) ∧ (((gfd G 13 2 (gfd G 11 10 l0)) ≤ l2 → Q l1 G) ∧ (l2 < (gfd G 13 2 (gfd G 11 10 l0)) → (gcl G l0 = 12 ∧ gcl G (gfd G 11 10 l0) = 14 ∧ OkP E M_A_get [rv (gfd G 11 10 l0), iv l2] G (alAt G (gfd G 11 10 l0) l2) ∧ ((alAt G (gfd G 11 10 l0) l2) = -1 ∨ gcl G (alAt G (gfd G 11 10 l0) l2) = 11) ∧ gcl G (alAt G (gfd G 11 10 l0) l2) = 11 ∧ OkP E M_X10_needs [iv (gfd G 10 0 (alAt G (gfd G 11 10 l0) l2))] G (wNeeds (gfd G 10 0 (alAt G (gfd G 11 10 l0) l2))) ∧ i32 (1 - (wNeeds (gfd G 10 0 (alAt G (gfd G 11 10 l0) l2)))) ∧ i32 (l1 + (1 - (wNeeds (gfd G 10 0 (alAt G (gfd G 11 10 l0) l2))))) ∧ i32 (l2 + 1) ∧ V E M_X11_resultsLeft 4 [some (rv l0), some (iv (l1 + (1 - (wNeeds (gfd G 10 0 (alAt G (gfd G 11 10 l0) l2)))))), some (iv (l2 + 1))] [] G c s Q X))))) : V E M_X11_resultsLeft 4 [some (rv l0), some (iv l1), some (iv l2)] [] G c s Q X := by
  refine v_iload_n (pc := 4) (dk dt_X11_resultsLeft 4 rfl) rfl rfl ?_
  refine v_aload_n (pc := 5) (dk dt_X11_resultsLeft 5 rfl) rfl rfl ?_
  obtain ⟨v1, h⟩ := h
  refine v_getR (pc := 6) (dk dt_X11_resultsLeft 6 rfl) fl_X11_68 v1 (fun _ => ?_)
  obtain ⟨v2, h⟩ := h
  obtain ⟨v3, h⟩ := h
  refine v_cvPI (c := 13) (v := (gfd G 13 2 (gfd G 11 10 l0))) (As := []) (stk := [iv l2]) (pc := 9) (dk dt_X11_resultsLeft 7 rfl) ml_X11_110 rfl rfl (Nat.le_of_ble_eq_true rfl) rfl ⟨by decide, rfl⟩ v2 rfl v3 ?_
  refine v_icmp_ge (pc := 12) (tgt := 43) (dk dt_X11_resultsLeft 8 rfl) (by decide) (fun c4 => ?_) (fun c4 => ?_)
  · replace h := h.1 c4
    refine v_iload_n (pc := 43) (dk dt_X11_resultsLeft 23 rfl) rfl rfl ?_
    exact v_iret (pc := 44) (dk dt_X11_resultsLeft 24 rfl) rfl h
  · replace h := h.2 c4
    refine v_iload_n (pc := 15) (dk dt_X11_resultsLeft 9 rfl) rfl rfl ?_
    refine v_iconst (pc := 16) (dk dt_X11_resultsLeft 10 rfl) ⟨by decide, by decide⟩ ?_
    refine v_aload_n (pc := 17) (dk dt_X11_resultsLeft 11 rfl) rfl rfl ?_
    obtain ⟨v5, h⟩ := h
    refine v_getR (pc := 18) (dk dt_X11_resultsLeft 12 rfl) fl_X11_68 v5 (fun _ => ?_)
    refine v_iload_n (pc := 21) (dk dt_X11_resultsLeft 13 rfl) rfl rfl ?_
    obtain ⟨v6, h⟩ := h
    obtain ⟨v7, h⟩ := h
    refine v_cvPR (c := 13) (v := (alAt G (gfd G 11 10 l0) l2)) (As := [iv l2]) (stk := [iv 1, iv l1]) (pc := 22) (dk dt_X11_resultsLeft 14 rfl) ml_X11_202 rfl rfl (Nat.le_of_ble_eq_true rfl) rfl ⟨by decide, rfl⟩ v6 rfl v7 ?_
    obtain ⟨v8, h⟩ := h
    refine v_cast (c := 10) (pc := 25) (dk dt_X11_resultsLeft 15 rfl) (by decide) cl_X11_192 v8 ?_
    obtain ⟨v9, h⟩ := h
    refine v_getI (pc := 28) (dk dt_X11_resultsLeft 16 rfl) fl_X11_319 v9 (fun _ => ?_)
    obtain ⟨v10, h⟩ := h
    refine v_csPI (v := (wNeeds (gfd G 10 0 (alAt G (gfd G 11 10 l0) l2)))) (As := [iv (gfd G 10 0 (alAt G (gfd G 11 10 l0) l2))]) (stk := [iv 1, iv l1]) (pc := 31) (dk dt_X11_resultsLeft 17 rfl) ml_X11_191 rfl rfl (Nat.le_of_ble_eq_true rfl) rfl rfl v10 ?_
    obtain ⟨v11, h⟩ := h
    refine v_isub (pc := 34) (dk dt_X11_resultsLeft 18 rfl) v11 ?_
    obtain ⟨v12, h⟩ := h
    refine v_iadd (pc := 35) (dk dt_X11_resultsLeft 19 rfl) v12 ?_
    refine v_istore_n (pc := 36) (ls' := [some (rv l0), some (iv (l1 + (1 - (wNeeds (gfd G 10 0 (alAt G (gfd G 11 10 l0) l2)))))), some (iv l2)]) (dk dt_X11_resultsLeft 20 rfl) rfl (Nat.le_of_ble_eq_true rfl) rfl ?_
    obtain ⟨v13, h⟩ := h
    refine v_iinc (pc := 37) (ls' := [some (rv l0), some (iv (l1 + (1 - (wNeeds (gfd G 10 0 (alAt G (gfd G 11 10 l0) l2)))))), some (iv (l2 + 1))]) (dk dt_X11_resultsLeft 21 rfl) (Nat.le_of_ble_eq_true rfl) rfl v13 rfl ?_
    refine v_goto (pc := 40) (tgt := 4) (dk dt_X11_resultsLeft 22 rfl) (by decide) ?_
    exact h
set_option maxRecDepth 20000 in
theorem b_X11_addRule_0 {E : EE} {l0 l1 l2 l3 : Int} {G : Gt} {c s : Nat} {Q X : Int → Gt → Prop} (h : (gcl G l0 = 12 ∧ 1 ≤ c ∧ 6 ≤ s ∧ ∀ q4 : Int, gcl G q4 = 0 → (eb E : Int) ≤ q4 → ∀ G5 : Gt, G5 = (newo G q4 4) → gcl G5 l0 = 12 ∧ 0 ≤ q4 ∧ Call E M_X4_init [rv q4, rv (gfd G5 11 10 l0), iv l1, iv l2, iv l3] G5 (c - 1) (s - 6) X (fun r8 G9 c10 s11 => gcl G9 (gfd G 11 6 l0) = 14 ∧ Call E M_A_add [rv (gfd G 11 6 l0), rv q4] G9 c10 s11 X (fun r13 G14 c15 s16 => 1 ≤ c15 ∧ 3 ≤ s16 ∧ ∀ q19 : Int, gcl G14 q19 = 0 → (eb E : Int) ≤ q19 → ∀ G20 : Gt, G20 = (newo G14 q19 13) → 0 ≤ q19 ∧ Call E M_A_init [rv q19] G20 (c15 - 1) (s16 - 3) X (fun r22 G23 c24 s25 => gcl G23 l0 = 12 ∧ ∀ G27 : Gt, G27 = (sfd G23 11 10 l0 q19) → Q 0 G27))))) : V E M_X11_addRule 0 [some (rv l0), some (iv l1), some (iv l2), some (iv l3)] [] G c s Q X := by
  refine v_aload_n (pc := 0) (dk dt_X11_addRule 0 rfl) rfl rfl ?_
  obtain ⟨v1, h⟩ := h
  refine v_getR (pc := 1) (dk dt_X11_addRule 1 rfl) fl_X11_55 v1 (fun _ => ?_)
  obtain ⟨v2, h⟩ := h
  obtain ⟨v3, h⟩ := h
  refine v_new (pc := 4) (dk dt_X11_addRule 2 rfl) nl_X11_254 v2 v3 (fun q4 hq4 gq4 => ?_)
  replace h := h q4 hq4 gq4
  generalize hG5 : (newo G q4 4) = G5
  replace h := h G5 hG5.symm
  refine v_dup (pc := 7) (dk dt_X11_addRule 3 rfl) (by intro h9; cases h9) ?_
  refine v_aload_n (pc := 8) (dk dt_X11_addRule 4 rfl) rfl rfl ?_
  obtain ⟨v6, h⟩ := h
  refine v_getR (pc := 9) (dk dt_X11_addRule 5 rfl) fl_X11_68 v6 (fun _ => ?_)
  refine v_iload_n (pc := 12) (dk dt_X11_addRule 6 rfl) rfl rfl ?_
  refine v_iload_n (pc := 13) (dk dt_X11_addRule 7 rfl) rfl rfl ?_
  refine v_iload_n (pc := 14) (dk dt_X11_addRule 8 rfl) rfl rfl ?_
  obtain ⟨v7, h⟩ := h
  refine v_ciV (As := [rv (gfd G5 11 10 l0), iv l1, iv l2, iv l3]) (stk := [rv q4, rv (gfd G 11 6 l0)]) (pc := 15) (dk dt_X11_addRule 9 rfl) ml_X11_322 rfl rfl (Nat.le_of_ble_eq_true rfl) rfl v7 (Call.mono h (fun r8 G9 c10 s11 h => ?_))
  obtain ⟨v12, h⟩ := h
  refine v_cvZ (c := 13) (As := [rv q4]) (stk := []) (pc := 18) (dk dt_X11_addRule 10 rfl) ml_X11_81 rfl rfl (Nat.le_of_ble_eq_true rfl) rfl ⟨by decide, rfl⟩ v12 rfl (Call.mono h (fun r13 G14 c15 s16 h => ?_))
  refine v_pop (pc := 21) (dk dt_X11_addRule 11 rfl) (by intro h9; cases h9) ?_
  refine v_aload_n (pc := 22) (dk dt_X11_addRule 12 rfl) rfl rfl ?_
  obtain ⟨v17, h⟩ := h
  obtain ⟨v18, h⟩ := h
  refine v_new (pc := 23) (dk dt_X11_addRule 13 rfl) nl_X11_48 v17 v18 (fun q19 hq19 gq19 => ?_)
  replace h := h q19 hq19 gq19
  generalize hG20 : (newo G14 q19 13) = G20
  replace h := h G20 hG20.symm
  refine v_dup (pc := 26) (dk dt_X11_addRule 14 rfl) (by intro h9; cases h9) ?_
  obtain ⟨v21, h⟩ := h
  refine v_ciV (As := []) (stk := [rv q19, rv l0]) (pc := 27) (dk dt_X11_addRule 15 rfl) ml_X11_50 rfl rfl (Nat.le_of_ble_eq_true rfl) rfl v21 (Call.mono h (fun r22 G23 c24 s25 h => ?_))
  obtain ⟨v26, h⟩ := h
  refine v_putR (pc := 30) (dk dt_X11_addRule 16 rfl) fl_X11_68 (Or.inl rfl) v26 ?_
  generalize hG27 : (sfd G23 11 10 l0 q19) = G27
  replace h := h G27 hG27.symm
  exact v_vret (pc := 33) (dk dt_X11_addRule 17 rfl) rfl h
set_option maxRecDepth 20000 in
theorem i_X11_addRule {E : EE} {l0 l1 l2 l3 : Int} {G : Gt} {c s : Nat} {Q X : Int → Gt → Prop} (h : (gcl G l0 = 12 ∧ 1 ≤ c ∧ 6 ≤ s ∧ ∀ q4 : Int, gcl G q4 = 0 → (eb E : Int) ≤ q4 → ∀ G5 : Gt, G5 = (newo G q4 4) → gcl G5 l0 = 12 ∧ 0 ≤ q4 ∧ Call E M_X4_init [rv q4, rv (gfd G5 11 10 l0), iv l1, iv l2, iv l3] G5 (c - 1) (s - 6) X (fun r8 G9 c10 s11 => gcl G9 (gfd G 11 6 l0) = 14 ∧ Call E M_A_add [rv (gfd G 11 6 l0), rv q4] G9 c10 s11 X (fun r13 G14 c15 s16 => 1 ≤ c15 ∧ 3 ≤ s16 ∧ ∀ q19 : Int, gcl G14 q19 = 0 → (eb E : Int) ≤ q19 → ∀ G20 : Gt, G20 = (newo G14 q19 13) → 0 ≤ q19 ∧ Call E M_A_init [rv q19] G20 (c15 - 1) (s16 - 3) X (fun r22 G23 c24 s25 => gcl G23 l0 = 12 ∧ ∀ G27 : Gt, G27 = (sfd G23 11 10 l0 q19) → Q 0 G27))))) : Ok E M_X11_addRule [rv l0, iv l1, iv l2, iv l3] G c s Q X := Ok.intro (k := 0) rfl rfl (Nat.le_of_ble_eq_true rfl) rfl (b_X11_addRule_0 h)
set_option maxRecDepth 20000 in
theorem b_X11_goThroughRules_0 {E : EE} {l0 : Int} {G : Gt} {c s : Nat} {Q X : Int → Gt → Prop} (h : V E M_X11_goThroughRules 2 [some (rv l0), some (iv 0), none, none] [] G c s Q X) : V E M_X11_goThroughRules 0 [some (rv l0), none, none, none] [] G c s Q X := by
  refine v_iconst (pc := 0) (dk dt_X11_goThroughRules 0 rfl) ⟨by decide, by decide⟩ ?_
  refine v_istore_n (pc := 1) (ls' := [some (rv l0), some (iv 0), none, none]) (dk dt_X11_goThroughRules 1 rfl) rfl (Nat.le_of_ble_eq_true rfl) rfl ?_
  exact h
set_option maxRecDepth 20000 in
theorem i_X11_goThroughRules {E : EE} {l0 : Int} {G : Gt} {c s : Nat} {Q X : Int → Gt → Prop} (h : V E M_X11_goThroughRules 2 [some (rv l0), some (iv 0), none, none] [] G c s Q X) : Ok E M_X11_goThroughRules [rv l0] G c s Q X := Ok.intro (k := 3) rfl rfl (Nat.le_of_ble_eq_true rfl) rfl (b_X11_goThroughRules_0 h)
set_option maxRecDepth 20000 in
theorem b_X11_goThroughRules_2 {E : EE} {l0 l1 : Int} {G : Gt} {c s : Nat} {Q X : Int → Gt → Prop} (h : (gcl G l0 = 12 ∧ gcl G (gfd G 11 6 l0) = 14 ∧ OkP E M_A_size [rv (gfd G 11 6 l0)] G (gfd G 13 2 (gfd G 11 6 l0)) ∧ (((gfd G 13 2 (gfd G 11 6 l0)) ≤ l1 → Q 0 G) ∧ (l1 < (gfd G 13 2 (gfd G 11 6 l0)) → (gcl G l0 = 12 ∧ gcl G (gfd G 11 6 l0) = 14 ∧ OkP E M_A_get [rv (gfd G 11 6 l0), iv l1] G (alAt G (gfd G 11 6 l0) l1) ∧ ((alAt G (gfd G 11 6 l0) l1) = -1 ∨ gcl G (alAt G (gfd G 11 6 l0) l1) = 5) ∧ gcl G l0 = 12 ∧ gcl G (alAt G (gfd G 11 6 l0) l1) = 5 ∧ gcl G l0 = 12 ∧ gcl G (gfd G 11 0 l0) = 9 ∧ gcl G l0 = 12 ∧ gcl G (gfd G 11 1 l0) = 3 ∧ Call E M_X2_reckon [rv (gfd G 11 1 l0), rv (gfd G 4 0 (alAt G (gfd G 11 6 l0) l1)), rv (gfd G 8 0 (gfd G 11 0 l0)), iv (gfd G 11 12 l0)] G c s X (fun r15 G16 c17 s18 => gcl G16 (alAt G (gfd G 11 6 l0) l1) = 5 ∧ OkP E M_X4_records [rv (alAt G (gfd G 11 6 l0) l1)] G16 (if gfd G16 4 1 (alAt G (gfd G 11 6 l0) l1) = -1 then (0 : Int) else 1) ∧ (((if gfd G16 4 1 (alAt G (gfd G 11 6 l0) l1) = -1 then (0 : Int) else 1) = 0 → (gcl G16 l0 = 12 ∧ gcl G16 (alAt G (gfd G 11 6 l0) l1) = 5 ∧ Call E M_X4_look [rv (alAt G (gfd G 11 6 l0) l1), rv r15, iv (gfd G16 11 12 l0)] G16 c17 s18 X (fun r24 G25 c26 s27 => gcl G25 l0 = 12 ∧ Call E M_X11_tellOf [rv l0, rv (alAt G (gfd G 11 6 l0) l1), iv l1] G25 c26 s27 X (fun r29 G30 c31 s32 => i32 (l1 + 1) ∧ V E M_X11_goThroughRules 2 [some (rv l0), some (iv (l1 + 1)), none, none] [] G30 c31 s32 Q X)))) ∧ ((if gfd G16 4 1 (alAt G (gfd G 11 6 l0) l1) = -1 then (0 : Int) else 1) ≠ 0 → (gcl G16 (alAt G (gfd G 11 6 l0) l1) = 5 ∧ gcl G16 l0 = 12 ∧ Call E M_X11_writeResult [rv l0, rv r15, iv (gfd G16 4 1 (alAt G (gfd G 11 6 l0) l1))] G16 c17 s18 X (fun r36 G37 c38 s39 => i32 (l1 + 1) ∧ V E M_X11_goThroughRules 2 [some (rv l0), some (iv (l1 + 1)), none, none] [] G37 c38 s39 Q X)))))))))) : V E M_X11_goThroughRules 2 [some (rv l0), some (iv l1), none, none] [] G c s Q X := by
  refine v_iload_n (pc := 2) (dk dt_X11_goThroughRules 2 rfl) rfl rfl ?_
  refine v_aload_n (pc := 3) (dk dt_X11_goThroughRules 3 rfl) rfl rfl ?_
  obtain ⟨v1, h⟩ := h
  refine v_getR (pc := 4) (dk dt_X11_goThroughRules 4 rfl) fl_X11_55 v1 (fun _ => ?_)
  obtain ⟨v2, h⟩ := h
  obtain ⟨v3, h⟩ := h
  refine v_cvPI (c := 13) (v := (gfd G 13 2 (gfd G 11 6 l0))) (As := []) (stk := [iv l1]) (pc := 7) (dk dt_X11_goThroughRules 5 rfl) ml_X11_110 rfl rfl (Nat.le_of_ble_eq_true rfl) rfl ⟨by decide, rfl⟩ v2 rfl v3 ?_
  refine v_icmp_ge (pc := 10) (tgt := 88) (dk dt_X11_goThroughRules 6 rfl) (by decide) (fun c4 => ?_) (fun c4 => ?_)
  · replace h := h.1 c4
    exact v_vret (pc := 88) (dk dt_X11_goThroughRules_1 4 rfl) rfl h
  · replace h := h.2 c4
    refine v_aload_n (pc := 13) (dk dt_X11_goThroughRules 7 rfl) rfl rfl ?_
    obtain ⟨v5, h⟩ := h
    refine v_getR (pc := 14) (dk dt_X11_goThroughRules 8 rfl) fl_X11_55 v5 (fun _ => ?_)
    refine v_iload_n (pc := 17) (dk dt_X11_goThroughRules 9 rfl) rfl rfl ?_
    obtain ⟨v6, h⟩ := h
    obtain ⟨v7, h⟩ := h
    refine v_cvPR (c := 13) (v := (alAt G (gfd G 11 6 l0) l1)) (As := [iv l1]) (stk := []) (pc := 18) (dk dt_X11_goThroughRules 10 rfl) ml_X11_202 rfl rfl (Nat.le_of_ble_eq_true rfl) rfl ⟨by decide, rfl⟩ v6 rfl v7 ?_
    obtain ⟨v8, h⟩ := h
    refine v_cast (c := 4) (pc := 21) (dk dt_X11_goThroughRules 11 rfl) (by decide) cl_X11_254 v8 ?_
    refine v_astore_n (pc := 24) (ls' := [some (rv l0), some (iv l1), some (rv (alAt G (gfd G 11 6 l0) l1)), none]) (dk dt_X11_goThroughRules 12 rfl) rfl (Nat.le_of_ble_eq_true rfl) rfl ?_
    refine v_aload_n (pc := 25) (dk dt_X11_goThroughRules 13 rfl) rfl rfl ?_
    obtain ⟨v9, h⟩ := h
    refine v_getR (pc := 26) (dk dt_X11_goThroughRules 14 rfl) fl_X11_21 v9 (fun _ => ?_)
    refine v_aload_n (pc := 29) (dk dt_X11_goThroughRules 15 rfl) rfl rfl ?_
    obtain ⟨v10, h⟩ := h
    refine v_getR (pc := 30) (dk dt_X11_goThroughRules 16 rfl) fl_X11_325 v10 (fun _ => ?_)
    refine v_aload_n (pc := 33) (dk dt_X11_goThroughRules 17 rfl) rfl rfl ?_
    obtain ⟨v11, h⟩ := h
    refine v_getR (pc := 34) (dk dt_X11_goThroughRules 18 rfl) fl_X11_12 v11 (fun _ => ?_)
    obtain ⟨v12, h⟩ := h
    refine v_getR (pc := 37) (dk dt_X11_goThroughRules 19 rfl) fl_X11_107 v12 (fun _ => ?_)
    refine v_aload_n (pc := 40) (dk dt_X11_goThroughRules 20 rfl) rfl rfl ?_
    obtain ⟨v13, h⟩ := h
    refine v_getI (pc := 41) (dk dt_X11_goThroughRules 21 rfl) fl_X11_75 v13 (fun _ => ?_)
    obtain ⟨v14, h⟩ := h
    refine v_cvR (c := 2) (As := [rv (gfd G 4 0 (alAt G (gfd G 11 6 l0) l1)), rv (gfd G 8 0 (gfd G 11 0 l0)), iv (gfd G 11 12 l0)]) (stk := []) (pc := 44) (dk dt_X11_goThroughRules 22 rfl) ml_X11_214 rfl rfl (Nat.le_of_ble_eq_true rfl) rfl ⟨by decide, rfl⟩ v14 rfl (Call.mono h (fun r15 G16 c17 s18 h => ?_))
    refine v_astore_n (pc := 47) (ls' := [some (rv l0), some (iv l1), some (rv (alAt G (gfd G 11 6 l0) l1)), some (rv r15)]) (dk dt_X11_goThroughRules 23 rfl) rfl (Nat.le_of_ble_eq_true rfl) rfl ?_
    refine v_aload_n (pc := 48) (dk dt_X11_goThroughRules 24 rfl) rfl rfl ?_
    obtain ⟨v19, h⟩ := h
    obtain ⟨v20, h⟩ := h
    refine v_cvPZ (c := 4) (v := (if gfd G16 4 1 (alAt G (gfd G 11 6 l0) l1) = -1 then (0 : Int) else 1)) (As := []) (stk := []) (pc := 49) (dk dt_X11_goThroughRules 25 rfl) ml_X11_314 rfl rfl (Nat.le_of_ble_eq_true rfl) rfl ⟨by decide, rfl⟩ v19 rfl v20 ?_
    refine v_if_eq (pc := 52) (tgt := 67) (dk dt_X11_goThroughRules 26 rfl) (by decide) (fun c21 => ?_) (fun c21 => ?_)
    · replace h := h.1 c21
      refine v_aload_n (pc := 67) (dk dt_X11_goThroughRules 33 rfl) rfl rfl ?_
      refine v_aload_n (pc := 68) (dk dt_X11_goThroughRules 34 rfl) rfl rfl ?_
      refine v_aload_n (pc := 69) (dk dt_X11_goThroughRules 35 rfl) rfl rfl ?_
      obtain ⟨v22, h⟩ := h
      refine v_getI (pc := 70) (dk dt_X11_goThroughRules 36 rfl) fl_X11_75 v22 (fun _ => ?_)
      obtain ⟨v23, h⟩ := h
      refine v_cvV (c := 4) (As := [rv r15, iv (gfd G16 11 12 l0)]) (stk := []) (pc := 73) (dk dt_X11_goThroughRules 37 rfl) ml_X11_335 rfl rfl (Nat.le_of_ble_eq_true rfl) rfl ⟨by decide, rfl⟩ v23 rfl (Call.mono h (fun r24 G25 c26 s27 h => ?_))
      refine v_aload_n (pc := 76) (dk dt_X11_goThroughRules 38 rfl) rfl rfl ?_
      refine v_aload_n (pc := 77) (dk dt_X11_goThroughRules 39 rfl) rfl rfl ?_
      refine v_iload_n (pc := 78) (dk dt_X11_goThroughRules_1 0 rfl) rfl rfl ?_
      obtain ⟨v28, h⟩ := h
      refine v_cvV (c := 11) (As := [rv (alAt G (gfd G 11 6 l0) l1), iv l1]) (stk := []) (pc := 79) (dk dt_X11_goThroughRules_1 1 rfl) ml_X11_338 rfl rfl (Nat.le_of_ble_eq_true rfl) rfl ⟨by decide, rfl⟩ v28 rfl (Call.mono h (fun r29 G30 c31 s32 h => ?_))
      obtain ⟨v33, h⟩ := h
      refine v_iinc (pc := 82) (ls' := [some (rv l0), some (iv (l1 + 1)), some (rv (alAt G (gfd G 11 6 l0) l1)), some (rv r15)]) (dk dt_X11_goThroughRules_1 2 rfl) (Nat.le_of_ble_eq_true rfl) rfl v33 rfl ?_
      refine v_goto (pc := 85) (tgt := 2) (dk dt_X11_goThroughRules_1 3 rfl) (by decide) ?_
      exact v_less2 (ls' := [some (rv l0), some (iv (l1 + 1)), none, none]) ⟨rfl, rfl, trivial⟩ h
    · replace h := h.2 c21
      refine v_aload_n (pc := 55) (dk dt_X11_goThroughRules 27 rfl) rfl rfl ?_
      refine v_aload_n (pc := 56) (dk dt_X11_goThroughRules 28 rfl) rfl rfl ?_
      refine v_aload_n (pc := 57) (dk dt_X11_goThroughRules 29 rfl) rfl rfl ?_
      obtain ⟨v34, h⟩ := h
      refine v_getI (pc := 58) (dk dt_X11_goThroughRules 30 rfl) fl_X11_328 v34 (fun _ => ?_)
      obtain ⟨v35, h⟩ := h
      refine v_cvV (c := 11) (As := [rv r15, iv (gfd G16 4 1 (alAt G (gfd G 11 6 l0) l1))]) (stk := []) (pc := 61) (dk dt_X11_goThroughRules 31 rfl) ml_X11_331 rfl rfl (Nat.le_of_ble_eq_true rfl) rfl ⟨by decide, rfl⟩ v35 rfl (Call.mono h (fun r36 G37 c38 s39 h => ?_))
      refine v_goto (pc := 64) (tgt := 82) (dk dt_X11_goThroughRules 32 rfl) (by decide) ?_
      obtain ⟨v40, h⟩ := h
      refine v_iinc (pc := 82) (ls' := [some (rv l0), some (iv (l1 + 1)), some (rv (alAt G (gfd G 11 6 l0) l1)), some (rv r15)]) (dk dt_X11_goThroughRules_1 2 rfl) (Nat.le_of_ble_eq_true rfl) rfl v40 rfl ?_
      refine v_goto (pc := 85) (tgt := 2) (dk dt_X11_goThroughRules_1 3 rfl) (by decide) ?_
      exact v_less2 (ls' := [some (rv l0), some (iv (l1 + 1)), none, none]) ⟨rfl, rfl, trivial⟩ h
set_option maxRecDepth 20000 in
theorem b_X11_writeResult_0 {E : EE} {l0 l1 l2 : Int} {G : Gt} {c s : Nat} {Q X : Int → Gt → Prop} (h : ((0 ≤ l1 → V E M_X11_writeResult 7 [some (rv l0), some (rv l1), some (iv l2), some (iv 0), none, none, none, none] [] G c s Q X) ∧ (l1 = -1 → Q 0 G))) : V E M_X11_writeResult 0 [some (rv l0), some (rv l1), some (iv l2), none, none, none, none, none] [] G c s Q X := by
  refine v_aload_n (pc := 0) (dk dt_X11_writeResult 0 rfl) rfl rfl ?_
  refine v_ifnonnull (pc := 1) (tgt := 5) (dk dt_X11_writeResult 1 rfl) (by decide) (fun c1 => ?_) (fun c1 => ?_)
  · replace h := h.1 c1
    refine v_iconst (pc := 5) (dk dt_X11_writeResult 3 rfl) ⟨by decide, by decide⟩ ?_
    refine v_istore_n (pc := 6) (ls' := [some (rv l0), some (rv l1), some (iv l2), some (iv 0), none, none, none, none]) (dk dt_X11_writeResult 4 rfl) rfl (Nat.le_of_ble_eq_true rfl) rfl ?_
    exact h
  · replace h := h.2 c1
    exact v_vret (pc := 4) (dk dt_X11_writeResult 2 rfl) rfl h
set_option maxRecDepth 20000 in
theorem i_X11_writeResult {E : EE} {l0 l1 l2 : Int} {G : Gt} {c s : Nat} {Q X : Int → Gt → Prop} (h : ((0 ≤ l1 → V E M_X11_writeResult 7 [some (rv l0), some (rv l1), some (iv l2), some (iv 0), none, none, none, none] [] G c s Q X) ∧ (l1 = -1 → Q 0 G))) : Ok E M_X11_writeResult [rv l0, rv l1, iv l2] G c s Q X := Ok.intro (k := 5) rfl rfl (Nat.le_of_ble_eq_true rfl) rfl (b_X11_writeResult_0 h)
set_option maxRecDepth 20000 in
theorem b_X11_writeResult_7 {E : EE} {l0 l1 l2 l3 : Int} {G : Gt} {c s : Nat} {Q X : Int → Gt → Prop} (h : (gcl G l1 = 4 ∧ (((gfd G 3 2 l1) ≤ l3 → Q 0 G) ∧ (l3 < (gfd G 3 2 l1) → (gcl G l1 = 4 ∧ gcl G (gfd G 3 1 l1) = 16 ∧ 0 ≤ l3 ∧ l3 < gln G (gfd G 3 1 l1) ∧ gcl G l0 = 12 ∧ gcl G l1 = 4 ∧ gcl G (gfd G 3 0 l1) = 15 ∧ 0 ≤ l3 ∧ l3 < gln G (gfd G 3 0 l1) ∧ i32 ((Int.tdiv (gel G (gfd G 3 0 l1) l3) 10) * 10) ∧ i32 (((Int.tdiv (gel G (gfd G 3 0 l1) l3) 10) * 10) + l2) ∧ gcl G l0 = 12 ∧ i32 (max (-1000000) (min 1000000 (Int.tdiv (gel G (gfd G 3 1 l1) l3) 1000))) ∧ gcl G (gfd G 11 0 l0) = 9 ∧ Call E M_X8_take [rv (gfd G 11 0 l0), iv (((Int.tdiv (gel G (gfd G 3 0 l1) l3) 10) * 10) + l2), iv (gfd G 11 12 l0), iv (max (-1000000) (min 1000000 (Int.tdiv (gel G (gfd G 3 1 l1) l3) 1000)))] G c s X (fun r17 G18 c19 s20 => i32 (l3 + 1) ∧ V E M_X11_writeResult 7 [some (rv l0), some (rv l1), some (iv l2), some (iv (l3 + 1)), none, none, none, none] [] G18 c19 s20 Q X)))))) : V E M_X11_writeResult 7 [some (rv l0), some (rv l1), some (iv l2), some (iv l3), none, none, none, none] [] G c s Q X := by
  refine v_iload_n (pc := 7) (dk dt_X11_writeResult 5 rfl) rfl rfl ?_
  refine v_aload_n (pc := 8) (dk dt_X11_writeResult 6 rfl) rfl rfl ?_
  obtain ⟨v1, h⟩ := h
  refine v_getI (pc := 9) (dk dt_X11_writeResult 7 rfl) fl_X11_221 v1 (fun _ => ?_)
  refine v_icmp_ge (pc := 12) (tgt := 78) (dk dt_X11_writeResult 8 rfl) (by decide) (fun c2 => ?_) (fun c2 => ?_)
  · replace h := h.1 c2
    exact v_vret (pc := 78) (dk dt_X11_writeResult_1 2 rfl) rfl h
  · replace h := h.2 c2
    refine v_aload_n (pc := 15) (dk dt_X11_writeResult 9 rfl) rfl rfl ?_
    obtain ⟨v3, h⟩ := h
    refine v_getR (pc := 16) (dk dt_X11_writeResult 10 rfl) fl_X11_225 v3 (fun _ => ?_)
    refine v_iload_n (pc := 19) (dk dt_X11_writeResult 11 rfl) rfl rfl ?_
    obtain ⟨v4, h⟩ := h
    obtain ⟨v5, h⟩ := h
    obtain ⟨v6, h⟩ := h
    refine v_lald (pc := 20) (dk dt_X11_writeResult 12 rfl) v4 v5 v6 (fun _ => ?_)
    refine v_ldc2 (pc := 21) (dk dt_X11_writeResult 13 rfl) co_X11_342 ⟨by decide, by decide⟩ ?_
    refine v_ldivP (pc := 24) (dk dt_X11_writeResult 14 rfl) (by decide) ?_
    refine v_lstore (pc := 25) (ls' := [some (rv l0), some (rv l1), some (iv l2), some (iv l3), some (jv (Int.tdiv (gel G (gfd G 3 1 l1) l3) 1000)), none, none, none]) (dk dt_X11_writeResult 15 rfl) (Nat.le_of_ble_eq_true rfl) rfl ?_
    refine v_ldc2 (pc := 27) (dk dt_X11_writeResult 16 rfl) co_X11_344 ⟨by decide, by decide⟩ ?_
    refine v_ldc2 (pc := 30) (dk dt_X11_writeResult 17 rfl) co_X11_346 ⟨by decide, by decide⟩ ?_
    refine v_lload (pc := 33) (dk dt_X11_writeResult 18 rfl) rfl ?_
    refine v_lmin (pc := 35) (dk dt_X11_writeResult 19 rfl) mw_X11_348 (Nat.le_of_ble_eq_true rfl) (Nat.le_of_ble_eq_true rfl) (Nat.le_of_ble_eq_true rfl) ?_
    refine v_lmax (pc := 38) (dk dt_X11_writeResult 20 rfl) mw_X11_351 (Nat.le_of_ble_eq_true rfl) (Nat.le_of_ble_eq_true rfl) (Nat.le_of_ble_eq_true rfl) ?_
    refine v_lstore (pc := 41) (ls' := [some (rv l0), some (rv l1), some (iv l2), some (iv l3), some (jv (Int.tdiv (gel G (gfd G 3 1 l1) l3) 1000)), none, some (jv (max (-1000000) (min 1000000 (Int.tdiv (gel G (gfd G 3 1 l1) l3) 1000)))), none]) (dk dt_X11_writeResult 21 rfl) (Nat.le_of_ble_eq_true rfl) rfl ?_
    refine v_aload_n (pc := 43) (dk dt_X11_writeResult 22 rfl) rfl rfl ?_
    obtain ⟨v7, h⟩ := h
    refine v_getR (pc := 44) (dk dt_X11_writeResult 23 rfl) fl_X11_12 v7 (fun _ => ?_)
    refine v_aload_n (pc := 47) (dk dt_X11_writeResult 24 rfl) rfl rfl ?_
    obtain ⟨v8, h⟩ := h
    refine v_getR (pc := 48) (dk dt_X11_writeResult 25 rfl) fl_X11_223 v8 (fun _ => ?_)
    refine v_iload_n (pc := 51) (dk dt_X11_writeResult 26 rfl) rfl rfl ?_
    obtain ⟨v9, h⟩ := h
    obtain ⟨v10, h⟩ := h
    obtain ⟨v11, h⟩ := h
    refine v_iald (pc := 52) (dk dt_X11_writeResult 27 rfl) (Or.inl v9) v10 v11 (fun _ => ?_)
    refine v_bipush (pc := 53) (dk dt_X11_writeResult 28 rfl) (by decide) ⟨by decide, by decide⟩ ?_
    refine v_idivP (pc := 55) (dk dt_X11_writeResult 29 rfl) (by decide) ?_
    refine v_bipush (pc := 56) (dk dt_X11_writeResult 30 rfl) (by decide) ⟨by decide, by decide⟩ ?_
    obtain ⟨v12, h⟩ := h
    refine v_imul (pc := 58) (dk dt_X11_writeResult 31 rfl) v12 ?_
    refine v_iload_n (pc := 59) (dk dt_X11_writeResult 32 rfl) rfl rfl ?_
    obtain ⟨v13, h⟩ := h
    refine v_iadd (pc := 60) (dk dt_X11_writeResult 33 rfl) v13 ?_
    refine v_aload_n (pc := 61) (dk dt_X11_writeResult 34 rfl) rfl rfl ?_
    obtain ⟨v14, h⟩ := h
    refine v_getI (pc := 62) (dk dt_X11_writeResult 35 rfl) fl_X11_75 v14 (fun _ => ?_)
    refine v_lload (pc := 65) (dk dt_X11_writeResult 36 rfl) rfl ?_
    obtain ⟨v15, h⟩ := h
    refine v_l2i (pc := 67) (dk dt_X11_writeResult 37 rfl) v15 ?_
    obtain ⟨v16, h⟩ := h
    refine v_cvI (c := 8) (As := [iv (((Int.tdiv (gel G (gfd G 3 0 l1) l3) 10) * 10) + l2), iv (gfd G 11 12 l0), iv (max (-1000000) (min 1000000 (Int.tdiv (gel G (gfd G 3 1 l1) l3) 1000)))]) (stk := []) (pc := 68) (dk dt_X11_writeResult 38 rfl) ml_X11_103 rfl rfl (Nat.le_of_ble_eq_true rfl) rfl ⟨by decide, rfl⟩ v16 rfl (Call.mono h (fun r17 G18 c19 s20 h => ?_))
    refine v_pop (pc := 71) (dk dt_X11_writeResult 39 rfl) (by intro h9; cases h9) ?_
    obtain ⟨v21, h⟩ := h
    refine v_iinc (pc := 72) (ls' := [some (rv l0), some (rv l1), some (iv l2), some (iv (l3 + 1)), some (jv (Int.tdiv (gel G (gfd G 3 1 l1) l3) 1000)), none, some (jv (max (-1000000) (min 1000000 (Int.tdiv (gel G (gfd G 3 1 l1) l3) 1000)))), none]) (dk dt_X11_writeResult_1 0 rfl) (Nat.le_of_ble_eq_true rfl) rfl v21 rfl ?_
    refine v_goto (pc := 75) (tgt := 7) (dk dt_X11_writeResult_1 1 rfl) (by decide) ?_
    exact v_less2 (ls' := [some (rv l0), some (rv l1), some (iv l2), some (iv (l3 + 1)), none, none, none, none]) ⟨rfl, rfl, rfl, rfl, trivial⟩ h
set_option maxRecDepth 20000 in
theorem b_X11_tellOf_0 {E : EE} {l0 l1 l2 : Int} {G : Gt} {c s : Nat} {Q X : Int → Gt → Prop} (h : V E M_X11_tellOf 2 [some (rv l0), some (rv l1), some (iv l2), some (iv 0), none] [] G c s Q X) : V E M_X11_tellOf 0 [some (rv l0), some (rv l1), some (iv l2), none, none] [] G c s Q X := by
  refine v_iconst (pc := 0) (dk dt_X11_tellOf 0 rfl) ⟨by decide, by decide⟩ ?_
  refine v_istore_n (pc := 1) (ls' := [some (rv l0), some (rv l1), some (iv l2), some (iv 0), none]) (dk dt_X11_tellOf 1 rfl) rfl (Nat.le_of_ble_eq_true rfl) rfl ?_
  exact h
set_option maxRecDepth 20000 in
theorem i_X11_tellOf {E : EE} {l0 l1 l2 : Int} {G : Gt} {c s : Nat} {Q X : Int → Gt → Prop} (h : V E M_X11_tellOf 2 [some (rv l0), some (rv l1), some (iv l2), some (iv 0), none] [] G c s Q X) : Ok E M_X11_tellOf [rv l0, rv l1, iv l2] G c s Q X := Ok.intro (k := 2) rfl rfl (Nat.le_of_ble_eq_true rfl) rfl (b_X11_tellOf_0 h)
set_option maxRecDepth 20000 in
theorem b_X11_tellOf_2 {E : EE} {l0 l1 l2 l3 : Int} {G : Gt} {c s : Nat} {Q X : Int → Gt → Prop} (h : (gcl G l1 = 5 ∧ gcl G (gfd G 4 4 l1) = 14 ∧ OkP E M_A_size [rv (gfd G 4 4 l1)] G (gfd G 13 2 (gfd G 4 4 l1)) ∧ (((gfd G 13 2 (gfd G 4 4 l1)) ≤ l3 → Q 0 G) ∧ (l3 < (gfd G 13 2 (gfd G 4 4 l1)) → (gcl G l1 = 5 ∧ gcl G (gfd G 4 4 l1) = 14 ∧ OkP E M_A_get [rv (gfd G 4 4 l1), iv l3] G (alAt G (gfd G 4 4 l1) l3) ∧ ((alAt G (gfd G 4 4 l1) l3) = -1 ∨ gcl G (alAt G (gfd G 4 4 l1) l3) = 1) ∧ gcl G (alAt G (gfd G 4 4 l1) l3) = 1 ∧ (((gfd G 0 1 (alAt G (gfd G 4 4 l1) l3)) = 0 → (i32 (l3 + 1) ∧ V E M_X11_tellOf 2 [some (rv l0), some (rv l1), some (iv l2), some (iv (l3 + 1)), none] [] G c s Q X)) ∧ ((gfd G 0 1 (alAt G (gfd G 4 4 l1) l3)) ≠ 0 → (gcl G (alAt G (gfd G 4 4 l1) l3) = 1 ∧ (((gfd G 0 2 (alAt G (gfd G 4 4 l1) l3)) ≠ 0 → (i32 (l3 + 1) ∧ V E M_X11_tellOf 2 [some (rv l0), some (rv l1), some (iv l2), some (iv (l3 + 1)), none] [] G c s Q X)) ∧ ((gfd G 0 2 (alAt G (gfd G 4 4 l1) l3)) = 0 → (gcl G l0 = 12 ∧ Call E M_X11_isInhibited [rv l0, rv l1, rv (alAt G (gfd G 4 4 l1) l3)] G c s X (fun r16 G17 c18 s19 => ((r16 ≠ 0 → (i32 (l3 + 1) ∧ V E M_X11_tellOf 2 [some (rv l0), some (rv l1), some (iv l2), some (iv (l3 + 1)), none] [] G17 c18 s19 Q X)) ∧ (r16 = 0 → (gcl G17 l0 = 12 ∧ Call E M_X11_isSilenced [rv l0, rv (alAt G (gfd G 4 4 l1) l3)] G17 c18 s19 X (fun r23 G24 c25 s26 => ((r23 ≠ 0 → (i32 (l3 + 1) ∧ V E M_X11_tellOf 2 [some (rv l0), some (rv l1), some (iv l2), some (iv (l3 + 1)), none] [] G24 c25 s26 Q X)) ∧ (r23 = 0 → (gcl G24 (alAt G (gfd G 4 4 l1) l3) = 1 ∧ ∀ G30 : Gt, G30 = (sfd G24 0 2 (alAt G (gfd G 4 4 l1) l3) 1) → gcl G30 (alAt G (gfd G 4 4 l1) l3) = 1 ∧ gcl G30 l0 = 12 ∧ Call E M_X11_keepNotice [rv l0, iv l2, iv (gfd G30 0 0 (alAt G (gfd G 4 4 l1) l3))] G30 c25 s26 X (fun r33 G34 c35 s36 => i32 (l3 + 1) ∧ V E M_X11_tellOf 2 [some (rv l0), some (rv l1), some (iv l2), some (iv (l3 + 1)), none] [] G34 c35 s36 Q X)))))))))))))))))))) : V E M_X11_tellOf 2 [some (rv l0), some (rv l1), some (iv l2), some (iv l3), none] [] G c s Q X := by
  refine v_iload_n (pc := 2) (dk dt_X11_tellOf 2 rfl) rfl rfl ?_
  refine v_aload_n (pc := 3) (dk dt_X11_tellOf 3 rfl) rfl rfl ?_
  obtain ⟨v1, h⟩ := h
  refine v_getR (pc := 4) (dk dt_X11_tellOf 4 rfl) fl_X11_262 v1 (fun _ => ?_)
  obtain ⟨v2, h⟩ := h
  obtain ⟨v3, h⟩ := h
  refine v_cvPI (c := 13) (v := (gfd G 13 2 (gfd G 4 4 l1))) (As := []) (stk := [iv l3]) (pc := 7) (dk dt_X11_tellOf 5 rfl) ml_X11_110 rfl rfl (Nat.le_of_ble_eq_true rfl) rfl ⟨by decide, rfl⟩ v2 rfl v3 ?_
  refine v_icmp_ge (pc := 10) (tgt := 83) (dk dt_X11_tellOf 6 rfl) (by decide) (fun c4 => ?_) (fun c4 => ?_)
  · replace h := h.1 c4
    exact v_vret (pc := 83) (dk dt_X11_tellOf 38 rfl) rfl h
  · replace h := h.2 c4
    refine v_aload_n (pc := 13) (dk dt_X11_tellOf 7 rfl) rfl rfl ?_
    obtain ⟨v5, h⟩ := h
    refine v_getR (pc := 14) (dk dt_X11_tellOf 8 rfl) fl_X11_262 v5 (fun _ => ?_)
    refine v_iload_n (pc := 17) (dk dt_X11_tellOf 9 rfl) rfl rfl ?_
    obtain ⟨v6, h⟩ := h
    obtain ⟨v7, h⟩ := h
    refine v_cvPR (c := 13) (v := (alAt G (gfd G 4 4 l1) l3)) (As := [iv l3]) (stk := []) (pc := 18) (dk dt_X11_tellOf 10 rfl) ml_X11_202 rfl rfl (Nat.le_of_ble_eq_true rfl) rfl ⟨by decide, rfl⟩ v6 rfl v7 ?_
    obtain ⟨v8, h⟩ := h
    refine v_cast (c := 0) (pc := 21) (dk dt_X11_tellOf 11 rfl) (by decide) cl_X11_265 v8 ?_
    refine v_astore (pc := 24) (ls' := [some (rv l0), some (rv l1), some (iv l2), some (iv l3), some (rv (alAt G (gfd G 4 4 l1) l3))]) (dk dt_X11_tellOf 12 rfl) (Nat.le_of_ble_eq_true rfl) rfl ?_
    refine v_aload (pc := 26) (dk dt_X11_tellOf 13 rfl) rfl ?_
    obtain ⟨v9, h⟩ := h
    refine v_getZ (pc := 28) (dk dt_X11_tellOf 14 rfl) fl_X11_267 v9 (fun _ => ?_)
    refine v_if_eq (pc := 31) (tgt := 77) (dk dt_X11_tellOf 15 rfl) (by decide) (fun c10 => ?_) (fun c10 => ?_)
    · replace h := h.1 c10
      obtain ⟨v11, h⟩ := h
      refine v_iinc (pc := 77) (ls' := [some (rv l0), some (rv l1), some (iv l2), some (iv (l3 + 1)), some (rv (alAt G (gfd G 4 4 l1) l3))]) (dk dt_X11_tellOf 36 rfl) (Nat.le_of_ble_eq_true rfl) rfl v11 rfl ?_
      refine v_goto (pc := 80) (tgt := 2) (dk dt_X11_tellOf 37 rfl) (by decide) ?_
      exact v_less2 (ls' := [some (rv l0), some (rv l1), some (iv l2), some (iv (l3 + 1)), none]) ⟨rfl, rfl, rfl, rfl, trivial⟩ h
    · replace h := h.2 c10
      refine v_aload (pc := 34) (dk dt_X11_tellOf 16 rfl) rfl ?_
      obtain ⟨v12, h⟩ := h
      refine v_getZ (pc := 36) (dk dt_X11_tellOf 17 rfl) fl_X11_354 v12 (fun _ => ?_)
      refine v_if_ne (pc := 39) (tgt := 77) (dk dt_X11_tellOf 18 rfl) (by decide) (fun c13 => ?_) (fun c13 => ?_)
      · replace h := h.1 c13
        obtain ⟨v14, h⟩ := h
        refine v_iinc (pc := 77) (ls' := [some (rv l0), some (rv l1), some (iv l2), some (iv (l3 + 1)), some (rv (alAt G (gfd G 4 4 l1) l3))]) (dk dt_X11_tellOf 36 rfl) (Nat.le_of_ble_eq_true rfl) rfl v14 rfl ?_
        refine v_goto (pc := 80) (tgt := 2) (dk dt_X11_tellOf 37 rfl) (by decide) ?_
        exact v_less2 (ls' := [some (rv l0), some (rv l1), some (iv l2), some (iv (l3 + 1)), none]) ⟨rfl, rfl, rfl, rfl, trivial⟩ h
      · replace h := h.2 c13
        refine v_aload_n (pc := 42) (dk dt_X11_tellOf 19 rfl) rfl rfl ?_
        refine v_aload_n (pc := 43) (dk dt_X11_tellOf 20 rfl) rfl rfl ?_
        refine v_aload (pc := 44) (dk dt_X11_tellOf 21 rfl) rfl ?_
        obtain ⟨v15, h⟩ := h
        refine v_cvZ (c := 11) (As := [rv l1, rv (alAt G (gfd G 4 4 l1) l3)]) (stk := []) (pc := 46) (dk dt_X11_tellOf 22 rfl) ml_X11_357 rfl rfl (Nat.le_of_ble_eq_true rfl) rfl ⟨by decide, rfl⟩ v15 rfl (Call.mono h (fun r16 G17 c18 s19 h => ?_))
        refine v_if_ne (pc := 49) (tgt := 77) (dk dt_X11_tellOf 23 rfl) (by decide) (fun c20 => ?_) (fun c20 => ?_)
        · replace h := h.1 c20
          obtain ⟨v21, h⟩ := h
          refine v_iinc (pc := 77) (ls' := [some (rv l0), some (rv l1), some (iv l2), some (iv (l3 + 1)), some (rv (alAt G (gfd G 4 4 l1) l3))]) (dk dt_X11_tellOf 36 rfl) (Nat.le_of_ble_eq_true rfl) rfl v21 rfl ?_
          refine v_goto (pc := 80) (tgt := 2) (dk dt_X11_tellOf 37 rfl) (by decide) ?_
          exact v_less2 (ls' := [some (rv l0), some (rv l1), some (iv l2), some (iv (l3 + 1)), none]) ⟨rfl, rfl, rfl, rfl, trivial⟩ h
        · replace h := h.2 c20
          refine v_aload_n (pc := 52) (dk dt_X11_tellOf 24 rfl) rfl rfl ?_
          refine v_aload (pc := 53) (dk dt_X11_tellOf 25 rfl) rfl ?_
          obtain ⟨v22, h⟩ := h
          refine v_cvZ (c := 11) (As := [rv (alAt G (gfd G 4 4 l1) l3)]) (stk := []) (pc := 55) (dk dt_X11_tellOf 26 rfl) ml_X11_361 rfl rfl (Nat.le_of_ble_eq_true rfl) rfl ⟨by decide, rfl⟩ v22 rfl (Call.mono h (fun r23 G24 c25 s26 h => ?_))
          refine v_if_ne (pc := 58) (tgt := 77) (dk dt_X11_tellOf 27 rfl) (by decide) (fun c27 => ?_) (fun c27 => ?_)
          · replace h := h.1 c27
            obtain ⟨v28, h⟩ := h
            refine v_iinc (pc := 77) (ls' := [some (rv l0), some (rv l1), some (iv l2), some (iv (l3 + 1)), some (rv (alAt G (gfd G 4 4 l1) l3))]) (dk dt_X11_tellOf 36 rfl) (Nat.le_of_ble_eq_true rfl) rfl v28 rfl ?_
            refine v_goto (pc := 80) (tgt := 2) (dk dt_X11_tellOf 37 rfl) (by decide) ?_
            exact v_less2 (ls' := [some (rv l0), some (rv l1), some (iv l2), some (iv (l3 + 1)), none]) ⟨rfl, rfl, rfl, rfl, trivial⟩ h
          · replace h := h.2 c27
            refine v_aload (pc := 61) (dk dt_X11_tellOf 28 rfl) rfl ?_
            refine v_iconst (pc := 63) (dk dt_X11_tellOf 29 rfl) ⟨by decide, by decide⟩ ?_
            obtain ⟨v29, h⟩ := h
            refine v_putZ (pc := 64) (dk dt_X11_tellOf 30 rfl) fl_X11_354 (Or.inl rfl) v29 (Or.inr rfl) ?_
            generalize hG30 : (sfd G24 0 2 (alAt G (gfd G 4 4 l1) l3) 1) = G30
            replace h := h G30 hG30.symm
            refine v_aload_n (pc := 67) (dk dt_X11_tellOf 31 rfl) rfl rfl ?_
            refine v_iload_n (pc := 68) (dk dt_X11_tellOf 32 rfl) rfl rfl ?_
            refine v_aload (pc := 69) (dk dt_X11_tellOf 33 rfl) rfl ?_
            obtain ⟨v31, h⟩ := h
            refine v_getI (pc := 71) (dk dt_X11_tellOf 34 rfl) fl_X11_365 v31 (fun _ => ?_)
            obtain ⟨v32, h⟩ := h
            refine v_cvV (c := 11) (As := [iv l2, iv (gfd G30 0 0 (alAt G (gfd G 4 4 l1) l3))]) (stk := []) (pc := 74) (dk dt_X11_tellOf 35 rfl) ml_X11_366 rfl rfl (Nat.le_of_ble_eq_true rfl) rfl ⟨by decide, rfl⟩ v32 rfl (Call.mono h (fun r33 G34 c35 s36 h => ?_))
            obtain ⟨v37, h⟩ := h
            refine v_iinc (pc := 77) (ls' := [some (rv l0), some (rv l1), some (iv l2), some (iv (l3 + 1)), some (rv (alAt G (gfd G 4 4 l1) l3))]) (dk dt_X11_tellOf 36 rfl) (Nat.le_of_ble_eq_true rfl) rfl v37 rfl ?_
            refine v_goto (pc := 80) (tgt := 2) (dk dt_X11_tellOf 37 rfl) (by decide) ?_
            exact v_less2 (ls' := [some (rv l0), some (rv l1), some (iv l2), some (iv (l3 + 1)), none]) ⟨rfl, rfl, rfl, rfl, trivial⟩ h
set_option maxRecDepth 20000 in
theorem b_X11_isInhibited_0 {E : EE} {l0 l1 l2 : Int} {G : Gt} {c s : Nat} {Q X : Int → Gt → Prop} (h : (gcl G l1 = 5 ∧ gcl G l0 = 12 ∧ Call E M_X11_isAlert [rv l0, iv (gfd G 4 5 l1)] G c s X (fun r3 G4 c5 s6 => ((r3 ≠ 0 → (gcl G4 l0 = 12 ∧ gcl G4 l1 = 5 ∧ gcl G4 (gfd G4 11 6 l0) = 14 ∧ OkP E M_A_get [rv (gfd G4 11 6 l0), iv (gfd G4 4 5 l1)] G4 (alAt G4 (gfd G4 11 6 l0) (gfd G4 4 5 l1)) ∧ ((alAt G4 (gfd G4 11 6 l0) (gfd G4 4 5 l1)) = -1 ∨ gcl G4 (alAt G4 (gfd G4 11 6 l0) (gfd G4 4 5 l1)) = 5) ∧ gcl G4 (alAt G4 (gfd G4 11 6 l0) (gfd G4 4 5 l1)) = 5 ∧ V E M_X11_isInhibited 34 [none, none, some (rv l2), some (rv (gfd G4 4 4 (alAt G4 (gfd G4 11 6 l0) (gfd G4 4 5 l1)))), some (iv 0), none] [] G4 c5 s6 Q X)) ∧ (r3 = 0 → Q 0 G4))))) : V E M_X11_isInhibited 0 [some (rv l0), some (rv l1), some (rv l2), none, none, none] [] G c s Q X := by
  refine v_aload_n (pc := 0) (dk dt_X11_isInhibited 0 rfl) rfl rfl ?_
  refine v_aload_n (pc := 1) (dk dt_X11_isInhibited 1 rfl) rfl rfl ?_
  obtain ⟨v1, h⟩ := h
  refine v_getI (pc := 2) (dk dt_X11_isInhibited 2 rfl) fl_X11_253 v1 (fun _ => ?_)
  obtain ⟨v2, h⟩ := h
  refine v_cvZ (c := 11) (As := [iv (gfd G 4 5 l1)]) (stk := []) (pc := 5) (dk dt_X11_isInhibited 3 rfl) ml_X11_248 rfl rfl (Nat.le_of_ble_eq_true rfl) rfl ⟨by decide, rfl⟩ v2 rfl (Call.mono h (fun r3 G4 c5 s6 h => ?_))
  refine v_if_ne (pc := 8) (tgt := 13) (dk dt_X11_isInhibited 4 rfl) (by decide) (fun c7 => ?_) (fun c7 => ?_)
  · replace h := h.1 c7
    refine v_aload_n (pc := 13) (dk dt_X11_isInhibited 7 rfl) rfl rfl ?_
    obtain ⟨v8, h⟩ := h
    refine v_getR (pc := 14) (dk dt_X11_isInhibited 8 rfl) fl_X11_55 v8 (fun _ => ?_)
    refine v_aload_n (pc := 17) (dk dt_X11_isInhibited 9 rfl) rfl rfl ?_
    obtain ⟨v9, h⟩ := h
    refine v_getI (pc := 18) (dk dt_X11_isInhibited 10 rfl) fl_X11_253 v9 (fun _ => ?_)
    obtain ⟨v10, h⟩ := h
    obtain ⟨v11, h⟩ := h
    refine v_cvPR (c := 13) (v := (alAt G4 (gfd G4 11 6 l0) (gfd G4 4 5 l1))) (As := [iv (gfd G4 4 5 l1)]) (stk := []) (pc := 21) (dk dt_X11_isInhibited 11 rfl) ml_X11_202 rfl rfl (Nat.le_of_ble_eq_true rfl) rfl ⟨by decide, rfl⟩ v10 rfl v11 ?_
    obtain ⟨v12, h⟩ := h
    refine v_cast (c := 4) (pc := 24) (dk dt_X11_isInhibited 12 rfl) (by decide) cl_X11_254 v12 ?_
    obtain ⟨v13, h⟩ := h
    refine v_getR (pc := 27) (dk dt_X11_isInhibited 13 rfl) fl_X11_262 v13 (fun _ => ?_)
    refine v_astore_n (pc := 30) (ls' := [some (rv l0), some (rv l1), some (rv l2), some (rv (gfd G4 4 4 (alAt G4 (gfd G4 11 6 l0) (gfd G4 4 5 l1)))), none, none]) (dk dt_X11_isInhibited 14 rfl) rfl (Nat.le_of_ble_eq_true rfl) rfl ?_
    refine v_iconst (pc := 31) (dk dt_X11_isInhibited 15 rfl) ⟨by decide, by decide⟩ ?_
    refine v_istore (pc := 32) (ls' := [some (rv l0), some (rv l1), some (rv l2), some (rv (gfd G4 4 4 (alAt G4 (gfd G4 11 6 l0) (gfd G4 4 5 l1)))), some (iv 0), none]) (dk dt_X11_isInhibited 16 rfl) (Nat.le_of_ble_eq_true rfl) rfl ?_
    exact v_less2 (ls' := [none, none, some (rv l2), some (rv (gfd G4 4 4 (alAt G4 (gfd G4 11 6 l0) (gfd G4 4 5 l1)))), some (iv 0), none]) ⟨rfl, rfl, rfl, trivial⟩ h
  · replace h := h.2 c7
    refine v_iconst (pc := 11) (dk dt_X11_isInhibited 5 rfl) ⟨by decide, by decide⟩ ?_
    exact v_zret (pc := 12) (dk dt_X11_isInhibited 6 rfl) rfl (Or.inl rfl) h
set_option maxRecDepth 20000 in
theorem i_X11_isInhibited {E : EE} {l0 l1 l2 : Int} {G : Gt} {c s : Nat} {Q X : Int → Gt → Prop} (h : (gcl G l1 = 5 ∧ gcl G l0 = 12 ∧ Call E M_X11_isAlert [rv l0, iv (gfd G 4 5 l1)] G c s X (fun r3 G4 c5 s6 => ((r3 ≠ 0 → (gcl G4 l0 = 12 ∧ gcl G4 l1 = 5 ∧ gcl G4 (gfd G4 11 6 l0) = 14 ∧ OkP E M_A_get [rv (gfd G4 11 6 l0), iv (gfd G4 4 5 l1)] G4 (alAt G4 (gfd G4 11 6 l0) (gfd G4 4 5 l1)) ∧ ((alAt G4 (gfd G4 11 6 l0) (gfd G4 4 5 l1)) = -1 ∨ gcl G4 (alAt G4 (gfd G4 11 6 l0) (gfd G4 4 5 l1)) = 5) ∧ gcl G4 (alAt G4 (gfd G4 11 6 l0) (gfd G4 4 5 l1)) = 5 ∧ V E M_X11_isInhibited 34 [none, none, some (rv l2), some (rv (gfd G4 4 4 (alAt G4 (gfd G4 11 6 l0) (gfd G4 4 5 l1)))), some (iv 0), none] [] G4 c5 s6 Q X)) ∧ (r3 = 0 → Q 0 G4))))) : Ok E M_X11_isInhibited [rv l0, rv l1, rv l2] G c s Q X := Ok.intro (k := 3) rfl rfl (Nat.le_of_ble_eq_true rfl) rfl (b_X11_isInhibited_0 h)
set_option maxRecDepth 20000 in
theorem b_X11_isInhibited_34 {E : EE} {l2 l3 l4 : Int} {G : Gt} {c s : Nat} {Q X : Int → Gt → Prop} (h : (gcl G l3 = 14 ∧ OkP E M_A_size [rv l3] G (gfd G 13 2 l3) ∧ (((gfd G 13 2 l3) ≤ l4 → Q 0 G) ∧ (l4 < (gfd G 13 2 l3) → (gcl G l3 = 14 ∧ OkP E M_A_get [rv l3, iv l4] G (alAt G l3 l4) ∧ ((alAt G l3 l4) = -1 ∨ gcl G (alAt G l3 l4) = 1) ∧ gcl G (alAt G l3 l4) = 1 ∧ (((gfd G 0 1 (alAt G l3 l4)) = 0 → (i32 (l4 + 1) ∧ V E M_X11_isInhibited 34 [none, none, some (rv l2), some (rv l3), some (iv (l4 + 1)), none] [] G c s Q X)) ∧ ((gfd G 0 1 (alAt G l3 l4)) ≠ 0 → (gcl G (alAt G l3 l4) = 1 ∧ gcl G l2 = 1 ∧ (((Int.tdiv (gfd G 0 0 (alAt G l3 l4)) 100) ≠ (Int.tdiv (gfd G 0 0 l2) 100) → (i32 (l4 + 1) ∧ V E M_X11_isInhibited 34 [none, none, some (rv l2), some (rv l3), some (iv (l4 + 1)), none] [] G c s Q X)) ∧ ((Int.tdiv (gfd G 0 0 (alAt G l3 l4)) 100) = (Int.tdiv (gfd G 0 0 l2) 100) → Q 1 G)))))))))) : V E M_X11_isInhibited 34 [none, none, some (rv l2), some (rv l3), some (iv l4), none] [] G c s Q X := by
  refine v_iload (pc := 34) (dk dt_X11_isInhibited 17 rfl) rfl ?_
  refine v_aload_n (pc := 36) (dk dt_X11_isInhibited 18 rfl) rfl rfl ?_
  obtain ⟨v1, h⟩ := h
  obtain ⟨v2, h⟩ := h
  refine v_cvPI (c := 13) (v := (gfd G 13 2 l3)) (As := []) (stk := [iv l4]) (pc := 37) (dk dt_X11_isInhibited 19 rfl) ml_X11_110 rfl rfl (Nat.le_of_ble_eq_true rfl) rfl ⟨by decide, rfl⟩ v1 rfl v2 ?_
  refine v_icmp_ge (pc := 40) (tgt := 88) (dk dt_X11_isInhibited 20 rfl) (by decide) (fun c3 => ?_) (fun c3 => ?_)
  · replace h := h.1 c3
    refine v_iconst (pc := 88) (dk dt_X11_isInhibited_1 2 rfl) ⟨by decide, by decide⟩ ?_
    exact v_zret (pc := 89) (dk dt_X11_isInhibited_1 3 rfl) rfl (Or.inl rfl) h
  · replace h := h.2 c3
    refine v_aload_n (pc := 43) (dk dt_X11_isInhibited 21 rfl) rfl rfl ?_
    refine v_iload (pc := 44) (dk dt_X11_isInhibited 22 rfl) rfl ?_
    obtain ⟨v4, h⟩ := h
    obtain ⟨v5, h⟩ := h
    refine v_cvPR (c := 13) (v := (alAt G l3 l4)) (As := [iv l4]) (stk := []) (pc := 46) (dk dt_X11_isInhibited 23 rfl) ml_X11_202 rfl rfl (Nat.le_of_ble_eq_true rfl) rfl ⟨by decide, rfl⟩ v4 rfl v5 ?_
    obtain ⟨v6, h⟩ := h
    refine v_cast (c := 0) (pc := 49) (dk dt_X11_isInhibited 24 rfl) (by decide) cl_X11_265 v6 ?_
    refine v_astore (pc := 52) (ls' := [none, none, some (rv l2), some (rv l3), some (iv l4), some (rv (alAt G l3 l4))]) (dk dt_X11_isInhibited 25 rfl) (Nat.le_of_ble_eq_true rfl) rfl ?_
    refine v_aload (pc := 54) (dk dt_X11_isInhibited 26 rfl) rfl ?_
    obtain ⟨v7, h⟩ := h
    refine v_getZ (pc := 56) (dk dt_X11_isInhibited 27 rfl) fl_X11_267 v7 (fun _ => ?_)
    refine v_if_eq (pc := 59) (tgt := 82) (dk dt_X11_isInhibited 28 rfl) (by decide) (fun c8 => ?_) (fun c8 => ?_)
    · replace h := h.1 c8
      obtain ⟨v9, h⟩ := h
      refine v_iinc (pc := 82) (ls' := [none, none, some (rv l2), some (rv l3), some (iv (l4 + 1)), some (rv (alAt G l3 l4))]) (dk dt_X11_isInhibited_1 0 rfl) (Nat.le_of_ble_eq_true rfl) rfl v9 rfl ?_
      refine v_goto (pc := 85) (tgt := 34) (dk dt_X11_isInhibited_1 1 rfl) (by decide) ?_
      exact v_less2 (ls' := [none, none, some (rv l2), some (rv l3), some (iv (l4 + 1)), none]) ⟨rfl, rfl, rfl, trivial⟩ h
    · replace h := h.2 c8
      refine v_aload (pc := 62) (dk dt_X11_isInhibited 29 rfl) rfl ?_
      obtain ⟨v10, h⟩ := h
      refine v_getI (pc := 64) (dk dt_X11_isInhibited 30 rfl) fl_X11_365 v10 (fun _ => ?_)
      refine v_bipush (pc := 67) (dk dt_X11_isInhibited 31 rfl) (by decide) ⟨by decide, by decide⟩ ?_
      refine v_idivP (pc := 69) (dk dt_X11_isInhibited 32 rfl) (by decide) ?_
      refine v_aload_n (pc := 70) (dk dt_X11_isInhibited 33 rfl) rfl rfl ?_
      obtain ⟨v11, h⟩ := h
      refine v_getI (pc := 71) (dk dt_X11_isInhibited 34 rfl) fl_X11_365 v11 (fun _ => ?_)
      refine v_bipush (pc := 74) (dk dt_X11_isInhibited 35 rfl) (by decide) ⟨by decide, by decide⟩ ?_
      refine v_idivP (pc := 76) (dk dt_X11_isInhibited 36 rfl) (by decide) ?_
      refine v_icmp_ne (pc := 77) (tgt := 82) (dk dt_X11_isInhibited 37 rfl) (by decide) (fun c12 => ?_) (fun c12 => ?_)
      · replace h := h.1 c12
        obtain ⟨v13, h⟩ := h
        refine v_iinc (pc := 82) (ls' := [none, none, some (rv l2), some (rv l3), some (iv (l4 + 1)), some (rv (alAt G l3 l4))]) (dk dt_X11_isInhibited_1 0 rfl) (Nat.le_of_ble_eq_true rfl) rfl v13 rfl ?_
        refine v_goto (pc := 85) (tgt := 34) (dk dt_X11_isInhibited_1 1 rfl) (by decide) ?_
        exact v_less2 (ls' := [none, none, some (rv l2), some (rv l3), some (iv (l4 + 1)), none]) ⟨rfl, rfl, rfl, trivial⟩ h
      · replace h := h.2 c12
        refine v_iconst (pc := 80) (dk dt_X11_isInhibited 38 rfl) ⟨by decide, by decide⟩ ?_
        exact v_zret (pc := 81) (dk dt_X11_isInhibited 39 rfl) rfl (Or.inr rfl) h
set_option maxRecDepth 20000 in
theorem b_X11_isSilenced_0 {E : EE} {l0 l1 : Int} {G : Gt} {c s : Nat} {Q X : Int → Gt → Prop} (h : V E M_X11_isSilenced 2 [some (rv l0), some (rv l1), some (iv 0)] [] G c s Q X) : V E M_X11_isSilenced 0 [some (rv l0), some (rv l1), none] [] G c s Q X := by
  refine v_iconst (pc := 0) (dk dt_X11_isSilenced 0 rfl) ⟨by decide, by decide⟩ ?_
  refine v_istore_n (pc := 1) (ls' := [some (rv l0), some (rv l1), some (iv 0)]) (dk dt_X11_isSilenced 1 rfl) rfl (Nat.le_of_ble_eq_true rfl) rfl ?_
  exact h
set_option maxRecDepth 20000 in
theorem i_X11_isSilenced {E : EE} {l0 l1 : Int} {G : Gt} {c s : Nat} {Q X : Int → Gt → Prop} (h : V E M_X11_isSilenced 2 [some (rv l0), some (rv l1), some (iv 0)] [] G c s Q X) : Ok E M_X11_isSilenced [rv l0, rv l1] G c s Q X := Ok.intro (k := 1) rfl rfl (Nat.le_of_ble_eq_true rfl) rfl (b_X11_isSilenced_0 h)
set_option maxRecDepth 20000 in
theorem b_X11_isSilenced_2 {E : EE} {l0 l1 l2 : Int} {G : Gt} {c s : Nat} {Q X : Int → Gt → Prop} (h : (gcl G l0 = 12 ∧ gcl G (gfd G 11 7 l0) = 14 ∧ OkP E M_A_size [rv (gfd G 11 7 l0)] G (gfd G 13 2 (gfd G 11 7 l0)) ∧ (((gfd G 13 2 (gfd G 11 7 l0)) ≤ l2 → Q 0 G) ∧ (l2 < (gfd G 13 2 (gfd G 11 7 l0)) → (gcl G l0 = 12 ∧ 15 ≤ gcl G (gfd G 11 8 l0) ∧ (((gln G (gfd G 11 8 l0)) ≤ l2 → Q 0 G) ∧ (l2 < (gln G (gfd G 11 8 l0)) → (gcl G l0 = 12 ∧ gcl G l0 = 12 ∧ gcl G (gfd G 11 8 l0) = 15 ∧ 0 ≤ l2 ∧ l2 < gln G (gfd G 11 8 l0) ∧ (((gel G (gfd G 11 8 l0) l2) < (gfd G 11 12 l0) → (i32 (l2 + 1) ∧ V E M_X11_isSilenced 2 [some (rv l0), some (rv l1), some (iv (l2 + 1))] [] G c s Q X)) ∧ ((gfd G 11 12 l0) ≤ (gel G (gfd G 11 8 l0) l2) → (gcl G l0 = 12 ∧ gcl G (gfd G 11 7 l0) = 14 ∧ OkP E M_A_get [rv (gfd G 11 7 l0), iv l2] G (alAt G (gfd G 11 7 l0) l2) ∧ ((alAt G (gfd G 11 7 l0) l2) = -1 ∨ gcl G (alAt G (gfd G 11 7 l0) l2) = 7) ∧ gcl G l1 = 1 ∧ gcl G (alAt G (gfd G 11 7 l0) l2) = 7 ∧ OkP E M_X6_selects [rv (alAt G (gfd G 11 7 l0) l2), iv (gfd G 0 0 l1)] G (slS G (alAt G (gfd G 11 7 l0) l2) (gfd G 0 0 l1)) ∧ (((slS G (alAt G (gfd G 11 7 l0) l2) (gfd G 0 0 l1)) = 0 → (i32 (l2 + 1) ∧ V E M_X11_isSilenced 2 [some (rv l0), some (rv l1), some (iv (l2 + 1))] [] G c s Q X)) ∧ ((slS G (alAt G (gfd G 11 7 l0) l2) (gfd G 0 0 l1)) ≠ 0 → Q 1 G))))))))))))) : V E M_X11_isSilenced 2 [some (rv l0), some (rv l1), some (iv l2)] [] G c s Q X := by
  refine v_iload_n (pc := 2) (dk dt_X11_isSilenced 2 rfl) rfl rfl ?_
  refine v_aload_n (pc := 3) (dk dt_X11_isSilenced 3 rfl) rfl rfl ?_
  obtain ⟨v1, h⟩ := h
  refine v_getR (pc := 4) (dk dt_X11_isSilenced 4 rfl) fl_X11_58 v1 (fun _ => ?_)
  obtain ⟨v2, h⟩ := h
  obtain ⟨v3, h⟩ := h
  refine v_cvPI (c := 13) (v := (gfd G 13 2 (gfd G 11 7 l0))) (As := []) (stk := [iv l2]) (pc := 7) (dk dt_X11_isSilenced 5 rfl) ml_X11_110 rfl rfl (Nat.le_of_ble_eq_true rfl) rfl ⟨by decide, rfl⟩ v2 rfl v3 ?_
  refine v_icmp_ge (pc := 10) (tgt := 64) (dk dt_X11_isSilenced 6 rfl) (by decide) (fun c4 => ?_) (fun c4 => ?_)
  · replace h := h.1 c4
    refine v_iconst (pc := 64) (dk dt_X11_isSilenced 32 rfl) ⟨by decide, by decide⟩ ?_
    exact v_zret (pc := 65) (dk dt_X11_isSilenced 33 rfl) rfl (Or.inl rfl) h
  · replace h := h.2 c4
    refine v_iload_n (pc := 13) (dk dt_X11_isSilenced 7 rfl) rfl rfl ?_
    refine v_aload_n (pc := 14) (dk dt_X11_isSilenced 8 rfl) rfl rfl ?_
    obtain ⟨v5, h⟩ := h
    refine v_getR (pc := 15) (dk dt_X11_isSilenced 9 rfl) fl_X11_61 v5 (fun _ => ?_)
    obtain ⟨v6, h⟩ := h
    refine v_alen (pc := 18) (dk dt_X11_isSilenced 10 rfl) v6 (fun _ => ?_)
    refine v_icmp_ge (pc := 19) (tgt := 64) (dk dt_X11_isSilenced 11 rfl) (by decide) (fun c7 => ?_) (fun c7 => ?_)
    · replace h := h.1 c7
      refine v_iconst (pc := 64) (dk dt_X11_isSilenced 32 rfl) ⟨by decide, by decide⟩ ?_
      exact v_zret (pc := 65) (dk dt_X11_isSilenced 33 rfl) rfl (Or.inl rfl) h
    · replace h := h.2 c7
      refine v_aload_n (pc := 22) (dk dt_X11_isSilenced 12 rfl) rfl rfl ?_
      obtain ⟨v8, h⟩ := h
      refine v_getI (pc := 23) (dk dt_X11_isSilenced 13 rfl) fl_X11_75 v8 (fun _ => ?_)
      refine v_aload_n (pc := 26) (dk dt_X11_isSilenced 14 rfl) rfl rfl ?_
      obtain ⟨v9, h⟩ := h
      refine v_getR (pc := 27) (dk dt_X11_isSilenced 15 rfl) fl_X11_61 v9 (fun _ => ?_)
      refine v_iload_n (pc := 30) (dk dt_X11_isSilenced 16 rfl) rfl rfl ?_
      obtain ⟨v10, h⟩ := h
      obtain ⟨v11, h⟩ := h
      obtain ⟨v12, h⟩ := h
      refine v_iald (pc := 31) (dk dt_X11_isSilenced 17 rfl) (Or.inl v10) v11 v12 (fun _ => ?_)
      refine v_icmp_gt (pc := 32) (tgt := 58) (dk dt_X11_isSilenced 18 rfl) (by decide) (fun c13 => ?_) (fun c13 => ?_)
      · replace h := h.1 c13
        obtain ⟨v14, h⟩ := h
        refine v_iinc (pc := 58) (ls' := [some (rv l0), some (rv l1), some (iv (l2 + 1))]) (dk dt_X11_isSilenced 30 rfl) (Nat.le_of_ble_eq_true rfl) rfl v14 rfl ?_
        refine v_goto (pc := 61) (tgt := 2) (dk dt_X11_isSilenced 31 rfl) (by decide) ?_
        exact h
      · replace h := h.2 c13
        refine v_aload_n (pc := 35) (dk dt_X11_isSilenced 19 rfl) rfl rfl ?_
        obtain ⟨v15, h⟩ := h
        refine v_getR (pc := 36) (dk dt_X11_isSilenced 20 rfl) fl_X11_58 v15 (fun _ => ?_)
        refine v_iload_n (pc := 39) (dk dt_X11_isSilenced 21 rfl) rfl rfl ?_
        obtain ⟨v16, h⟩ := h
        obtain ⟨v17, h⟩ := h
        refine v_cvPR (c := 13) (v := (alAt G (gfd G 11 7 l0) l2)) (As := [iv l2]) (stk := []) (pc := 40) (dk dt_X11_isSilenced 22 rfl) ml_X11_202 rfl rfl (Nat.le_of_ble_eq_true rfl) rfl ⟨by decide, rfl⟩ v16 rfl v17 ?_
        obtain ⟨v18, h⟩ := h
        refine v_cast (c := 6) (pc := 43) (dk dt_X11_isSilenced 23 rfl) (by decide) cl_X11_39 v18 ?_
        refine v_aload_n (pc := 46) (dk dt_X11_isSilenced 24 rfl) rfl rfl ?_
        obtain ⟨v19, h⟩ := h
        refine v_getI (pc := 47) (dk dt_X11_isSilenced 25 rfl) fl_X11_365 v19 (fun _ => ?_)
        obtain ⟨v20, h⟩ := h
        obtain ⟨v21, h⟩ := h
        refine v_cvPZ (c := 6) (v := (slS G (alAt G (gfd G 11 7 l0) l2) (gfd G 0 0 l1))) (As := [iv (gfd G 0 0 l1)]) (stk := []) (pc := 50) (dk dt_X11_isSilenced 26 rfl) ml_X11_370 rfl rfl (Nat.le_of_ble_eq_true rfl) rfl ⟨by decide, rfl⟩ v20 rfl v21 ?_
        refine v_if_eq (pc := 53) (tgt := 58) (dk dt_X11_isSilenced 27 rfl) (by decide) (fun c22 => ?_) (fun c22 => ?_)
        · replace h := h.1 c22
          obtain ⟨v23, h⟩ := h
          refine v_iinc (pc := 58) (ls' := [some (rv l0), some (rv l1), some (iv (l2 + 1))]) (dk dt_X11_isSilenced 30 rfl) (Nat.le_of_ble_eq_true rfl) rfl v23 rfl ?_
          refine v_goto (pc := 61) (tgt := 2) (dk dt_X11_isSilenced 31 rfl) (by decide) ?_
          exact h
        · replace h := h.2 c22
          refine v_iconst (pc := 56) (dk dt_X11_isSilenced 28 rfl) ⟨by decide, by decide⟩ ?_
          exact v_zret (pc := 57) (dk dt_X11_isSilenced 29 rfl) rfl (Or.inr rfl) h
set_option maxRecDepth 20000 in
theorem b_X11_keepNotice_0 {E : EE} {l0 l1 l2 : Int} {G : Gt} {c s : Nat} {Q X : Int → Gt → Prop} (h : (gcl G l0 = 12 ∧ i32 ((gfd G 11 11 l0) * 3) ∧ gcl G l0 = 12 ∧ i32 ((gfd G 11 11 l0) + 1) ∧ gcl G l0 = 12 ∧ ∀ G6 : Gt, G6 = (sfd G 11 11 l0 ((gfd G 11 11 l0) + 1)) → gcl G6 l0 = 12 ∧ 15 ≤ gcl G6 (gfd G6 11 9 l0) ∧ i32 ((gln G6 (gfd G6 11 9 l0)) - 3) ∧ OkP E M_X11_isWithin [iv ((gfd G 11 11 l0) * 3), iv 0, iv ((gln G6 (gfd G6 11 9 l0)) - 3)] G6 (wIn ((gfd G 11 11 l0) * 3) 0 ((gln G6 (gfd G6 11 9 l0)) - 3)) ∧ (((wIn ((gfd G 11 11 l0) * 3) 0 ((gln G6 (gfd G6 11 9 l0)) - 3)) = 0 → Q 0 G6) ∧ ((wIn ((gfd G 11 11 l0) * 3) 0 ((gln G6 (gfd G6 11 9 l0)) - 3)) ≠ 0 → (gcl G6 l0 = 12 ∧ gcl G6 (gfd G6 11 9 l0) = 15 ∧ 0 ≤ ((gfd G 11 11 l0) * 3) ∧ ((gfd G 11 11 l0) * 3) < gln G6 (gfd G6 11 9 l0) ∧ ∀ G16 : Gt, G16 = (sel G6 (gfd G6 11 9 l0) ((gfd G 11 11 l0) * 3) l1) → gcl G16 l0 = 12 ∧ i32 (((gfd G 11 11 l0) * 3) + 1) ∧ gcl G16 (gfd G16 11 9 l0) = 15 ∧ 0 ≤ (((gfd G 11 11 l0) * 3) + 1) ∧ (((gfd G 11 11 l0) * 3) + 1) < gln G16 (gfd G16 11 9 l0) ∧ ∀ G22 : Gt, G22 = (sel G16 (gfd G16 11 9 l0) (((gfd G 11 11 l0) * 3) + 1) l2) → gcl G22 l0 = 12 ∧ i32 (((gfd G 11 11 l0) * 3) + 2) ∧ gcl G22 l0 = 12 ∧ gcl G22 (gfd G22 11 9 l0) = 15 ∧ 0 ≤ (((gfd G 11 11 l0) * 3) + 2) ∧ (((gfd G 11 11 l0) * 3) + 2) < gln G22 (gfd G22 11 9 l0) ∧ ∀ G29 : Gt, G29 = (sel G22 (gfd G22 11 9 l0) (((gfd G 11 11 l0) * 3) + 2) (gfd G22 11 12 l0)) → Q 0 G29))))) : V E M_X11_keepNotice 0 [some (rv l0), some (iv l1), some (iv l2), none] [] G c s Q X := by
  refine v_aload_n (pc := 0) (dk dt_X11_keepNotice 0 rfl) rfl rfl ?_
  obtain ⟨v1, h⟩ := h
  refine v_getI (pc := 1) (dk dt_X11_keepNotice 1 rfl) fl_X11_71 v1 (fun _ => ?_)
  refine v_iconst (pc := 4) (dk dt_X11_keepNotice 2 rfl) ⟨by decide, by decide⟩ ?_
  obtain ⟨v2, h⟩ := h
  refine v_imul (pc := 5) (dk dt_X11_keepNotice 3 rfl) v2 ?_
  refine v_istore_n (pc := 6) (ls' := [some (rv l0), some (iv l1), some (iv l2), some (iv ((gfd G 11 11 l0) * 3))]) (dk dt_X11_keepNotice 4 rfl) rfl (Nat.le_of_ble_eq_true rfl) rfl ?_
  refine v_aload_n (pc := 7) (dk dt_X11_keepNotice 5 rfl) rfl rfl ?_
  refine v_dup (pc := 8) (dk dt_X11_keepNotice 6 rfl) (by intro h9; cases h9) ?_
  obtain ⟨v3, h⟩ := h
  refine v_getI (pc := 9) (dk dt_X11_keepNotice 7 rfl) fl_X11_71 v3 (fun _ => ?_)
  refine v_iconst (pc := 12) (dk dt_X11_keepNotice 8 rfl) ⟨by decide, by decide⟩ ?_
  obtain ⟨v4, h⟩ := h
  refine v_iadd (pc := 13) (dk dt_X11_keepNotice 9 rfl) v4 ?_
  obtain ⟨v5, h⟩ := h
  refine v_putI (pc := 14) (dk dt_X11_keepNotice 10 rfl) fl_X11_71 (Or.inl rfl) v5 ?_
  generalize hG6 : (sfd G 11 11 l0 ((gfd G 11 11 l0) + 1)) = G6
  replace h := h G6 hG6.symm
  refine v_iload_n (pc := 17) (dk dt_X11_keepNotice 11 rfl) rfl rfl ?_
  refine v_iconst (pc := 18) (dk dt_X11_keepNotice 12 rfl) ⟨by decide, by decide⟩ ?_
  refine v_aload_n (pc := 19) (dk dt_X11_keepNotice 13 rfl) rfl rfl ?_
  obtain ⟨v7, h⟩ := h
  refine v_getR (pc := 20) (dk dt_X11_keepNotice 14 rfl) fl_X11_65 v7 (fun _ => ?_)
  obtain ⟨v8, h⟩ := h
  refine v_alen (pc := 23) (dk dt_X11_keepNotice 15 rfl) v8 (fun _ => ?_)
  refine v_iconst (pc := 24) (dk dt_X11_keepNotice 16 rfl) ⟨by decide, by decide⟩ ?_
  obtain ⟨v9, h⟩ := h
  refine v_isub (pc := 25) (dk dt_X11_keepNotice 17 rfl) v9 ?_
  obtain ⟨v10, h⟩ := h
  refine v_csPZ (v := (wIn ((gfd G 11 11 l0) * 3) 0 ((gln G6 (gfd G6 11 9 l0)) - 3))) (As := [iv ((gfd G 11 11 l0) * 3), iv 0, iv ((gln G6 (gfd G6 11 9 l0)) - 3)]) (stk := []) (pc := 26) (dk dt_X11_keepNotice 18 rfl) ml_X11_85 rfl rfl (Nat.le_of_ble_eq_true rfl) rfl rfl v10 ?_
  refine v_if_eq (pc := 29) (tgt := 60) (dk dt_X11_keepNotice 19 rfl) (by decide) (fun c11 => ?_) (fun c11 => ?_)
  · replace h := h.1 c11
    exact v_vret (pc := 60) (dk dt_X11_keepNotice_1 0 rfl) rfl h
  · replace h := h.2 c11
    refine v_aload_n (pc := 32) (dk dt_X11_keepNotice 20 rfl) rfl rfl ?_
    obtain ⟨v12, h⟩ := h
    refine v_getR (pc := 33) (dk dt_X11_keepNotice 21 rfl) fl_X11_65 v12 (fun _ => ?_)
    refine v_iload_n (pc := 36) (dk dt_X11_keepNotice 22 rfl) rfl rfl ?_
    refine v_iload_n (pc := 37) (dk dt_X11_keepNotice 23 rfl) rfl rfl ?_
    obtain ⟨v13, h⟩ := h
    obtain ⟨v14, h⟩ := h
    obtain ⟨v15, h⟩ := h
    refine v_iast (pc := 38) (dk dt_X11_keepNotice 24 rfl) v13 v14 v15 ?_
    generalize hG16 : (sel G6 (gfd G6 11 9 l0) ((gfd G 11 11 l0) * 3) l1) = G16
    replace h := h G16 hG16.symm
    refine v_aload_n (pc := 39) (dk dt_X11_keepNotice 25 rfl) rfl rfl ?_
    obtain ⟨v17, h⟩ := h
    refine v_getR (pc := 40) (dk dt_X11_keepNotice 26 rfl) fl_X11_65 v17 (fun _ => ?_)
    refine v_iload_n (pc := 43) (dk dt_X11_keepNotice 27 rfl) rfl rfl ?_
    refine v_iconst (pc := 44) (dk dt_X11_keepNotice 28 rfl) ⟨by decide, by decide⟩ ?_
    obtain ⟨v18, h⟩ := h
    refine v_iadd (pc := 45) (dk dt_X11_keepNotice 29 rfl) v18 ?_
    refine v_iload_n (pc := 46) (dk dt_X11_keepNotice 30 rfl) rfl rfl ?_
    obtain ⟨v19, h⟩ := h
    obtain ⟨v20, h⟩ := h
    obtain ⟨v21, h⟩ := h
    refine v_iast (pc := 47) (dk dt_X11_keepNotice 31 rfl) v19 v20 v21 ?_
    generalize hG22 : (sel G16 (gfd G16 11 9 l0) (((gfd G 11 11 l0) * 3) + 1) l2) = G22
    replace h := h G22 hG22.symm
    refine v_aload_n (pc := 48) (dk dt_X11_keepNotice 32 rfl) rfl rfl ?_
    obtain ⟨v23, h⟩ := h
    refine v_getR (pc := 49) (dk dt_X11_keepNotice 33 rfl) fl_X11_65 v23 (fun _ => ?_)
    refine v_iload_n (pc := 52) (dk dt_X11_keepNotice 34 rfl) rfl rfl ?_
    refine v_iconst (pc := 53) (dk dt_X11_keepNotice 35 rfl) ⟨by decide, by decide⟩ ?_
    obtain ⟨v24, h⟩ := h
    refine v_iadd (pc := 54) (dk dt_X11_keepNotice 36 rfl) v24 ?_
    refine v_aload_n (pc := 55) (dk dt_X11_keepNotice 37 rfl) rfl rfl ?_
    obtain ⟨v25, h⟩ := h
    refine v_getI (pc := 56) (dk dt_X11_keepNotice 38 rfl) fl_X11_75 v25 (fun _ => ?_)
    obtain ⟨v26, h⟩ := h
    obtain ⟨v27, h⟩ := h
    obtain ⟨v28, h⟩ := h
    refine v_iast (pc := 59) (dk dt_X11_keepNotice 39 rfl) v26 v27 v28 ?_
    generalize hG29 : (sel G22 (gfd G22 11 9 l0) (((gfd G 11 11 l0) * 3) + 2) (gfd G22 11 12 l0)) = G29
    replace h := h G29 hG29.symm
    exact v_vret (pc := 60) (dk dt_X11_keepNotice_1 0 rfl) rfl h
set_option maxRecDepth 20000 in
theorem i_X11_keepNotice {E : EE} {l0 l1 l2 : Int} {G : Gt} {c s : Nat} {Q X : Int → Gt → Prop} (h : (gcl G l0 = 12 ∧ i32 ((gfd G 11 11 l0) * 3) ∧ gcl G l0 = 12 ∧ i32 ((gfd G 11 11 l0) + 1) ∧ gcl G l0 = 12 ∧ ∀ G6 : Gt, G6 = (sfd G 11 11 l0 ((gfd G 11 11 l0) + 1)) → gcl G6 l0 = 12 ∧ 15 ≤ gcl G6 (gfd G6 11 9 l0) ∧ i32 ((gln G6 (gfd G6 11 9 l0)) - 3) ∧ OkP E M_X11_isWithin [iv ((gfd G 11 11 l0) * 3), iv 0, iv ((gln G6 (gfd G6 11 9 l0)) - 3)] G6 (wIn ((gfd G 11 11 l0) * 3) 0 ((gln G6 (gfd G6 11 9 l0)) - 3)) ∧ (((wIn ((gfd G 11 11 l0) * 3) 0 ((gln G6 (gfd G6 11 9 l0)) - 3)) = 0 → Q 0 G6) ∧ ((wIn ((gfd G 11 11 l0) * 3) 0 ((gln G6 (gfd G6 11 9 l0)) - 3)) ≠ 0 → (gcl G6 l0 = 12 ∧ gcl G6 (gfd G6 11 9 l0) = 15 ∧ 0 ≤ ((gfd G 11 11 l0) * 3) ∧ ((gfd G 11 11 l0) * 3) < gln G6 (gfd G6 11 9 l0) ∧ ∀ G16 : Gt, G16 = (sel G6 (gfd G6 11 9 l0) ((gfd G 11 11 l0) * 3) l1) → gcl G16 l0 = 12 ∧ i32 (((gfd G 11 11 l0) * 3) + 1) ∧ gcl G16 (gfd G16 11 9 l0) = 15 ∧ 0 ≤ (((gfd G 11 11 l0) * 3) + 1) ∧ (((gfd G 11 11 l0) * 3) + 1) < gln G16 (gfd G16 11 9 l0) ∧ ∀ G22 : Gt, G22 = (sel G16 (gfd G16 11 9 l0) (((gfd G 11 11 l0) * 3) + 1) l2) → gcl G22 l0 = 12 ∧ i32 (((gfd G 11 11 l0) * 3) + 2) ∧ gcl G22 l0 = 12 ∧ gcl G22 (gfd G22 11 9 l0) = 15 ∧ 0 ≤ (((gfd G 11 11 l0) * 3) + 2) ∧ (((gfd G 11 11 l0) * 3) + 2) < gln G22 (gfd G22 11 9 l0) ∧ ∀ G29 : Gt, G29 = (sel G22 (gfd G22 11 9 l0) (((gfd G 11 11 l0) * 3) + 2) (gfd G22 11 12 l0)) → Q 0 G29))))) : Ok E M_X11_keepNotice [rv l0, iv l1, iv l2] G c s Q X := Ok.intro (k := 1) rfl rfl (Nat.le_of_ble_eq_true rfl) rfl (b_X11_keepNotice_0 h)
