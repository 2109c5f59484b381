/-! the law's methods with handlers (written by program: wip/gen/blkL.py) -/
theorem cl_L_13 : Cond.classLink "TicksiloLaw" 13 (exN 1) ∈ WS := tk_2 177 rfl rfl
theorem cl_L_19 : Cond.classLink "TicksiloLaw" 19 (exN 3) ∈ WS := tk_4 134 rfl rfl
theorem cl_L_31 : Cond.classLink "TicksiloLaw" 31 (exN 2) ∈ WS := tk_4 182 rfl rfl
theorem cast_1 : Cond.castable (exN 1) (exN 1) ∈ NS := tn_2 185 rfl rfl
theorem cast_2 : Cond.castable (exN 2) (exN 2) ∈ NS := tn_4 190 rfl rfl
theorem cast_3 : Cond.castable (exN 3) (exN 3) ∈ NS := tn_3 108 rfl rfl
theorem ml_L_7 : LV "TicksiloLaw" 7 M_X11_write 5 := ⟨⟨tk_2 178 rfl rfl, tk_2 181 rfl rfl, tk_1 1 rfl rfl, by decide +kernel⟩, tk_2 179 rfl rfl, tk_2 180 rfl rfl⟩
theorem ml_L_15 : LV "TicksiloLaw" 15 M_X11_labels 1 := ⟨⟨tk_4 135 rfl rfl, tk_4 138 rfl rfl, tk_1 1 rfl rfl, by decide +kernel⟩, tk_4 136 rfl rfl, tk_4 137 rfl rfl⟩
theorem ml_L_21 : LV "TicksiloLaw" 21 M_X11_samples 1 := ⟨⟨tk_4 151 rfl rfl, tk_4 154 rfl rfl, tk_1 1 rfl rfl, by decide +kernel⟩, tk_4 152 rfl rfl, tk_4 153 rfl rfl⟩
theorem ml_L_24 : LV "TicksiloLaw" 24 M_X11_erase 3 := ⟨⟨tk_4 158 rfl rfl, tk_4 161 rfl rfl, tk_1 1 rfl rfl, by decide +kernel⟩, tk_4 159 rfl rfl, tk_4 160 rfl rfl⟩
theorem ml_L_28 : LV "TicksiloLaw" 28 M_X11_pass 1 := ⟨⟨tk_4 183 rfl rfl, tk_4 186 rfl rfl, tk_1 1 rfl rfl, by decide +kernel⟩, tk_4 184 rfl rfl, tk_4 185 rfl rfl⟩
theorem ml_L_33 : LV "TicksiloLaw" 33 M_X11_retain 1 := ⟨⟨tk_5 207 rfl rfl, tk_5 210 rfl rfl, tk_1 1 rfl rfl, by decide +kernel⟩, tk_5 208 rfl rfl, tk_5 209 rfl rfl⟩
theorem ml_L_36 : LV "TicksiloLaw" 36 M_X11_crash 1 := ⟨⟨tk_5 214 rfl rfl, tk_5 217 rfl rfl, tk_1 1 rfl rfl, by decide +kernel⟩, tk_5 215 rfl rfl, tk_5 216 rfl rfl⟩
theorem ml_L_39 : LV "TicksiloLaw" 39 M_X11_bits 2 := ⟨⟨tk_5 235 rfl rfl, tk_5 238 rfl rfl, tk_1 1 rfl rfl, by decide +kernel⟩, tk_5 236 rfl rfl, tk_5 237 rfl rfl⟩
theorem ml_L_43 : LV "TicksiloLaw" 43 M_X11_select 4 := ⟨⟨tk_6 7 rfl rfl, tk_6 10 rfl rfl, tk_1 1 rfl rfl, by decide +kernel⟩, tk_6 8 rfl rfl, tk_6 9 rfl rfl⟩
theorem ml_L_47 : LV "TicksiloLaw" 47 M_X11_word 3 := ⟨⟨tk_6 20 rfl rfl, tk_6 23 rfl rfl, tk_1 1 rfl rfl, by decide +kernel⟩, tk_6 21 rfl rfl, tk_6 22 rfl rfl⟩
theorem ml_L_50 : LV "TicksiloLaw" 50 M_X11_ask 1 := ⟨⟨tk_6 65 rfl rfl, tk_6 68 rfl rfl, tk_1 1 rfl rfl, by decide +kernel⟩, tk_6 66 rfl rfl, tk_6 67 rfl rfl⟩
theorem ml_L_53 : LV "TicksiloLaw" 53 M_X11_value 1 := ⟨⟨tk_6 75 rfl rfl, tk_6 78 rfl rfl, tk_1 1 rfl rfl, by decide +kernel⟩, tk_6 76 rfl rfl, tk_6 77 rfl rfl⟩
theorem ml_L_57 : LV "TicksiloLaw" 57 M_X11_labelsOf 1 := ⟨⟨tk_6 83 rfl rfl, tk_6 86 rfl rfl, tk_1 1 rfl rfl, by decide +kernel⟩, tk_6 84 rfl rfl, tk_6 85 rfl rfl⟩
theorem ml_L_60 : LV "TicksiloLaw" 60 M_X11_record 1 := ⟨⟨tk_6 90 rfl rfl, tk_6 93 rfl rfl, tk_1 1 rfl rfl, by decide +kernel⟩, tk_6 91 rfl rfl, tk_6 92 rfl rfl⟩
theorem ml_L_63 : LV "TicksiloLaw" 63 M_X11_alert 2 := ⟨⟨tk_6 132 rfl rfl, tk_6 135 rfl rfl, tk_1 1 rfl rfl, by decide +kernel⟩, tk_6 133 rfl rfl, tk_6 134 rfl rfl⟩
theorem ml_L_66 : LV "TicksiloLaw" 66 M_X11_inhibit 2 := ⟨⟨tk_6 140 rfl rfl, tk_6 143 rfl rfl, tk_1 1 rfl rfl, by decide +kernel⟩, tk_6 141 rfl rfl, tk_6 142 rfl rfl⟩
theorem ml_L_69 : LV "TicksiloLaw" 69 M_X11_silence 2 := ⟨⟨tk_6 153 rfl rfl, tk_6 156 rfl rfl, tk_1 1 rfl rfl, by decide +kernel⟩, tk_6 154 rfl rfl, tk_6 155 rfl rfl⟩
theorem ml_L_72 : LV "TicksiloLaw" 72 M_X11_entries 2 := ⟨⟨tk_6 162 rfl rfl, tk_6 165 rfl rfl, tk_1 1 rfl rfl, by decide +kernel⟩, tk_6 163 rfl rfl, tk_6 164 rfl rfl⟩
theorem ml_L_76 : LV "TicksiloLaw" 76 M_X11_entry 3 := ⟨⟨tk_6 169 rfl rfl, tk_6 172 rfl rfl, tk_1 1 rfl rfl, by decide +kernel⟩, tk_6 170 rfl rfl, tk_6 171 rfl rfl⟩
theorem ml_L_79 : LV "TicksiloLaw" 79 M_X11_notice 2 := ⟨⟨tk_6 181 rfl rfl, tk_6 184 rfl rfl, tk_1 1 rfl rfl, by decide +kernel⟩, tk_6 182 rfl rfl, tk_6 183 rfl rfl⟩
theorem ml_L_82 : LV "TicksiloLaw" 82 M_X11_thinned 4 := ⟨⟨tk_6 190 rfl rfl, tk_6 193 rfl rfl, tk_1 1 rfl rfl, by decide +kernel⟩, tk_6 191 rfl rfl, tk_6 192 rfl rfl⟩
theorem ml_L_85 : LV "TicksiloLaw" 85 M_X11_suits 3 := ⟨⟨tk_6 206 rfl rfl, tk_6 209 rfl rfl, tk_1 1 rfl rfl, by decide +kernel⟩, tk_6 207 rfl rfl, tk_6 208 rfl rfl⟩
theorem ml_L_89 : LV "TicksiloLaw" 89 M_X11_mend 1 := ⟨⟨tk_6 217 rfl rfl, tk_6 220 rfl rfl, tk_1 1 rfl rfl, by decide +kernel⟩, tk_6 218 rfl rfl, tk_6 219 rfl rfl⟩
set_option maxRecDepth 20000 in
theorem w_write {E : EE} {l0 l1 l2 l3 l4 l5 l6 : Int} {G : Gt} {c s : Nat} {Q X : Int → Gt → Prop} (hx : gcl G l0 = 12) (h : CallC E M_X11_write [rv l0, iv l1, iv l2, iv l3, iv l4, iv l5] G c s (fun ex G1 _ _ => (ex = 1 ∧ Q 1 G1)) (fun r G1 _ _ => gcl G1 l6 = 16 ∧ 0 < gln G1 l6 ∧ Q 0 (sel G1 l6 0 r))) : OkH E M_L_write [rv l0, iv l1, iv l2, iv l3, iv l4, iv l5, rv l6] G c s Q X := by
  refine OkH.intro (ls := [some (rv l0), some (iv l1), some (iv l2), some (iv l3), some (iv l4), some (iv l5), some (rv l6), none]) (k := 1) rfl (Nat.le_of_ble_eq_true rfl) rfl ?_
  refine v_aload (pc := 0) (dk dt_L_write 0 rfl) rfl ?_
  refine v_iconst (pc := 2) (dk dt_L_write 1 rfl) ⟨by decide, by decide⟩ ?_
  refine v_aload_n (pc := 3) (dk dt_L_write 2 rfl) rfl rfl ?_
  refine v_iload_n (pc := 4) (dk dt_L_write 3 rfl) rfl rfl ?_
  refine v_iload_n (pc := 5) (dk dt_L_write 4 rfl) rfl rfl ?_
  refine v_iload_n (pc := 6) (dk dt_L_write 5 rfl) rfl rfl ?_
  refine v_iload (pc := 7) (dk dt_L_write 6 rfl) rfl ?_
  refine v_iload (pc := 9) (dk dt_L_write 7 rfl) rfl ?_
  refine v_cvCC (c := 11) (As := [iv l1, iv l2, iv l3, iv l4, iv l5]) (stk := [iv 0, rv l6]) (pc := 11) (dk dt_L_write 8 rfl) ml_L_7 rfl rfl (Nat.le_of_ble_eq_true rfl) ⟨by decide, rfl⟩ hx h ?_ ?_
  · intro ex G1 c1 s1 h9
    obtain ⟨rfl, h9⟩ := h9
    refine Hd.at [] (0, 16, 19, 13) [] rfl rfl (fun z hz => absurd hz List.not_mem_nil) (by decide) cl_L_13 cast_1 (fun q hq => ?_)
    refine v_astore (pc := 19) (ls' := [some (rv l0), some (iv l1), some (iv l2), some (iv l3), some (iv l4), some (iv l5), some (rv l6), some (rv q)]) (dk dt_L_write 12 rfl) (Nat.le_of_ble_eq_true rfl) rfl ?_
    refine v_iconst (pc := 21) (dk dt_L_write 13 rfl) ⟨by decide, by decide⟩ ?_
    exact v_iret (pc := 22) (dk dt_L_write 14 rfl) rfl h9
  · intro r G1 c1 s1 h9
    obtain ⟨ha, hb, h9⟩ := h9
    show V E M_L_write 14 [some (rv l0), some (iv l1), some (iv l2), some (iv l3), some (iv l4), some (iv l5), some (rv l6), none] (iv r :: [iv 0, rv l6]) G1 c1 s1 Q X
    refine v_i2l (pc := 14) (dk dt_L_write 9 rfl) ?_
    refine v_last (pc := 15) (dk dt_L_write 10 rfl) ha (by decide) hb ?_
    refine v_goto (pc := 16) (tgt := 23) (dk dt_L_write 11 rfl) (by decide) ?_
    refine v_iconst (pc := 23) (dk dt_L_write 15 rfl) ⟨by decide, by decide⟩ ?_
    exact v_iret (pc := 24) (dk dt_L_write 16 rfl) rfl h9
set_option maxRecDepth 20000 in
theorem w_labels {E : EE} {l0 l1 l2 : Int} {G : Gt} {c s : Nat} {Q X : Int → Gt → Prop} (hx : gcl G l0 = 12) (h : CallC E M_X11_labels [rv l0, iv l1] G c s (fun ex G1 _ _ => (ex = 3 ∧ Q 1 G1)) (fun r G1 _ _ => gcl G1 l2 = 16 ∧ 0 < gln G1 l2 ∧ Q 0 (sel G1 l2 0 r))) : OkH E M_L_labels [rv l0, iv l1, rv l2] G c s Q X := by
  refine OkH.intro (ls := [some (rv l0), some (iv l1), some (rv l2), none]) (k := 1) rfl (Nat.le_of_ble_eq_true rfl) rfl ?_
  refine v_aload_n (pc := 0) (dk dt_L_labels 0 rfl) rfl rfl ?_
  refine v_iconst (pc := 1) (dk dt_L_labels 1 rfl) ⟨by decide, by decide⟩ ?_
  refine v_aload_n (pc := 2) (dk dt_L_labels 2 rfl) rfl rfl ?_
  refine v_iload_n (pc := 3) (dk dt_L_labels 3 rfl) rfl rfl ?_
  refine v_cvCC (c := 11) (As := [iv l1]) (stk := [iv 0, rv l2]) (pc := 4) (dk dt_L_labels 4 rfl) ml_L_15 rfl rfl (Nat.le_of_ble_eq_true rfl) ⟨by decide, rfl⟩ hx h ?_ ?_
  · intro ex G1 c1 s1 h9
    obtain ⟨rfl, h9⟩ := h9
    refine Hd.at [] (0, 9, 12, 19) [] rfl rfl (fun z hz => absurd hz List.not_mem_nil) (by decide) cl_L_19 cast_3 (fun q hq => ?_)
    refine v_astore_n (pc := 12) (ls' := [some (rv l0), some (iv l1), some (rv l2), some (rv q)]) (dk dt_L_labels 8 rfl) rfl (Nat.le_of_ble_eq_true rfl) rfl ?_
    refine v_iconst (pc := 13) (dk dt_L_labels 9 rfl) ⟨by decide, by decide⟩ ?_
    exact v_iret (pc := 14) (dk dt_L_labels 10 rfl) rfl h9
  · intro r G1 c1 s1 h9
    obtain ⟨ha, hb, h9⟩ := h9
    show V E M_L_labels 7 [some (rv l0), some (iv l1), some (rv l2), none] (iv r :: [iv 0, rv l2]) G1 c1 s1 Q X
    refine v_i2l (pc := 7) (dk dt_L_labels 5 rfl) ?_
    refine v_last (pc := 8) (dk dt_L_labels 6 rfl) ha (by decide) hb ?_
    refine v_goto (pc := 9) (tgt := 15) (dk dt_L_labels 7 rfl) (by decide) ?_
    refine v_iconst (pc := 15) (dk dt_L_labels 11 rfl) ⟨by decide, by decide⟩ ?_
    exact v_iret (pc := 16) (dk dt_L_labels 12 rfl) rfl h9
set_option maxRecDepth 20000 in
theorem w_samples {E : EE} {l0 l1 l2 : Int} {G : Gt} {c s : Nat} {Q X : Int → Gt → Prop} (hx : gcl G l0 = 12) (h : CallC E M_X11_samples [rv l0, iv l1] G c s (fun ex G1 _ _ => (ex = 3 ∧ Q 1 G1)) (fun r G1 _ _ => gcl G1 l2 = 16 ∧ 0 < gln G1 l2 ∧ Q 0 (sel G1 l2 0 r))) : OkH E M_L_samples [rv l0, iv l1, rv l2] G c s Q X := by
  refine OkH.intro (ls := [some (rv l0), some (iv l1), some (rv l2), none]) (k := 1) rfl (Nat.le_of_ble_eq_true rfl) rfl ?_
  refine v_aload_n (pc := 0) (dk dt_L_samples 0 rfl) rfl rfl ?_
  refine v_iconst (pc := 1) (dk dt_L_samples 1 rfl) ⟨by decide, by decide⟩ ?_
  refine v_aload_n (pc := 2) (dk dt_L_samples 2 rfl) rfl rfl ?_
  refine v_iload_n (pc := 3) (dk dt_L_samples 3 rfl) rfl rfl ?_
  refine v_cvCC (c := 11) (As := [iv l1]) (stk := [iv 0, rv l2]) (pc := 4) (dk dt_L_samples 4 rfl) ml_L_21 rfl rfl (Nat.le_of_ble_eq_true rfl) ⟨by decide, rfl⟩ hx h ?_ ?_
  · intro ex G1 c1 s1 h9
    obtain ⟨rfl, h9⟩ := h9
    refine Hd.at [] (0, 9, 12, 19) [] rfl rfl (fun z hz => absurd hz List.not_mem_nil) (by decide) cl_L_19 cast_3 (fun q hq => ?_)
    refine v_astore_n (pc := 12) (ls' := [some (rv l0), some (iv l1), some (rv l2), some (rv q)]) (dk dt_L_samples 8 rfl) rfl (Nat.le_of_ble_eq_true rfl) rfl ?_
    refine v_iconst (pc := 13) (dk dt_L_samples 9 rfl) ⟨by decide, by decide⟩ ?_
    exact v_iret (pc := 14) (dk dt_L_samples 10 rfl) rfl h9
  · intro r G1 c1 s1 h9
    obtain ⟨ha, hb, h9⟩ := h9
    show V E M_L_samples 7 [some (rv l0), some (iv l1), some (rv l2), none] (iv r :: [iv 0, rv l2]) G1 c1 s1 Q X
    refine v_i2l (pc := 7) (dk dt_L_samples 5 rfl) ?_
    refine v_last (pc := 8) (dk dt_L_samples 6 rfl) ha (by decide) hb ?_
    refine v_goto (pc := 9) (tgt := 15) (dk dt_L_samples 7 rfl) (by decide) ?_
    refine v_iconst (pc := 15) (dk dt_L_samples 11 rfl) ⟨by decide, by decide⟩ ?_
    exact v_iret (pc := 16) (dk dt_L_samples 12 rfl) rfl h9
set_option maxRecDepth 20000 in
theorem w_erase {E : EE} {l0 l1 l2 l3 l4 : Int} {G : Gt} {c s : Nat} {Q X : Int → Gt → Prop} (hx : gcl G l0 = 12) (h : CallC E M_X11_erase [rv l0, iv l1, iv l2, iv l3] G c s (fun ex G1 _ _ => (ex = 3 ∧ Q 1 G1) ∨ (ex = 1 ∧ Q 2 G1)) (fun r G1 _ _ => gcl G1 l4 = 16 ∧ 0 < gln G1 l4 ∧ Q 0 (sel G1 l4 0 r))) : OkH E M_L_erase [rv l0, iv l1, iv l2, iv l3, rv l4] G c s Q X := by
  refine OkH.intro (ls := [some (rv l0), some (iv l1), some (iv l2), some (iv l3), some (rv l4), none]) (k := 1) rfl (Nat.le_of_ble_eq_true rfl) rfl ?_
  refine v_aload (pc := 0) (dk dt_L_erase 0 rfl) rfl ?_
  refine v_iconst (pc := 2) (dk dt_L_erase 1 rfl) ⟨by decide, by decide⟩ ?_
  refine v_aload_n (pc := 3) (dk dt_L_erase 2 rfl) rfl rfl ?_
  refine v_iload_n (pc := 4) (dk dt_L_erase 3 rfl) rfl rfl ?_
  refine v_iload_n (pc := 5) (dk dt_L_erase 4 rfl) rfl rfl ?_
  refine v_iload_n (pc := 6) (dk dt_L_erase 5 rfl) rfl rfl ?_
  refine v_cvCC (c := 11) (As := [iv l1, iv l2, iv l3]) (stk := [iv 0, rv l4]) (pc := 7) (dk dt_L_erase 6 rfl) ml_L_24 rfl rfl (Nat.le_of_ble_eq_true rfl) ⟨by decide, rfl⟩ hx h ?_ ?_
  · intro ex G1 c1 s1 h9
    rcases h9 with ⟨rfl, h9⟩ | ⟨rfl, h9⟩
    · refine Hd.at [] (0, 12, 15, 19) [(0, 12, 19, 13)] rfl rfl (fun z hz => absurd hz List.not_mem_nil) (by decide) cl_L_19 cast_3 (fun q hq => ?_)
      refine v_astore (pc := 15) (ls' := [some (rv l0), some (iv l1), some (iv l2), some (iv l3), some (rv l4), some (rv q)]) (dk dt_L_erase 10 rfl) (Nat.le_of_ble_eq_true rfl) rfl ?_
      refine v_iconst (pc := 17) (dk dt_L_erase 11 rfl) ⟨by decide, by decide⟩ ?_
      exact v_iret (pc := 18) (dk dt_L_erase 12 rfl) rfl h9
    · refine Hd.at [(0, 12, 15, 19)] (0, 12, 19, 13) [] rfl rfl (fun z hz => ?_) (by decide) cl_L_13 cast_1 (fun q hq => ?_)
      · simp only [List.mem_cons, List.not_mem_nil, or_false] at hz
        subst hz
        exact ⟨by decide, _, cl_L_19, by decide⟩
      · refine v_astore (pc := 19) (ls' := [some (rv l0), some (iv l1), some (iv l2), some (iv l3), some (rv l4), some (rv q)]) (dk dt_L_erase 13 rfl) (Nat.le_of_ble_eq_true rfl) rfl ?_
        refine v_iconst (pc := 21) (dk dt_L_erase 14 rfl) ⟨by decide, by decide⟩ ?_
        exact v_iret (pc := 22) (dk dt_L_erase 15 rfl) rfl h9
  · intro r G1 c1 s1 h9
    obtain ⟨ha, hb, h9⟩ := h9
    show V E M_L_erase 10 [some (rv l0), some (iv l1), some (iv l2), some (iv l3), some (rv l4), none] (iv r :: [iv 0, rv l4]) G1 c1 s1 Q X
    refine v_i2l (pc := 10) (dk dt_L_erase 7 rfl) ?_
    refine v_last (pc := 11) (dk dt_L_erase 8 rfl) ha (by decide) hb ?_
    refine v_goto (pc := 12) (tgt := 23) (dk dt_L_erase 9 rfl) (by decide) ?_
    refine v_iconst (pc := 23) (dk dt_L_erase 16 rfl) ⟨by decide, by decide⟩ ?_
    exact v_iret (pc := 24) (dk dt_L_erase 17 rfl) rfl h9
set_option maxRecDepth 20000 in
theorem w_pass {E : EE} {l0 l1 l2 : Int} {G : Gt} {c s : Nat} {Q X : Int → Gt → Prop} (hx : gcl G l0 = 12) (h : CallC E M_X11_pass [rv l0, iv l1] G c s (fun ex G1 _ _ => (ex = 1 ∧ Q 1 G1) ∨ (ex = 2 ∧ Q 2 G1)) (fun r G1 _ _ => gcl G1 l2 = 16 ∧ 0 < gln G1 l2 ∧ Q 0 (sel G1 l2 0 r))) : OkH E M_L_pass [rv l0, iv l1, rv l2] G c s Q X := by
  refine OkH.intro (ls := [some (rv l0), some (iv l1), some (rv l2), none]) (k := 1) rfl (Nat.le_of_ble_eq_true rfl) rfl ?_
  refine v_aload_n (pc := 0) (dk dt_L_pass 0 rfl) rfl rfl ?_
  refine v_iconst (pc := 1) (dk dt_L_pass 1 rfl) ⟨by decide, by decide⟩ ?_
  refine v_aload_n (pc := 2) (dk dt_L_pass 2 rfl) rfl rfl ?_
  refine v_iload_n (pc := 3) (dk dt_L_pass 3 rfl) rfl rfl ?_
  refine v_cvCC (c := 11) (As := [iv l1]) (stk := [iv 0, rv l2]) (pc := 4) (dk dt_L_pass 4 rfl) ml_L_28 rfl rfl (Nat.le_of_ble_eq_true rfl) ⟨by decide, rfl⟩ hx h ?_ ?_
  · intro ex G1 c1 s1 h9
    rcases h9 with ⟨rfl, h9⟩ | ⟨rfl, h9⟩
    · refine Hd.at [] (0, 9, 12, 13) [(0, 9, 15, 31)] rfl rfl (fun z hz => absurd hz List.not_mem_nil) (by decide) cl_L_13 cast_1 (fun q hq => ?_)
      refine v_astore_n (pc := 12) (ls' := [some (rv l0), some (iv l1), some (rv l2), some (rv q)]) (dk dt_L_pass 8 rfl) rfl (Nat.le_of_ble_eq_true rfl) rfl ?_
      refine v_iconst (pc := 13) (dk dt_L_pass 9 rfl) ⟨by decide, by decide⟩ ?_
      exact v_iret (pc := 14) (dk dt_L_pass 10 rfl) rfl h9
    · refine Hd.at [(0, 9, 12, 13)] (0, 9, 15, 31) [] rfl rfl (fun z hz => ?_) (by decide) cl_L_31 cast_2 (fun q hq => ?_)
      · simp only [List.mem_cons, List.not_mem_nil, or_false] at hz
        subst hz
        exact ⟨by decide, _, cl_L_13, by decide⟩
      · refine v_astore_n (pc := 15) (ls' := [some (rv l0), some (iv l1), some (rv l2), some (rv q)]) (dk dt_L_pass 11 rfl) rfl (Nat.le_of_ble_eq_true rfl) rfl ?_
        refine v_iconst (pc := 16) (dk dt_L_pass 12 rfl) ⟨by decide, by decide⟩ ?_
        exact v_iret (pc := 17) (dk dt_L_pass 13 rfl) rfl h9
  · intro r G1 c1 s1 h9
    obtain ⟨ha, hb, h9⟩ := h9
    show V E M_L_pass 7 [some (rv l0), some (iv l1), some (rv l2), none] (iv r :: [iv 0, rv l2]) G1 c1 s1 Q X
    refine v_i2l (pc := 7) (dk dt_L_pass 5 rfl) ?_
    refine v_last (pc := 8) (dk dt_L_pass 6 rfl) ha (by decide) hb ?_
    refine v_goto (pc := 9) (tgt := 18) (dk dt_L_pass 7 rfl) (by decide) ?_
    refine v_iconst (pc := 18) (dk dt_L_pass 14 rfl) ⟨by decide, by decide⟩ ?_
    exact v_iret (pc := 19) (dk dt_L_pass 15 rfl) rfl h9
set_option maxRecDepth 20000 in
theorem w_retain {E : EE} {l0 l1 l2 : Int} {G : Gt} {c s : Nat} {Q X : Int → Gt → Prop} (hx : gcl G l0 = 12) (h : CallC E M_X11_retain [rv l0, iv l1] G c s (fun ex G1 _ _ => (ex = 1 ∧ Q 1 G1)) (fun r G1 _ _ => gcl G1 l2 = 16 ∧ 0 < gln G1 l2 ∧ Q 0 (sel G1 l2 0 r))) : OkH E M_L_retain [rv l0, iv l1, rv l2] G c s Q X := by
  refine OkH.intro (ls := [some (rv l0), some (iv l1), some (rv l2), none]) (k := 1) rfl (Nat.le_of_ble_eq_true rfl) rfl ?_
  refine v_aload_n (pc := 0) (dk dt_L_retain 0 rfl) rfl rfl ?_
  refine v_iconst (pc := 1) (dk dt_L_retain 1 rfl) ⟨by decide, by decide⟩ ?_
  refine v_aload_n (pc := 2) (dk dt_L_retain 2 rfl) rfl rfl ?_
  refine v_iload_n (pc := 3) (dk dt_L_retain 3 rfl) rfl rfl ?_
  refine v_cvCC (c := 11) (As := [iv l1]) (stk := [iv 0, rv l2]) (pc := 4) (dk dt_L_retain 4 rfl) ml_L_33 rfl rfl (Nat.le_of_ble_eq_true rfl) ⟨by decide, rfl⟩ hx h ?_ ?_
  · intro ex G1 c1 s1 h9
    obtain ⟨rfl, h9⟩ := h9
    refine Hd.at [] (0, 9, 12, 13) [] rfl rfl (fun z hz => absurd hz List.not_mem_nil) (by decide) cl_L_13 cast_1 (fun q hq => ?_)
    refine v_astore_n (pc := 12) (ls' := [some (rv l0), some (iv l1), some (rv l2), some (rv q)]) (dk dt_L_retain 8 rfl) rfl (Nat.le_of_ble_eq_true rfl) rfl ?_
    refine v_iconst (pc := 13) (dk dt_L_retain 9 rfl) ⟨by decide, by decide⟩ ?_
    exact v_iret (pc := 14) (dk dt_L_retain 10 rfl) rfl h9
  · intro r G1 c1 s1 h9
    obtain ⟨ha, hb, h9⟩ := h9
    show V E M_L_retain 7 [some (rv l0), some (iv l1), some (rv l2), none] (iv r :: [iv 0, rv l2]) G1 c1 s1 Q X
    refine v_i2l (pc := 7) (dk dt_L_retain 5 rfl) ?_
    refine v_last (pc := 8) (dk dt_L_retain 6 rfl) ha (by decide) hb ?_
    refine v_goto (pc := 9) (tgt := 15) (dk dt_L_retain 7 rfl) (by decide) ?_
    refine v_iconst (pc := 15) (dk dt_L_retain 11 rfl) ⟨by decide, by decide⟩ ?_
    exact v_iret (pc := 16) (dk dt_L_retain 12 rfl) rfl h9
set_option maxRecDepth 20000 in
theorem w_crash {E : EE} {l0 l1 l2 : Int} {G : Gt} {c s : Nat} {Q X : Int → Gt → Prop} (hx : gcl G l0 = 12) (h : CallC E M_X11_crash [rv l0, iv l1] G c s (fun ex G1 _ _ => (ex = 1 ∧ Q 1 G1)) (fun r G1 _ _ => gcl G1 l2 = 16 ∧ 0 < gln G1 l2 ∧ Q 0 (sel G1 l2 0 r))) : OkH E M_L_crash [rv l0, iv l1, rv l2] G c s Q X := by
  refine OkH.intro (ls := [some (rv l0), some (iv l1), some (rv l2), none]) (k := 1) rfl (Nat.le_of_ble_eq_true rfl) rfl ?_
  refine v_aload_n (pc := 0) (dk dt_L_crash 0 rfl) rfl rfl ?_
  refine v_iconst (pc := 1) (dk dt_L_crash 1 rfl) ⟨by decide, by decide⟩ ?_
  refine v_aload_n (pc := 2) (dk dt_L_crash 2 rfl) rfl rfl ?_
  refine v_iload_n (pc := 3) (dk dt_L_crash 3 rfl) rfl rfl ?_
  refine v_cvCC (c := 11) (As := [iv l1]) (stk := [iv 0, rv l2]) (pc := 4) (dk dt_L_crash 4 rfl) ml_L_36 rfl rfl (Nat.le_of_ble_eq_true rfl) ⟨by decide, rfl⟩ hx h ?_ ?_
  · intro ex G1 c1 s1 h9
    obtain ⟨rfl, h9⟩ := h9
    refine Hd.at [] (0, 9, 12, 13) [] rfl rfl (fun z hz => absurd hz List.not_mem_nil) (by decide) cl_L_13 cast_1 (fun q hq => ?_)
    refine v_astore_n (pc := 12) (ls' := [some (rv l0), some (iv l1), some (rv l2), some (rv q)]) (dk dt_L_crash 8 rfl) rfl (Nat.le_of_ble_eq_true rfl) rfl ?_
    refine v_iconst (pc := 13) (dk dt_L_crash 9 rfl) ⟨by decide, by decide⟩ ?_
    exact v_iret (pc := 14) (dk dt_L_crash 10 rfl) rfl h9
  · intro r G1 c1 s1 h9
    obtain ⟨ha, hb, h9⟩ := h9
    show V E M_L_crash 7 [some (rv l0), some (iv l1), some (rv l2), none] (iv r :: [iv 0, rv l2]) G1 c1 s1 Q X
    refine v_i2l (pc := 7) (dk dt_L_crash 5 rfl) ?_
    refine v_last (pc := 8) (dk dt_L_crash 6 rfl) ha (by decide) hb ?_
    refine v_goto (pc := 9) (tgt := 15) (dk dt_L_crash 7 rfl) (by decide) ?_
    refine v_iconst (pc := 15) (dk dt_L_crash 11 rfl) ⟨by decide, by decide⟩ ?_
    exact v_iret (pc := 16) (dk dt_L_crash 12 rfl) rfl h9
set_option maxRecDepth 20000 in
theorem w_bits {E : EE} {l0 l1 l2 l3 : Int} {G : Gt} {c s : Nat} {Q X : Int → Gt → Prop} (hx : gcl G l0 = 12) (h : CallC E M_X11_bits [rv l0, iv l1, iv l2] G c s (fun ex G1 _ _ => (ex = 3 ∧ Q 1 G1)) (fun r G1 _ _ => gcl G1 l3 = 16 ∧ 0 < gln G1 l3 ∧ Q 0 (sel G1 l3 0 r))) : OkH E M_L_bits [rv l0, iv l1, iv l2, rv l3] G c s Q X := by
  refine OkH.intro (ls := [some (rv l0), some (iv l1), some (iv l2), some (rv l3), none]) (k := 1) rfl (Nat.le_of_ble_eq_true rfl) rfl ?_
  refine v_aload_n (pc := 0) (dk dt_L_bits 0 rfl) rfl rfl ?_
  refine v_iconst (pc := 1) (dk dt_L_bits 1 rfl) ⟨by decide, by decide⟩ ?_
  refine v_aload_n (pc := 2) (dk dt_L_bits 2 rfl) rfl rfl ?_
  refine v_iload_n (pc := 3) (dk dt_L_bits 3 rfl) rfl rfl ?_
  refine v_iload_n (pc := 4) (dk dt_L_bits 4 rfl) rfl rfl ?_
  refine v_cvCC (c := 11) (As := [iv l1, iv l2]) (stk := [iv 0, rv l3]) (pc := 5) (dk dt_L_bits 5 rfl) ml_L_39 rfl rfl (Nat.le_of_ble_eq_true rfl) ⟨by decide, rfl⟩ hx h ?_ ?_
  · intro ex G1 c1 s1 h9
    obtain ⟨rfl, h9⟩ := h9
    refine Hd.at [] (0, 10, 13, 19) [] rfl rfl (fun z hz => absurd hz List.not_mem_nil) (by decide) cl_L_19 cast_3 (fun q hq => ?_)
    refine v_astore (pc := 13) (ls' := [some (rv l0), some (iv l1), some (iv l2), some (rv l3), some (rv q)]) (dk dt_L_bits 9 rfl) (Nat.le_of_ble_eq_true rfl) rfl ?_
    refine v_iconst (pc := 15) (dk dt_L_bits 10 rfl) ⟨by decide, by decide⟩ ?_
    exact v_iret (pc := 16) (dk dt_L_bits 11 rfl) rfl h9
  · intro r G1 c1 s1 h9
    obtain ⟨ha, hb, h9⟩ := h9
    show V E M_L_bits 8 [some (rv l0), some (iv l1), some (iv l2), some (rv l3), none] (iv r :: [iv 0, rv l3]) G1 c1 s1 Q X
    refine v_i2l (pc := 8) (dk dt_L_bits 6 rfl) ?_
    refine v_last (pc := 9) (dk dt_L_bits 7 rfl) ha (by decide) hb ?_
    refine v_goto (pc := 10) (tgt := 17) (dk dt_L_bits 8 rfl) (by decide) ?_
    refine v_iconst (pc := 17) (dk dt_L_bits 12 rfl) ⟨by decide, by decide⟩ ?_
    exact v_iret (pc := 18) (dk dt_L_bits 13 rfl) rfl h9
set_option maxRecDepth 20000 in
theorem w_select {E : EE} {l0 l1 l2 l3 l4 l5 : Int} {G : Gt} {c s : Nat} {Q X : Int → Gt → Prop} (hx : gcl G l0 = 12) (h : CallC E M_X11_select [rv l0, iv l1, iv l2, iv l3, iv l4] G c s (fun ex G1 _ _ => (ex = 3 ∧ Q 1 G1) ∨ (ex = 1 ∧ Q 2 G1)) (fun r G1 _ _ => gcl G1 l5 = 16 ∧ 0 < gln G1 l5 ∧ Q 0 (sel G1 l5 0 r))) : OkH E M_L_select [rv l0, iv l1, iv l2, iv l3, iv l4, rv l5] G c s Q X := by
  refine OkH.intro (ls := [some (rv l0), some (iv l1), some (iv l2), some (iv l3), some (iv l4), some (rv l5), none]) (k := 1) rfl (Nat.le_of_ble_eq_true rfl) rfl ?_
  refine v_aload (pc := 0) (dk dt_L_select 0 rfl) rfl ?_
  refine v_iconst (pc := 2) (dk dt_L_select 1 rfl) ⟨by decide, by decide⟩ ?_
  refine v_aload_n (pc := 3) (dk dt_L_select 2 rfl) rfl rfl ?_
  refine v_iload_n (pc := 4) (dk dt_L_select 3 rfl) rfl rfl ?_
  refine v_iload_n (pc := 5) (dk dt_L_select 4 rfl) rfl rfl ?_
  refine v_iload_n (pc := 6) (dk dt_L_select 5 rfl) rfl rfl ?_
  refine v_iload (pc := 7) (dk dt_L_select 6 rfl) rfl ?_
  refine v_cvCC (c := 11) (As := [iv l1, iv l2, iv l3, iv l4]) (stk := [iv 0, rv l5]) (pc := 9) (dk dt_L_select 7 rfl) ml_L_43 rfl rfl (Nat.le_of_ble_eq_true rfl) ⟨by decide, rfl⟩ hx h ?_ ?_
  · intro ex G1 c1 s1 h9
    rcases h9 with ⟨rfl, h9⟩ | ⟨rfl, h9⟩
    · refine Hd.at [] (0, 14, 17, 19) [(0, 14, 21, 13)] rfl rfl (fun z hz => absurd hz List.not_mem_nil) (by decide) cl_L_19 cast_3 (fun q hq => ?_)
      refine v_astore (pc := 17) (ls' := [some (rv l0), some (iv l1), some (iv l2), some (iv l3), some (iv l4), some (rv l5), some (rv q)]) (dk dt_L_select 11 rfl) (Nat.le_of_ble_eq_true rfl) rfl ?_
      refine v_iconst (pc := 19) (dk dt_L_select 12 rfl) ⟨by decide, by decide⟩ ?_
      exact v_iret (pc := 20) (dk dt_L_select 13 rfl) rfl h9
    · refine Hd.at [(0, 14, 17, 19)] (0, 14, 21, 13) [] rfl rfl (fun z hz => ?_) (by decide) cl_L_13 cast_1 (fun q hq => ?_)
      · simp only [List.mem_cons, List.not_mem_nil, or_false] at hz
        subst hz
        exact ⟨by decide, _, cl_L_19, by decide⟩
      · refine v_astore (pc := 21) (ls' := [some (rv l0), some (iv l1), some (iv l2), some (iv l3), some (iv l4), some (rv l5), some (rv q)]) (dk dt_L_select 14 rfl) (Nat.le_of_ble_eq_true rfl) rfl ?_
        refine v_iconst (pc := 23) (dk dt_L_select 15 rfl) ⟨by decide, by decide⟩ ?_
        exact v_iret (pc := 24) (dk dt_L_select 16 rfl) rfl h9
  · intro r G1 c1 s1 h9
    obtain ⟨ha, hb, h9⟩ := h9
    show V E M_L_select 12 [some (rv l0), some (iv l1), some (iv l2), some (iv l3), some (iv l4), some (rv l5), none] (iv r :: [iv 0, rv l5]) G1 c1 s1 Q X
    refine v_i2l (pc := 12) (dk dt_L_select 8 rfl) ?_
    refine v_last (pc := 13) (dk dt_L_select 9 rfl) ha (by decide) hb ?_
    refine v_goto (pc := 14) (tgt := 25) (dk dt_L_select 10 rfl) (by decide) ?_
    refine v_iconst (pc := 25) (dk dt_L_select 17 rfl) ⟨by decide, by decide⟩ ?_
    exact v_iret (pc := 26) (dk dt_L_select 18 rfl) rfl h9
set_option maxRecDepth 20000 in
theorem w_word {E : EE} {l0 l1 l2 l3 l4 : Int} {G : Gt} {c s : Nat} {Q X : Int → Gt → Prop} (hx : gcl G l0 = 12) (h : CallC E M_X11_word [rv l0, iv l1, iv l2, iv l3] G c s (fun ex G1 _ _ => (ex = 1 ∧ Q 1 G1) ∨ (ex = 2 ∧ Q 2 G1)) (fun r G1 _ _ => gcl G1 l4 = 16 ∧ 0 < gln G1 l4 ∧ Q 0 (sel G1 l4 0 r))) : OkH E M_L_word [rv l0, iv l1, iv l2, iv l3, rv l4] G c s Q X := by
  refine OkH.intro (ls := [some (rv l0), some (iv l1), some (iv l2), some (iv l3), some (rv l4), none]) (k := 1) rfl (Nat.le_of_ble_eq_true rfl) rfl ?_
  refine v_aload (pc := 0) (dk dt_L_word 0 rfl) rfl ?_
  refine v_iconst (pc := 2) (dk dt_L_word 1 rfl) ⟨by decide, by decide⟩ ?_
  refine v_aload_n (pc := 3) (dk dt_L_word 2 rfl) rfl rfl ?_
  refine v_iload_n (pc := 4) (dk dt_L_word 3 rfl) rfl rfl ?_
  refine v_iload_n (pc := 5) (dk dt_L_word 4 rfl) rfl rfl ?_
  refine v_iload_n (pc := 6) (dk dt_L_word 5 rfl) rfl rfl ?_
  refine v_cvCC (c := 11) (As := [iv l1, iv l2, iv l3]) (stk := [iv 0, rv l4]) (pc := 7) (dk dt_L_word 6 rfl) ml_L_47 rfl rfl (Nat.le_of_ble_eq_true rfl) ⟨by decide, rfl⟩ hx h ?_ ?_
  · intro ex G1 c1 s1 h9
    rcases h9 with ⟨rfl, h9⟩ | ⟨rfl, h9⟩
    · refine Hd.at [] (0, 12, 15, 13) [(0, 12, 19, 31)] rfl rfl (fun z hz => absurd hz List.not_mem_nil) (by decide) cl_L_13 cast_1 (fun q hq => ?_)
      refine v_astore (pc := 15) (ls' := [some (rv l0), some (iv l1), some (iv l2), some (iv l3), some (rv l4), some (rv q)]) (dk dt_L_word 10 rfl) (Nat.le_of_ble_eq_true rfl) rfl ?_
      refine v_iconst (pc := 17) (dk dt_L_word 11 rfl) ⟨by decide, by decide⟩ ?_
      exact v_iret (pc := 18) (dk dt_L_word 12 rfl) rfl h9
    · refine Hd.at [(0, 12, 15, 13)] (0, 12, 19, 31) [] rfl rfl (fun z hz => ?_) (by decide) cl_L_31 cast_2 (fun q hq => ?_)
      · simp only [List.mem_cons, List.not_mem_nil, or_false] at hz
        subst hz
        exact ⟨by decide, _, cl_L_13, by decide⟩
      · refine v_astore (pc := 19) (ls' := [some (rv l0), some (iv l1), some (iv l2), some (iv l3), some (rv l4), some (rv q)]) (dk dt_L_word 13 rfl) (Nat.le_of_ble_eq_true rfl) rfl ?_
        refine v_iconst (pc := 21) (dk dt_L_word 14 rfl) ⟨by decide, by decide⟩ ?_
        exact v_iret (pc := 22) (dk dt_L_word 15 rfl) rfl h9
  · intro r G1 c1 s1 h9
    obtain ⟨ha, hb, h9⟩ := h9
    show V E M_L_word 10 [some (rv l0), some (iv l1), some (iv l2), some (iv l3), some (rv l4), none] (iv r :: [iv 0, rv l4]) G1 c1 s1 Q X
    refine v_i2l (pc := 10) (dk dt_L_word 7 rfl) ?_
    refine v_last (pc := 11) (dk dt_L_word 8 rfl) ha (by decide) hb ?_
    refine v_goto (pc := 12) (tgt := 23) (dk dt_L_word 9 rfl) (by decide) ?_
    refine v_iconst (pc := 23) (dk dt_L_word 16 rfl) ⟨by decide, by decide⟩ ?_
    exact v_iret (pc := 24) (dk dt_L_word 17 rfl) rfl h9
set_option maxRecDepth 20000 in
theorem w_ask {E : EE} {l0 l1 l2 : Int} {G : Gt} {c s : Nat} {Q X : Int → Gt → Prop} (hx : gcl G l0 = 12) (h : CallC E M_X11_ask [rv l0, iv l1] G c s (fun ex G1 _ _ => (ex = 1 ∧ Q 1 G1) ∨ (ex = 2 ∧ Q 2 G1)) (fun r G1 _ _ => gcl G1 l2 = 16 ∧ 0 < gln G1 l2 ∧ Q 0 (sel G1 l2 0 r))) : OkH E M_L_ask [rv l0, iv l1, rv l2] G c s Q X := by
  refine OkH.intro (ls := [some (rv l0), some (iv l1), some (rv l2), none]) (k := 1) rfl (Nat.le_of_ble_eq_true rfl) rfl ?_
  refine v_aload_n (pc := 0) (dk dt_L_ask 0 rfl) rfl rfl ?_
  refine v_iconst (pc := 1) (dk dt_L_ask 1 rfl) ⟨by decide, by decide⟩ ?_
  refine v_aload_n (pc := 2) (dk dt_L_ask 2 rfl) rfl rfl ?_
  refine v_iload_n (pc := 3) (dk dt_L_ask 3 rfl) rfl rfl ?_
  refine v_cvCC (c := 11) (As := [iv l1]) (stk := [iv 0, rv l2]) (pc := 4) (dk dt_L_ask 4 rfl) ml_L_50 rfl rfl (Nat.le_of_ble_eq_true rfl) ⟨by decide, rfl⟩ hx h ?_ ?_
  · intro ex G1 c1 s1 h9
    rcases h9 with ⟨rfl, h9⟩ | ⟨rfl, h9⟩
    · refine Hd.at [] (0, 9, 12, 13) [(0, 9, 15, 31)] rfl rfl (fun z hz => absurd hz List.not_mem_nil) (by decide) cl_L_13 cast_1 (fun q hq => ?_)
      refine v_astore_n (pc := 12) (ls' := [some (rv l0), some (iv l1), some (rv l2), some (rv q)]) (dk dt_L_ask 8 rfl) rfl (Nat.le_of_ble_eq_true rfl) rfl ?_
      refine v_iconst (pc := 13) (dk dt_L_ask 9 rfl) ⟨by decide, by decide⟩ ?_
      exact v_iret (pc := 14) (dk dt_L_ask 10 rfl) rfl h9
    · refine Hd.at [(0, 9, 12, 13)] (0, 9, 15, 31) [] rfl rfl (fun z hz => ?_) (by decide) cl_L_31 cast_2 (fun q hq => ?_)
      · simp only [List.mem_cons, List.not_mem_nil, or_false] at hz
        subst hz
        exact ⟨by decide, _, cl_L_13, by decide⟩
      · refine v_astore_n (pc := 15) (ls' := [some (rv l0), some (iv l1), some (rv l2), some (rv q)]) (dk dt_L_ask 11 rfl) rfl (Nat.le_of_ble_eq_true rfl) rfl ?_
        refine v_iconst (pc := 16) (dk dt_L_ask 12 rfl) ⟨by decide, by decide⟩ ?_
        exact v_iret (pc := 17) (dk dt_L_ask 13 rfl) rfl h9
  · intro r G1 c1 s1 h9
    obtain ⟨ha, hb, h9⟩ := h9
    show V E M_L_ask 7 [some (rv l0), some (iv l1), some (rv l2), none] (iv r :: [iv 0, rv l2]) G1 c1 s1 Q X
    refine v_i2l (pc := 7) (dk dt_L_ask 5 rfl) ?_
    refine v_last (pc := 8) (dk dt_L_ask 6 rfl) ha (by decide) hb ?_
    refine v_goto (pc := 9) (tgt := 18) (dk dt_L_ask 7 rfl) (by decide) ?_
    refine v_iconst (pc := 18) (dk dt_L_ask 14 rfl) ⟨by decide, by decide⟩ ?_
    exact v_iret (pc := 19) (dk dt_L_ask 15 rfl) rfl h9
set_option maxRecDepth 20000 in
theorem w_value {E : EE} {l0 l1 l2 : Int} {G : Gt} {c s : Nat} {Q X : Int → Gt → Prop} (hx : gcl G l0 = 12) (h : CallC E M_X11_value [rv l0, iv l1] G c s (fun ex G1 _ _ => (ex = 3 ∧ Q 1 G1)) (fun r G1 _ _ => gcl G1 l2 = 16 ∧ 0 < gln G1 l2 ∧ Q 0 (sel G1 l2 0 r))) : OkH E M_L_value [rv l0, iv l1, rv l2] G c s Q X := by
  refine OkH.intro (ls := [some (rv l0), some (iv l1), some (rv l2), none]) (k := 1) rfl (Nat.le_of_ble_eq_true rfl) rfl ?_
  refine v_aload_n (pc := 0) (dk dt_L_value 0 rfl) rfl rfl ?_
  refine v_iconst (pc := 1) (dk dt_L_value 1 rfl) ⟨by decide, by decide⟩ ?_
  refine v_aload_n (pc := 2) (dk dt_L_value 2 rfl) rfl rfl ?_
  refine v_iload_n (pc := 3) (dk dt_L_value 3 rfl) rfl rfl ?_
  refine v_cvCC (c := 11) (As := [iv l1]) (stk := [iv 0, rv l2]) (pc := 4) (dk dt_L_value 4 rfl) ml_L_53 rfl rfl (Nat.le_of_ble_eq_true rfl) ⟨by decide, rfl⟩ hx h ?_ ?_
  · intro ex G1 c1 s1 h9
    obtain ⟨rfl, h9⟩ := h9
    refine Hd.at [] (0, 8, 11, 19) [] rfl rfl (fun z hz => absurd hz List.not_mem_nil) (by decide) cl_L_19 cast_3 (fun q hq => ?_)
    refine v_astore_n (pc := 11) (ls' := [some (rv l0), some (iv l1), some (rv l2), some (rv q)]) (dk dt_L_value 7 rfl) rfl (Nat.le_of_ble_eq_true rfl) rfl ?_
    refine v_iconst (pc := 12) (dk dt_L_value 8 rfl) ⟨by decide, by decide⟩ ?_
    exact v_iret (pc := 13) (dk dt_L_value 9 rfl) rfl h9
  · intro r G1 c1 s1 h9
    obtain ⟨ha, hb, h9⟩ := h9
    show V E M_L_value 7 [some (rv l0), some (iv l1), some (rv l2), none] (jv r :: [iv 0, rv l2]) G1 c1 s1 Q X
    refine v_last (pc := 7) (dk dt_L_value 5 rfl) ha (by decide) hb ?_
    refine v_goto (pc := 8) (tgt := 14) (dk dt_L_value 6 rfl) (by decide) ?_
    refine v_iconst (pc := 14) (dk dt_L_value 10 rfl) ⟨by decide, by decide⟩ ?_
    exact v_iret (pc := 15) (dk dt_L_value 11 rfl) rfl h9
set_option maxRecDepth 20000 in
theorem w_labelsOf {E : EE} {l0 l1 l2 : Int} {G : Gt} {c s : Nat} {Q X : Int → Gt → Prop} (hx : gcl G l0 = 12) (h : CallC E M_X11_labelsOf [rv l0, iv l1] G c s (fun ex G1 _ _ => (ex = 3 ∧ Q 1 G1)) (fun r G1 _ _ => gcl G1 l2 = 16 ∧ 0 < gln G1 l2 ∧ Q 0 (sel G1 l2 0 r))) : OkH E M_L_labelsOf [rv l0, iv l1, rv l2] G c s Q X := by
  refine OkH.intro (ls := [some (rv l0), some (iv l1), some (rv l2), none]) (k := 1) rfl (Nat.le_of_ble_eq_true rfl) rfl ?_
  refine v_aload_n (pc := 0) (dk dt_L_labelsOf 0 rfl) rfl rfl ?_
  refine v_iconst (pc := 1) (dk dt_L_labelsOf 1 rfl) ⟨by decide, by decide⟩ ?_
  refine v_aload_n (pc := 2) (dk dt_L_labelsOf 2 rfl) rfl rfl ?_
  refine v_iload_n (pc := 3) (dk dt_L_labelsOf 3 rfl) rfl rfl ?_
  refine v_cvCC (c := 11) (As := [iv l1]) (stk := [iv 0, rv l2]) (pc := 4) (dk dt_L_labelsOf 4 rfl) ml_L_57 rfl rfl (Nat.le_of_ble_eq_true rfl) ⟨by decide, rfl⟩ hx h ?_ ?_
  · intro ex G1 c1 s1 h9
    obtain ⟨rfl, h9⟩ := h9
    refine Hd.at [] (0, 9, 12, 19) [] rfl rfl (fun z hz => absurd hz List.not_mem_nil) (by decide) cl_L_19 cast_3 (fun q hq => ?_)
    refine v_astore_n (pc := 12) (ls' := [some (rv l0), some (iv l1), some (rv l2), some (rv q)]) (dk dt_L_labelsOf 8 rfl) rfl (Nat.le_of_ble_eq_true rfl) rfl ?_
    refine v_iconst (pc := 13) (dk dt_L_labelsOf 9 rfl) ⟨by decide, by decide⟩ ?_
    exact v_iret (pc := 14) (dk dt_L_labelsOf 10 rfl) rfl h9
  · intro r G1 c1 s1 h9
    obtain ⟨ha, hb, h9⟩ := h9
    show V E M_L_labelsOf 7 [some (rv l0), some (iv l1), some (rv l2), none] (iv r :: [iv 0, rv l2]) G1 c1 s1 Q X
    refine v_i2l (pc := 7) (dk dt_L_labelsOf 5 rfl) ?_
    refine v_last (pc := 8) (dk dt_L_labelsOf 6 rfl) ha (by decide) hb ?_
    refine v_goto (pc := 9) (tgt := 15) (dk dt_L_labelsOf 7 rfl) (by decide) ?_
    refine v_iconst (pc := 15) (dk dt_L_labelsOf 11 rfl) ⟨by decide, by decide⟩ ?_
    exact v_iret (pc := 16) (dk dt_L_labelsOf 12 rfl) rfl h9
set_option maxRecDepth 20000 in
theorem w_record {E : EE} {l0 l1 l2 : Int} {G : Gt} {c s : Nat} {Q X : Int → Gt → Prop} (hx : gcl G l0 = 12) (h : CallC E M_X11_record [rv l0, iv l1] G c s (fun ex G1 _ _ => (ex = 1 ∧ Q 1 G1) ∨ (ex = 2 ∧ Q 2 G1)) (fun r G1 _ _ => gcl G1 l2 = 16 ∧ 0 < gln G1 l2 ∧ Q 0 (sel G1 l2 0 r))) : OkH E M_L_record [rv l0, iv l1, rv l2] G c s Q X := by
  refine OkH.intro (ls := [some (rv l0), some (iv l1), some (rv l2), none]) (k := 1) rfl (Nat.le_of_ble_eq_true rfl) rfl ?_
  refine v_aload_n (pc := 0) (dk dt_L_record 0 rfl) rfl rfl ?_
  refine v_iconst (pc := 1) (dk dt_L_record 1 rfl) ⟨by decide, by decide⟩ ?_
  refine v_aload_n (pc := 2) (dk dt_L_record 2 rfl) rfl rfl ?_
  refine v_iload_n (pc := 3) (dk dt_L_record 3 rfl) rfl rfl ?_
  refine v_cvCC (c := 11) (As := [iv l1]) (stk := [iv 0, rv l2]) (pc := 4) (dk dt_L_record 4 rfl) ml_L_60 rfl rfl (Nat.le_of_ble_eq_true rfl) ⟨by decide, rfl⟩ hx h ?_ ?_
  · intro ex G1 c1 s1 h9
    rcases h9 with ⟨rfl, h9⟩ | ⟨rfl, h9⟩
    · refine Hd.at [] (0, 9, 12, 13) [(0, 9, 15, 31)] rfl rfl (fun z hz => absurd hz List.not_mem_nil) (by decide) cl_L_13 cast_1 (fun q hq => ?_)
      refine v_astore_n (pc := 12) (ls' := [some (rv l0), some (iv l1), some (rv l2), some (rv q)]) (dk dt_L_record 8 rfl) rfl (Nat.le_of_ble_eq_true rfl) rfl ?_
      refine v_iconst (pc := 13) (dk dt_L_record 9 rfl) ⟨by decide, by decide⟩ ?_
      exact v_iret (pc := 14) (dk dt_L_record 10 rfl) rfl h9
    · refine Hd.at [(0, 9, 12, 13)] (0, 9, 15, 31) [] rfl rfl (fun z hz => ?_) (by decide) cl_L_31 cast_2 (fun q hq => ?_)
      · simp only [List.mem_cons, List.not_mem_nil, or_false] at hz
        subst hz
        exact ⟨by decide, _, cl_L_13, by decide⟩
      · refine v_astore_n (pc := 15) (ls' := [some (rv l0), some (iv l1), some (rv l2), some (rv q)]) (dk dt_L_record 11 rfl) rfl (Nat.le_of_ble_eq_true rfl) rfl ?_
        refine v_iconst (pc := 16) (dk dt_L_record 12 rfl) ⟨by decide, by decide⟩ ?_
        exact v_iret (pc := 17) (dk dt_L_record 13 rfl) rfl h9
  · intro r G1 c1 s1 h9
    obtain ⟨ha, hb, h9⟩ := h9
    show V E M_L_record 7 [some (rv l0), some (iv l1), some (rv l2), none] (iv r :: [iv 0, rv l2]) G1 c1 s1 Q X
    refine v_i2l (pc := 7) (dk dt_L_record 5 rfl) ?_
    refine v_last (pc := 8) (dk dt_L_record 6 rfl) ha (by decide) hb ?_
    refine v_goto (pc := 9) (tgt := 18) (dk dt_L_record 7 rfl) (by decide) ?_
    refine v_iconst (pc := 18) (dk dt_L_record 14 rfl) ⟨by decide, by decide⟩ ?_
    exact v_iret (pc := 19) (dk dt_L_record 15 rfl) rfl h9
set_option maxRecDepth 20000 in
theorem w_alert {E : EE} {l0 l1 l2 l3 : Int} {G : Gt} {c s : Nat} {Q X : Int → Gt → Prop} (hx : gcl G l0 = 12) (h : CallC E M_X11_alert [rv l0, iv l1, iv l2] G c s (fun ex G1 _ _ => (ex = 1 ∧ Q 1 G1) ∨ (ex = 2 ∧ Q 2 G1)) (fun r G1 _ _ => gcl G1 l3 = 16 ∧ 0 < gln G1 l3 ∧ Q 0 (sel G1 l3 0 r))) : OkH E M_L_alert [rv l0, iv l1, iv l2, rv l3] G c s Q X := by
  refine OkH.intro (ls := [some (rv l0), some (iv l1), some (iv l2), some (rv l3), none]) (k := 1) rfl (Nat.le_of_ble_eq_true rfl) rfl ?_
  refine v_aload_n (pc := 0) (dk dt_L_alert 0 rfl) rfl rfl ?_
  refine v_iconst (pc := 1) (dk dt_L_alert 1 rfl) ⟨by decide, by decide⟩ ?_
  refine v_aload_n (pc := 2) (dk dt_L_alert 2 rfl) rfl rfl ?_
  refine v_iload_n (pc := 3) (dk dt_L_alert 3 rfl) rfl rfl ?_
  refine v_iload_n (pc := 4) (dk dt_L_alert 4 rfl) rfl rfl ?_
  refine v_cvCC (c := 11) (As := [iv l1, iv l2]) (stk := [iv 0, rv l3]) (pc := 5) (dk dt_L_alert 5 rfl) ml_L_63 rfl rfl (Nat.le_of_ble_eq_true rfl) ⟨by decide, rfl⟩ hx h ?_ ?_
  · intro ex G1 c1 s1 h9
    rcases h9 with ⟨rfl, h9⟩ | ⟨rfl, h9⟩
    · refine Hd.at [] (0, 10, 13, 13) [(0, 10, 17, 31)] rfl rfl (fun z hz => absurd hz List.not_mem_nil) (by decide) cl_L_13 cast_1 (fun q hq => ?_)
      refine v_astore (pc := 13) (ls' := [some (rv l0), some (iv l1), some (iv l2), some (rv l3), some (rv q)]) (dk dt_L_alert 9 rfl) (Nat.le_of_ble_eq_true rfl) rfl ?_
      refine v_iconst (pc := 15) (dk dt_L_alert 10 rfl) ⟨by decide, by decide⟩ ?_
      exact v_iret (pc := 16) (dk dt_L_alert 11 rfl) rfl h9
    · refine Hd.at [(0, 10, 13, 13)] (0, 10, 17, 31) [] rfl rfl (fun z hz => ?_) (by decide) cl_L_31 cast_2 (fun q hq => ?_)
      · simp only [List.mem_cons, List.not_mem_nil, or_false] at hz
        subst hz
        exact ⟨by decide, _, cl_L_13, by decide⟩
      · refine v_astore (pc := 17) (ls' := [some (rv l0), some (iv l1), some (iv l2), some (rv l3), some (rv q)]) (dk dt_L_alert 12 rfl) (Nat.le_of_ble_eq_true rfl) rfl ?_
        refine v_iconst (pc := 19) (dk dt_L_alert 13 rfl) ⟨by decide, by decide⟩ ?_
        exact v_iret (pc := 20) (dk dt_L_alert 14 rfl) rfl h9
  · intro r G1 c1 s1 h9
    obtain ⟨ha, hb, h9⟩ := h9
    show V E M_L_alert 8 [some (rv l0), some (iv l1), some (iv l2), some (rv l3), none] (iv r :: [iv 0, rv l3]) G1 c1 s1 Q X
    refine v_i2l (pc := 8) (dk dt_L_alert 6 rfl) ?_
    refine v_last (pc := 9) (dk dt_L_alert 7 rfl) ha (by decide) hb ?_
    refine v_goto (pc := 10) (tgt := 21) (dk dt_L_alert 8 rfl) (by decide) ?_
    refine v_iconst (pc := 21) (dk dt_L_alert 15 rfl) ⟨by decide, by decide⟩ ?_
    exact v_iret (pc := 22) (dk dt_L_alert 16 rfl) rfl h9
set_option maxRecDepth 20000 in
theorem w_inhibit {E : EE} {l0 l1 l2 l3 : Int} {G : Gt} {c s : Nat} {Q X : Int → Gt → Prop} (hx : gcl G l0 = 12) (h : CallC E M_X11_inhibit [rv l0, iv l1, iv l2] G c s (fun ex G1 _ _ => (ex = 3 ∧ Q 1 G1)) (fun r G1 _ _ => gcl G1 l3 = 16 ∧ 0 < gln G1 l3 ∧ Q 0 (sel G1 l3 0 r))) : OkH E M_L_inhibit [rv l0, iv l1, iv l2, rv l3] G c s Q X := by
  refine OkH.intro (ls := [some (rv l0), some (iv l1), some (iv l2), some (rv l3), none]) (k := 1) rfl (Nat.le_of_ble_eq_true rfl) rfl ?_
  refine v_aload_n (pc := 0) (dk dt_L_inhibit 0 rfl) rfl rfl ?_
  refine v_iconst (pc := 1) (dk dt_L_inhibit 1 rfl) ⟨by decide, by decide⟩ ?_
  refine v_aload_n (pc := 2) (dk dt_L_inhibit 2 rfl) rfl rfl ?_
  refine v_iload_n (pc := 3) (dk dt_L_inhibit 3 rfl) rfl rfl ?_
  refine v_iload_n (pc := 4) (dk dt_L_inhibit 4 rfl) rfl rfl ?_
  refine v_cvCC (c := 11) (As := [iv l1, iv l2]) (stk := [iv 0, rv l3]) (pc := 5) (dk dt_L_inhibit 5 rfl) ml_L_66 rfl rfl (Nat.le_of_ble_eq_true rfl) ⟨by decide, rfl⟩ hx h ?_ ?_
  · intro ex G1 c1 s1 h9
    obtain ⟨rfl, h9⟩ := h9
    refine Hd.at [] (0, 10, 13, 19) [] rfl rfl (fun z hz => absurd hz List.not_mem_nil) (by decide) cl_L_19 cast_3 (fun q hq => ?_)
    refine v_astore (pc := 13) (ls' := [some (rv l0), some (iv l1), some (iv l2), some (rv l3), some (rv q)]) (dk dt_L_inhibit 9 rfl) (Nat.le_of_ble_eq_true rfl) rfl ?_
    refine v_iconst (pc := 15) (dk dt_L_inhibit 10 rfl) ⟨by decide, by decide⟩ ?_
    exact v_iret (pc := 16) (dk dt_L_inhibit 11 rfl) rfl h9
  · intro r G1 c1 s1 h9
    obtain ⟨ha, hb, h9⟩ := h9
    show V E M_L_inhibit 8 [some (rv l0), some (iv l1), some (iv l2), some (rv l3), none] (iv r :: [iv 0, rv l3]) G1 c1 s1 Q X
    refine v_i2l (pc := 8) (dk dt_L_inhibit 6 rfl) ?_
    refine v_last (pc := 9) (dk dt_L_inhibit 7 rfl) ha (by decide) hb ?_
    refine v_goto (pc := 10) (tgt := 17) (dk dt_L_inhibit 8 rfl) (by decide) ?_
    refine v_iconst (pc := 17) (dk dt_L_inhibit 12 rfl) ⟨by decide, by decide⟩ ?_
    exact v_iret (pc := 18) (dk dt_L_inhibit 13 rfl) rfl h9
set_option maxRecDepth 20000 in
theorem w_silence {E : EE} {l0 l1 l2 l3 : Int} {G : Gt} {c s : Nat} {Q X : Int → Gt → Prop} (hx : gcl G l0 = 12) (h : CallC E M_X11_silence [rv l0, iv l1, iv l2] G c s (fun ex G1 _ _ => (ex = 3 ∧ Q 1 G1) ∨ (ex = 1 ∧ Q 2 G1) ∨ (ex = 2 ∧ Q 3 G1)) (fun r G1 _ _ => gcl G1 l3 = 16 ∧ 0 < gln G1 l3 ∧ Q 0 (sel G1 l3 0 r))) : OkH E M_L_silence [rv l0, iv l1, iv l2, rv l3] G c s Q X := by
  refine OkH.intro (ls := [some (rv l0), some (iv l1), some (iv l2), some (rv l3), none]) (k := 1) rfl (Nat.le_of_ble_eq_true rfl) rfl ?_
  refine v_aload_n (pc := 0) (dk dt_L_silence 0 rfl) rfl rfl ?_
  refine v_iconst (pc := 1) (dk dt_L_silence 1 rfl) ⟨by decide, by decide⟩ ?_
  refine v_aload_n (pc := 2) (dk dt_L_silence 2 rfl) rfl rfl ?_
  refine v_iload_n (pc := 3) (dk dt_L_silence 3 rfl) rfl rfl ?_
  refine v_iload_n (pc := 4) (dk dt_L_silence 4 rfl) rfl rfl ?_
  refine v_cvCC (c := 11) (As := [iv l1, iv l2]) (stk := [iv 0, rv l3]) (pc := 5) (dk dt_L_silence 5 rfl) ml_L_69 rfl rfl (Nat.le_of_ble_eq_true rfl) ⟨by decide, rfl⟩ hx h ?_ ?_
  · intro ex G1 c1 s1 h9
    rcases h9 with ⟨rfl, h9⟩ | ⟨rfl, h9⟩ | ⟨rfl, h9⟩
    · refine Hd.at [] (0, 10, 13, 19) [(0, 10, 17, 13), (0, 10, 21, 31)] rfl rfl (fun z hz => absurd hz List.not_mem_nil) (by decide) cl_L_19 cast_3 (fun q hq => ?_)
      refine v_astore (pc := 13) (ls' := [some (rv l0), some (iv l1), some (iv l2), some (rv l3), some (rv q)]) (dk dt_L_silence 9 rfl) (Nat.le_of_ble_eq_true rfl) rfl ?_
      refine v_iconst (pc := 15) (dk dt_L_silence 10 rfl) ⟨by decide, by decide⟩ ?_
      exact v_iret (pc := 16) (dk dt_L_silence 11 rfl) rfl h9
    · refine Hd.at [(0, 10, 13, 19)] (0, 10, 17, 13) [(0, 10, 21, 31)] rfl rfl (fun z hz => ?_) (by decide) cl_L_13 cast_1 (fun q hq => ?_)
      · simp only [List.mem_cons, List.not_mem_nil, or_false] at hz
        subst hz
        exact ⟨by decide, _, cl_L_19, by decide⟩
      · refine v_astore (pc := 17) (ls' := [some (rv l0), some (iv l1), some (iv l2), some (rv l3), some (rv q)]) (dk dt_L_silence 12 rfl) (Nat.le_of_ble_eq_true rfl) rfl ?_
        refine v_iconst (pc := 19) (dk dt_L_silence 13 rfl) ⟨by decide, by decide⟩ ?_
        exact v_iret (pc := 20) (dk dt_L_silence 14 rfl) rfl h9
    · refine Hd.at [(0, 10, 13, 19), (0, 10, 17, 13)] (0, 10, 21, 31) [] rfl rfl (fun z hz => ?_) (by decide) cl_L_31 cast_2 (fun q hq => ?_)
      · simp only [List.mem_cons, List.not_mem_nil, or_false] at hz
        rcases hz with rfl | rfl
        · exact ⟨by decide, _, cl_L_19, by decide⟩
        · exact ⟨by decide, _, cl_L_13, by decide⟩
      · refine v_astore (pc := 21) (ls' := [some (rv l0), some (iv l1), some (iv l2), some (rv l3), some (rv q)]) (dk dt_L_silence 15 rfl) (Nat.le_of_ble_eq_true rfl) rfl ?_
        refine v_iconst (pc := 23) (dk dt_L_silence 16 rfl) ⟨by decide, by decide⟩ ?_
        exact v_iret (pc := 24) (dk dt_L_silence 17 rfl) rfl h9
  · intro r G1 c1 s1 h9
    obtain ⟨ha, hb, h9⟩ := h9
    show V E M_L_silence 8 [some (rv l0), some (iv l1), some (iv l2), some (rv l3), none] (iv r :: [iv 0, rv l3]) G1 c1 s1 Q X
    refine v_i2l (pc := 8) (dk dt_L_silence 6 rfl) ?_
    refine v_last (pc := 9) (dk dt_L_silence 7 rfl) ha (by decide) hb ?_
    refine v_goto (pc := 10) (tgt := 25) (dk dt_L_silence 8 rfl) (by decide) ?_
    refine v_iconst (pc := 25) (dk dt_L_silence 18 rfl) ⟨by decide, by decide⟩ ?_
    exact v_iret (pc := 26) (dk dt_L_silence 19 rfl) rfl h9
set_option maxRecDepth 20000 in
theorem w_entries {E : EE} {l0 l1 l2 l3 : Int} {G : Gt} {c s : Nat} {Q X : Int → Gt → Prop} (hx : gcl G l0 = 12) (h : CallC E M_X11_entries [rv l0, iv l1, iv l2] G c s (fun ex G1 _ _ => (ex = 3 ∧ Q 1 G1)) (fun r G1 _ _ => gcl G1 l3 = 16 ∧ 0 < gln G1 l3 ∧ Q 0 (sel G1 l3 0 r))) : OkH E M_L_entries [rv l0, iv l1, iv l2, rv l3] G c s Q X := by
  refine OkH.intro (ls := [some (rv l0), some (iv l1), some (iv l2), some (rv l3), none]) (k := 1) rfl (Nat.le_of_ble_eq_true rfl) rfl ?_
  refine v_aload_n (pc := 0) (dk dt_L_entries 0 rfl) rfl rfl ?_
  refine v_iconst (pc := 1) (dk dt_L_entries 1 rfl) ⟨by decide, by decide⟩ ?_
  refine v_aload_n (pc := 2) (dk dt_L_entries 2 rfl) rfl rfl ?_
  refine v_iload_n (pc := 3) (dk dt_L_entries 3 rfl) rfl rfl ?_
  refine v_iload_n (pc := 4) (dk dt_L_entries 4 rfl) rfl rfl ?_
  refine v_cvCC (c := 11) (As := [iv l1, iv l2]) (stk := [iv 0, rv l3]) (pc := 5) (dk dt_L_entries 5 rfl) ml_L_72 rfl rfl (Nat.le_of_ble_eq_true rfl) ⟨by decide, rfl⟩ hx h ?_ ?_
  · intro ex G1 c1 s1 h9
    obtain ⟨rfl, h9⟩ := h9
    refine Hd.at [] (0, 10, 13, 19) [] rfl rfl (fun z hz => absurd hz List.not_mem_nil) (by decide) cl_L_19 cast_3 (fun q hq => ?_)
    refine v_astore (pc := 13) (ls' := [some (rv l0), some (iv l1), some (iv l2), some (rv l3), some (rv q)]) (dk dt_L_entries 9 rfl) (Nat.le_of_ble_eq_true rfl) rfl ?_
    refine v_iconst (pc := 15) (dk dt_L_entries 10 rfl) ⟨by decide, by decide⟩ ?_
    exact v_iret (pc := 16) (dk dt_L_entries 11 rfl) rfl h9
  · intro r G1 c1 s1 h9
    obtain ⟨ha, hb, h9⟩ := h9
    show V E M_L_entries 8 [some (rv l0), some (iv l1), some (iv l2), some (rv l3), none] (iv r :: [iv 0, rv l3]) G1 c1 s1 Q X
    refine v_i2l (pc := 8) (dk dt_L_entries 6 rfl) ?_
    refine v_last (pc := 9) (dk dt_L_entries 7 rfl) ha (by decide) hb ?_
    refine v_goto (pc := 10) (tgt := 17) (dk dt_L_entries 8 rfl) (by decide) ?_
    refine v_iconst (pc := 17) (dk dt_L_entries 12 rfl) ⟨by decide, by decide⟩ ?_
    exact v_iret (pc := 18) (dk dt_L_entries 13 rfl) rfl h9
set_option maxRecDepth 20000 in
theorem w_entry {E : EE} {l0 l1 l2 l3 l4 : Int} {G : Gt} {c s : Nat} {Q X : Int → Gt → Prop} (hx : gcl G l0 = 12) (h : CallC E M_X11_entry [rv l0, iv l1, iv l2, iv l3] G c s (fun ex G1 _ _ => (ex = 3 ∧ Q 1 G1) ∨ (ex = 1 ∧ Q 2 G1)) (fun r G1 _ _ => gcl G1 l4 = 16 ∧ 0 < gln G1 l4 ∧ Q 0 (sel G1 l4 0 r))) : OkH E M_L_entry [rv l0, iv l1, iv l2, iv l3, rv l4] G c s Q X := by
  refine OkH.intro (ls := [some (rv l0), some (iv l1), some (iv l2), some (iv l3), some (rv l4), none]) (k := 1) rfl (Nat.le_of_ble_eq_true rfl) rfl ?_
  refine v_aload (pc := 0) (dk dt_L_entry 0 rfl) rfl ?_
  refine v_iconst (pc := 2) (dk dt_L_entry 1 rfl) ⟨by decide, by decide⟩ ?_
  refine v_aload_n (pc := 3) (dk dt_L_entry 2 rfl) rfl rfl ?_
  refine v_iload_n (pc := 4) (dk dt_L_entry 3 rfl) rfl rfl ?_
  refine v_iload_n (pc := 5) (dk dt_L_entry 4 rfl) rfl rfl ?_
  refine v_iload_n (pc := 6) (dk dt_L_entry 5 rfl) rfl rfl ?_
  refine v_cvCC (c := 11) (As := [iv l1, iv l2, iv l3]) (stk := [iv 0, rv l4]) (pc := 7) (dk dt_L_entry 6 rfl) ml_L_76 rfl rfl (Nat.le_of_ble_eq_true rfl) ⟨by decide, rfl⟩ hx h ?_ ?_
  · intro ex G1 c1 s1 h9
    rcases h9 with ⟨rfl, h9⟩ | ⟨rfl, h9⟩
    · refine Hd.at [] (0, 12, 15, 19) [(0, 12, 19, 13)] rfl rfl (fun z hz => absurd hz List.not_mem_nil) (by decide) cl_L_19 cast_3 (fun q hq => ?_)
      refine v_astore (pc := 15) (ls' := [some (rv l0), some (iv l1), some (iv l2), some (iv l3), some (rv l4), some (rv q)]) (dk dt_L_entry 10 rfl) (Nat.le_of_ble_eq_true rfl) rfl ?_
      refine v_iconst (pc := 17) (dk dt_L_entry 11 rfl) ⟨by decide, by decide⟩ ?_
      exact v_iret (pc := 18) (dk dt_L_entry 12 rfl) rfl h9
    · refine Hd.at [(0, 12, 15, 19)] (0, 12, 19, 13) [] rfl rfl (fun z hz => ?_) (by decide) cl_L_13 cast_1 (fun q hq => ?_)
      · simp only [List.mem_cons, List.not_mem_nil, or_false] at hz
        subst hz
        exact ⟨by decide, _, cl_L_19, by decide⟩
      · refine v_astore (pc := 19) (ls' := [some (rv l0), some (iv l1), some (iv l2), some (iv l3), some (rv l4), some (rv q)]) (dk dt_L_entry 13 rfl) (Nat.le_of_ble_eq_true rfl) rfl ?_
        refine v_iconst (pc := 21) (dk dt_L_entry 14 rfl) ⟨by decide, by decide⟩ ?_
        exact v_iret (pc := 22) (dk dt_L_entry 15 rfl) rfl h9
  · intro r G1 c1 s1 h9
    obtain ⟨ha, hb, h9⟩ := h9
    show V E M_L_entry 10 [some (rv l0), some (iv l1), some (iv l2), some (iv l3), some (rv l4), none] (iv r :: [iv 0, rv l4]) G1 c1 s1 Q X
    refine v_i2l (pc := 10) (dk dt_L_entry 7 rfl) ?_
    refine v_last (pc := 11) (dk dt_L_entry 8 rfl) ha (by decide) hb ?_
    refine v_goto (pc := 12) (tgt := 23) (dk dt_L_entry 9 rfl) (by decide) ?_
    refine v_iconst (pc := 23) (dk dt_L_entry 16 rfl) ⟨by decide, by decide⟩ ?_
    exact v_iret (pc := 24) (dk dt_L_entry 17 rfl) rfl h9
set_option maxRecDepth 20000 in
theorem w_notice {E : EE} {l0 l1 l2 l3 : Int} {G : Gt} {c s : Nat} {Q X : Int → Gt → Prop} (hx : gcl G l0 = 12) (h : CallC E M_X11_notice [rv l0, iv l1, iv l2] G c s (fun ex G1 _ _ => (ex = 3 ∧ Q 1 G1) ∨ (ex = 1 ∧ Q 2 G1)) (fun r G1 _ _ => gcl G1 l3 = 16 ∧ 0 < gln G1 l3 ∧ Q 0 (sel G1 l3 0 r))) : OkH E M_L_notice [rv l0, iv l1, iv l2, rv l3] G c s Q X := by
  refine OkH.intro (ls := [some (rv l0), some (iv l1), some (iv l2), some (rv l3), none]) (k := 1) rfl (Nat.le_of_ble_eq_true rfl) rfl ?_
  refine v_aload_n (pc := 0) (dk dt_L_notice 0 rfl) rfl rfl ?_
  refine v_iconst (pc := 1) (dk dt_L_notice 1 rfl) ⟨by decide, by decide⟩ ?_
  refine v_aload_n (pc := 2) (dk dt_L_notice 2 rfl) rfl rfl ?_
  refine v_iload_n (pc := 3) (dk dt_L_notice 3 rfl) rfl rfl ?_
  refine v_iload_n (pc := 4) (dk dt_L_notice 4 rfl) rfl rfl ?_
  refine v_cvCC (c := 11) (As := [iv l1, iv l2]) (stk := [iv 0, rv l3]) (pc := 5) (dk dt_L_notice 5 rfl) ml_L_79 rfl rfl (Nat.le_of_ble_eq_true rfl) ⟨by decide, rfl⟩ hx h ?_ ?_
  · intro ex G1 c1 s1 h9
    rcases h9 with ⟨rfl, h9⟩ | ⟨rfl, h9⟩
    · refine Hd.at [] (0, 10, 13, 19) [(0, 10, 17, 13)] rfl rfl (fun z hz => absurd hz List.not_mem_nil) (by decide) cl_L_19 cast_3 (fun q hq => ?_)
      refine v_astore (pc := 13) (ls' := [some (rv l0), some (iv l1), some (iv l2), some (rv l3), some (rv q)]) (dk dt_L_notice 9 rfl) (Nat.le_of_ble_eq_true rfl) rfl ?_
      refine v_iconst (pc := 15) (dk dt_L_notice 10 rfl) ⟨by decide, by decide⟩ ?_
      exact v_iret (pc := 16) (dk dt_L_notice 11 rfl) rfl h9
    · refine Hd.at [(0, 10, 13, 19)] (0, 10, 17, 13) [] rfl rfl (fun z hz => ?_) (by decide) cl_L_13 cast_1 (fun q hq => ?_)
      · simp only [List.mem_cons, List.not_mem_nil, or_false] at hz
        subst hz
        exact ⟨by decide, _, cl_L_19, by decide⟩
      · refine v_astore (pc := 17) (ls' := [some (rv l0), some (iv l1), some (iv l2), some (rv l3), some (rv q)]) (dk dt_L_notice 12 rfl) (Nat.le_of_ble_eq_true rfl) rfl ?_
        refine v_iconst (pc := 19) (dk dt_L_notice 13 rfl) ⟨by decide, by decide⟩ ?_
        exact v_iret (pc := 20) (dk dt_L_notice 14 rfl) rfl h9
  · intro r G1 c1 s1 h9
    obtain ⟨ha, hb, h9⟩ := h9
    show V E M_L_notice 8 [some (rv l0), some (iv l1), some (iv l2), some (rv l3), none] (iv r :: [iv 0, rv l3]) G1 c1 s1 Q X
    refine v_i2l (pc := 8) (dk dt_L_notice 6 rfl) ?_
    refine v_last (pc := 9) (dk dt_L_notice 7 rfl) ha (by decide) hb ?_
    refine v_goto (pc := 10) (tgt := 21) (dk dt_L_notice 8 rfl) (by decide) ?_
    refine v_iconst (pc := 21) (dk dt_L_notice 15 rfl) ⟨by decide, by decide⟩ ?_
    exact v_iret (pc := 22) (dk dt_L_notice 16 rfl) rfl h9
set_option maxRecDepth 20000 in
theorem w_thinned {E : EE} {l0 l1 l2 l3 l4 l5 : Int} {G : Gt} {c s : Nat} {Q X : Int → Gt → Prop} (hx : gcl G l0 = 12) (h : CallC E M_X11_thinned [rv l0, iv l1, iv l2, iv l3, iv l4] G c s (fun ex G1 _ _ => (ex = 3 ∧ Q 1 G1) ∨ (ex = 1 ∧ Q 2 G1)) (fun r G1 _ _ => gcl G1 l5 = 16 ∧ 0 < gln G1 l5 ∧ Q 0 (sel G1 l5 0 r))) : OkH E M_L_thinned [rv l0, iv l1, iv l2, iv l3, iv l4, rv l5] G c s Q X := by
  refine OkH.intro (ls := [some (rv l0), some (iv l1), some (iv l2), some (iv l3), some (iv l4), some (rv l5), none]) (k := 1) rfl (Nat.le_of_ble_eq_true rfl) rfl ?_
  refine v_aload (pc := 0) (dk dt_L_thinned 0 rfl) rfl ?_
  refine v_iconst (pc := 2) (dk dt_L_thinned 1 rfl) ⟨by decide, by decide⟩ ?_
  refine v_aload_n (pc := 3) (dk dt_L_thinned 2 rfl) rfl rfl ?_
  refine v_iload_n (pc := 4) (dk dt_L_thinned 3 rfl) rfl rfl ?_
  refine v_iload_n (pc := 5) (dk dt_L_thinned 4 rfl) rfl rfl ?_
  refine v_iload_n (pc := 6) (dk dt_L_thinned 5 rfl) rfl rfl ?_
  refine v_iload (pc := 7) (dk dt_L_thinned 6 rfl) rfl ?_
  refine v_cvCC (c := 11) (As := [iv l1, iv l2, iv l3, iv l4]) (stk := [iv 0, rv l5]) (pc := 9) (dk dt_L_thinned 7 rfl) ml_L_82 rfl rfl (Nat.le_of_ble_eq_true rfl) ⟨by decide, rfl⟩ hx h ?_ ?_
  · intro ex G1 c1 s1 h9
    rcases h9 with ⟨rfl, h9⟩ | ⟨rfl, h9⟩
    · refine Hd.at [] (0, 14, 17, 19) [(0, 14, 21, 13)] rfl rfl (fun z hz => absurd hz List.not_mem_nil) (by decide) cl_L_19 cast_3 (fun q hq => ?_)
      refine v_astore (pc := 17) (ls' := [some (rv l0), some (iv l1), some (iv l2), some (iv l3), some (iv l4), some (rv l5), some (rv q)]) (dk dt_L_thinned 11 rfl) (Nat.le_of_ble_eq_true rfl) rfl ?_
      refine v_iconst (pc := 19) (dk dt_L_thinned 12 rfl) ⟨by decide, by decide⟩ ?_
      exact v_iret (pc := 20) (dk dt_L_thinned 13 rfl) rfl h9
    · refine Hd.at [(0, 14, 17, 19)] (0, 14, 21, 13) [] rfl rfl (fun z hz => ?_) (by decide) cl_L_13 cast_1 (fun q hq => ?_)
      · simp only [List.mem_cons, List.not_mem_nil, or_false] at hz
        subst hz
        exact ⟨by decide, _, cl_L_19, by decide⟩
      · refine v_astore (pc := 21) (ls' := [some (rv l0), some (iv l1), some (iv l2), some (iv l3), some (iv l4), some (rv l5), some (rv q)]) (dk dt_L_thinned 14 rfl) (Nat.le_of_ble_eq_true rfl) rfl ?_
        refine v_iconst (pc := 23) (dk dt_L_thinned 15 rfl) ⟨by decide, by decide⟩ ?_
        exact v_iret (pc := 24) (dk dt_L_thinned 16 rfl) rfl h9
  · intro r G1 c1 s1 h9
    obtain ⟨ha, hb, h9⟩ := h9
    show V E M_L_thinned 12 [some (rv l0), some (iv l1), some (iv l2), some (iv l3), some (iv l4), some (rv l5), none] (iv r :: [iv 0, rv l5]) G1 c1 s1 Q X
    refine v_i2l (pc := 12) (dk dt_L_thinned 8 rfl) ?_
    refine v_last (pc := 13) (dk dt_L_thinned 9 rfl) ha (by decide) hb ?_
    refine v_goto (pc := 14) (tgt := 25) (dk dt_L_thinned 10 rfl) (by decide) ?_
    refine v_iconst (pc := 25) (dk dt_L_thinned 17 rfl) ⟨by decide, by decide⟩ ?_
    exact v_iret (pc := 26) (dk dt_L_thinned 18 rfl) rfl h9
set_option maxRecDepth 20000 in
theorem w_suits {E : EE} {l0 l1 l2 l3 l4 : Int} {G : Gt} {c s : Nat} {Q X : Int → Gt → Prop} (hx : gcl G l0 = 12) (h : CallC E M_X11_suits [rv l0, iv l1, iv l2, iv l3] G c s (fun ex G1 _ _ => (ex = 1 ∧ Q 1 G1)) (fun r G1 _ _ => gcl G1 l4 = 16 ∧ 0 < gln G1 l4 ∧ (r = 0 → Q 0 (sel G1 l4 0 0)) ∧ (r ≠ 0 → Q 0 (sel G1 l4 0 1)))) : OkH E M_L_suits [rv l0, iv l1, iv l2, iv l3, rv l4] G c s Q X := by
  refine OkH.intro (ls := [some (rv l0), some (iv l1), some (iv l2), some (iv l3), some (rv l4), none]) (k := 1) rfl (Nat.le_of_ble_eq_true rfl) rfl ?_
  refine v_aload (pc := 0) (dk dt_L_suits 0 rfl) rfl ?_
  refine v_iconst (pc := 2) (dk dt_L_suits 1 rfl) ⟨by decide, by decide⟩ ?_
  refine v_aload_n (pc := 3) (dk dt_L_suits 2 rfl) rfl rfl ?_
  refine v_iload_n (pc := 4) (dk dt_L_suits 3 rfl) rfl rfl ?_
  refine v_iload_n (pc := 5) (dk dt_L_suits 4 rfl) rfl rfl ?_
  refine v_iload_n (pc := 6) (dk dt_L_suits 5 rfl) rfl rfl ?_
  refine v_cvCC (c := 11) (As := [iv l1, iv l2, iv l3]) (stk := [iv 0, rv l4]) (pc := 7) (dk dt_L_suits 6 rfl) ml_L_85 rfl rfl (Nat.le_of_ble_eq_true rfl) ⟨by decide, rfl⟩ hx h ?_ ?_
  · intro ex G1 c1 s1 h9
    obtain ⟨rfl, h9⟩ := h9
    refine Hd.at [] (0, 19, 22, 13) [] rfl rfl (fun z hz => absurd hz List.not_mem_nil) (by decide) cl_L_13 cast_1 (fun q hq => ?_)
    refine v_astore (pc := 22) (ls' := [some (rv l0), some (iv l1), some (iv l2), some (iv l3), some (rv l4), some (rv q)]) (dk dt_L_suits 13 rfl) (Nat.le_of_ble_eq_true rfl) rfl ?_
    refine v_iconst (pc := 24) (dk dt_L_suits 14 rfl) ⟨by decide, by decide⟩ ?_
    exact v_iret (pc := 25) (dk dt_L_suits 15 rfl) rfl h9
  · intro r G1 c1 s1 h9
    obtain ⟨ha, hb, h9⟩ := h9
    show V E M_L_suits 10 [some (rv l0), some (iv l1), some (iv l2), some (iv l3), some (rv l4), none] (iv r :: [iv 0, rv l4]) G1 c1 s1 Q X
    refine v_if_eq (pc := 10) (tgt := 17) (dk dt_L_suits 7 rfl) (by decide) (fun h0 => ?_) (fun h0 => ?_)
    · replace h9 := h9.1 h0
      refine v_lconst (x := 0) (pc := 17) (dk dt_L_suits 10 rfl) (by decide) ⟨by decide, by decide⟩ ?_
      refine v_last (pc := 18) (dk dt_L_suits 11 rfl) ha (by decide) hb ?_
      refine v_goto (pc := 19) (tgt := 26) (dk dt_L_suits 12 rfl) (by decide) ?_
      refine v_iconst (pc := 26) (dk dt_L_suits 16 rfl) ⟨by decide, by decide⟩ ?_
      exact v_iret (pc := 27) (dk dt_L_suits 17 rfl) rfl h9
    · replace h9 := h9.2 h0
      refine v_lconst (x := 1) (pc := 13) (dk dt_L_suits 8 rfl) (by decide) ⟨by decide, by decide⟩ ?_
      refine v_goto (pc := 14) (tgt := 18) (dk dt_L_suits 9 rfl) (by decide) ?_
      refine v_last (pc := 18) (dk dt_L_suits 11 rfl) ha (by decide) hb ?_
      refine v_goto (pc := 19) (tgt := 26) (dk dt_L_suits 12 rfl) (by decide) ?_
      refine v_iconst (pc := 26) (dk dt_L_suits 16 rfl) ⟨by decide, by decide⟩ ?_
      exact v_iret (pc := 27) (dk dt_L_suits 17 rfl) rfl h9
set_option maxRecDepth 20000 in
theorem w_mend {E : EE} {l0 l1 l2 : Int} {G : Gt} {c s : Nat} {Q X : Int → Gt → Prop} (hx : gcl G l0 = 12) (h : CallC E M_X11_mend [rv l0, iv l1] G c s (fun ex G1 _ _ => (ex = 1 ∧ Q 1 G1)) (fun r G1 _ _ => gcl G1 l2 = 16 ∧ 0 < gln G1 l2 ∧ Q 0 (sel G1 l2 0 r))) : OkH E M_L_mend [rv l0, iv l1, rv l2] G c s Q X := by
  refine OkH.intro (ls := [some (rv l0), some (iv l1), some (rv l2), none]) (k := 1) rfl (Nat.le_of_ble_eq_true rfl) rfl ?_
  refine v_aload_n (pc := 0) (dk dt_L_mend 0 rfl) rfl rfl ?_
  refine v_iconst (pc := 1) (dk dt_L_mend 1 rfl) ⟨by decide, by decide⟩ ?_
  refine v_aload_n (pc := 2) (dk dt_L_mend 2 rfl) rfl rfl ?_
  refine v_iload_n (pc := 3) (dk dt_L_mend 3 rfl) rfl rfl ?_
  refine v_cvCC (c := 11) (As := [iv l1]) (stk := [iv 0, rv l2]) (pc := 4) (dk dt_L_mend 4 rfl) ml_L_89 rfl rfl (Nat.le_of_ble_eq_true rfl) ⟨by decide, rfl⟩ hx h ?_ ?_
  · intro ex G1 c1 s1 h9
    obtain ⟨rfl, h9⟩ := h9
    refine Hd.at [] (0, 9, 12, 13) [] rfl rfl (fun z hz => absurd hz List.not_mem_nil) (by decide) cl_L_13 cast_1 (fun q hq => ?_)
    refine v_astore_n (pc := 12) (ls' := [some (rv l0), some (iv l1), some (rv l2), some (rv q)]) (dk dt_L_mend 8 rfl) rfl (Nat.le_of_ble_eq_true rfl) rfl ?_
    refine v_iconst (pc := 13) (dk dt_L_mend 9 rfl) ⟨by decide, by decide⟩ ?_
    exact v_iret (pc := 14) (dk dt_L_mend 10 rfl) rfl h9
  · intro r G1 c1 s1 h9
    obtain ⟨ha, hb, h9⟩ := h9
    show V E M_L_mend 7 [some (rv l0), some (iv l1), some (rv l2), none] (iv r :: [iv 0, rv l2]) G1 c1 s1 Q X
    refine v_i2l (pc := 7) (dk dt_L_mend 5 rfl) ?_
    refine v_last (pc := 8) (dk dt_L_mend 6 rfl) ha (by decide) hb ?_
    refine v_goto (pc := 9) (tgt := 15) (dk dt_L_mend 7 rfl) (by decide) ?_
    refine v_iconst (pc := 15) (dk dt_L_mend 11 rfl) ⟨by decide, by decide⟩ ?_
    exact v_iret (pc := 16) (dk dt_L_mend 12 rfl) rfl h9
