/-! the law's body (written by program: wip/gen/blkL.py) -/
theorem nl_L_8 : NL "TicksiloLaw" 8 11 := ⟨by decide, tk_1 36 rfl rfl, tk_1 37 rfl rfl, tk_1 1 rfl rfl⟩
theorem ml_L_92 : LI "TicksiloLaw" 92 M_X11_init 0 := ⟨⟨tk_1 38 rfl rfl, tk_1 40 rfl rfl, tk_1 1 rfl rfl, by decide +kernel⟩, tk_1 39 rfl rfl, rfl, rfl⟩
theorem nl_L_93 : NL "TicksiloLaw" 93 12 := ⟨by decide, tk_6 230 rfl rfl, tk_6 231 rfl rfl, tk_1 14 rfl rfl⟩
theorem ml_L_95 : LI "TicksiloLaw" 95 M_X12_init 0 := ⟨⟨tk_6 232 rfl rfl, tk_6 234 rfl rfl, tk_1 14 rfl rfl, by decide +kernel⟩, tk_6 233 rfl rfl, rfl, rfl⟩
theorem ac_longL : Cond.arrayClass (newarray.typeOf ArrayType.long) ∈ WS := tk_1 164 rfl rfl
theorem ml_L_96 : LStH "TicksiloLaw" 96 M_L_write 7 := ⟨tk_2 174 rfl rfl, tk_2 176 rfl rfl, tk_1 0 rfl rfl, by decide +kernel, tk_2 175 rfl rfl⟩
theorem ml_L_101 : LV "TicksiloLaw" 101 M_X12_write 5 := ⟨⟨tk_7 159 rfl rfl, tk_7 162 rfl rfl, tk_1 14 rfl rfl, by decide +kernel⟩, tk_7 160 rfl rfl, tk_7 161 rfl rfl⟩
theorem ml_L_102 : LV "TicksiloLaw" 102 M_X12_thrown 0 := ⟨⟨tk_7 155 rfl rfl, tk_7 158 rfl rfl, tk_1 14 rfl rfl, by decide +kernel⟩, tk_7 156 rfl rfl, tk_7 157 rfl rfl⟩
theorem ml_L_106 : LV "TicksiloLaw" 106 M_X11_series 0 := ⟨⟨tk_2 70 rfl rfl, tk_2 73 rfl rfl, tk_1 1 rfl rfl, by decide +kernel⟩, tk_2 71 rfl rfl, tk_2 72 rfl rfl⟩
theorem ml_L_109 : LV "TicksiloLaw" 109 M_X12_series 0 := ⟨⟨tk_7 185 rfl rfl, tk_7 188 rfl rfl, tk_1 14 rfl rfl, by decide +kernel⟩, tk_7 186 rfl rfl, tk_7 187 rfl rfl⟩
theorem ml_L_110 : LStH "TicksiloLaw" 110 M_L_labels 3 := ⟨tk_4 131 rfl rfl, tk_4 133 rfl rfl, tk_1 0 rfl rfl, by decide +kernel, tk_4 132 rfl rfl⟩
theorem ml_L_113 : LV "TicksiloLaw" 113 M_X12_labels 1 := ⟨⟨tk_7 189 rfl rfl, tk_7 192 rfl rfl, tk_1 14 rfl rfl, by decide +kernel⟩, tk_7 190 rfl rfl, tk_7 191 rfl rfl⟩
theorem ml_L_114 : LStH "TicksiloLaw" 114 M_L_samples 3 := ⟨tk_4 148 rfl rfl, tk_4 150 rfl rfl, tk_1 0 rfl rfl, by decide +kernel, tk_4 149 rfl rfl⟩
theorem ml_L_116 : LV "TicksiloLaw" 116 M_X12_samples 1 := ⟨⟨tk_7 204 rfl rfl, tk_7 207 rfl rfl, tk_1 14 rfl rfl, by decide +kernel⟩, tk_7 205 rfl rfl, tk_7 206 rfl rfl⟩
theorem ml_L_117 : LStH "TicksiloLaw" 117 M_L_erase 5 := ⟨tk_4 155 rfl rfl, tk_4 157 rfl rfl, tk_1 0 rfl rfl, by decide +kernel, tk_4 156 rfl rfl⟩
theorem ml_L_120 : LV "TicksiloLaw" 120 M_X12_erase 3 := ⟨⟨tk_7 208 rfl rfl, tk_7 211 rfl rfl, tk_1 14 rfl rfl, by decide +kernel⟩, tk_7 209 rfl rfl, tk_7 210 rfl rfl⟩
theorem ml_L_121 : LStH "TicksiloLaw" 121 M_L_pass 3 := ⟨tk_4 179 rfl rfl, tk_4 181 rfl rfl, tk_1 0 rfl rfl, by decide +kernel, tk_4 180 rfl rfl⟩
theorem ml_L_123 : LV "TicksiloLaw" 123 M_X12_pass 1 := ⟨⟨tk_7 220 rfl rfl, tk_7 223 rfl rfl, tk_1 14 rfl rfl, by decide +kernel⟩, tk_7 221 rfl rfl, tk_7 222 rfl rfl⟩
theorem ml_L_124 : LStH "TicksiloLaw" 124 M_L_retain 3 := ⟨tk_5 204 rfl rfl, tk_5 206 rfl rfl, tk_1 0 rfl rfl, by decide +kernel, tk_5 205 rfl rfl⟩
theorem ml_L_126 : LV "TicksiloLaw" 126 M_X12_retain 1 := ⟨⟨tk_8 68 rfl rfl, tk_8 71 rfl rfl, tk_1 14 rfl rfl, by decide +kernel⟩, tk_8 69 rfl rfl, tk_8 70 rfl rfl⟩
theorem ml_L_127 : LV "TicksiloLaw" 127 M_X11_flush 0 := ⟨⟨tk_2 78 rfl rfl, tk_2 81 rfl rfl, tk_1 1 rfl rfl, by decide +kernel⟩, tk_2 79 rfl rfl, tk_2 80 rfl rfl⟩
theorem ml_L_130 : LV "TicksiloLaw" 130 M_X12_flush 0 := ⟨⟨tk_8 72 rfl rfl, tk_8 75 rfl rfl, tk_1 14 rfl rfl, by decide +kernel⟩, tk_8 73 rfl rfl, tk_8 74 rfl rfl⟩
theorem ml_L_131 : LV "TicksiloLaw" 131 M_X11_log 0 := ⟨⟨tk_2 148 rfl rfl, tk_2 151 rfl rfl, tk_1 1 rfl rfl, by decide +kernel⟩, tk_2 149 rfl rfl, tk_2 150 rfl rfl⟩
theorem ml_L_134 : LV "TicksiloLaw" 134 M_X12_log 0 := ⟨⟨tk_8 83 rfl rfl, tk_8 86 rfl rfl, tk_1 14 rfl rfl, by decide +kernel⟩, tk_8 84 rfl rfl, tk_8 85 rfl rfl⟩
theorem ml_L_135 : LStH "TicksiloLaw" 135 M_L_crash 3 := ⟨tk_5 211 rfl rfl, tk_5 213 rfl rfl, tk_1 0 rfl rfl, by decide +kernel, tk_5 212 rfl rfl⟩
theorem ml_L_137 : LV "TicksiloLaw" 137 M_X12_crash 1 := ⟨⟨tk_8 87 rfl rfl, tk_8 90 rfl rfl, tk_1 14 rfl rfl, by decide +kernel⟩, tk_8 88 rfl rfl, tk_8 89 rfl rfl⟩
theorem ml_L_138 : LStH "TicksiloLaw" 138 M_L_bits 4 := ⟨tk_5 232 rfl rfl, tk_5 234 rfl rfl, tk_1 0 rfl rfl, by decide +kernel, tk_5 233 rfl rfl⟩
theorem ml_L_141 : LV "TicksiloLaw" 141 M_X12_bits 2 := ⟨⟨tk_8 91 rfl rfl, tk_8 94 rfl rfl, tk_1 14 rfl rfl, by decide +kernel⟩, tk_8 92 rfl rfl, tk_8 93 rfl rfl⟩
theorem ml_L_142 : LStH "TicksiloLaw" 142 M_L_select 6 := ⟨tk_6 4 rfl rfl, tk_6 6 rfl rfl, tk_1 0 rfl rfl, by decide +kernel, tk_6 5 rfl rfl⟩
theorem ml_L_145 : LV "TicksiloLaw" 145 M_X12_select 4 := ⟨⟨tk_8 95 rfl rfl, tk_8 98 rfl rfl, tk_1 14 rfl rfl, by decide +kernel⟩, tk_8 96 rfl rfl, tk_8 97 rfl rfl⟩
theorem ml_L_146 : LStH "TicksiloLaw" 146 M_L_word 5 := ⟨tk_6 17 rfl rfl, tk_6 19 rfl rfl, tk_1 0 rfl rfl, by decide +kernel, tk_6 18 rfl rfl⟩
theorem ml_L_148 : LV "TicksiloLaw" 148 M_X12_word 3 := ⟨⟨tk_8 99 rfl rfl, tk_8 102 rfl rfl, tk_1 14 rfl rfl, by decide +kernel⟩, tk_8 100 rfl rfl, tk_8 101 rfl rfl⟩
theorem ml_L_149 : LV "TicksiloLaw" 149 M_X11_clear 0 := ⟨⟨tk_2 152 rfl rfl, tk_2 155 rfl rfl, tk_1 1 rfl rfl, by decide +kernel⟩, tk_2 153 rfl rfl, tk_2 154 rfl rfl⟩
theorem ml_L_152 : LV "TicksiloLaw" 152 M_X12_clear 0 := ⟨⟨tk_8 107 rfl rfl, tk_8 110 rfl rfl, tk_1 14 rfl rfl, by decide +kernel⟩, tk_8 108 rfl rfl, tk_8 109 rfl rfl⟩
theorem ml_L_153 : LStH "TicksiloLaw" 153 M_L_ask 3 := ⟨tk_6 62 rfl rfl, tk_6 64 rfl rfl, tk_1 0 rfl rfl, by decide +kernel, tk_6 63 rfl rfl⟩
theorem ml_L_155 : LV "TicksiloLaw" 155 M_X12_ask 1 := ⟨⟨tk_8 111 rfl rfl, tk_8 114 rfl rfl, tk_1 14 rfl rfl, by decide +kernel⟩, tk_8 112 rfl rfl, tk_8 113 rfl rfl⟩
theorem ml_L_156 : LStH "TicksiloLaw" 156 M_L_value 3 := ⟨tk_6 72 rfl rfl, tk_6 74 rfl rfl, tk_1 0 rfl rfl, by decide +kernel, tk_6 73 rfl rfl⟩
theorem ml_L_158 : LV "TicksiloLaw" 158 M_X12_value 1 := ⟨⟨tk_8 115 rfl rfl, tk_8 118 rfl rfl, tk_1 14 rfl rfl, by decide +kernel⟩, tk_8 116 rfl rfl, tk_8 117 rfl rfl⟩
theorem ml_L_159 : LStH "TicksiloLaw" 159 M_L_labelsOf 3 := ⟨tk_6 80 rfl rfl, tk_6 82 rfl rfl, tk_1 0 rfl rfl, by decide +kernel, tk_6 81 rfl rfl⟩
theorem ml_L_161 : LV "TicksiloLaw" 161 M_X12_labelsOf 1 := ⟨⟨tk_8 119 rfl rfl, tk_8 122 rfl rfl, tk_1 14 rfl rfl, by decide +kernel⟩, tk_8 120 rfl rfl, tk_8 121 rfl rfl⟩
theorem ml_L_162 : LStH "TicksiloLaw" 162 M_L_record 3 := ⟨tk_6 87 rfl rfl, tk_6 89 rfl rfl, tk_1 0 rfl rfl, by decide +kernel, tk_6 88 rfl rfl⟩
theorem ml_L_164 : LV "TicksiloLaw" 164 M_X12_record 1 := ⟨⟨tk_8 123 rfl rfl, tk_8 126 rfl rfl, tk_1 14 rfl rfl, by decide +kernel⟩, tk_8 124 rfl rfl, tk_8 125 rfl rfl⟩
theorem ml_L_165 : LStH "TicksiloLaw" 165 M_L_alert 4 := ⟨tk_6 129 rfl rfl, tk_6 131 rfl rfl, tk_1 0 rfl rfl, by decide +kernel, tk_6 130 rfl rfl⟩
theorem ml_L_167 : LV "TicksiloLaw" 167 M_X12_alert 2 := ⟨⟨tk_8 131 rfl rfl, tk_8 134 rfl rfl, tk_1 14 rfl rfl, by decide +kernel⟩, tk_8 132 rfl rfl, tk_8 133 rfl rfl⟩
theorem ml_L_168 : LStH "TicksiloLaw" 168 M_L_inhibit 4 := ⟨tk_6 137 rfl rfl, tk_6 139 rfl rfl, tk_1 0 rfl rfl, by decide +kernel, tk_6 138 rfl rfl⟩
theorem ml_L_170 : LV "TicksiloLaw" 170 M_X12_inhibit 2 := ⟨⟨tk_8 135 rfl rfl, tk_8 138 rfl rfl, tk_1 14 rfl rfl, by decide +kernel⟩, tk_8 136 rfl rfl, tk_8 137 rfl rfl⟩
theorem ml_L_171 : LStH "TicksiloLaw" 171 M_L_silence 4 := ⟨tk_6 150 rfl rfl, tk_6 152 rfl rfl, tk_1 0 rfl rfl, by decide +kernel, tk_6 151 rfl rfl⟩
theorem ml_L_173 : LV "TicksiloLaw" 173 M_X12_silence 2 := ⟨⟨tk_8 143 rfl rfl, tk_8 146 rfl rfl, tk_1 14 rfl rfl, by decide +kernel⟩, tk_8 144 rfl rfl, tk_8 145 rfl rfl⟩
theorem ml_L_174 : LStH "TicksiloLaw" 174 M_L_entries 4 := ⟨tk_6 159 rfl rfl, tk_6 161 rfl rfl, tk_1 0 rfl rfl, by decide +kernel, tk_6 160 rfl rfl⟩
theorem ml_L_177 : LV "TicksiloLaw" 177 M_X12_entries 2 := ⟨⟨tk_8 147 rfl rfl, tk_8 150 rfl rfl, tk_1 14 rfl rfl, by decide +kernel⟩, tk_8 148 rfl rfl, tk_8 149 rfl rfl⟩
theorem ml_L_178 : LStH "TicksiloLaw" 178 M_L_entry 5 := ⟨tk_6 166 rfl rfl, tk_6 168 rfl rfl, tk_1 0 rfl rfl, by decide +kernel, tk_6 167 rfl rfl⟩
theorem ml_L_180 : LV "TicksiloLaw" 180 M_X12_entry 3 := ⟨⟨tk_8 151 rfl rfl, tk_8 154 rfl rfl, tk_1 14 rfl rfl, by decide +kernel⟩, tk_8 152 rfl rfl, tk_8 153 rfl rfl⟩
theorem ml_L_181 : LV "TicksiloLaw" 181 M_X11_notices 0 := ⟨⟨tk_2 157 rfl rfl, tk_2 160 rfl rfl, tk_1 1 rfl rfl, by decide +kernel⟩, tk_2 158 rfl rfl, tk_2 159 rfl rfl⟩
theorem ml_L_184 : LV "TicksiloLaw" 184 M_X12_notices 0 := ⟨⟨tk_8 155 rfl rfl, tk_8 158 rfl rfl, tk_1 14 rfl rfl, by decide +kernel⟩, tk_8 156 rfl rfl, tk_8 157 rfl rfl⟩
theorem ml_L_185 : LStH "TicksiloLaw" 185 M_L_notice 4 := ⟨tk_6 178 rfl rfl, tk_6 180 rfl rfl, tk_1 0 rfl rfl, by decide +kernel, tk_6 179 rfl rfl⟩
theorem ml_L_187 : LV "TicksiloLaw" 187 M_X12_notice 2 := ⟨⟨tk_8 159 rfl rfl, tk_8 162 rfl rfl, tk_1 14 rfl rfl, by decide +kernel⟩, tk_8 160 rfl rfl, tk_8 161 rfl rfl⟩
theorem ml_L_188 : LStH "TicksiloLaw" 188 M_L_thinned 6 := ⟨tk_6 187 rfl rfl, tk_6 189 rfl rfl, tk_1 0 rfl rfl, by decide +kernel, tk_6 188 rfl rfl⟩
theorem ml_L_190 : LV "TicksiloLaw" 190 M_X12_thinned 4 := ⟨⟨tk_8 163 rfl rfl, tk_8 166 rfl rfl, tk_1 14 rfl rfl, by decide +kernel⟩, tk_8 164 rfl rfl, tk_8 165 rfl rfl⟩
theorem ml_L_191 : LStH "TicksiloLaw" 191 M_L_suits 5 := ⟨tk_6 203 rfl rfl, tk_6 205 rfl rfl, tk_1 0 rfl rfl, by decide +kernel, tk_6 204 rfl rfl⟩
theorem ml_L_193 : LV "TicksiloLaw" 193 M_X12_suits 3 := ⟨⟨tk_8 167 rfl rfl, tk_8 170 rfl rfl, tk_1 14 rfl rfl, by decide +kernel⟩, tk_8 168 rfl rfl, tk_8 169 rfl rfl⟩
theorem ml_L_194 : LV "TicksiloLaw" 194 M_X11_down 1 := ⟨⟨tk_2 161 rfl rfl, tk_2 164 rfl rfl, tk_1 1 rfl rfl, by decide +kernel⟩, tk_2 162 rfl rfl, tk_2 163 rfl rfl⟩
theorem ml_L_198 : LV "TicksiloLaw" 198 M_X12_down 1 := ⟨⟨tk_8 171 rfl rfl, tk_8 174 rfl rfl, tk_1 14 rfl rfl, by decide +kernel⟩, tk_8 172 rfl rfl, tk_8 173 rfl rfl⟩
theorem ml_L_199 : LV "TicksiloLaw" 199 M_X11_behind 0 := ⟨⟨tk_2 165 rfl rfl, tk_2 168 rfl rfl, tk_1 1 rfl rfl, by decide +kernel⟩, tk_2 166 rfl rfl, tk_2 167 rfl rfl⟩
theorem ml_L_202 : LV "TicksiloLaw" 202 M_X12_behind 0 := ⟨⟨tk_8 175 rfl rfl, tk_8 178 rfl rfl, tk_1 14 rfl rfl, by decide +kernel⟩, tk_8 176 rfl rfl, tk_8 177 rfl rfl⟩
theorem ml_L_203 : LStH "TicksiloLaw" 203 M_L_mend 3 := ⟨tk_6 214 rfl rfl, tk_6 216 rfl rfl, tk_1 0 rfl rfl, by decide +kernel, tk_6 215 rfl rfl⟩
theorem ml_L_205 : LV "TicksiloLaw" 205 M_X12_mend 1 := ⟨⟨tk_8 179 rfl rfl, tk_8 182 rfl rfl, tk_1 14 rfl rfl, by decide +kernel⟩, tk_8 180 rfl rfl, tk_8 181 rfl rfl⟩
set_option maxRecDepth 20000 in
set_option maxHeartbeats 1000000 in
theorem b_L_law_0 {E : EE} {l0 : Int} {G : Gt} {c s : Nat} {Q X : Int → Gt → Prop} (h : (1 ≤ c ∧ 14 ≤ s ∧ ∀ q3 : Int, gcl G q3 = 0 → (eb E : Int) ≤ q3 → ∀ G4 : Gt, G4 = (newo G q3 11) → 0 ≤ q3 ∧ Call E M_X11_init [rv q3] G4 (c - 1) (s - 14) X (fun r6 G7 c8 s9 => 1 ≤ c8 ∧ 52 ≤ s9 ∧ ∀ q12 : Int, gcl G7 q12 = 0 → (eb E : Int) ≤ q12 → ∀ G13 : Gt, G13 = (newo G7 q12 12) → 0 ≤ q12 ∧ Call E M_X12_init [rv q12] G13 (c8 - 1) (s9 - 52) X (fun r15 G16 c17 s18 => 1 ≤ c17 ∧ (1 : Int).toNat ≤ s18 ∧ ∀ q19 : Int, gcl G16 q19 = 0 → (eb E : Int) ≤ q19 → ∀ G22 : Gt, G22 = (newa G16 q19 16 1) → V E M_L_law 23 [some (rv l0), some (rv q3), some (rv q12), some (rv q19), some (iv 0), none, none, none] [] G22 (c17 - 1) (s18 - (1 : Int).toNat) Q X)))) : V E M_L_law 0 [some (rv l0), none, none, none, none, none, none, none] [] G c s Q X := by
  obtain ⟨v1, h⟩ := h
  obtain ⟨v2, h⟩ := h
  refine v_new (pc := 0) (dk dt_L_law 0 rfl) nl_L_8 v1 v2 (fun q3 hq3 gq3 => ?_)
  replace h := h q3 hq3 gq3
  generalize hG4 : (newo G q3 11) = G4
  replace h := h G4 hG4.symm
  refine v_dup (pc := 3) (dk dt_L_law 1 rfl) (by intro h9; cases h9) ?_
  obtain ⟨v5, h⟩ := h
  refine v_ciV (As := []) (stk := [rv q3]) (pc := 4) (dk dt_L_law 2 rfl) ml_L_92 rfl rfl (Nat.le_of_ble_eq_true rfl) rfl v5 (Call.mono h (fun r6 G7 c8 s9 h => ?_))
  refine v_astore_n (pc := 7) (ls' := [some (rv l0), some (rv q3), none, none, none, none, none, none]) (dk dt_L_law 3 rfl) rfl (Nat.le_of_ble_eq_true rfl) rfl ?_
  obtain ⟨v10, h⟩ := h
  obtain ⟨v11, h⟩ := h
  refine v_new (pc := 8) (dk dt_L_law 4 rfl) nl_L_93 v10 v11 (fun q12 hq12 gq12 => ?_)
  replace h := h q12 hq12 gq12
  generalize hG13 : (newo G7 q12 12) = G13
  replace h := h G13 hG13.symm
  refine v_dup (pc := 11) (dk dt_L_law 5 rfl) (by intro h9; cases h9) ?_
  obtain ⟨v14, h⟩ := h
  refine v_ciV (As := []) (stk := [rv q12]) (pc := 12) (dk dt_L_law 6 rfl) ml_L_95 rfl rfl (Nat.le_of_ble_eq_true rfl) rfl v14 (Call.mono h (fun r15 G16 c17 s18 h => ?_))
  refine v_astore_n (pc := 15) (ls' := [some (rv l0), some (rv q3), some (rv q12), none, none, none, none, none]) (dk dt_L_law 7 rfl) rfl (Nat.le_of_ble_eq_true rfl) rfl ?_
  refine v_iconst (pc := 16) (dk dt_L_law 8 rfl) ⟨by decide, by decide⟩ ?_
  obtain ⟨v20, h⟩ := h
  obtain ⟨v21, h⟩ := h
  refine v_newa (t := 16) (i := 1) (ty := .long) (pc := 17) (dk dt_L_law 9 rfl) ac_longL rfl (Or.inr (Or.inl ⟨rfl, rfl, rfl⟩)) (by decide) (by decide) v20 v21 (fun q19 hq19 gq19 => ?_)
  replace h := h q19 hq19 gq19
  generalize hG22 : (newa G16 q19 16 1) = G22
  replace h := h G22 hG22.symm
  refine v_astore_n (pc := 19) (ls' := [some (rv l0), some (rv q3), some (rv q12), some (rv q19), none, none, none, none]) (dk dt_L_law 10 rfl) rfl (Nat.le_of_ble_eq_true rfl) rfl ?_
  refine v_iconst (pc := 20) (dk dt_L_law 11 rfl) ⟨by decide, by decide⟩ ?_
  refine v_istore (pc := 21) (ls' := [some (rv l0), some (rv q3), some (rv q12), some (rv q19), some (iv 0), none, none, none]) (dk dt_L_law 12 rfl) (Nat.le_of_ble_eq_true rfl) rfl ?_
  exact h
set_option maxRecDepth 20000 in
set_option maxHeartbeats 1000000 in
theorem b_L_law_23 {E : EE} {l0 l1 l2 l3 l4 : Int} {G : Gt} {c s : Nat} {Q X : Int → Gt → Prop} (h : (15 ≤ gcl G l0 ∧ i32 ((gln G l0) - 6) ∧ ((((gln G l0) - 6) < l4 → Q 1 G) ∧ (l4 ≤ ((gln G l0) - 6) → ((gcl G l0 = 15 ∨ gcl G l0 = 19) ∧ 0 ≤ l4 ∧ l4 < gln G l0 ∧ (((and32 (gel G l0 l4) 31) = 0 → V E M_L_law 176 [some (rv l0), some (rv l1), some (rv l2), some (rv l3), some (iv l4), none, none, none] [] G c s Q X) ∧ ((and32 (gel G l0 l4) 31) = 1 → V E M_L_law 280 [some (rv l0), some (rv l1), some (rv l2), some (rv l3), some (iv l4), none, none, none] [] G c s Q X) ∧ ((and32 (gel G l0 l4) 31) = 2 → V E M_L_law 293 [some (rv l0), some (rv l1), some (rv l2), some (rv l3), some (iv l4), none, none, none] [] G c s Q X) ∧ ((and32 (gel G l0 l4) 31) = 3 → V E M_L_law 349 [some (rv l0), some (rv l1), some (rv l2), some (rv l3), some (iv l4), none, none, none] [] G c s Q X) ∧ ((and32 (gel G l0 l4) 31) = 4 → V E M_L_law 405 [some (rv l0), some (rv l1), some (rv l2), some (rv l3), some (iv l4), none, none, none] [] G c s Q X) ∧ ((and32 (gel G l0 l4) 31) = 5 → V E M_L_law 485 [some (rv l0), some (rv l1), some (rv l2), some (rv l3), some (iv l4), none, none, none] [] G c s Q X) ∧ ((and32 (gel G l0 l4) 31) = 6 → V E M_L_law 541 [some (rv l0), some (rv l1), some (rv l2), some (rv l3), some (iv l4), none, none, none] [] G c s Q X) ∧ ((and32 (gel G l0 l4) 31) = 7 → V E M_L_law 597 [some (rv l0), some (rv l1), some (rv l2), some (rv l3), some (iv l4), none, none, none] [] G c s Q X) ∧ ((and32 (gel G l0 l4) 31) = 8 → V E M_L_law 610 [some (rv l0), some (rv l1), some (rv l2), some (rv l3), some (iv l4), none, none, none] [] G c s Q X) ∧ ((and32 (gel G l0 l4) 31) = 9 → V E M_L_law 623 [some (rv l0), some (rv l1), some (rv l2), some (rv l3), some (iv l4), none, none, none] [] G c s Q X) ∧ ((and32 (gel G l0 l4) 31) = 10 → V E M_L_law 679 [some (rv l0), some (rv l1), some (rv l2), some (rv l3), some (iv l4), none, none, none] [] G c s Q X) ∧ ((and32 (gel G l0 l4) 31) = 11 → V E M_L_law 747 [some (rv l0), some (rv l1), some (rv l2), some (rv l3), some (iv l4), none, none, none] [] G c s Q X) ∧ ((and32 (gel G l0 l4) 31) = 12 → V E M_L_law 839 [some (rv l0), some (rv l1), some (rv l2), some (rv l3), some (iv l4), none, none, none] [] G c s Q X) ∧ ((and32 (gel G l0 l4) 31) = 13 → V E M_L_law 919 [some (rv l0), some (rv l1), some (rv l2), some (rv l3), some (iv l4), none, none, none] [] G c s Q X) ∧ ((and32 (gel G l0 l4) 31) = 14 → V E M_L_law 932 [some (rv l0), some (rv l1), some (rv l2), some (rv l3), some (iv l4), none, none, none] [] G c s Q X) ∧ ((and32 (gel G l0 l4) 31) = 15 → V E M_L_law 988 [some (rv l0), some (rv l1), some (rv l2), some (rv l3), some (iv l4), none, none, none] [] G c s Q X) ∧ ((and32 (gel G l0 l4) 31) = 16 → V E M_L_law 1043 [some (rv l0), some (rv l1), some (rv l2), some (rv l3), some (iv l4), none, none, none] [] G c s Q X) ∧ ((and32 (gel G l0 l4) 31) = 17 → V E M_L_law 1099 [some (rv l0), some (rv l1), some (rv l2), some (rv l3), some (iv l4), none, none, none] [] G c s Q X) ∧ ((and32 (gel G l0 l4) 31) = 18 → V E M_L_law 1155 [some (rv l0), some (rv l1), some (rv l2), some (rv l3), some (iv l4), none, none, none] [] G c s Q X) ∧ ((and32 (gel G l0 l4) 31) = 19 → V E M_L_law 1223 [some (rv l0), some (rv l1), some (rv l2), some (rv l3), some (iv l4), none, none, none] [] G c s Q X) ∧ ((and32 (gel G l0 l4) 31) = 20 → V E M_L_law 1291 [some (rv l0), some (rv l1), some (rv l2), some (rv l3), some (iv l4), none, none, none] [] G c s Q X) ∧ ((and32 (gel G l0 l4) 31) = 21 → V E M_L_law 1359 [some (rv l0), some (rv l1), some (rv l2), some (rv l3), some (iv l4), none, none, none] [] G c s Q X) ∧ ((and32 (gel G l0 l4) 31) = 22 → V E M_L_law 1443 [some (rv l0), some (rv l1), some (rv l2), some (rv l3), some (iv l4), none, none, none] [] G c s Q X) ∧ ((and32 (gel G l0 l4) 31) = 23 → V E M_L_law 1523 [some (rv l0), some (rv l1), some (rv l2), some (rv l3), some (iv l4), none, none, none] [] G c s Q X) ∧ ((and32 (gel G l0 l4) 31) = 24 → V E M_L_law 1536 [some (rv l0), some (rv l1), some (rv l2), some (rv l3), some (iv l4), none, none, none] [] G c s Q X) ∧ ((and32 (gel G l0 l4) 31) = 25 → V E M_L_law 1604 [some (rv l0), some (rv l1), some (rv l2), some (rv l3), some (iv l4), none, none, none] [] G c s Q X) ∧ ((and32 (gel G l0 l4) 31) = 26 → V E M_L_law 1696 [some (rv l0), some (rv l1), some (rv l2), some (rv l3), some (iv l4), none, none, none] [] G c s Q X) ∧ ((and32 (gel G l0 l4) 31) = 27 → V E M_L_law 1783 [some (rv l0), some (rv l1), some (rv l2), some (rv l3), some (iv l4), none, none, none] [] G c s Q X) ∧ ((and32 (gel G l0 l4) 31) = 28 → V E M_L_law 1824 [some (rv l0), some (rv l1), some (rv l2), some (rv l3), some (iv l4), none, none, none] [] G c s Q X) ∧ ((and32 (gel G l0 l4) 31) = 29 → V E M_L_law 1837 [some (rv l0), some (rv l1), some (rv l2), some (rv l3), some (iv l4), none, none, none] [] G c s Q X) ∧ ((and32 (gel G l0 l4) 31) < 0 ∨ 29 < (and32 (gel G l0 l4) 31) → V E M_L_law 1893 [some (rv l0), some (rv l1), some (rv l2), some (rv l3), some (iv l4), none, none, none] [] G c s Q X))))))) : V E M_L_law 23 [some (rv l0), some (rv l1), some (rv l2), some (rv l3), some (iv l4), none, none, none] [] G c s Q X := by
  refine v_iload (pc := 23) (dk dt_L_law 13 rfl) rfl ?_
  refine v_aload_n (pc := 25) (dk dt_L_law 14 rfl) rfl rfl ?_
  obtain ⟨v1, h⟩ := h
  refine v_alen (pc := 26) (dk dt_L_law 15 rfl) v1 (fun _ => ?_)
  refine v_bipush (pc := 27) (dk dt_L_law 16 rfl) (by decide) ⟨by decide, by decide⟩ ?_
  obtain ⟨v2, h⟩ := h
  refine v_isub (pc := 29) (dk dt_L_law 17 rfl) v2 ?_
  refine v_icmp_gt (pc := 30) (tgt := 1899) (dk dt_L_law 18 rfl) (by decide) (fun c3 => ?_) (fun c3 => ?_)
  · replace h := h.1 c3
    refine v_iconst (pc := 1899) (dk dt_L_law_28 29 rfl) ⟨by decide, by decide⟩ ?_
    exact v_zret (pc := 1900) (dk dt_L_law_28 30 rfl) rfl (Or.inr rfl) h
  · replace h := h.2 c3
    refine v_aload_n (pc := 33) (dk dt_L_law 19 rfl) rfl rfl ?_
    refine v_iload (pc := 34) (dk dt_L_law 20 rfl) rfl ?_
    obtain ⟨v4, h⟩ := h
    obtain ⟨v5, h⟩ := h
    obtain ⟨v6, h⟩ := h
    refine v_iald (pc := 36) (dk dt_L_law 21 rfl) v4 v5 v6 (fun _ => ?_)
    refine v_bipush (pc := 37) (dk dt_L_law 22 rfl) (by decide) ⟨by decide, by decide⟩ ?_
    refine v_iand (pc := 39) (dk dt_L_law 23 rfl) ?_
    refine v_tsw2 (pc := 40) [176, 280, 293, 349, 405, 485, 541, 597, 610, 623, 679, 747, 839, 919, 932, 988, 1043, 1099, 1155, 1223, 1291, 1359, 1443, 1523, 1536, 1604, 1696, 1783, 1824, 1837] 1893 (dk dt_L_law 24 rfl) (by decide) ⟨rfl, rfl⟩ (by decide) (fun j hj hx => ?_) (fun hx => ?_)
    · have hj2 : j < 30 := hj
      rcases (show j = 0 ∨ j = 1 ∨ j = 2 ∨ j = 3 ∨ j = 4 ∨ j = 5 ∨ j = 6 ∨ j = 7 ∨ j = 8 ∨ j = 9 ∨ j = 10 ∨ j = 11 ∨ j = 12 ∨ j = 13 ∨ j = 14 ∨ j = 15 ∨ j = 16 ∨ j = 17 ∨ j = 18 ∨ j = 19 ∨ j = 20 ∨ j = 21 ∨ j = 22 ∨ j = 23 ∨ j = 24 ∨ j = 25 ∨ j = 26 ∨ j = 27 ∨ j = 28 ∨ j = 29 by omega) with rfl | rfl | rfl | rfl | rfl | rfl | rfl | rfl | rfl | rfl | rfl | rfl | rfl | rfl | rfl | rfl | rfl | rfl | rfl | rfl | rfl | rfl | rfl | rfl | rfl | rfl | rfl | rfl | rfl | rfl
      · replace h := h.1 (by simpa using hx)
        exact h
      · replace h := h.2.1 (by simpa using hx)
        exact h
      · replace h := h.2.2.1 (by simpa using hx)
        exact h
      · replace h := h.2.2.2.1 (by simpa using hx)
        exact h
      · replace h := h.2.2.2.2.1 (by simpa using hx)
        exact h
      · replace h := h.2.2.2.2.2.1 (by simpa using hx)
        exact h
      · replace h := h.2.2.2.2.2.2.1 (by simpa using hx)
        exact h
      · replace h := h.2.2.2.2.2.2.2.1 (by simpa using hx)
        exact h
      · replace h := h.2.2.2.2.2.2.2.2.1 (by simpa using hx)
        exact h
      · replace h := h.2.2.2.2.2.2.2.2.2.1 (by simpa using hx)
        exact h
      · replace h := h.2.2.2.2.2.2.2.2.2.2.1 (by simpa using hx)
        exact h
      · replace h := h.2.2.2.2.2.2.2.2.2.2.2.1 (by simpa using hx)
        exact h
      · replace h := h.2.2.2.2.2.2.2.2.2.2.2.2.1 (by simpa using hx)
        exact h
      · replace h := h.2.2.2.2.2.2.2.2.2.2.2.2.2.1 (by simpa using hx)
        exact h
      · replace h := h.2.2.2.2.2.2.2.2.2.2.2.2.2.2.1 (by simpa using hx)
        exact h
      · replace h := h.2.2.2.2.2.2.2.2.2.2.2.2.2.2.2.1 (by simpa using hx)
        exact h
      · replace h := h.2.2.2.2.2.2.2.2.2.2.2.2.2.2.2.2.1 (by simpa using hx)
        exact h
      · replace h := h.2.2.2.2.2.2.2.2.2.2.2.2.2.2.2.2.2.1 (by simpa using hx)
        exact h
      · replace h := h.2.2.2.2.2.2.2.2.2.2.2.2.2.2.2.2.2.2.1 (by simpa using hx)
        exact h
      · replace h := h.2.2.2.2.2.2.2.2.2.2.2.2.2.2.2.2.2.2.2.1 (by simpa using hx)
        exact h
      · replace h := h.2.2.2.2.2.2.2.2.2.2.2.2.2.2.2.2.2.2.2.2.1 (by simpa using hx)
        exact h
      · replace h := h.2.2.2.2.2.2.2.2.2.2.2.2.2.2.2.2.2.2.2.2.2.1 (by simpa using hx)
        exact h
      · replace h := h.2.2.2.2.2.2.2.2.2.2.2.2.2.2.2.2.2.2.2.2.2.2.1 (by simpa using hx)
        exact h
      · replace h := h.2.2.2.2.2.2.2.2.2.2.2.2.2.2.2.2.2.2.2.2.2.2.2.1 (by simpa using hx)
        exact h
      · replace h := h.2.2.2.2.2.2.2.2.2.2.2.2.2.2.2.2.2.2.2.2.2.2.2.2.1 (by simpa using hx)
        exact h
      · replace h := h.2.2.2.2.2.2.2.2.2.2.2.2.2.2.2.2.2.2.2.2.2.2.2.2.2.1 (by simpa using hx)
        exact h
      · replace h := h.2.2.2.2.2.2.2.2.2.2.2.2.2.2.2.2.2.2.2.2.2.2.2.2.2.2.1 (by simpa using hx)
        exact h
      · replace h := h.2.2.2.2.2.2.2.2.2.2.2.2.2.2.2.2.2.2.2.2.2.2.2.2.2.2.2.1 (by simpa using hx)
        exact h
      · replace h := h.2.2.2.2.2.2.2.2.2.2.2.2.2.2.2.2.2.2.2.2.2.2.2.2.2.2.2.2.1 (by simpa using hx)
        exact h
      · replace h := h.2.2.2.2.2.2.2.2.2.2.2.2.2.2.2.2.2.2.2.2.2.2.2.2.2.2.2.2.2.1 (by simpa using hx)
        exact h
    · replace h := h.2.2.2.2.2.2.2.2.2.2.2.2.2.2.2.2.2.2.2.2.2.2.2.2.2.2.2.2.2.2 hx
      exact h
set_option maxRecDepth 20000 in
set_option maxHeartbeats 1000000 in
theorem b_L_law_176 {E : EE} {l0 l1 l2 l3 l4 : Int} {G : Gt} {c s : Nat} {Q X : Int → Gt → Prop} (h : (i32 (l4 + 1) ∧ (gcl G l0 = 15 ∨ gcl G l0 = 19) ∧ 0 ≤ (l4 + 1) ∧ (l4 + 1) < gln G l0 ∧ i32 (l4 + 2) ∧ (gcl G l0 = 15 ∨ gcl G l0 = 19) ∧ 0 ≤ (l4 + 2) ∧ (l4 + 2) < gln G l0 ∧ i32 (l4 + 3) ∧ (gcl G l0 = 15 ∨ gcl G l0 = 19) ∧ 0 ≤ (l4 + 3) ∧ (l4 + 3) < gln G l0 ∧ i32 (l4 + 4) ∧ (gcl G l0 = 15 ∨ gcl G l0 = 19) ∧ 0 ≤ (l4 + 4) ∧ (l4 + 4) < gln G l0 ∧ i32 (l4 + 5) ∧ (gcl G l0 = 15 ∨ gcl G l0 = 19) ∧ 0 ≤ (l4 + 5) ∧ (l4 + 5) < gln G l0 ∧ CallH E M_L_write [rv l1, iv (gel G l0 (l4 + 1)), iv (gel G l0 (l4 + 2)), iv (gel G l0 (l4 + 3)), iv (gel G l0 (l4 + 4)), iv (gel G l0 (l4 + 5)), rv l3] G c s (fun r21 G22 c23 s24 => i32 (l4 + 1) ∧ (gcl G22 l0 = 15 ∨ gcl G22 l0 = 19) ∧ 0 ≤ (l4 + 1) ∧ (l4 + 1) < gln G22 l0 ∧ i32 (l4 + 2) ∧ (gcl G22 l0 = 15 ∨ gcl G22 l0 = 19) ∧ 0 ≤ (l4 + 2) ∧ (l4 + 2) < gln G22 l0 ∧ i32 (l4 + 3) ∧ (gcl G22 l0 = 15 ∨ gcl G22 l0 = 19) ∧ 0 ≤ (l4 + 3) ∧ (l4 + 3) < gln G22 l0 ∧ i32 (l4 + 4) ∧ (gcl G22 l0 = 15 ∨ gcl G22 l0 = 19) ∧ 0 ≤ (l4 + 4) ∧ (l4 + 4) < gln G22 l0 ∧ i32 (l4 + 5) ∧ (gcl G22 l0 = 15 ∨ gcl G22 l0 = 19) ∧ 0 ≤ (l4 + 5) ∧ (l4 + 5) < gln G22 l0 ∧ gcl G22 l2 = 13 ∧ Call E M_X12_write [rv l2, iv (gel G22 l0 (l4 + 1)), iv (gel G22 l0 (l4 + 2)), iv (gel G22 l0 (l4 + 3)), iv (gel G22 l0 (l4 + 4)), iv (gel G22 l0 (l4 + 5))] G22 c23 s24 X (fun r46 G47 c48 s49 => gcl G47 l2 = 13 ∧ Call E M_X12_thrown [rv l2] G47 c48 s49 X (fun r51 G52 c53 s54 => ((r51 = r21 → ((r21 ≠ 0 → V E M_L_law 1893 [some (rv l0), some (rv l1), some (rv l2), some (rv l3), some (iv l4), none, none, none] [] G52 c53 s54 Q X) ∧ (r21 = 0 → (gcl G52 l3 = 16 ∧ 0 < gln G52 l3 ∧ (((gel G52 l3 0) = r46 → V E M_L_law 1893 [some (rv l0), some (rv l1), some (rv l2), some (rv l3), some (iv l4), none, none, none] [] G52 c53 s54 Q X) ∧ ((gel G52 l3 0) ≠ r46 → Q 0 G52)))))) ∧ (r51 ≠ r21 → Q 0 G52))))))) : V E M_L_law 176 [some (rv l0), some (rv l1), some (rv l2), some (rv l3), some (iv l4), none, none, none] [] G c s Q X := by
  refine v_aload_n (pc := 176) (dk dt_L_law 25 rfl) rfl rfl ?_
  refine v_aload_n (pc := 177) (dk dt_L_law 26 rfl) rfl rfl ?_
  refine v_iload (pc := 178) (dk dt_L_law 27 rfl) rfl ?_
  refine v_iconst (pc := 180) (dk dt_L_law 28 rfl) ⟨by decide, by decide⟩ ?_
  obtain ⟨v1, h⟩ := h
  refine v_iadd (pc := 181) (dk dt_L_law 29 rfl) v1 ?_
  obtain ⟨v2, h⟩ := h
  obtain ⟨v3, h⟩ := h
  obtain ⟨v4, h⟩ := h
  refine v_iald (pc := 182) (dk dt_L_law 30 rfl) v2 v3 v4 (fun _ => ?_)
  refine v_aload_n (pc := 183) (dk dt_L_law 31 rfl) rfl rfl ?_
  refine v_iload (pc := 184) (dk dt_L_law 32 rfl) rfl ?_
  refine v_iconst (pc := 186) (dk dt_L_law 33 rfl) ⟨by decide, by decide⟩ ?_
  obtain ⟨v5, h⟩ := h
  refine v_iadd (pc := 187) (dk dt_L_law 34 rfl) v5 ?_
  obtain ⟨v6, h⟩ := h
  obtain ⟨v7, h⟩ := h
  obtain ⟨v8, h⟩ := h
  refine v_iald (pc := 188) (dk dt_L_law 35 rfl) v6 v7 v8 (fun _ => ?_)
  refine v_aload_n (pc := 189) (dk dt_L_law 36 rfl) rfl rfl ?_
  refine v_iload (pc := 190) (dk dt_L_law 37 rfl) rfl ?_
  refine v_iconst (pc := 192) (dk dt_L_law 38 rfl) ⟨by decide, by decide⟩ ?_
  obtain ⟨v9, h⟩ := h
  refine v_iadd (pc := 193) (dk dt_L_law 39 rfl) v9 ?_
  obtain ⟨v10, h⟩ := h
  obtain ⟨v11, h⟩ := h
  obtain ⟨v12, h⟩ := h
  refine v_iald (pc := 194) (dk dt_L_law_1 0 rfl) v10 v11 v12 (fun _ => ?_)
  refine v_aload_n (pc := 195) (dk dt_L_law_1 1 rfl) rfl rfl ?_
  refine v_iload (pc := 196) (dk dt_L_law_1 2 rfl) rfl ?_
  refine v_iconst (pc := 198) (dk dt_L_law_1 3 rfl) ⟨by decide, by decide⟩ ?_
  obtain ⟨v13, h⟩ := h
  refine v_iadd (pc := 199) (dk dt_L_law_1 4 rfl) v13 ?_
  obtain ⟨v14, h⟩ := h
  obtain ⟨v15, h⟩ := h
  obtain ⟨v16, h⟩ := h
  refine v_iald (pc := 200) (dk dt_L_law_1 5 rfl) v14 v15 v16 (fun _ => ?_)
  refine v_aload_n (pc := 201) (dk dt_L_law_1 6 rfl) rfl rfl ?_
  refine v_iload (pc := 202) (dk dt_L_law_1 7 rfl) rfl ?_
  refine v_iconst (pc := 204) (dk dt_L_law_1 8 rfl) ⟨by decide, by decide⟩ ?_
  obtain ⟨v17, h⟩ := h
  refine v_iadd (pc := 205) (dk dt_L_law_1 9 rfl) v17 ?_
  obtain ⟨v18, h⟩ := h
  obtain ⟨v19, h⟩ := h
  obtain ⟨v20, h⟩ := h
  refine v_iald (pc := 206) (dk dt_L_law_1 10 rfl) v18 v19 v20 (fun _ => ?_)
  refine v_aload_n (pc := 207) (dk dt_L_law_1 11 rfl) rfl rfl ?_
  refine v_csHI (As := [rv l1, iv (gel G l0 (l4 + 1)), iv (gel G l0 (l4 + 2)), iv (gel G l0 (l4 + 3)), iv (gel G l0 (l4 + 4)), iv (gel G l0 (l4 + 5)), rv l3]) (stk := []) (pc := 208) (dk dt_L_law_1 12 rfl) ml_L_96 rfl rfl (Nat.le_of_ble_eq_true rfl) rfl rfl (CallH.mono h (fun r21 G22 c23 s24 h => ?_))
  refine v_istore (pc := 211) (ls' := [some (rv l0), some (rv l1), some (rv l2), some (rv l3), some (iv l4), some (iv r21), none, none]) (dk dt_L_law_1 13 rfl) (Nat.le_of_ble_eq_true rfl) rfl ?_
  refine v_aload_n (pc := 213) (dk dt_L_law_1 14 rfl) rfl rfl ?_
  refine v_aload_n (pc := 214) (dk dt_L_law_1 15 rfl) rfl rfl ?_
  refine v_iload (pc := 215) (dk dt_L_law_1 16 rfl) rfl ?_
  refine v_iconst (pc := 217) (dk dt_L_law_1 17 rfl) ⟨by decide, by decide⟩ ?_
  obtain ⟨v25, h⟩ := h
  refine v_iadd (pc := 218) (dk dt_L_law_1 18 rfl) v25 ?_
  obtain ⟨v26, h⟩ := h
  obtain ⟨v27, h⟩ := h
  obtain ⟨v28, h⟩ := h
  refine v_iald (pc := 219) (dk dt_L_law_1 19 rfl) v26 v27 v28 (fun _ => ?_)
  refine v_aload_n (pc := 220) (dk dt_L_law_1 20 rfl) rfl rfl ?_
  refine v_iload (pc := 221) (dk dt_L_law_1 21 rfl) rfl ?_
  refine v_iconst (pc := 223) (dk dt_L_law_1 22 rfl) ⟨by decide, by decide⟩ ?_
  obtain ⟨v29, h⟩ := h
  refine v_iadd (pc := 224) (dk dt_L_law_1 23 rfl) v29 ?_
  obtain ⟨v30, h⟩ := h
  obtain ⟨v31, h⟩ := h
  obtain ⟨v32, h⟩ := h
  refine v_iald (pc := 225) (dk dt_L_law_1 24 rfl) v30 v31 v32 (fun _ => ?_)
  refine v_aload_n (pc := 226) (dk dt_L_law_1 25 rfl) rfl rfl ?_
  refine v_iload (pc := 227) (dk dt_L_law_1 26 rfl) rfl ?_
  refine v_iconst (pc := 229) (dk dt_L_law_1 27 rfl) ⟨by decide, by decide⟩ ?_
  obtain ⟨v33, h⟩ := h
  refine v_iadd (pc := 230) (dk dt_L_law_1 28 rfl) v33 ?_
  obtain ⟨v34, h⟩ := h
  obtain ⟨v35, h⟩ := h
  obtain ⟨v36, h⟩ := h
  refine v_iald (pc := 231) (dk dt_L_law_1 29 rfl) v34 v35 v36 (fun _ => ?_)
  refine v_aload_n (pc := 232) (dk dt_L_law_1 30 rfl) rfl rfl ?_
  refine v_iload (pc := 233) (dk dt_L_law_1 31 rfl) rfl ?_
  refine v_iconst (pc := 235) (dk dt_L_law_1 32 rfl) ⟨by decide, by decide⟩ ?_
  obtain ⟨v37, h⟩ := h
  refine v_iadd (pc := 236) (dk dt_L_law_1 33 rfl) v37 ?_
  obtain ⟨v38, h⟩ := h
  obtain ⟨v39, h⟩ := h
  obtain ⟨v40, h⟩ := h
  refine v_iald (pc := 237) (dk dt_L_law_1 34 rfl) v38 v39 v40 (fun _ => ?_)
  refine v_aload_n (pc := 238) (dk dt_L_law_1 35 rfl) rfl rfl ?_
  refine v_iload (pc := 239) (dk dt_L_law_1 36 rfl) rfl ?_
  refine v_iconst (pc := 241) (dk dt_L_law_1 37 rfl) ⟨by decide, by decide⟩ ?_
  obtain ⟨v41, h⟩ := h
  refine v_iadd (pc := 242) (dk dt_L_law_1 38 rfl) v41 ?_
  obtain ⟨v42, h⟩ := h
  obtain ⟨v43, h⟩ := h
  obtain ⟨v44, h⟩ := h
  refine v_iald (pc := 243) (dk dt_L_law_1 39 rfl) v42 v43 v44 (fun _ => ?_)
  obtain ⟨v45, h⟩ := h
  refine v_cvI (c := 12) (As := [iv (gel G22 l0 (l4 + 1)), iv (gel G22 l0 (l4 + 2)), iv (gel G22 l0 (l4 + 3)), iv (gel G22 l0 (l4 + 4)), iv (gel G22 l0 (l4 + 5))]) (stk := []) (pc := 244) (dk dt_L_law_2 0 rfl) ml_L_101 rfl rfl (Nat.le_of_ble_eq_true rfl) rfl ⟨by decide, rfl⟩ v45 rfl (Call.mono h (fun r46 G47 c48 s49 h => ?_))
  refine v_istore (pc := 247) (ls' := [some (rv l0), some (rv l1), some (rv l2), some (rv l3), some (iv l4), some (iv r21), some (iv r46), none]) (dk dt_L_law_2 1 rfl) (Nat.le_of_ble_eq_true rfl) rfl ?_
  refine v_aload_n (pc := 249) (dk dt_L_law_2 2 rfl) rfl rfl ?_
  obtain ⟨v50, h⟩ := h
  refine v_cvI (c := 12) (As := []) (stk := []) (pc := 250) (dk dt_L_law_2 3 rfl) ml_L_102 rfl rfl (Nat.le_of_ble_eq_true rfl) rfl ⟨by decide, rfl⟩ v50 rfl (Call.mono h (fun r51 G52 c53 s54 h => ?_))
  refine v_iload (pc := 253) (dk dt_L_law_2 4 rfl) rfl ?_
  refine v_icmp_eq (pc := 255) (tgt := 260) (dk dt_L_law_2 5 rfl) (by decide) (fun c55 => ?_) (fun c55 => ?_)
  · replace h := h.1 c55
    refine v_iload (pc := 260) (dk dt_L_law_2 8 rfl) rfl ?_
    refine v_if_ne (pc := 262) (tgt := 277) (dk dt_L_law_2 9 rfl) (by decide) (fun c56 => ?_) (fun c56 => ?_)
    · replace h := h.1 c56
      refine v_goto (pc := 277) (tgt := 1893) (dk dt_L_law_2 19 rfl) (by decide) ?_
      exact v_less2 (ls' := [some (rv l0), some (rv l1), some (rv l2), some (rv l3), some (iv l4), none, none, none]) ⟨rfl, rfl, rfl, rfl, rfl, trivial⟩ h
    · replace h := h.2 c56
      refine v_aload_n (pc := 265) (dk dt_L_law_2 10 rfl) rfl rfl ?_
      refine v_iconst (pc := 266) (dk dt_L_law_2 11 rfl) ⟨by decide, by decide⟩ ?_
      obtain ⟨v57, h⟩ := h
      obtain ⟨v58, h⟩ := h
      refine v_lald (pc := 267) (dk dt_L_law_2 12 rfl) v57 (by decide) v58 (fun _ => ?_)
      refine v_iload (pc := 268) (dk dt_L_law_2 13 rfl) rfl ?_
      refine v_i2l (pc := 270) (dk dt_L_law_2 14 rfl) ?_
      refine v_lcmp_eq (pc := 271) (tgt := 277) (dk dt_L_law_2 15 rfl) (dk dt_L_law_2 16 rfl) (by decide) (fun c59 => ?_) (fun c59 => ?_)
      · replace h := h.1 c59
        refine v_goto (pc := 277) (tgt := 1893) (dk dt_L_law_2 19 rfl) (by decide) ?_
        exact v_less2 (ls' := [some (rv l0), some (rv l1), some (rv l2), some (rv l3), some (iv l4), none, none, none]) ⟨rfl, rfl, rfl, rfl, rfl, trivial⟩ h
      · replace h := h.2 c59
        refine v_iconst (pc := 275) (dk dt_L_law_2 17 rfl) ⟨by decide, by decide⟩ ?_
        exact v_zret (pc := 276) (dk dt_L_law_2 18 rfl) rfl (Or.inl rfl) h
  · replace h := h.2 c55
    refine v_iconst (pc := 258) (dk dt_L_law_2 6 rfl) ⟨by decide, by decide⟩ ?_
    exact v_zret (pc := 259) (dk dt_L_law_2 7 rfl) rfl (Or.inl rfl) h
set_option maxRecDepth 20000 in
set_option maxHeartbeats 1000000 in
theorem b_L_law_280 {E : EE} {l0 l1 l2 l3 l4 : Int} {G : Gt} {c s : Nat} {Q X : Int → Gt → Prop} (h : (gcl G l1 = 12 ∧ Call E M_X11_series [rv l1] G c s X (fun r2 G3 c4 s5 => gcl G3 l2 = 13 ∧ Call E M_X12_series [rv l2] G3 c4 s5 X (fun r7 G8 c9 s10 => ((r2 = r7 → V E M_L_law 1893 [some (rv l0), some (rv l1), some (rv l2), some (rv l3), some (iv l4), none, none, none] [] G8 c9 s10 Q X) ∧ (r2 ≠ r7 → Q 0 G8)))))) : V E M_L_law 280 [some (rv l0), some (rv l1), some (rv l2), some (rv l3), some (iv l4), none, none, none] [] G c s Q X := by
  refine v_aload_n (pc := 280) (dk dt_L_law_2 20 rfl) rfl rfl ?_
  obtain ⟨v1, h⟩ := h
  refine v_cvI (c := 11) (As := []) (stk := []) (pc := 281) (dk dt_L_law_2 21 rfl) ml_L_106 rfl rfl (Nat.le_of_ble_eq_true rfl) rfl ⟨by decide, rfl⟩ v1 rfl (Call.mono h (fun r2 G3 c4 s5 h => ?_))
  refine v_aload_n (pc := 284) (dk dt_L_law_2 22 rfl) rfl rfl ?_
  obtain ⟨v6, h⟩ := h
  refine v_cvI (c := 12) (As := []) (stk := [iv r2]) (pc := 285) (dk dt_L_law_2 23 rfl) ml_L_109 rfl rfl (Nat.le_of_ble_eq_true rfl) rfl ⟨by decide, rfl⟩ v6 rfl (Call.mono h (fun r7 G8 c9 s10 h => ?_))
  refine v_icmp_eq (pc := 288) (tgt := 1893) (dk dt_L_law_2 24 rfl) (by decide) (fun c11 => ?_) (fun c11 => ?_)
  · replace h := h.1 c11
    exact h
  · replace h := h.2 c11
    refine v_iconst (pc := 291) (dk dt_L_law_2 25 rfl) ⟨by decide, by decide⟩ ?_
    exact v_zret (pc := 292) (dk dt_L_law_2 26 rfl) rfl (Or.inl rfl) h
set_option maxRecDepth 20000 in
set_option maxHeartbeats 1000000 in
theorem b_L_law_293 {E : EE} {l0 l1 l2 l3 l4 : Int} {G : Gt} {c s : Nat} {Q X : Int → Gt → Prop} (h : (i32 (l4 + 1) ∧ (gcl G l0 = 15 ∨ gcl G l0 = 19) ∧ 0 ≤ (l4 + 1) ∧ (l4 + 1) < gln G l0 ∧ CallH E M_L_labels [rv l1, iv (gel G l0 (l4 + 1)), rv l3] G c s (fun r5 G6 c7 s8 => i32 (l4 + 1) ∧ (gcl G6 l0 = 15 ∨ gcl G6 l0 = 19) ∧ 0 ≤ (l4 + 1) ∧ (l4 + 1) < gln G6 l0 ∧ gcl G6 l2 = 13 ∧ Call E M_X12_labels [rv l2, iv (gel G6 l0 (l4 + 1))] G6 c7 s8 X (fun r14 G15 c16 s17 => gcl G15 l2 = 13 ∧ Call E M_X12_thrown [rv l2] G15 c16 s17 X (fun r19 G20 c21 s22 => ((r19 = r5 → ((r5 ≠ 0 → V E M_L_law 1893 [some (rv l0), some (rv l1), some (rv l2), some (rv l3), some (iv l4), none, none, none] [] G20 c21 s22 Q X) ∧ (r5 = 0 → (gcl G20 l3 = 16 ∧ 0 < gln G20 l3 ∧ (((gel G20 l3 0) = r14 → V E M_L_law 1893 [some (rv l0), some (rv l1), some (rv l2), some (rv l3), some (iv l4), none, none, none] [] G20 c21 s22 Q X) ∧ ((gel G20 l3 0) ≠ r14 → Q 0 G20)))))) ∧ (r19 ≠ r5 → Q 0 G20))))))) : V E M_L_law 293 [some (rv l0), some (rv l1), some (rv l2), some (rv l3), some (iv l4), none, none, none] [] G c s Q X := by
  refine v_aload_n (pc := 293) (dk dt_L_law_2 27 rfl) rfl rfl ?_
  refine v_aload_n (pc := 294) (dk dt_L_law_2 28 rfl) rfl rfl ?_
  refine v_iload (pc := 295) (dk dt_L_law_2 29 rfl) rfl ?_
  refine v_iconst (pc := 297) (dk dt_L_law_2 30 rfl) ⟨by decide, by decide⟩ ?_
  obtain ⟨v1, h⟩ := h
  refine v_iadd (pc := 298) (dk dt_L_law_2 31 rfl) v1 ?_
  obtain ⟨v2, h⟩ := h
  obtain ⟨v3, h⟩ := h
  obtain ⟨v4, h⟩ := h
  refine v_iald (pc := 299) (dk dt_L_law_2 32 rfl) v2 v3 v4 (fun _ => ?_)
  refine v_aload_n (pc := 300) (dk dt_L_law_2 33 rfl) rfl rfl ?_
  refine v_csHI (As := [rv l1, iv (gel G l0 (l4 + 1)), rv l3]) (stk := []) (pc := 301) (dk dt_L_law_2 34 rfl) ml_L_110 rfl rfl (Nat.le_of_ble_eq_true rfl) rfl rfl (CallH.mono h (fun r5 G6 c7 s8 h => ?_))
  refine v_istore (pc := 304) (ls' := [some (rv l0), some (rv l1), some (rv l2), some (rv l3), some (iv l4), some (iv r5), none, none]) (dk dt_L_law_2 35 rfl) (Nat.le_of_ble_eq_true rfl) rfl ?_
  refine v_aload_n (pc := 306) (dk dt_L_law_2 36 rfl) rfl rfl ?_
  refine v_aload_n (pc := 307) (dk dt_L_law_2 37 rfl) rfl rfl ?_
  refine v_iload (pc := 308) (dk dt_L_law_2 38 rfl) rfl ?_
  refine v_iconst (pc := 310) (dk dt_L_law_2 39 rfl) ⟨by decide, by decide⟩ ?_
  obtain ⟨v9, h⟩ := h
  refine v_iadd (pc := 311) (dk dt_L_law_3 0 rfl) v9 ?_
  obtain ⟨v10, h⟩ := h
  obtain ⟨v11, h⟩ := h
  obtain ⟨v12, h⟩ := h
  refine v_iald (pc := 312) (dk dt_L_law_3 1 rfl) v10 v11 v12 (fun _ => ?_)
  obtain ⟨v13, h⟩ := h
  refine v_cvI (c := 12) (As := [iv (gel G6 l0 (l4 + 1))]) (stk := []) (pc := 313) (dk dt_L_law_3 2 rfl) ml_L_113 rfl rfl (Nat.le_of_ble_eq_true rfl) rfl ⟨by decide, rfl⟩ v13 rfl (Call.mono h (fun r14 G15 c16 s17 h => ?_))
  refine v_istore (pc := 316) (ls' := [some (rv l0), some (rv l1), some (rv l2), some (rv l3), some (iv l4), some (iv r5), some (iv r14), none]) (dk dt_L_law_3 3 rfl) (Nat.le_of_ble_eq_true rfl) rfl ?_
  refine v_aload_n (pc := 318) (dk dt_L_law_3 4 rfl) rfl rfl ?_
  obtain ⟨v18, h⟩ := h
  refine v_cvI (c := 12) (As := []) (stk := []) (pc := 319) (dk dt_L_law_3 5 rfl) ml_L_102 rfl rfl (Nat.le_of_ble_eq_true rfl) rfl ⟨by decide, rfl⟩ v18 rfl (Call.mono h (fun r19 G20 c21 s22 h => ?_))
  refine v_iload (pc := 322) (dk dt_L_law_3 6 rfl) rfl ?_
  refine v_icmp_eq (pc := 324) (tgt := 329) (dk dt_L_law_3 7 rfl) (by decide) (fun c23 => ?_) (fun c23 => ?_)
  · replace h := h.1 c23
    refine v_iload (pc := 329) (dk dt_L_law_3 10 rfl) rfl ?_
    refine v_if_ne (pc := 331) (tgt := 346) (dk dt_L_law_3 11 rfl) (by decide) (fun c24 => ?_) (fun c24 => ?_)
    · replace h := h.1 c24
      refine v_goto (pc := 346) (tgt := 1893) (dk dt_L_law_3 21 rfl) (by decide) ?_
      exact v_less2 (ls' := [some (rv l0), some (rv l1), some (rv l2), some (rv l3), some (iv l4), none, none, none]) ⟨rfl, rfl, rfl, rfl, rfl, trivial⟩ h
    · replace h := h.2 c24
      refine v_aload_n (pc := 334) (dk dt_L_law_3 12 rfl) rfl rfl ?_
      refine v_iconst (pc := 335) (dk dt_L_law_3 13 rfl) ⟨by decide, by decide⟩ ?_
      obtain ⟨v25, h⟩ := h
      obtain ⟨v26, h⟩ := h
      refine v_lald (pc := 336) (dk dt_L_law_3 14 rfl) v25 (by decide) v26 (fun _ => ?_)
      refine v_iload (pc := 337) (dk dt_L_law_3 15 rfl) rfl ?_
      refine v_i2l (pc := 339) (dk dt_L_law_3 16 rfl) ?_
      refine v_lcmp_eq (pc := 340) (tgt := 346) (dk dt_L_law_3 17 rfl) (dk dt_L_law_3 18 rfl) (by decide) (fun c27 => ?_) (fun c27 => ?_)
      · replace h := h.1 c27
        refine v_goto (pc := 346) (tgt := 1893) (dk dt_L_law_3 21 rfl) (by decide) ?_
        exact v_less2 (ls' := [some (rv l0), some (rv l1), some (rv l2), some (rv l3), some (iv l4), none, none, none]) ⟨rfl, rfl, rfl, rfl, rfl, trivial⟩ h
      · replace h := h.2 c27
        refine v_iconst (pc := 344) (dk dt_L_law_3 19 rfl) ⟨by decide, by decide⟩ ?_
        exact v_zret (pc := 345) (dk dt_L_law_3 20 rfl) rfl (Or.inl rfl) h
  · replace h := h.2 c23
    refine v_iconst (pc := 327) (dk dt_L_law_3 8 rfl) ⟨by decide, by decide⟩ ?_
    exact v_zret (pc := 328) (dk dt_L_law_3 9 rfl) rfl (Or.inl rfl) h
set_option maxRecDepth 20000 in
set_option maxHeartbeats 1000000 in
theorem b_L_law_349 {E : EE} {l0 l1 l2 l3 l4 : Int} {G : Gt} {c s : Nat} {Q X : Int → Gt → Prop} (h : (i32 (l4 + 1) ∧ (gcl G l0 = 15 ∨ gcl G l0 = 19) ∧ 0 ≤ (l4 + 1) ∧ (l4 + 1) < gln G l0 ∧ CallH E M_L_samples [rv l1, iv (gel G l0 (l4 + 1)), rv l3] G c s (fun r5 G6 c7 s8 => i32 (l4 + 1) ∧ (gcl G6 l0 = 15 ∨ gcl G6 l0 = 19) ∧ 0 ≤ (l4 + 1) ∧ (l4 + 1) < gln G6 l0 ∧ gcl G6 l2 = 13 ∧ Call E M_X12_samples [rv l2, iv (gel G6 l0 (l4 + 1))] G6 c7 s8 X (fun r14 G15 c16 s17 => gcl G15 l2 = 13 ∧ Call E M_X12_thrown [rv l2] G15 c16 s17 X (fun r19 G20 c21 s22 => ((r19 = r5 → ((r5 ≠ 0 → V E M_L_law 1893 [some (rv l0), some (rv l1), some (rv l2), some (rv l3), some (iv l4), none, none, none] [] G20 c21 s22 Q X) ∧ (r5 = 0 → (gcl G20 l3 = 16 ∧ 0 < gln G20 l3 ∧ (((gel G20 l3 0) = r14 → V E M_L_law 1893 [some (rv l0), some (rv l1), some (rv l2), some (rv l3), some (iv l4), none, none, none] [] G20 c21 s22 Q X) ∧ ((gel G20 l3 0) ≠ r14 → Q 0 G20)))))) ∧ (r19 ≠ r5 → Q 0 G20))))))) : V E M_L_law 349 [some (rv l0), some (rv l1), some (rv l2), some (rv l3), some (iv l4), none, none, none] [] G c s Q X := by
  refine v_aload_n (pc := 349) (dk dt_L_law_3 22 rfl) rfl rfl ?_
  refine v_aload_n (pc := 350) (dk dt_L_law_3 23 rfl) rfl rfl ?_
  refine v_iload (pc := 351) (dk dt_L_law_3 24 rfl) rfl ?_
  refine v_iconst (pc := 353) (dk dt_L_law_3 25 rfl) ⟨by decide, by decide⟩ ?_
  obtain ⟨v1, h⟩ := h
  refine v_iadd (pc := 354) (dk dt_L_law_3 26 rfl) v1 ?_
  obtain ⟨v2, h⟩ := h
  obtain ⟨v3, h⟩ := h
  obtain ⟨v4, h⟩ := h
  refine v_iald (pc := 355) (dk dt_L_law_3 27 rfl) v2 v3 v4 (fun _ => ?_)
  refine v_aload_n (pc := 356) (dk dt_L_law_3 28 rfl) rfl rfl ?_
  refine v_csHI (As := [rv l1, iv (gel G l0 (l4 + 1)), rv l3]) (stk := []) (pc := 357) (dk dt_L_law_3 29 rfl) ml_L_114 rfl rfl (Nat.le_of_ble_eq_true rfl) rfl rfl (CallH.mono h (fun r5 G6 c7 s8 h => ?_))
  refine v_istore (pc := 360) (ls' := [some (rv l0), some (rv l1), some (rv l2), some (rv l3), some (iv l4), some (iv r5), none, none]) (dk dt_L_law_3 30 rfl) (Nat.le_of_ble_eq_true rfl) rfl ?_
  refine v_aload_n (pc := 362) (dk dt_L_law_3 31 rfl) rfl rfl ?_
  refine v_aload_n (pc := 363) (dk dt_L_law_3 32 rfl) rfl rfl ?_
  refine v_iload (pc := 364) (dk dt_L_law_3 33 rfl) rfl ?_
  refine v_iconst (pc := 366) (dk dt_L_law_3 34 rfl) ⟨by decide, by decide⟩ ?_
  obtain ⟨v9, h⟩ := h
  refine v_iadd (pc := 367) (dk dt_L_law_3 35 rfl) v9 ?_
  obtain ⟨v10, h⟩ := h
  obtain ⟨v11, h⟩ := h
  obtain ⟨v12, h⟩ := h
  refine v_iald (pc := 368) (dk dt_L_law_3 36 rfl) v10 v11 v12 (fun _ => ?_)
  obtain ⟨v13, h⟩ := h
  refine v_cvI (c := 12) (As := [iv (gel G6 l0 (l4 + 1))]) (stk := []) (pc := 369) (dk dt_L_law_3 37 rfl) ml_L_116 rfl rfl (Nat.le_of_ble_eq_true rfl) rfl ⟨by decide, rfl⟩ v13 rfl (Call.mono h (fun r14 G15 c16 s17 h => ?_))
  refine v_istore (pc := 372) (ls' := [some (rv l0), some (rv l1), some (rv l2), some (rv l3), some (iv l4), some (iv r5), some (iv r14), none]) (dk dt_L_law_3 38 rfl) (Nat.le_of_ble_eq_true rfl) rfl ?_
  refine v_aload_n (pc := 374) (dk dt_L_law_3 39 rfl) rfl rfl ?_
  obtain ⟨v18, h⟩ := h
  refine v_cvI (c := 12) (As := []) (stk := []) (pc := 375) (dk dt_L_law_4 0 rfl) ml_L_102 rfl rfl (Nat.le_of_ble_eq_true rfl) rfl ⟨by decide, rfl⟩ v18 rfl (Call.mono h (fun r19 G20 c21 s22 h => ?_))
  refine v_iload (pc := 378) (dk dt_L_law_4 1 rfl) rfl ?_
  refine v_icmp_eq (pc := 380) (tgt := 385) (dk dt_L_law_4 2 rfl) (by decide) (fun c23 => ?_) (fun c23 => ?_)
  · replace h := h.1 c23
    refine v_iload (pc := 385) (dk dt_L_law_4 5 rfl) rfl ?_
    refine v_if_ne (pc := 387) (tgt := 402) (dk dt_L_law_4 6 rfl) (by decide) (fun c24 => ?_) (fun c24 => ?_)
    · replace h := h.1 c24
      refine v_goto (pc := 402) (tgt := 1893) (dk dt_L_law_4 16 rfl) (by decide) ?_
      exact v_less2 (ls' := [some (rv l0), some (rv l1), some (rv l2), some (rv l3), some (iv l4), none, none, none]) ⟨rfl, rfl, rfl, rfl, rfl, trivial⟩ h
    · replace h := h.2 c24
      refine v_aload_n (pc := 390) (dk dt_L_law_4 7 rfl) rfl rfl ?_
      refine v_iconst (pc := 391) (dk dt_L_law_4 8 rfl) ⟨by decide, by decide⟩ ?_
      obtain ⟨v25, h⟩ := h
      obtain ⟨v26, h⟩ := h
      refine v_lald (pc := 392) (dk dt_L_law_4 9 rfl) v25 (by decide) v26 (fun _ => ?_)
      refine v_iload (pc := 393) (dk dt_L_law_4 10 rfl) rfl ?_
      refine v_i2l (pc := 395) (dk dt_L_law_4 11 rfl) ?_
      refine v_lcmp_eq (pc := 396) (tgt := 402) (dk dt_L_law_4 12 rfl) (dk dt_L_law_4 13 rfl) (by decide) (fun c27 => ?_) (fun c27 => ?_)
      · replace h := h.1 c27
        refine v_goto (pc := 402) (tgt := 1893) (dk dt_L_law_4 16 rfl) (by decide) ?_
        exact v_less2 (ls' := [some (rv l0), some (rv l1), some (rv l2), some (rv l3), some (iv l4), none, none, none]) ⟨rfl, rfl, rfl, rfl, rfl, trivial⟩ h
      · replace h := h.2 c27
        refine v_iconst (pc := 400) (dk dt_L_law_4 14 rfl) ⟨by decide, by decide⟩ ?_
        exact v_zret (pc := 401) (dk dt_L_law_4 15 rfl) rfl (Or.inl rfl) h
  · replace h := h.2 c23
    refine v_iconst (pc := 383) (dk dt_L_law_4 3 rfl) ⟨by decide, by decide⟩ ?_
    exact v_zret (pc := 384) (dk dt_L_law_4 4 rfl) rfl (Or.inl rfl) h
set_option maxRecDepth 20000 in
set_option maxHeartbeats 1000000 in
theorem b_L_law_405 {E : EE} {l0 l1 l2 l3 l4 : Int} {G : Gt} {c s : Nat} {Q X : Int → Gt → Prop} (h : (i32 (l4 + 1) ∧ (gcl G l0 = 15 ∨ gcl G l0 = 19) ∧ 0 ≤ (l4 + 1) ∧ (l4 + 1) < gln G l0 ∧ i32 (l4 + 2) ∧ (gcl G l0 = 15 ∨ gcl G l0 = 19) ∧ 0 ≤ (l4 + 2) ∧ (l4 + 2) < gln G l0 ∧ i32 (l4 + 3) ∧ (gcl G l0 = 15 ∨ gcl G l0 = 19) ∧ 0 ≤ (l4 + 3) ∧ (l4 + 3) < gln G l0 ∧ CallH E M_L_erase [rv l1, iv (gel G l0 (l4 + 1)), iv (gel G l0 (l4 + 2)), iv (gel G l0 (l4 + 3)), rv l3] G c s (fun r13 G14 c15 s16 => i32 (l4 + 1) ∧ (gcl G14 l0 = 15 ∨ gcl G14 l0 = 19) ∧ 0 ≤ (l4 + 1) ∧ (l4 + 1) < gln G14 l0 ∧ i32 (l4 + 2) ∧ (gcl G14 l0 = 15 ∨ gcl G14 l0 = 19) ∧ 0 ≤ (l4 + 2) ∧ (l4 + 2) < gln G14 l0 ∧ i32 (l4 + 3) ∧ (gcl G14 l0 = 15 ∨ gcl G14 l0 = 19) ∧ 0 ≤ (l4 + 3) ∧ (l4 + 3) < gln G14 l0 ∧ gcl G14 l2 = 13 ∧ Call E M_X12_erase [rv l2, iv (gel G14 l0 (l4 + 1)), iv (gel G14 l0 (l4 + 2)), iv (gel G14 l0 (l4 + 3))] G14 c15 s16 X (fun r30 G31 c32 s33 => gcl G31 l2 = 13 ∧ Call E M_X12_thrown [rv l2] G31 c32 s33 X (fun r35 G36 c37 s38 => ((r35 = r13 → ((r13 ≠ 0 → V E M_L_law 1893 [some (rv l0), some (rv l1), some (rv l2), some (rv l3), some (iv l4), none, none, none] [] G36 c37 s38 Q X) ∧ (r13 = 0 → (gcl G36 l3 = 16 ∧ 0 < gln G36 l3 ∧ (((gel G36 l3 0) = r30 → V E M_L_law 1893 [some (rv l0), some (rv l1), some (rv l2), some (rv l3), some (iv l4), none, none, none] [] G36 c37 s38 Q X) ∧ ((gel G36 l3 0) ≠ r30 → Q 0 G36)))))) ∧ (r35 ≠ r13 → Q 0 G36))))))) : V E M_L_law 405 [some (rv l0), some (rv l1), some (rv l2), some (rv l3), some (iv l4), none, none, none] [] G c s Q X := by
  refine v_aload_n (pc := 405) (dk dt_L_law_4 17 rfl) rfl rfl ?_
  refine v_aload_n (pc := 406) (dk dt_L_law_4 18 rfl) rfl rfl ?_
  refine v_iload (pc := 407) (dk dt_L_law_4 19 rfl) rfl ?_
  refine v_iconst (pc := 409) (dk dt_L_law_4 20 rfl) ⟨by decide, by decide⟩ ?_
  obtain ⟨v1, h⟩ := h
  refine v_iadd (pc := 410) (dk dt_L_law_4 21 rfl) v1 ?_
  obtain ⟨v2, h⟩ := h
  obtain ⟨v3, h⟩ := h
  obtain ⟨v4, h⟩ := h
  refine v_iald (pc := 411) (dk dt_L_law_4 22 rfl) v2 v3 v4 (fun _ => ?_)
  refine v_aload_n (pc := 412) (dk dt_L_law_4 23 rfl) rfl rfl ?_
  refine v_iload (pc := 413) (dk dt_L_law_4 24 rfl) rfl ?_
  refine v_iconst (pc := 415) (dk dt_L_law_4 25 rfl) ⟨by decide, by decide⟩ ?_
  obtain ⟨v5, h⟩ := h
  refine v_iadd (pc := 416) (dk dt_L_law_4 26 rfl) v5 ?_
  obtain ⟨v6, h⟩ := h
  obtain ⟨v7, h⟩ := h
  obtain ⟨v8, h⟩ := h
  refine v_iald (pc := 417) (dk dt_L_law_4 27 rfl) v6 v7 v8 (fun _ => ?_)
  refine v_aload_n (pc := 418) (dk dt_L_law_4 28 rfl) rfl rfl ?_
  refine v_iload (pc := 419) (dk dt_L_law_4 29 rfl) rfl ?_
  refine v_iconst (pc := 421) (dk dt_L_law_4 30 rfl) ⟨by decide, by decide⟩ ?_
  obtain ⟨v9, h⟩ := h
  refine v_iadd (pc := 422) (dk dt_L_law_4 31 rfl) v9 ?_
  obtain ⟨v10, h⟩ := h
  obtain ⟨v11, h⟩ := h
  obtain ⟨v12, h⟩ := h
  refine v_iald (pc := 423) (dk dt_L_law_4 32 rfl) v10 v11 v12 (fun _ => ?_)
  refine v_aload_n (pc := 424) (dk dt_L_law_4 33 rfl) rfl rfl ?_
  refine v_csHI (As := [rv l1, iv (gel G l0 (l4 + 1)), iv (gel G l0 (l4 + 2)), iv (gel G l0 (l4 + 3)), rv l3]) (stk := []) (pc := 425) (dk dt_L_law_4 34 rfl) ml_L_117 rfl rfl (Nat.le_of_ble_eq_true rfl) rfl rfl (CallH.mono h (fun r13 G14 c15 s16 h => ?_))
  refine v_istore (pc := 428) (ls' := [some (rv l0), some (rv l1), some (rv l2), some (rv l3), some (iv l4), some (iv r13), none, none]) (dk dt_L_law_4 35 rfl) (Nat.le_of_ble_eq_true rfl) rfl ?_
  refine v_aload_n (pc := 430) (dk dt_L_law_4 36 rfl) rfl rfl ?_
  refine v_aload_n (pc := 431) (dk dt_L_law_4 37 rfl) rfl rfl ?_
  refine v_iload (pc := 432) (dk dt_L_law_4 38 rfl) rfl ?_
  refine v_iconst (pc := 434) (dk dt_L_law_4 39 rfl) ⟨by decide, by decide⟩ ?_
  obtain ⟨v17, h⟩ := h
  refine v_iadd (pc := 435) (dk dt_L_law_5 0 rfl) v17 ?_
  obtain ⟨v18, h⟩ := h
  obtain ⟨v19, h⟩ := h
  obtain ⟨v20, h⟩ := h
  refine v_iald (pc := 436) (dk dt_L_law_5 1 rfl) v18 v19 v20 (fun _ => ?_)
  refine v_aload_n (pc := 437) (dk dt_L_law_5 2 rfl) rfl rfl ?_
  refine v_iload (pc := 438) (dk dt_L_law_5 3 rfl) rfl ?_
  refine v_iconst (pc := 440) (dk dt_L_law_5 4 rfl) ⟨by decide, by decide⟩ ?_
  obtain ⟨v21, h⟩ := h
  refine v_iadd (pc := 441) (dk dt_L_law_5 5 rfl) v21 ?_
  obtain ⟨v22, h⟩ := h
  obtain ⟨v23, h⟩ := h
  obtain ⟨v24, h⟩ := h
  refine v_iald (pc := 442) (dk dt_L_law_5 6 rfl) v22 v23 v24 (fun _ => ?_)
  refine v_aload_n (pc := 443) (dk dt_L_law_5 7 rfl) rfl rfl ?_
  refine v_iload (pc := 444) (dk dt_L_law_5 8 rfl) rfl ?_
  refine v_iconst (pc := 446) (dk dt_L_law_5 9 rfl) ⟨by decide, by decide⟩ ?_
  obtain ⟨v25, h⟩ := h
  refine v_iadd (pc := 447) (dk dt_L_law_5 10 rfl) v25 ?_
  obtain ⟨v26, h⟩ := h
  obtain ⟨v27, h⟩ := h
  obtain ⟨v28, h⟩ := h
  refine v_iald (pc := 448) (dk dt_L_law_5 11 rfl) v26 v27 v28 (fun _ => ?_)
  obtain ⟨v29, h⟩ := h
  refine v_cvI (c := 12) (As := [iv (gel G14 l0 (l4 + 1)), iv (gel G14 l0 (l4 + 2)), iv (gel G14 l0 (l4 + 3))]) (stk := []) (pc := 449) (dk dt_L_law_5 12 rfl) ml_L_120 rfl rfl (Nat.le_of_ble_eq_true rfl) rfl ⟨by decide, rfl⟩ v29 rfl (Call.mono h (fun r30 G31 c32 s33 h => ?_))
  refine v_istore (pc := 452) (ls' := [some (rv l0), some (rv l1), some (rv l2), some (rv l3), some (iv l4), some (iv r13), some (iv r30), none]) (dk dt_L_law_5 13 rfl) (Nat.le_of_ble_eq_true rfl) rfl ?_
  refine v_aload_n (pc := 454) (dk dt_L_law_5 14 rfl) rfl rfl ?_
  obtain ⟨v34, h⟩ := h
  refine v_cvI (c := 12) (As := []) (stk := []) (pc := 455) (dk dt_L_law_5 15 rfl) ml_L_102 rfl rfl (Nat.le_of_ble_eq_true rfl) rfl ⟨by decide, rfl⟩ v34 rfl (Call.mono h (fun r35 G36 c37 s38 h => ?_))
  refine v_iload (pc := 458) (dk dt_L_law_5 16 rfl) rfl ?_
  refine v_icmp_eq (pc := 460) (tgt := 465) (dk dt_L_law_5 17 rfl) (by decide) (fun c39 => ?_) (fun c39 => ?_)
  · replace h := h.1 c39
    refine v_iload (pc := 465) (dk dt_L_law_5 20 rfl) rfl ?_
    refine v_if_ne (pc := 467) (tgt := 482) (dk dt_L_law_5 21 rfl) (by decide) (fun c40 => ?_) (fun c40 => ?_)
    · replace h := h.1 c40
      refine v_goto (pc := 482) (tgt := 1893) (dk dt_L_law_5 31 rfl) (by decide) ?_
      exact v_less2 (ls' := [some (rv l0), some (rv l1), some (rv l2), some (rv l3), some (iv l4), none, none, none]) ⟨rfl, rfl, rfl, rfl, rfl, trivial⟩ h
    · replace h := h.2 c40
      refine v_aload_n (pc := 470) (dk dt_L_law_5 22 rfl) rfl rfl ?_
      refine v_iconst (pc := 471) (dk dt_L_law_5 23 rfl) ⟨by decide, by decide⟩ ?_
      obtain ⟨v41, h⟩ := h
      obtain ⟨v42, h⟩ := h
      refine v_lald (pc := 472) (dk dt_L_law_5 24 rfl) v41 (by decide) v42 (fun _ => ?_)
      refine v_iload (pc := 473) (dk dt_L_law_5 25 rfl) rfl ?_
      refine v_i2l (pc := 475) (dk dt_L_law_5 26 rfl) ?_
      refine v_lcmp_eq (pc := 476) (tgt := 482) (dk dt_L_law_5 27 rfl) (dk dt_L_law_5 28 rfl) (by decide) (fun c43 => ?_) (fun c43 => ?_)
      · replace h := h.1 c43
        refine v_goto (pc := 482) (tgt := 1893) (dk dt_L_law_5 31 rfl) (by decide) ?_
        exact v_less2 (ls' := [some (rv l0), some (rv l1), some (rv l2), some (rv l3), some (iv l4), none, none, none]) ⟨rfl, rfl, rfl, rfl, rfl, trivial⟩ h
      · replace h := h.2 c43
        refine v_iconst (pc := 480) (dk dt_L_law_5 29 rfl) ⟨by decide, by decide⟩ ?_
        exact v_zret (pc := 481) (dk dt_L_law_5 30 rfl) rfl (Or.inl rfl) h
  · replace h := h.2 c39
    refine v_iconst (pc := 463) (dk dt_L_law_5 18 rfl) ⟨by decide, by decide⟩ ?_
    exact v_zret (pc := 464) (dk dt_L_law_5 19 rfl) rfl (Or.inl rfl) h
set_option maxRecDepth 20000 in
set_option maxHeartbeats 1000000 in
theorem b_L_law_485 {E : EE} {l0 l1 l2 l3 l4 : Int} {G : Gt} {c s : Nat} {Q X : Int → Gt → Prop} (h : (i32 (l4 + 1) ∧ (gcl G l0 = 15 ∨ gcl G l0 = 19) ∧ 0 ≤ (l4 + 1) ∧ (l4 + 1) < gln G l0 ∧ CallH E M_L_pass [rv l1, iv (gel G l0 (l4 + 1)), rv l3] G c s (fun r5 G6 c7 s8 => i32 (l4 + 1) ∧ (gcl G6 l0 = 15 ∨ gcl G6 l0 = 19) ∧ 0 ≤ (l4 + 1) ∧ (l4 + 1) < gln G6 l0 ∧ gcl G6 l2 = 13 ∧ Call E M_X12_pass [rv l2, iv (gel G6 l0 (l4 + 1))] G6 c7 s8 X (fun r14 G15 c16 s17 => gcl G15 l2 = 13 ∧ Call E M_X12_thrown [rv l2] G15 c16 s17 X (fun r19 G20 c21 s22 => ((r19 = r5 → ((r5 ≠ 0 → V E M_L_law 1893 [some (rv l0), some (rv l1), some (rv l2), some (rv l3), some (iv l4), none, none, none] [] G20 c21 s22 Q X) ∧ (r5 = 0 → (gcl G20 l3 = 16 ∧ 0 < gln G20 l3 ∧ (((gel G20 l3 0) = r14 → V E M_L_law 1893 [some (rv l0), some (rv l1), some (rv l2), some (rv l3), some (iv l4), none, none, none] [] G20 c21 s22 Q X) ∧ ((gel G20 l3 0) ≠ r14 → Q 0 G20)))))) ∧ (r19 ≠ r5 → Q 0 G20))))))) : V E M_L_law 485 [some (rv l0), some (rv l1), some (rv l2), some (rv l3), some (iv l4), none, none, none] [] G c s Q X := by
  refine v_aload_n (pc := 485) (dk dt_L_law_5 32 rfl) rfl rfl ?_
  refine v_aload_n (pc := 486) (dk dt_L_law_5 33 rfl) rfl rfl ?_
  refine v_iload (pc := 487) (dk dt_L_law_5 34 rfl) rfl ?_
  refine v_iconst (pc := 489) (dk dt_L_law_5 35 rfl) ⟨by decide, by decide⟩ ?_
  obtain ⟨v1, h⟩ := h
  refine v_iadd (pc := 490) (dk dt_L_law_5 36 rfl) v1 ?_
  obtain ⟨v2, h⟩ := h
  obtain ⟨v3, h⟩ := h
  obtain ⟨v4, h⟩ := h
  refine v_iald (pc := 491) (dk dt_L_law_5 37 rfl) v2 v3 v4 (fun _ => ?_)
  refine v_aload_n (pc := 492) (dk dt_L_law_5 38 rfl) rfl rfl ?_
  refine v_csHI (As := [rv l1, iv (gel G l0 (l4 + 1)), rv l3]) (stk := []) (pc := 493) (dk dt_L_law_5 39 rfl) ml_L_121 rfl rfl (Nat.le_of_ble_eq_true rfl) rfl rfl (CallH.mono h (fun r5 G6 c7 s8 h => ?_))
  refine v_istore (pc := 496) (ls' := [some (rv l0), some (rv l1), some (rv l2), some (rv l3), some (iv l4), some (iv r5), none, none]) (dk dt_L_law_6 0 rfl) (Nat.le_of_ble_eq_true rfl) rfl ?_
  refine v_aload_n (pc := 498) (dk dt_L_law_6 1 rfl) rfl rfl ?_
  refine v_aload_n (pc := 499) (dk dt_L_law_6 2 rfl) rfl rfl ?_
  refine v_iload (pc := 500) (dk dt_L_law_6 3 rfl) rfl ?_
  refine v_iconst (pc := 502) (dk dt_L_law_6 4 rfl) ⟨by decide, by decide⟩ ?_
  obtain ⟨v9, h⟩ := h
  refine v_iadd (pc := 503) (dk dt_L_law_6 5 rfl) v9 ?_
  obtain ⟨v10, h⟩ := h
  obtain ⟨v11, h⟩ := h
  obtain ⟨v12, h⟩ := h
  refine v_iald (pc := 504) (dk dt_L_law_6 6 rfl) v10 v11 v12 (fun _ => ?_)
  obtain ⟨v13, h⟩ := h
  refine v_cvI (c := 12) (As := [iv (gel G6 l0 (l4 + 1))]) (stk := []) (pc := 505) (dk dt_L_law_6 7 rfl) ml_L_123 rfl rfl (Nat.le_of_ble_eq_true rfl) rfl ⟨by decide, rfl⟩ v13 rfl (Call.mono h (fun r14 G15 c16 s17 h => ?_))
  refine v_istore (pc := 508) (ls' := [some (rv l0), some (rv l1), some (rv l2), some (rv l3), some (iv l4), some (iv r5), some (iv r14), none]) (dk dt_L_law_6 8 rfl) (Nat.le_of_ble_eq_true rfl) rfl ?_
  refine v_aload_n (pc := 510) (dk dt_L_law_6 9 rfl) rfl rfl ?_
  obtain ⟨v18, h⟩ := h
  refine v_cvI (c := 12) (As := []) (stk := []) (pc := 511) (dk dt_L_law_6 10 rfl) ml_L_102 rfl rfl (Nat.le_of_ble_eq_true rfl) rfl ⟨by decide, rfl⟩ v18 rfl (Call.mono h (fun r19 G20 c21 s22 h => ?_))
  refine v_iload (pc := 514) (dk dt_L_law_6 11 rfl) rfl ?_
  refine v_icmp_eq (pc := 516) (tgt := 521) (dk dt_L_law_6 12 rfl) (by decide) (fun c23 => ?_) (fun c23 => ?_)
  · replace h := h.1 c23
    refine v_iload (pc := 521) (dk dt_L_law_6 15 rfl) rfl ?_
    refine v_if_ne (pc := 523) (tgt := 538) (dk dt_L_law_6 16 rfl) (by decide) (fun c24 => ?_) (fun c24 => ?_)
    · replace h := h.1 c24
      refine v_goto (pc := 538) (tgt := 1893) (dk dt_L_law_6 26 rfl) (by decide) ?_
      exact v_less2 (ls' := [some (rv l0), some (rv l1), some (rv l2), some (rv l3), some (iv l4), none, none, none]) ⟨rfl, rfl, rfl, rfl, rfl, trivial⟩ h
    · replace h := h.2 c24
      refine v_aload_n (pc := 526) (dk dt_L_law_6 17 rfl) rfl rfl ?_
      refine v_iconst (pc := 527) (dk dt_L_law_6 18 rfl) ⟨by decide, by decide⟩ ?_
      obtain ⟨v25, h⟩ := h
      obtain ⟨v26, h⟩ := h
      refine v_lald (pc := 528) (dk dt_L_law_6 19 rfl) v25 (by decide) v26 (fun _ => ?_)
      refine v_iload (pc := 529) (dk dt_L_law_6 20 rfl) rfl ?_
      refine v_i2l (pc := 531) (dk dt_L_law_6 21 rfl) ?_
      refine v_lcmp_eq (pc := 532) (tgt := 538) (dk dt_L_law_6 22 rfl) (dk dt_L_law_6 23 rfl) (by decide) (fun c27 => ?_) (fun c27 => ?_)
      · replace h := h.1 c27
        refine v_goto (pc := 538) (tgt := 1893) (dk dt_L_law_6 26 rfl) (by decide) ?_
        exact v_less2 (ls' := [some (rv l0), some (rv l1), some (rv l2), some (rv l3), some (iv l4), none, none, none]) ⟨rfl, rfl, rfl, rfl, rfl, trivial⟩ h
      · replace h := h.2 c27
        refine v_iconst (pc := 536) (dk dt_L_law_6 24 rfl) ⟨by decide, by decide⟩ ?_
        exact v_zret (pc := 537) (dk dt_L_law_6 25 rfl) rfl (Or.inl rfl) h
  · replace h := h.2 c23
    refine v_iconst (pc := 519) (dk dt_L_law_6 13 rfl) ⟨by decide, by decide⟩ ?_
    exact v_zret (pc := 520) (dk dt_L_law_6 14 rfl) rfl (Or.inl rfl) h
set_option maxRecDepth 20000 in
set_option maxHeartbeats 1000000 in
theorem b_L_law_541 {E : EE} {l0 l1 l2 l3 l4 : Int} {G : Gt} {c s : Nat} {Q X : Int → Gt → Prop} (h : (i32 (l4 + 1) ∧ (gcl G l0 = 15 ∨ gcl G l0 = 19) ∧ 0 ≤ (l4 + 1) ∧ (l4 + 1) < gln G l0 ∧ CallH E M_L_retain [rv l1, iv (gel G l0 (l4 + 1)), rv l3] G c s (fun r5 G6 c7 s8 => i32 (l4 + 1) ∧ (gcl G6 l0 = 15 ∨ gcl G6 l0 = 19) ∧ 0 ≤ (l4 + 1) ∧ (l4 + 1) < gln G6 l0 ∧ gcl G6 l2 = 13 ∧ Call E M_X12_retain [rv l2, iv (gel G6 l0 (l4 + 1))] G6 c7 s8 X (fun r14 G15 c16 s17 => gcl G15 l2 = 13 ∧ Call E M_X12_thrown [rv l2] G15 c16 s17 X (fun r19 G20 c21 s22 => ((r19 = r5 → ((r5 ≠ 0 → V E M_L_law 1893 [some (rv l0), some (rv l1), some (rv l2), some (rv l3), some (iv l4), none, none, none] [] G20 c21 s22 Q X) ∧ (r5 = 0 → (gcl G20 l3 = 16 ∧ 0 < gln G20 l3 ∧ (((gel G20 l3 0) = r14 → V E M_L_law 1893 [some (rv l0), some (rv l1), some (rv l2), some (rv l3), some (iv l4), none, none, none] [] G20 c21 s22 Q X) ∧ ((gel G20 l3 0) ≠ r14 → Q 0 G20)))))) ∧ (r19 ≠ r5 → Q 0 G20))))))) : V E M_L_law 541 [some (rv l0), some (rv l1), some (rv l2), some (rv l3), some (iv l4), none, none, none] [] G c s Q X := by
  refine v_aload_n (pc := 541) (dk dt_L_law_6 27 rfl) rfl rfl ?_
  refine v_aload_n (pc := 542) (dk dt_L_law_6 28 rfl) rfl rfl ?_
  refine v_iload (pc := 543) (dk dt_L_law_6 29 rfl) rfl ?_
  refine v_iconst (pc := 545) (dk dt_L_law_6 30 rfl) ⟨by decide, by decide⟩ ?_
  obtain ⟨v1, h⟩ := h
  refine v_iadd (pc := 546) (dk dt_L_law_6 31 rfl) v1 ?_
  obtain ⟨v2, h⟩ := h
  obtain ⟨v3, h⟩ := h
  obtain ⟨v4, h⟩ := h
  refine v_iald (pc := 547) (dk dt_L_law_6 32 rfl) v2 v3 v4 (fun _ => ?_)
  refine v_aload_n (pc := 548) (dk dt_L_law_6 33 rfl) rfl rfl ?_
  refine v_csHI (As := [rv l1, iv (gel G l0 (l4 + 1)), rv l3]) (stk := []) (pc := 549) (dk dt_L_law_6 34 rfl) ml_L_124 rfl rfl (Nat.le_of_ble_eq_true rfl) rfl rfl (CallH.mono h (fun r5 G6 c7 s8 h => ?_))
  refine v_istore (pc := 552) (ls' := [some (rv l0), some (rv l1), some (rv l2), some (rv l3), some (iv l4), some (iv r5), none, none]) (dk dt_L_law_6 35 rfl) (Nat.le_of_ble_eq_true rfl) rfl ?_
  refine v_aload_n (pc := 554) (dk dt_L_law_6 36 rfl) rfl rfl ?_
  refine v_aload_n (pc := 555) (dk dt_L_law_6 37 rfl) rfl rfl ?_
  refine v_iload (pc := 556) (dk dt_L_law_6 38 rfl) rfl ?_
  refine v_iconst (pc := 558) (dk dt_L_law_6 39 rfl) ⟨by decide, by decide⟩ ?_
  obtain ⟨v9, h⟩ := h
  refine v_iadd (pc := 559) (dk dt_L_law_7 0 rfl) v9 ?_
  obtain ⟨v10, h⟩ := h
  obtain ⟨v11, h⟩ := h
  obtain ⟨v12, h⟩ := h
  refine v_iald (pc := 560) (dk dt_L_law_7 1 rfl) v10 v11 v12 (fun _ => ?_)
  obtain ⟨v13, h⟩ := h
  refine v_cvI (c := 12) (As := [iv (gel G6 l0 (l4 + 1))]) (stk := []) (pc := 561) (dk dt_L_law_7 2 rfl) ml_L_126 rfl rfl (Nat.le_of_ble_eq_true rfl) rfl ⟨by decide, rfl⟩ v13 rfl (Call.mono h (fun r14 G15 c16 s17 h => ?_))
  refine v_istore (pc := 564) (ls' := [some (rv l0), some (rv l1), some (rv l2), some (rv l3), some (iv l4), some (iv r5), some (iv r14), none]) (dk dt_L_law_7 3 rfl) (Nat.le_of_ble_eq_true rfl) rfl ?_
  refine v_aload_n (pc := 566) (dk dt_L_law_7 4 rfl) rfl rfl ?_
  obtain ⟨v18, h⟩ := h
  refine v_cvI (c := 12) (As := []) (stk := []) (pc := 567) (dk dt_L_law_7 5 rfl) ml_L_102 rfl rfl (Nat.le_of_ble_eq_true rfl) rfl ⟨by decide, rfl⟩ v18 rfl (Call.mono h (fun r19 G20 c21 s22 h => ?_))
  refine v_iload (pc := 570) (dk dt_L_law_7 6 rfl) rfl ?_
  refine v_icmp_eq (pc := 572) (tgt := 577) (dk dt_L_law_7 7 rfl) (by decide) (fun c23 => ?_) (fun c23 => ?_)
  · replace h := h.1 c23
    refine v_iload (pc := 577) (dk dt_L_law_7 10 rfl) rfl ?_
    refine v_if_ne (pc := 579) (tgt := 594) (dk dt_L_law_7 11 rfl) (by decide) (fun c24 => ?_) (fun c24 => ?_)
    · replace h := h.1 c24
      refine v_goto (pc := 594) (tgt := 1893) (dk dt_L_law_7 21 rfl) (by decide) ?_
      exact v_less2 (ls' := [some (rv l0), some (rv l1), some (rv l2), some (rv l3), some (iv l4), none, none, none]) ⟨rfl, rfl, rfl, rfl, rfl, trivial⟩ h
    · replace h := h.2 c24
      refine v_aload_n (pc := 582) (dk dt_L_law_7 12 rfl) rfl rfl ?_
      refine v_iconst (pc := 583) (dk dt_L_law_7 13 rfl) ⟨by decide, by decide⟩ ?_
      obtain ⟨v25, h⟩ := h
      obtain ⟨v26, h⟩ := h
      refine v_lald (pc := 584) (dk dt_L_law_7 14 rfl) v25 (by decide) v26 (fun _ => ?_)
      refine v_iload (pc := 585) (dk dt_L_law_7 15 rfl) rfl ?_
      refine v_i2l (pc := 587) (dk dt_L_law_7 16 rfl) ?_
      refine v_lcmp_eq (pc := 588) (tgt := 594) (dk dt_L_law_7 17 rfl) (dk dt_L_law_7 18 rfl) (by decide) (fun c27 => ?_) (fun c27 => ?_)
      · replace h := h.1 c27
        refine v_goto (pc := 594) (tgt := 1893) (dk dt_L_law_7 21 rfl) (by decide) ?_
        exact v_less2 (ls' := [some (rv l0), some (rv l1), some (rv l2), some (rv l3), some (iv l4), none, none, none]) ⟨rfl, rfl, rfl, rfl, rfl, trivial⟩ h
      · replace h := h.2 c27
        refine v_iconst (pc := 592) (dk dt_L_law_7 19 rfl) ⟨by decide, by decide⟩ ?_
        exact v_zret (pc := 593) (dk dt_L_law_7 20 rfl) rfl (Or.inl rfl) h
  · replace h := h.2 c23
    refine v_iconst (pc := 575) (dk dt_L_law_7 8 rfl) ⟨by decide, by decide⟩ ?_
    exact v_zret (pc := 576) (dk dt_L_law_7 9 rfl) rfl (Or.inl rfl) h
set_option maxRecDepth 20000 in
set_option maxHeartbeats 1000000 in
theorem b_L_law_597 {E : EE} {l0 l1 l2 l3 l4 : Int} {G : Gt} {c s : Nat} {Q X : Int → Gt → Prop} (h : (gcl G l1 = 12 ∧ Call E M_X11_flush [rv l1] G c s X (fun r2 G3 c4 s5 => gcl G3 l2 = 13 ∧ Call E M_X12_flush [rv l2] G3 c4 s5 X (fun r7 G8 c9 s10 => ((r2 = r7 → V E M_L_law 1893 [some (rv l0), some (rv l1), some (rv l2), some (rv l3), some (iv l4), none, none, none] [] G8 c9 s10 Q X) ∧ (r2 ≠ r7 → Q 0 G8)))))) : V E M_L_law 597 [some (rv l0), some (rv l1), some (rv l2), some (rv l3), some (iv l4), none, none, none] [] G c s Q X := by
  refine v_aload_n (pc := 597) (dk dt_L_law_7 22 rfl) rfl rfl ?_
  obtain ⟨v1, h⟩ := h
  refine v_cvI (c := 11) (As := []) (stk := []) (pc := 598) (dk dt_L_law_7 23 rfl) ml_L_127 rfl rfl (Nat.le_of_ble_eq_true rfl) rfl ⟨by decide, rfl⟩ v1 rfl (Call.mono h (fun r2 G3 c4 s5 h => ?_))
  refine v_aload_n (pc := 601) (dk dt_L_law_7 24 rfl) rfl rfl ?_
  obtain ⟨v6, h⟩ := h
  refine v_cvI (c := 12) (As := []) (stk := [iv r2]) (pc := 602) (dk dt_L_law_7 25 rfl) ml_L_130 rfl rfl (Nat.le_of_ble_eq_true rfl) rfl ⟨by decide, rfl⟩ v6 rfl (Call.mono h (fun r7 G8 c9 s10 h => ?_))
  refine v_icmp_eq (pc := 605) (tgt := 1893) (dk dt_L_law_7 26 rfl) (by decide) (fun c11 => ?_) (fun c11 => ?_)
  · replace h := h.1 c11
    exact h
  · replace h := h.2 c11
    refine v_iconst (pc := 608) (dk dt_L_law_7 27 rfl) ⟨by decide, by decide⟩ ?_
    exact v_zret (pc := 609) (dk dt_L_law_7 28 rfl) rfl (Or.inl rfl) h
set_option maxRecDepth 20000 in
set_option maxHeartbeats 1000000 in
theorem b_L_law_610 {E : EE} {l0 l1 l2 l3 l4 : Int} {G : Gt} {c s : Nat} {Q X : Int → Gt → Prop} (h : (gcl G l1 = 12 ∧ Call E M_X11_log [rv l1] G c s X (fun r2 G3 c4 s5 => gcl G3 l2 = 13 ∧ Call E M_X12_log [rv l2] G3 c4 s5 X (fun r7 G8 c9 s10 => ((r2 = r7 → V E M_L_law 1893 [some (rv l0), some (rv l1), some (rv l2), some (rv l3), some (iv l4), none, none, none] [] G8 c9 s10 Q X) ∧ (r2 ≠ r7 → Q 0 G8)))))) : V E M_L_law 610 [some (rv l0), some (rv l1), some (rv l2), some (rv l3), some (iv l4), none, none, none] [] G c s Q X := by
  refine v_aload_n (pc := 610) (dk dt_L_law_7 29 rfl) rfl rfl ?_
  obtain ⟨v1, h⟩ := h
  refine v_cvI (c := 11) (As := []) (stk := []) (pc := 611) (dk dt_L_law_7 30 rfl) ml_L_131 rfl rfl (Nat.le_of_ble_eq_true rfl) rfl ⟨by decide, rfl⟩ v1 rfl (Call.mono h (fun r2 G3 c4 s5 h => ?_))
  refine v_aload_n (pc := 614) (dk dt_L_law_7 31 rfl) rfl rfl ?_
  obtain ⟨v6, h⟩ := h
  refine v_cvI (c := 12) (As := []) (stk := [iv r2]) (pc := 615) (dk dt_L_law_7 32 rfl) ml_L_134 rfl rfl (Nat.le_of_ble_eq_true rfl) rfl ⟨by decide, rfl⟩ v6 rfl (Call.mono h (fun r7 G8 c9 s10 h => ?_))
  refine v_icmp_eq (pc := 618) (tgt := 1893) (dk dt_L_law_7 33 rfl) (by decide) (fun c11 => ?_) (fun c11 => ?_)
  · replace h := h.1 c11
    exact h
  · replace h := h.2 c11
    refine v_iconst (pc := 621) (dk dt_L_law_7 34 rfl) ⟨by decide, by decide⟩ ?_
    exact v_zret (pc := 622) (dk dt_L_law_7 35 rfl) rfl (Or.inl rfl) h
set_option maxRecDepth 20000 in
set_option maxHeartbeats 1000000 in
theorem b_L_law_623 {E : EE} {l0 l1 l2 l3 l4 : Int} {G : Gt} {c s : Nat} {Q X : Int → Gt → Prop} (h : (i32 (l4 + 1) ∧ (gcl G l0 = 15 ∨ gcl G l0 = 19) ∧ 0 ≤ (l4 + 1) ∧ (l4 + 1) < gln G l0 ∧ CallH E M_L_crash [rv l1, iv (gel G l0 (l4 + 1)), rv l3] G c s (fun r5 G6 c7 s8 => i32 (l4 + 1) ∧ (gcl G6 l0 = 15 ∨ gcl G6 l0 = 19) ∧ 0 ≤ (l4 + 1) ∧ (l4 + 1) < gln G6 l0 ∧ gcl G6 l2 = 13 ∧ Call E M_X12_crash [rv l2, iv (gel G6 l0 (l4 + 1))] G6 c7 s8 X (fun r14 G15 c16 s17 => gcl G15 l2 = 13 ∧ Call E M_X12_thrown [rv l2] G15 c16 s17 X (fun r19 G20 c21 s22 => ((r19 = r5 → ((r5 ≠ 0 → V E M_L_law 1893 [some (rv l0), some (rv l1), some (rv l2), some (rv l3), some (iv l4), none, none, none] [] G20 c21 s22 Q X) ∧ (r5 = 0 → (gcl G20 l3 = 16 ∧ 0 < gln G20 l3 ∧ (((gel G20 l3 0) = r14 → V E M_L_law 1893 [some (rv l0), some (rv l1), some (rv l2), some (rv l3), some (iv l4), none, none, none] [] G20 c21 s22 Q X) ∧ ((gel G20 l3 0) ≠ r14 → Q 0 G20)))))) ∧ (r19 ≠ r5 → Q 0 G20))))))) : V E M_L_law 623 [some (rv l0), some (rv l1), some (rv l2), some (rv l3), some (iv l4), none, none, none] [] G c s Q X := by
  refine v_aload_n (pc := 623) (dk dt_L_law_7 36 rfl) rfl rfl ?_
  refine v_aload_n (pc := 624) (dk dt_L_law_7 37 rfl) rfl rfl ?_
  refine v_iload (pc := 625) (dk dt_L_law_7 38 rfl) rfl ?_
  refine v_iconst (pc := 627) (dk dt_L_law_7 39 rfl) ⟨by decide, by decide⟩ ?_
  obtain ⟨v1, h⟩ := h
  refine v_iadd (pc := 628) (dk dt_L_law_8 0 rfl) v1 ?_
  obtain ⟨v2, h⟩ := h
  obtain ⟨v3, h⟩ := h
  obtain ⟨v4, h⟩ := h
  refine v_iald (pc := 629) (dk dt_L_law_8 1 rfl) v2 v3 v4 (fun _ => ?_)
  refine v_aload_n (pc := 630) (dk dt_L_law_8 2 rfl) rfl rfl ?_
  refine v_csHI (As := [rv l1, iv (gel G l0 (l4 + 1)), rv l3]) (stk := []) (pc := 631) (dk dt_L_law_8 3 rfl) ml_L_135 rfl rfl (Nat.le_of_ble_eq_true rfl) rfl rfl (CallH.mono h (fun r5 G6 c7 s8 h => ?_))
  refine v_istore (pc := 634) (ls' := [some (rv l0), some (rv l1), some (rv l2), some (rv l3), some (iv l4), some (iv r5), none, none]) (dk dt_L_law_8 4 rfl) (Nat.le_of_ble_eq_true rfl) rfl ?_
  refine v_aload_n (pc := 636) (dk dt_L_law_8 5 rfl) rfl rfl ?_
  refine v_aload_n (pc := 637) (dk dt_L_law_8 6 rfl) rfl rfl ?_
  refine v_iload (pc := 638) (dk dt_L_law_8 7 rfl) rfl ?_
  refine v_iconst (pc := 640) (dk dt_L_law_8 8 rfl) ⟨by decide, by decide⟩ ?_
  obtain ⟨v9, h⟩ := h
  refine v_iadd (pc := 641) (dk dt_L_law_8 9 rfl) v9 ?_
  obtain ⟨v10, h⟩ := h
  obtain ⟨v11, h⟩ := h
  obtain ⟨v12, h⟩ := h
  refine v_iald (pc := 642) (dk dt_L_law_8 10 rfl) v10 v11 v12 (fun _ => ?_)
  obtain ⟨v13, h⟩ := h
  refine v_cvI (c := 12) (As := [iv (gel G6 l0 (l4 + 1))]) (stk := []) (pc := 643) (dk dt_L_law_8 11 rfl) ml_L_137 rfl rfl (Nat.le_of_ble_eq_true rfl) rfl ⟨by decide, rfl⟩ v13 rfl (Call.mono h (fun r14 G15 c16 s17 h => ?_))
  refine v_istore (pc := 646) (ls' := [some (rv l0), some (rv l1), some (rv l2), some (rv l3), some (iv l4), some (iv r5), some (iv r14), none]) (dk dt_L_law_8 12 rfl) (Nat.le_of_ble_eq_true rfl) rfl ?_
  refine v_aload_n (pc := 648) (dk dt_L_law_8 13 rfl) rfl rfl ?_
  obtain ⟨v18, h⟩ := h
  refine v_cvI (c := 12) (As := []) (stk := []) (pc := 649) (dk dt_L_law_8 14 rfl) ml_L_102 rfl rfl (Nat.le_of_ble_eq_true rfl) rfl ⟨by decide, rfl⟩ v18 rfl (Call.mono h (fun r19 G20 c21 s22 h => ?_))
  refine v_iload (pc := 652) (dk dt_L_law_8 15 rfl) rfl ?_
  refine v_icmp_eq (pc := 654) (tgt := 659) (dk dt_L_law_8 16 rfl) (by decide) (fun c23 => ?_) (fun c23 => ?_)
  · replace h := h.1 c23
    refine v_iload (pc := 659) (dk dt_L_law_8 19 rfl) rfl ?_
    refine v_if_ne (pc := 661) (tgt := 676) (dk dt_L_law_8 20 rfl) (by decide) (fun c24 => ?_) (fun c24 => ?_)
    · replace h := h.1 c24
      refine v_goto (pc := 676) (tgt := 1893) (dk dt_L_law_8 30 rfl) (by decide) ?_
      exact v_less2 (ls' := [some (rv l0), some (rv l1), some (rv l2), some (rv l3), some (iv l4), none, none, none]) ⟨rfl, rfl, rfl, rfl, rfl, trivial⟩ h
    · replace h := h.2 c24
      refine v_aload_n (pc := 664) (dk dt_L_law_8 21 rfl) rfl rfl ?_
      refine v_iconst (pc := 665) (dk dt_L_law_8 22 rfl) ⟨by decide, by decide⟩ ?_
      obtain ⟨v25, h⟩ := h
      obtain ⟨v26, h⟩ := h
      refine v_lald (pc := 666) (dk dt_L_law_8 23 rfl) v25 (by decide) v26 (fun _ => ?_)
      refine v_iload (pc := 667) (dk dt_L_law_8 24 rfl) rfl ?_
      refine v_i2l (pc := 669) (dk dt_L_law_8 25 rfl) ?_
      refine v_lcmp_eq (pc := 670) (tgt := 676) (dk dt_L_law_8 26 rfl) (dk dt_L_law_8 27 rfl) (by decide) (fun c27 => ?_) (fun c27 => ?_)
      · replace h := h.1 c27
        refine v_goto (pc := 676) (tgt := 1893) (dk dt_L_law_8 30 rfl) (by decide) ?_
        exact v_less2 (ls' := [some (rv l0), some (rv l1), some (rv l2), some (rv l3), some (iv l4), none, none, none]) ⟨rfl, rfl, rfl, rfl, rfl, trivial⟩ h
      · replace h := h.2 c27
        refine v_iconst (pc := 674) (dk dt_L_law_8 28 rfl) ⟨by decide, by decide⟩ ?_
        exact v_zret (pc := 675) (dk dt_L_law_8 29 rfl) rfl (Or.inl rfl) h
  · replace h := h.2 c23
    refine v_iconst (pc := 657) (dk dt_L_law_8 17 rfl) ⟨by decide, by decide⟩ ?_
    exact v_zret (pc := 658) (dk dt_L_law_8 18 rfl) rfl (Or.inl rfl) h
set_option maxRecDepth 20000 in
set_option maxHeartbeats 1000000 in
theorem b_L_law_679 {E : EE} {l0 l1 l2 l3 l4 : Int} {G : Gt} {c s : Nat} {Q X : Int → Gt → Prop} (h : (i32 (l4 + 1) ∧ (gcl G l0 = 15 ∨ gcl G l0 = 19) ∧ 0 ≤ (l4 + 1) ∧ (l4 + 1) < gln G l0 ∧ i32 (l4 + 2) ∧ (gcl G l0 = 15 ∨ gcl G l0 = 19) ∧ 0 ≤ (l4 + 2) ∧ (l4 + 2) < gln G l0 ∧ CallH E M_L_bits [rv l1, iv (gel G l0 (l4 + 1)), iv (gel G l0 (l4 + 2)), rv l3] G c s (fun r9 G10 c11 s12 => i32 (l4 + 1) ∧ (gcl G10 l0 = 15 ∨ gcl G10 l0 = 19) ∧ 0 ≤ (l4 + 1) ∧ (l4 + 1) < gln G10 l0 ∧ i32 (l4 + 2) ∧ (gcl G10 l0 = 15 ∨ gcl G10 l0 = 19) ∧ 0 ≤ (l4 + 2) ∧ (l4 + 2) < gln G10 l0 ∧ gcl G10 l2 = 13 ∧ Call E M_X12_bits [rv l2, iv (gel G10 l0 (l4 + 1)), iv (gel G10 l0 (l4 + 2))] G10 c11 s12 X (fun r22 G23 c24 s25 => gcl G23 l2 = 13 ∧ Call E M_X12_thrown [rv l2] G23 c24 s25 X (fun r27 G28 c29 s30 => ((r27 = r9 → ((r9 ≠ 0 → V E M_L_law 1893 [some (rv l0), some (rv l1), some (rv l2), some (rv l3), some (iv l4), none, none, none] [] G28 c29 s30 Q X) ∧ (r9 = 0 → (gcl G28 l3 = 16 ∧ 0 < gln G28 l3 ∧ (((gel G28 l3 0) = r22 → V E M_L_law 1893 [some (rv l0), some (rv l1), some (rv l2), some (rv l3), some (iv l4), none, none, none] [] G28 c29 s30 Q X) ∧ ((gel G28 l3 0) ≠ r22 → Q 0 G28)))))) ∧ (r27 ≠ r9 → Q 0 G28))))))) : V E M_L_law 679 [some (rv l0), some (rv l1), some (rv l2), some (rv l3), some (iv l4), none, none, none] [] G c s Q X := by
  refine v_aload_n (pc := 679) (dk dt_L_law_8 31 rfl) rfl rfl ?_
  refine v_aload_n (pc := 680) (dk dt_L_law_8 32 rfl) rfl rfl ?_
  refine v_iload (pc := 681) (dk dt_L_law_8 33 rfl) rfl ?_
  refine v_iconst (pc := 683) (dk dt_L_law_8 34 rfl) ⟨by decide, by decide⟩ ?_
  obtain ⟨v1, h⟩ := h
  refine v_iadd (pc := 684) (dk dt_L_law_8 35 rfl) v1 ?_
  obtain ⟨v2, h⟩ := h
  obtain ⟨v3, h⟩ := h
  obtain ⟨v4, h⟩ := h
  refine v_iald (pc := 685) (dk dt_L_law_8 36 rfl) v2 v3 v4 (fun _ => ?_)
  refine v_aload_n (pc := 686) (dk dt_L_law_8 37 rfl) rfl rfl ?_
  refine v_iload (pc := 687) (dk dt_L_law_8 38 rfl) rfl ?_
  refine v_iconst (pc := 689) (dk dt_L_law_8 39 rfl) ⟨by decide, by decide⟩ ?_
  obtain ⟨v5, h⟩ := h
  refine v_iadd (pc := 690) (dk dt_L_law_9 0 rfl) v5 ?_
  obtain ⟨v6, h⟩ := h
  obtain ⟨v7, h⟩ := h
  obtain ⟨v8, h⟩ := h
  refine v_iald (pc := 691) (dk dt_L_law_9 1 rfl) v6 v7 v8 (fun _ => ?_)
  refine v_aload_n (pc := 692) (dk dt_L_law_9 2 rfl) rfl rfl ?_
  refine v_csHI (As := [rv l1, iv (gel G l0 (l4 + 1)), iv (gel G l0 (l4 + 2)), rv l3]) (stk := []) (pc := 693) (dk dt_L_law_9 3 rfl) ml_L_138 rfl rfl (Nat.le_of_ble_eq_true rfl) rfl rfl (CallH.mono h (fun r9 G10 c11 s12 h => ?_))
  refine v_istore (pc := 696) (ls' := [some (rv l0), some (rv l1), some (rv l2), some (rv l3), some (iv l4), some (iv r9), none, none]) (dk dt_L_law_9 4 rfl) (Nat.le_of_ble_eq_true rfl) rfl ?_
  refine v_aload_n (pc := 698) (dk dt_L_law_9 5 rfl) rfl rfl ?_
  refine v_aload_n (pc := 699) (dk dt_L_law_9 6 rfl) rfl rfl ?_
  refine v_iload (pc := 700) (dk dt_L_law_9 7 rfl) rfl ?_
  refine v_iconst (pc := 702) (dk dt_L_law_9 8 rfl) ⟨by decide, by decide⟩ ?_
  obtain ⟨v13, h⟩ := h
  refine v_iadd (pc := 703) (dk dt_L_law_9 9 rfl) v13 ?_
  obtain ⟨v14, h⟩ := h
  obtain ⟨v15, h⟩ := h
  obtain ⟨v16, h⟩ := h
  refine v_iald (pc := 704) (dk dt_L_law_9 10 rfl) v14 v15 v16 (fun _ => ?_)
  refine v_aload_n (pc := 705) (dk dt_L_law_9 11 rfl) rfl rfl ?_
  refine v_iload (pc := 706) (dk dt_L_law_9 12 rfl) rfl ?_
  refine v_iconst (pc := 708) (dk dt_L_law_9 13 rfl) ⟨by decide, by decide⟩ ?_
  obtain ⟨v17, h⟩ := h
  refine v_iadd (pc := 709) (dk dt_L_law_9 14 rfl) v17 ?_
  obtain ⟨v18, h⟩ := h
  obtain ⟨v19, h⟩ := h
  obtain ⟨v20, h⟩ := h
  refine v_iald (pc := 710) (dk dt_L_law_9 15 rfl) v18 v19 v20 (fun _ => ?_)
  obtain ⟨v21, h⟩ := h
  refine v_cvI (c := 12) (As := [iv (gel G10 l0 (l4 + 1)), iv (gel G10 l0 (l4 + 2))]) (stk := []) (pc := 711) (dk dt_L_law_9 16 rfl) ml_L_141 rfl rfl (Nat.le_of_ble_eq_true rfl) rfl ⟨by decide, rfl⟩ v21 rfl (Call.mono h (fun r22 G23 c24 s25 h => ?_))
  refine v_istore (pc := 714) (ls' := [some (rv l0), some (rv l1), some (rv l2), some (rv l3), some (iv l4), some (iv r9), some (iv r22), none]) (dk dt_L_law_9 17 rfl) (Nat.le_of_ble_eq_true rfl) rfl ?_
  refine v_aload_n (pc := 716) (dk dt_L_law_9 18 rfl) rfl rfl ?_
  obtain ⟨v26, h⟩ := h
  refine v_cvI (c := 12) (As := []) (stk := []) (pc := 717) (dk dt_L_law_9 19 rfl) ml_L_102 rfl rfl (Nat.le_of_ble_eq_true rfl) rfl ⟨by decide, rfl⟩ v26 rfl (Call.mono h (fun r27 G28 c29 s30 h => ?_))
  refine v_iload (pc := 720) (dk dt_L_law_9 20 rfl) rfl ?_
  refine v_icmp_eq (pc := 722) (tgt := 727) (dk dt_L_law_9 21 rfl) (by decide) (fun c31 => ?_) (fun c31 => ?_)
  · replace h := h.1 c31
    refine v_iload (pc := 727) (dk dt_L_law_9 24 rfl) rfl ?_
    refine v_if_ne (pc := 729) (tgt := 744) (dk dt_L_law_9 25 rfl) (by decide) (fun c32 => ?_) (fun c32 => ?_)
    · replace h := h.1 c32
      refine v_goto (pc := 744) (tgt := 1893) (dk dt_L_law_9 35 rfl) (by decide) ?_
      exact v_less2 (ls' := [some (rv l0), some (rv l1), some (rv l2), some (rv l3), some (iv l4), none, none, none]) ⟨rfl, rfl, rfl, rfl, rfl, trivial⟩ h
    · replace h := h.2 c32
      refine v_aload_n (pc := 732) (dk dt_L_law_9 26 rfl) rfl rfl ?_
      refine v_iconst (pc := 733) (dk dt_L_law_9 27 rfl) ⟨by decide, by decide⟩ ?_
      obtain ⟨v33, h⟩ := h
      obtain ⟨v34, h⟩ := h
      refine v_lald (pc := 734) (dk dt_L_law_9 28 rfl) v33 (by decide) v34 (fun _ => ?_)
      refine v_iload (pc := 735) (dk dt_L_law_9 29 rfl) rfl ?_
      refine v_i2l (pc := 737) (dk dt_L_law_9 30 rfl) ?_
      refine v_lcmp_eq (pc := 738) (tgt := 744) (dk dt_L_law_9 31 rfl) (dk dt_L_law_9 32 rfl) (by decide) (fun c35 => ?_) (fun c35 => ?_)
      · replace h := h.1 c35
        refine v_goto (pc := 744) (tgt := 1893) (dk dt_L_law_9 35 rfl) (by decide) ?_
        exact v_less2 (ls' := [some (rv l0), some (rv l1), some (rv l2), some (rv l3), some (iv l4), none, none, none]) ⟨rfl, rfl, rfl, rfl, rfl, trivial⟩ h
      · replace h := h.2 c35
        refine v_iconst (pc := 742) (dk dt_L_law_9 33 rfl) ⟨by decide, by decide⟩ ?_
        exact v_zret (pc := 743) (dk dt_L_law_9 34 rfl) rfl (Or.inl rfl) h
  · replace h := h.2 c31
    refine v_iconst (pc := 725) (dk dt_L_law_9 22 rfl) ⟨by decide, by decide⟩ ?_
    exact v_zret (pc := 726) (dk dt_L_law_9 23 rfl) rfl (Or.inl rfl) h
set_option maxRecDepth 20000 in
set_option maxHeartbeats 1000000 in
theorem b_L_law_747 {E : EE} {l0 l1 l2 l3 l4 : Int} {G : Gt} {c s : Nat} {Q X : Int → Gt → Prop} (h : (i32 (l4 + 1) ∧ (gcl G l0 = 15 ∨ gcl G l0 = 19) ∧ 0 ≤ (l4 + 1) ∧ (l4 + 1) < gln G l0 ∧ i32 (l4 + 2) ∧ (gcl G l0 = 15 ∨ gcl G l0 = 19) ∧ 0 ≤ (l4 + 2) ∧ (l4 + 2) < gln G l0 ∧ i32 (l4 + 3) ∧ (gcl G l0 = 15 ∨ gcl G l0 = 19) ∧ 0 ≤ (l4 + 3) ∧ (l4 + 3) < gln G l0 ∧ i32 (l4 + 4) ∧ (gcl G l0 = 15 ∨ gcl G l0 = 19) ∧ 0 ≤ (l4 + 4) ∧ (l4 + 4) < gln G l0 ∧ CallH E M_L_select [rv l1, iv (gel G l0 (l4 + 1)), iv (gel G l0 (l4 + 2)), iv (gel G l0 (l4 + 3)), iv (gel G l0 (l4 + 4)), rv l3] G c s (fun r17 G18 c19 s20 => i32 (l4 + 1) ∧ (gcl G18 l0 = 15 ∨ gcl G18 l0 = 19) ∧ 0 ≤ (l4 + 1) ∧ (l4 + 1) < gln G18 l0 ∧ i32 (l4 + 2) ∧ (gcl G18 l0 = 15 ∨ gcl G18 l0 = 19) ∧ 0 ≤ (l4 + 2) ∧ (l4 + 2) < gln G18 l0 ∧ i32 (l4 + 3) ∧ (gcl G18 l0 = 15 ∨ gcl G18 l0 = 19) ∧ 0 ≤ (l4 + 3) ∧ (l4 + 3) < gln G18 l0 ∧ i32 (l4 + 4) ∧ (gcl G18 l0 = 15 ∨ gcl G18 l0 = 19) ∧ 0 ≤ (l4 + 4) ∧ (l4 + 4) < gln G18 l0 ∧ gcl G18 l2 = 13 ∧ Call E M_X12_select [rv l2, iv (gel G18 l0 (l4 + 1)), iv (gel G18 l0 (l4 + 2)), iv (gel G18 l0 (l4 + 3)), iv (gel G18 l0 (l4 + 4))] G18 c19 s20 X (fun r38 G39 c40 s41 => gcl G39 l2 = 13 ∧ Call E M_X12_thrown [rv l2] G39 c40 s41 X (fun r43 G44 c45 s46 => ((r43 = r17 → ((r17 ≠ 0 → V E M_L_law 1893 [some (rv l0), some (rv l1), some (rv l2), some (rv l3), some (iv l4), none, none, none] [] G44 c45 s46 Q X) ∧ (r17 = 0 → (gcl G44 l3 = 16 ∧ 0 < gln G44 l3 ∧ (((gel G44 l3 0) = r38 → V E M_L_law 1893 [some (rv l0), some (rv l1), some (rv l2), some (rv l3), some (iv l4), none, none, none] [] G44 c45 s46 Q X) ∧ ((gel G44 l3 0) ≠ r38 → Q 0 G44)))))) ∧ (r43 ≠ r17 → Q 0 G44))))))) : V E M_L_law 747 [some (rv l0), some (rv l1), some (rv l2), some (rv l3), some (iv l4), none, none, none] [] G c s Q X := by
  refine v_aload_n (pc := 747) (dk dt_L_law_9 36 rfl) rfl rfl ?_
  refine v_aload_n (pc := 748) (dk dt_L_law_9 37 rfl) rfl rfl ?_
  refine v_iload (pc := 749) (dk dt_L_law_9 38 rfl) rfl ?_
  refine v_iconst (pc := 751) (dk dt_L_law_9 39 rfl) ⟨by decide, by decide⟩ ?_
  obtain ⟨v1, h⟩ := h
  refine v_iadd (pc := 752) (dk dt_L_law_10 0 rfl) v1 ?_
  obtain ⟨v2, h⟩ := h
  obtain ⟨v3, h⟩ := h
  obtain ⟨v4, h⟩ := h
  refine v_iald (pc := 753) (dk dt_L_law_10 1 rfl) v2 v3 v4 (fun _ => ?_)
  refine v_aload_n (pc := 754) (dk dt_L_law_10 2 rfl) rfl rfl ?_
  refine v_iload (pc := 755) (dk dt_L_law_10 3 rfl) rfl ?_
  refine v_iconst (pc := 757) (dk dt_L_law_10 4 rfl) ⟨by decide, by decide⟩ ?_
  obtain ⟨v5, h⟩ := h
  refine v_iadd (pc := 758) (dk dt_L_law_10 5 rfl) v5 ?_
  obtain ⟨v6, h⟩ := h
  obtain ⟨v7, h⟩ := h
  obtain ⟨v8, h⟩ := h
  refine v_iald (pc := 759) (dk dt_L_law_10 6 rfl) v6 v7 v8 (fun _ => ?_)
  refine v_aload_n (pc := 760) (dk dt_L_law_10 7 rfl) rfl rfl ?_
  refine v_iload (pc := 761) (dk dt_L_law_10 8 rfl) rfl ?_
  refine v_iconst (pc := 763) (dk dt_L_law_10 9 rfl) ⟨by decide, by decide⟩ ?_
  obtain ⟨v9, h⟩ := h
  refine v_iadd (pc := 764) (dk dt_L_law_10 10 rfl) v9 ?_
  obtain ⟨v10, h⟩ := h
  obtain ⟨v11, h⟩ := h
  obtain ⟨v12, h⟩ := h
  refine v_iald (pc := 765) (dk dt_L_law_10 11 rfl) v10 v11 v12 (fun _ => ?_)
  refine v_aload_n (pc := 766) (dk dt_L_law_10 12 rfl) rfl rfl ?_
  refine v_iload (pc := 767) (dk dt_L_law_10 13 rfl) rfl ?_
  refine v_iconst (pc := 769) (dk dt_L_law_10 14 rfl) ⟨by decide, by decide⟩ ?_
  obtain ⟨v13, h⟩ := h
  refine v_iadd (pc := 770) (dk dt_L_law_10 15 rfl) v13 ?_
  obtain ⟨v14, h⟩ := h
  obtain ⟨v15, h⟩ := h
  obtain ⟨v16, h⟩ := h
  refine v_iald (pc := 771) (dk dt_L_law_10 16 rfl) v14 v15 v16 (fun _ => ?_)
  refine v_aload_n (pc := 772) (dk dt_L_law_10 17 rfl) rfl rfl ?_
  refine v_csHI (As := [rv l1, iv (gel G l0 (l4 + 1)), iv (gel G l0 (l4 + 2)), iv (gel G l0 (l4 + 3)), iv (gel G l0 (l4 + 4)), rv l3]) (stk := []) (pc := 773) (dk dt_L_law_10 18 rfl) ml_L_142 rfl rfl (Nat.le_of_ble_eq_true rfl) rfl rfl (CallH.mono h (fun r17 G18 c19 s20 h => ?_))
  refine v_istore (pc := 776) (ls' := [some (rv l0), some (rv l1), some (rv l2), some (rv l3), some (iv l4), some (iv r17), none, none]) (dk dt_L_law_10 19 rfl) (Nat.le_of_ble_eq_true rfl) rfl ?_
  refine v_aload_n (pc := 778) (dk dt_L_law_10 20 rfl) rfl rfl ?_
  refine v_aload_n (pc := 779) (dk dt_L_law_10 21 rfl) rfl rfl ?_
  refine v_iload (pc := 780) (dk dt_L_law_10 22 rfl) rfl ?_
  refine v_iconst (pc := 782) (dk dt_L_law_10 23 rfl) ⟨by decide, by decide⟩ ?_
  obtain ⟨v21, h⟩ := h
  refine v_iadd (pc := 783) (dk dt_L_law_10 24 rfl) v21 ?_
  obtain ⟨v22, h⟩ := h
  obtain ⟨v23, h⟩ := h
  obtain ⟨v24, h⟩ := h
  refine v_iald (pc := 784) (dk dt_L_law_10 25 rfl) v22 v23 v24 (fun _ => ?_)
  refine v_aload_n (pc := 785) (dk dt_L_law_10 26 rfl) rfl rfl ?_
  refine v_iload (pc := 786) (dk dt_L_law_10 27 rfl) rfl ?_
  refine v_iconst (pc := 788) (dk dt_L_law_10 28 rfl) ⟨by decide, by decide⟩ ?_
  obtain ⟨v25, h⟩ := h
  refine v_iadd (pc := 789) (dk dt_L_law_10 29 rfl) v25 ?_
  obtain ⟨v26, h⟩ := h
  obtain ⟨v27, h⟩ := h
  obtain ⟨v28, h⟩ := h
  refine v_iald (pc := 790) (dk dt_L_law_10 30 rfl) v26 v27 v28 (fun _ => ?_)
  refine v_aload_n (pc := 791) (dk dt_L_law_10 31 rfl) rfl rfl ?_
  refine v_iload (pc := 792) (dk dt_L_law_10 32 rfl) rfl ?_
  refine v_iconst (pc := 794) (dk dt_L_law_10 33 rfl) ⟨by decide, by decide⟩ ?_
  obtain ⟨v29, h⟩ := h
  refine v_iadd (pc := 795) (dk dt_L_law_10 34 rfl) v29 ?_
  obtain ⟨v30, h⟩ := h
  obtain ⟨v31, h⟩ := h
  obtain ⟨v32, h⟩ := h
  refine v_iald (pc := 796) (dk dt_L_law_10 35 rfl) v30 v31 v32 (fun _ => ?_)
  refine v_aload_n (pc := 797) (dk dt_L_law_10 36 rfl) rfl rfl ?_
  refine v_iload (pc := 798) (dk dt_L_law_10 37 rfl) rfl ?_
  refine v_iconst (pc := 800) (dk dt_L_law_10 38 rfl) ⟨by decide, by decide⟩ ?_
  obtain ⟨v33, h⟩ := h
  refine v_iadd (pc := 801) (dk dt_L_law_10 39 rfl) v33 ?_
  obtain ⟨v34, h⟩ := h
  obtain ⟨v35, h⟩ := h
  obtain ⟨v36, h⟩ := h
  refine v_iald (pc := 802) (dk dt_L_law_11 0 rfl) v34 v35 v36 (fun _ => ?_)
  obtain ⟨v37, h⟩ := h
  refine v_cvI (c := 12) (As := [iv (gel G18 l0 (l4 + 1)), iv (gel G18 l0 (l4 + 2)), iv (gel G18 l0 (l4 + 3)), iv (gel G18 l0 (l4 + 4))]) (stk := []) (pc := 803) (dk dt_L_law_11 1 rfl) ml_L_145 rfl rfl (Nat.le_of_ble_eq_true rfl) rfl ⟨by decide, rfl⟩ v37 rfl (Call.mono h (fun r38 G39 c40 s41 h => ?_))
  refine v_istore (pc := 806) (ls' := [some (rv l0), some (rv l1), some (rv l2), some (rv l3), some (iv l4), some (iv r17), some (iv r38), none]) (dk dt_L_law_11 2 rfl) (Nat.le_of_ble_eq_true rfl) rfl ?_
  refine v_aload_n (pc := 808) (dk dt_L_law_11 3 rfl) rfl rfl ?_
  obtain ⟨v42, h⟩ := h
  refine v_cvI (c := 12) (As := []) (stk := []) (pc := 809) (dk dt_L_law_11 4 rfl) ml_L_102 rfl rfl (Nat.le_of_ble_eq_true rfl) rfl ⟨by decide, rfl⟩ v42 rfl (Call.mono h (fun r43 G44 c45 s46 h => ?_))
  refine v_iload (pc := 812) (dk dt_L_law_11 5 rfl) rfl ?_
  refine v_icmp_eq (pc := 814) (tgt := 819) (dk dt_L_law_11 6 rfl) (by decide) (fun c47 => ?_) (fun c47 => ?_)
  · replace h := h.1 c47
    refine v_iload (pc := 819) (dk dt_L_law_11 9 rfl) rfl ?_
    refine v_if_ne (pc := 821) (tgt := 836) (dk dt_L_law_11 10 rfl) (by decide) (fun c48 => ?_) (fun c48 => ?_)
    · replace h := h.1 c48
      refine v_goto (pc := 836) (tgt := 1893) (dk dt_L_law_11 20 rfl) (by decide) ?_
      exact v_less2 (ls' := [some (rv l0), some (rv l1), some (rv l2), some (rv l3), some (iv l4), none, none, none]) ⟨rfl, rfl, rfl, rfl, rfl, trivial⟩ h
    · replace h := h.2 c48
      refine v_aload_n (pc := 824) (dk dt_L_law_11 11 rfl) rfl rfl ?_
      refine v_iconst (pc := 825) (dk dt_L_law_11 12 rfl) ⟨by decide, by decide⟩ ?_
      obtain ⟨v49, h⟩ := h
      obtain ⟨v50, h⟩ := h
      refine v_lald (pc := 826) (dk dt_L_law_11 13 rfl) v49 (by decide) v50 (fun _ => ?_)
      refine v_iload (pc := 827) (dk dt_L_law_11 14 rfl) rfl ?_
      refine v_i2l (pc := 829) (dk dt_L_law_11 15 rfl) ?_
      refine v_lcmp_eq (pc := 830) (tgt := 836) (dk dt_L_law_11 16 rfl) (dk dt_L_law_11 17 rfl) (by decide) (fun c51 => ?_) (fun c51 => ?_)
      · replace h := h.1 c51
        refine v_goto (pc := 836) (tgt := 1893) (dk dt_L_law_11 20 rfl) (by decide) ?_
        exact v_less2 (ls' := [some (rv l0), some (rv l1), some (rv l2), some (rv l3), some (iv l4), none, none, none]) ⟨rfl, rfl, rfl, rfl, rfl, trivial⟩ h
      · replace h := h.2 c51
        refine v_iconst (pc := 834) (dk dt_L_law_11 18 rfl) ⟨by decide, by decide⟩ ?_
        exact v_zret (pc := 835) (dk dt_L_law_11 19 rfl) rfl (Or.inl rfl) h
  · replace h := h.2 c47
    refine v_iconst (pc := 817) (dk dt_L_law_11 7 rfl) ⟨by decide, by decide⟩ ?_
    exact v_zret (pc := 818) (dk dt_L_law_11 8 rfl) rfl (Or.inl rfl) h
set_option maxRecDepth 20000 in
set_option maxHeartbeats 1000000 in
theorem b_L_law_839 {E : EE} {l0 l1 l2 l3 l4 : Int} {G : Gt} {c s : Nat} {Q X : Int → Gt → Prop} (h : (i32 (l4 + 1) ∧ (gcl G l0 = 15 ∨ gcl G l0 = 19) ∧ 0 ≤ (l4 + 1) ∧ (l4 + 1) < gln G l0 ∧ i32 (l4 + 2) ∧ (gcl G l0 = 15 ∨ gcl G l0 = 19) ∧ 0 ≤ (l4 + 2) ∧ (l4 + 2) < gln G l0 ∧ i32 (l4 + 3) ∧ (gcl G l0 = 15 ∨ gcl G l0 = 19) ∧ 0 ≤ (l4 + 3) ∧ (l4 + 3) < gln G l0 ∧ CallH E M_L_word [rv l1, iv (gel G l0 (l4 + 1)), iv (gel G l0 (l4 + 2)), iv (gel G l0 (l4 + 3)), rv l3] G c s (fun r13 G14 c15 s16 => i32 (l4 + 1) ∧ (gcl G14 l0 = 15 ∨ gcl G14 l0 = 19) ∧ 0 ≤ (l4 + 1) ∧ (l4 + 1) < gln G14 l0 ∧ i32 (l4 + 2) ∧ (gcl G14 l0 = 15 ∨ gcl G14 l0 = 19) ∧ 0 ≤ (l4 + 2) ∧ (l4 + 2) < gln G14 l0 ∧ i32 (l4 + 3) ∧ (gcl G14 l0 = 15 ∨ gcl G14 l0 = 19) ∧ 0 ≤ (l4 + 3) ∧ (l4 + 3) < gln G14 l0 ∧ gcl G14 l2 = 13 ∧ Call E M_X12_word [rv l2, iv (gel G14 l0 (l4 + 1)), iv (gel G14 l0 (l4 + 2)), iv (gel G14 l0 (l4 + 3))] G14 c15 s16 X (fun r30 G31 c32 s33 => gcl G31 l2 = 13 ∧ Call E M_X12_thrown [rv l2] G31 c32 s33 X (fun r35 G36 c37 s38 => ((r35 = r13 → ((r13 ≠ 0 → V E M_L_law 1893 [some (rv l0), some (rv l1), some (rv l2), some (rv l3), some (iv l4), none, none, none] [] G36 c37 s38 Q X) ∧ (r13 = 0 → (gcl G36 l3 = 16 ∧ 0 < gln G36 l3 ∧ (((gel G36 l3 0) = r30 → V E M_L_law 1893 [some (rv l0), some (rv l1), some (rv l2), some (rv l3), some (iv l4), none, none, none] [] G36 c37 s38 Q X) ∧ ((gel G36 l3 0) ≠ r30 → Q 0 G36)))))) ∧ (r35 ≠ r13 → Q 0 G36))))))) : V E M_L_law 839 [some (rv l0), some (rv l1), some (rv l2), some (rv l3), some (iv l4), none, none, none] [] G c s Q X := by
  refine v_aload_n (pc := 839) (dk dt_L_law_11 21 rfl) rfl rfl ?_
  refine v_aload_n (pc := 840) (dk dt_L_law_11 22 rfl) rfl rfl ?_
  refine v_iload (pc := 841) (dk dt_L_law_11 23 rfl) rfl ?_
  refine v_iconst (pc := 843) (dk dt_L_law_11 24 rfl) ⟨by decide, by decide⟩ ?_
  obtain ⟨v1, h⟩ := h
  refine v_iadd (pc := 844) (dk dt_L_law_11 25 rfl) v1 ?_
  obtain ⟨v2, h⟩ := h
  obtain ⟨v3, h⟩ := h
  obtain ⟨v4, h⟩ := h
  refine v_iald (pc := 845) (dk dt_L_law_11 26 rfl) v2 v3 v4 (fun _ => ?_)
  refine v_aload_n (pc := 846) (dk dt_L_law_11 27 rfl) rfl rfl ?_
  refine v_iload (pc := 847) (dk dt_L_law_11 28 rfl) rfl ?_
  refine v_iconst (pc := 849) (dk dt_L_law_11 29 rfl) ⟨by decide, by decide⟩ ?_
  obtain ⟨v5, h⟩ := h
  refine v_iadd (pc := 850) (dk dt_L_law_11 30 rfl) v5 ?_
  obtain ⟨v6, h⟩ := h
  obtain ⟨v7, h⟩ := h
  obtain ⟨v8, h⟩ := h
  refine v_iald (pc := 851) (dk dt_L_law_11 31 rfl) v6 v7 v8 (fun _ => ?_)
  refine v_aload_n (pc := 852) (dk dt_L_law_11 32 rfl) rfl rfl ?_
  refine v_iload (pc := 853) (dk dt_L_law_11 33 rfl) rfl ?_
  refine v_iconst (pc := 855) (dk dt_L_law_11 34 rfl) ⟨by decide, by decide⟩ ?_
  obtain ⟨v9, h⟩ := h
  refine v_iadd (pc := 856) (dk dt_L_law_11 35 rfl) v9 ?_
  obtain ⟨v10, h⟩ := h
  obtain ⟨v11, h⟩ := h
  obtain ⟨v12, h⟩ := h
  refine v_iald (pc := 857) (dk dt_L_law_11 36 rfl) v10 v11 v12 (fun _ => ?_)
  refine v_aload_n (pc := 858) (dk dt_L_law_11 37 rfl) rfl rfl ?_
  refine v_csHI (As := [rv l1, iv (gel G l0 (l4 + 1)), iv (gel G l0 (l4 + 2)), iv (gel G l0 (l4 + 3)), rv l3]) (stk := []) (pc := 859) (dk dt_L_law_11 38 rfl) ml_L_146 rfl rfl (Nat.le_of_ble_eq_true rfl) rfl rfl (CallH.mono h (fun r13 G14 c15 s16 h => ?_))
  refine v_istore (pc := 862) (ls' := [some (rv l0), some (rv l1), some (rv l2), some (rv l3), some (iv l4), some (iv r13), none, none]) (dk dt_L_law_11 39 rfl) (Nat.le_of_ble_eq_true rfl) rfl ?_
  refine v_aload_n (pc := 864) (dk dt_L_law_12 0 rfl) rfl rfl ?_
  refine v_aload_n (pc := 865) (dk dt_L_law_12 1 rfl) rfl rfl ?_
  refine v_iload (pc := 866) (dk dt_L_law_12 2 rfl) rfl ?_
  refine v_iconst (pc := 868) (dk dt_L_law_12 3 rfl) ⟨by decide, by decide⟩ ?_
  obtain ⟨v17, h⟩ := h
  refine v_iadd (pc := 869) (dk dt_L_law_12 4 rfl) v17 ?_
  obtain ⟨v18, h⟩ := h
  obtain ⟨v19, h⟩ := h
  obtain ⟨v20, h⟩ := h
  refine v_iald (pc := 870) (dk dt_L_law_12 5 rfl) v18 v19 v20 (fun _ => ?_)
  refine v_aload_n (pc := 871) (dk dt_L_law_12 6 rfl) rfl rfl ?_
  refine v_iload (pc := 872) (dk dt_L_law_12 7 rfl) rfl ?_
  refine v_iconst (pc := 874) (dk dt_L_law_12 8 rfl) ⟨by decide, by decide⟩ ?_
  obtain ⟨v21, h⟩ := h
  refine v_iadd (pc := 875) (dk dt_L_law_12 9 rfl) v21 ?_
  obtain ⟨v22, h⟩ := h
  obtain ⟨v23, h⟩ := h
  obtain ⟨v24, h⟩ := h
  refine v_iald (pc := 876) (dk dt_L_law_12 10 rfl) v22 v23 v24 (fun _ => ?_)
  refine v_aload_n (pc := 877) (dk dt_L_law_12 11 rfl) rfl rfl ?_
  refine v_iload (pc := 878) (dk dt_L_law_12 12 rfl) rfl ?_
  refine v_iconst (pc := 880) (dk dt_L_law_12 13 rfl) ⟨by decide, by decide⟩ ?_
  obtain ⟨v25, h⟩ := h
  refine v_iadd (pc := 881) (dk dt_L_law_12 14 rfl) v25 ?_
  obtain ⟨v26, h⟩ := h
  obtain ⟨v27, h⟩ := h
  obtain ⟨v28, h⟩ := h
  refine v_iald (pc := 882) (dk dt_L_law_12 15 rfl) v26 v27 v28 (fun _ => ?_)
  obtain ⟨v29, h⟩ := h
  refine v_cvI (c := 12) (As := [iv (gel G14 l0 (l4 + 1)), iv (gel G14 l0 (l4 + 2)), iv (gel G14 l0 (l4 + 3))]) (stk := []) (pc := 883) (dk dt_L_law_12 16 rfl) ml_L_148 rfl rfl (Nat.le_of_ble_eq_true rfl) rfl ⟨by decide, rfl⟩ v29 rfl (Call.mono h (fun r30 G31 c32 s33 h => ?_))
  refine v_istore (pc := 886) (ls' := [some (rv l0), some (rv l1), some (rv l2), some (rv l3), some (iv l4), some (iv r13), some (iv r30), none]) (dk dt_L_law_12 17 rfl) (Nat.le_of_ble_eq_true rfl) rfl ?_
  refine v_aload_n (pc := 888) (dk dt_L_law_12 18 rfl) rfl rfl ?_
  obtain ⟨v34, h⟩ := h
  refine v_cvI (c := 12) (As := []) (stk := []) (pc := 889) (dk dt_L_law_12 19 rfl) ml_L_102 rfl rfl (Nat.le_of_ble_eq_true rfl) rfl ⟨by decide, rfl⟩ v34 rfl (Call.mono h (fun r35 G36 c37 s38 h => ?_))
  refine v_iload (pc := 892) (dk dt_L_law_12 20 rfl) rfl ?_
  refine v_icmp_eq (pc := 894) (tgt := 899) (dk dt_L_law_12 21 rfl) (by decide) (fun c39 => ?_) (fun c39 => ?_)
  · replace h := h.1 c39
    refine v_iload (pc := 899) (dk dt_L_law_12 24 rfl) rfl ?_
    refine v_if_ne (pc := 901) (tgt := 916) (dk dt_L_law_12 25 rfl) (by decide) (fun c40 => ?_) (fun c40 => ?_)
    · replace h := h.1 c40
      refine v_goto (pc := 916) (tgt := 1893) (dk dt_L_law_12 35 rfl) (by decide) ?_
      exact v_less2 (ls' := [some (rv l0), some (rv l1), some (rv l2), some (rv l3), some (iv l4), none, none, none]) ⟨rfl, rfl, rfl, rfl, rfl, trivial⟩ h
    · replace h := h.2 c40
      refine v_aload_n (pc := 904) (dk dt_L_law_12 26 rfl) rfl rfl ?_
      refine v_iconst (pc := 905) (dk dt_L_law_12 27 rfl) ⟨by decide, by decide⟩ ?_
      obtain ⟨v41, h⟩ := h
      obtain ⟨v42, h⟩ := h
      refine v_lald (pc := 906) (dk dt_L_law_12 28 rfl) v41 (by decide) v42 (fun _ => ?_)
      refine v_iload (pc := 907) (dk dt_L_law_12 29 rfl) rfl ?_
      refine v_i2l (pc := 909) (dk dt_L_law_12 30 rfl) ?_
      refine v_lcmp_eq (pc := 910) (tgt := 916) (dk dt_L_law_12 31 rfl) (dk dt_L_law_12 32 rfl) (by decide) (fun c43 => ?_) (fun c43 => ?_)
      · replace h := h.1 c43
        refine v_goto (pc := 916) (tgt := 1893) (dk dt_L_law_12 35 rfl) (by decide) ?_
        exact v_less2 (ls' := [some (rv l0), some (rv l1), some (rv l2), some (rv l3), some (iv l4), none, none, none]) ⟨rfl, rfl, rfl, rfl, rfl, trivial⟩ h
      · replace h := h.2 c43
        refine v_iconst (pc := 914) (dk dt_L_law_12 33 rfl) ⟨by decide, by decide⟩ ?_
        exact v_zret (pc := 915) (dk dt_L_law_12 34 rfl) rfl (Or.inl rfl) h
  · replace h := h.2 c39
    refine v_iconst (pc := 897) (dk dt_L_law_12 22 rfl) ⟨by decide, by decide⟩ ?_
    exact v_zret (pc := 898) (dk dt_L_law_12 23 rfl) rfl (Or.inl rfl) h
set_option maxRecDepth 20000 in
set_option maxHeartbeats 1000000 in
theorem b_L_law_919 {E : EE} {l0 l1 l2 l3 l4 : Int} {G : Gt} {c s : Nat} {Q X : Int → Gt → Prop} (h : (gcl G l1 = 12 ∧ Call E M_X11_clear [rv l1] G c s X (fun r2 G3 c4 s5 => gcl G3 l2 = 13 ∧ Call E M_X12_clear [rv l2] G3 c4 s5 X (fun r7 G8 c9 s10 => ((r2 = r7 → V E M_L_law 1893 [some (rv l0), some (rv l1), some (rv l2), some (rv l3), some (iv l4), none, none, none] [] G8 c9 s10 Q X) ∧ (r2 ≠ r7 → Q 0 G8)))))) : V E M_L_law 919 [some (rv l0), some (rv l1), some (rv l2), some (rv l3), some (iv l4), none, none, none] [] G c s Q X := by
  refine v_aload_n (pc := 919) (dk dt_L_law_12 36 rfl) rfl rfl ?_
  obtain ⟨v1, h⟩ := h
  refine v_cvI (c := 11) (As := []) (stk := []) (pc := 920) (dk dt_L_law_12 37 rfl) ml_L_149 rfl rfl (Nat.le_of_ble_eq_true rfl) rfl ⟨by decide, rfl⟩ v1 rfl (Call.mono h (fun r2 G3 c4 s5 h => ?_))
  refine v_aload_n (pc := 923) (dk dt_L_law_12 38 rfl) rfl rfl ?_
  obtain ⟨v6, h⟩ := h
  refine v_cvI (c := 12) (As := []) (stk := [iv r2]) (pc := 924) (dk dt_L_law_12 39 rfl) ml_L_152 rfl rfl (Nat.le_of_ble_eq_true rfl) rfl ⟨by decide, rfl⟩ v6 rfl (Call.mono h (fun r7 G8 c9 s10 h => ?_))
  refine v_icmp_eq (pc := 927) (tgt := 1893) (dk dt_L_law_13 0 rfl) (by decide) (fun c11 => ?_) (fun c11 => ?_)
  · replace h := h.1 c11
    exact h
  · replace h := h.2 c11
    refine v_iconst (pc := 930) (dk dt_L_law_13 1 rfl) ⟨by decide, by decide⟩ ?_
    exact v_zret (pc := 931) (dk dt_L_law_13 2 rfl) rfl (Or.inl rfl) h
set_option maxRecDepth 20000 in
set_option maxHeartbeats 1000000 in
theorem b_L_law_932 {E : EE} {l0 l1 l2 l3 l4 : Int} {G : Gt} {c s : Nat} {Q X : Int → Gt → Prop} (h : (i32 (l4 + 1) ∧ (gcl G l0 = 15 ∨ gcl G l0 = 19) ∧ 0 ≤ (l4 + 1) ∧ (l4 + 1) < gln G l0 ∧ CallH E M_L_ask [rv l1, iv (gel G l0 (l4 + 1)), rv l3] G c s (fun r5 G6 c7 s8 => i32 (l4 + 1) ∧ (gcl G6 l0 = 15 ∨ gcl G6 l0 = 19) ∧ 0 ≤ (l4 + 1) ∧ (l4 + 1) < gln G6 l0 ∧ gcl G6 l2 = 13 ∧ Call E M_X12_ask [rv l2, iv (gel G6 l0 (l4 + 1))] G6 c7 s8 X (fun r14 G15 c16 s17 => gcl G15 l2 = 13 ∧ Call E M_X12_thrown [rv l2] G15 c16 s17 X (fun r19 G20 c21 s22 => ((r19 = r5 → ((r5 ≠ 0 → V E M_L_law 1893 [some (rv l0), some (rv l1), some (rv l2), some (rv l3), some (iv l4), none, none, none] [] G20 c21 s22 Q X) ∧ (r5 = 0 → (gcl G20 l3 = 16 ∧ 0 < gln G20 l3 ∧ (((gel G20 l3 0) = r14 → V E M_L_law 1893 [some (rv l0), some (rv l1), some (rv l2), some (rv l3), some (iv l4), none, none, none] [] G20 c21 s22 Q X) ∧ ((gel G20 l3 0) ≠ r14 → Q 0 G20)))))) ∧ (r19 ≠ r5 → Q 0 G20))))))) : V E M_L_law 932 [some (rv l0), some (rv l1), some (rv l2), some (rv l3), some (iv l4), none, none, none] [] G c s Q X := by
  refine v_aload_n (pc := 932) (dk dt_L_law_13 3 rfl) rfl rfl ?_
  refine v_aload_n (pc := 933) (dk dt_L_law_13 4 rfl) rfl rfl ?_
  refine v_iload (pc := 934) (dk dt_L_law_13 5 rfl) rfl ?_
  refine v_iconst (pc := 936) (dk dt_L_law_13 6 rfl) ⟨by decide, by decide⟩ ?_
  obtain ⟨v1, h⟩ := h
  refine v_iadd (pc := 937) (dk dt_L_law_13 7 rfl) v1 ?_
  obtain ⟨v2, h⟩ := h
  obtain ⟨v3, h⟩ := h
  obtain ⟨v4, h⟩ := h
  refine v_iald (pc := 938) (dk dt_L_law_13 8 rfl) v2 v3 v4 (fun _ => ?_)
  refine v_aload_n (pc := 939) (dk dt_L_law_13 9 rfl) rfl rfl ?_
  refine v_csHI (As := [rv l1, iv (gel G l0 (l4 + 1)), rv l3]) (stk := []) (pc := 940) (dk dt_L_law_13 10 rfl) ml_L_153 rfl rfl (Nat.le_of_ble_eq_true rfl) rfl rfl (CallH.mono h (fun r5 G6 c7 s8 h => ?_))
  refine v_istore (pc := 943) (ls' := [some (rv l0), some (rv l1), some (rv l2), some (rv l3), some (iv l4), some (iv r5), none, none]) (dk dt_L_law_13 11 rfl) (Nat.le_of_ble_eq_true rfl) rfl ?_
  refine v_aload_n (pc := 945) (dk dt_L_law_13 12 rfl) rfl rfl ?_
  refine v_aload_n (pc := 946) (dk dt_L_law_13 13 rfl) rfl rfl ?_
  refine v_iload (pc := 947) (dk dt_L_law_13 14 rfl) rfl ?_
  refine v_iconst (pc := 949) (dk dt_L_law_13 15 rfl) ⟨by decide, by decide⟩ ?_
  obtain ⟨v9, h⟩ := h
  refine v_iadd (pc := 950) (dk dt_L_law_13 16 rfl) v9 ?_
  obtain ⟨v10, h⟩ := h
  obtain ⟨v11, h⟩ := h
  obtain ⟨v12, h⟩ := h
  refine v_iald (pc := 951) (dk dt_L_law_13 17 rfl) v10 v11 v12 (fun _ => ?_)
  obtain ⟨v13, h⟩ := h
  refine v_cvI (c := 12) (As := [iv (gel G6 l0 (l4 + 1))]) (stk := []) (pc := 952) (dk dt_L_law_13 18 rfl) ml_L_155 rfl rfl (Nat.le_of_ble_eq_true rfl) rfl ⟨by decide, rfl⟩ v13 rfl (Call.mono h (fun r14 G15 c16 s17 h => ?_))
  refine v_istore (pc := 955) (ls' := [some (rv l0), some (rv l1), some (rv l2), some (rv l3), some (iv l4), some (iv r5), some (iv r14), none]) (dk dt_L_law_13 19 rfl) (Nat.le_of_ble_eq_true rfl) rfl ?_
  refine v_aload_n (pc := 957) (dk dt_L_law_13 20 rfl) rfl rfl ?_
  obtain ⟨v18, h⟩ := h
  refine v_cvI (c := 12) (As := []) (stk := []) (pc := 958) (dk dt_L_law_13 21 rfl) ml_L_102 rfl rfl (Nat.le_of_ble_eq_true rfl) rfl ⟨by decide, rfl⟩ v18 rfl (Call.mono h (fun r19 G20 c21 s22 h => ?_))
  refine v_iload (pc := 961) (dk dt_L_law_13 22 rfl) rfl ?_
  refine v_icmp_eq (pc := 963) (tgt := 968) (dk dt_L_law_13 23 rfl) (by decide) (fun c23 => ?_) (fun c23 => ?_)
  · replace h := h.1 c23
    refine v_iload (pc := 968) (dk dt_L_law_13 26 rfl) rfl ?_
    refine v_if_ne (pc := 970) (tgt := 985) (dk dt_L_law_13 27 rfl) (by decide) (fun c24 => ?_) (fun c24 => ?_)
    · replace h := h.1 c24
      refine v_goto (pc := 985) (tgt := 1893) (dk dt_L_law_13 37 rfl) (by decide) ?_
      exact v_less2 (ls' := [some (rv l0), some (rv l1), some (rv l2), some (rv l3), some (iv l4), none, none, none]) ⟨rfl, rfl, rfl, rfl, rfl, trivial⟩ h
    · replace h := h.2 c24
      refine v_aload_n (pc := 973) (dk dt_L_law_13 28 rfl) rfl rfl ?_
      refine v_iconst (pc := 974) (dk dt_L_law_13 29 rfl) ⟨by decide, by decide⟩ ?_
      obtain ⟨v25, h⟩ := h
      obtain ⟨v26, h⟩ := h
      refine v_lald (pc := 975) (dk dt_L_law_13 30 rfl) v25 (by decide) v26 (fun _ => ?_)
      refine v_iload (pc := 976) (dk dt_L_law_13 31 rfl) rfl ?_
      refine v_i2l (pc := 978) (dk dt_L_law_13 32 rfl) ?_
      refine v_lcmp_eq (pc := 979) (tgt := 985) (dk dt_L_law_13 33 rfl) (dk dt_L_law_13 34 rfl) (by decide) (fun c27 => ?_) (fun c27 => ?_)
      · replace h := h.1 c27
        refine v_goto (pc := 985) (tgt := 1893) (dk dt_L_law_13 37 rfl) (by decide) ?_
        exact v_less2 (ls' := [some (rv l0), some (rv l1), some (rv l2), some (rv l3), some (iv l4), none, none, none]) ⟨rfl, rfl, rfl, rfl, rfl, trivial⟩ h
      · replace h := h.2 c27
        refine v_iconst (pc := 983) (dk dt_L_law_13 35 rfl) ⟨by decide, by decide⟩ ?_
        exact v_zret (pc := 984) (dk dt_L_law_13 36 rfl) rfl (Or.inl rfl) h
  · replace h := h.2 c23
    refine v_iconst (pc := 966) (dk dt_L_law_13 24 rfl) ⟨by decide, by decide⟩ ?_
    exact v_zret (pc := 967) (dk dt_L_law_13 25 rfl) rfl (Or.inl rfl) h
set_option maxRecDepth 20000 in
set_option maxHeartbeats 1000000 in
theorem b_L_law_988 {E : EE} {l0 l1 l2 l3 l4 : Int} {G : Gt} {c s : Nat} {Q X : Int → Gt → Prop} (h : (i32 (l4 + 1) ∧ (gcl G l0 = 15 ∨ gcl G l0 = 19) ∧ 0 ≤ (l4 + 1) ∧ (l4 + 1) < gln G l0 ∧ CallH E M_L_value [rv l1, iv (gel G l0 (l4 + 1)), rv l3] G c s (fun r5 G6 c7 s8 => i32 (l4 + 1) ∧ (gcl G6 l0 = 15 ∨ gcl G6 l0 = 19) ∧ 0 ≤ (l4 + 1) ∧ (l4 + 1) < gln G6 l0 ∧ gcl G6 l2 = 13 ∧ Call E M_X12_value [rv l2, iv (gel G6 l0 (l4 + 1))] G6 c7 s8 X (fun r14 G15 c16 s17 => gcl G15 l2 = 13 ∧ Call E M_X12_thrown [rv l2] G15 c16 s17 X (fun r19 G20 c21 s22 => ((r19 = r5 → ((r5 ≠ 0 → V E M_L_law 1893 [some (rv l0), some (rv l1), some (rv l2), some (rv l3), some (iv l4), none, none, none] [] G20 c21 s22 Q X) ∧ (r5 = 0 → (gcl G20 l3 = 16 ∧ 0 < gln G20 l3 ∧ (((gel G20 l3 0) = r14 → V E M_L_law 1893 [some (rv l0), some (rv l1), some (rv l2), some (rv l3), some (iv l4), none, none, none] [] G20 c21 s22 Q X) ∧ ((gel G20 l3 0) ≠ r14 → Q 0 G20)))))) ∧ (r19 ≠ r5 → Q 0 G20))))))) : V E M_L_law 988 [some (rv l0), some (rv l1), some (rv l2), some (rv l3), some (iv l4), none, none, none] [] G c s Q X := by
  refine v_aload_n (pc := 988) (dk dt_L_law_13 38 rfl) rfl rfl ?_
  refine v_aload_n (pc := 989) (dk dt_L_law_13 39 rfl) rfl rfl ?_
  refine v_iload (pc := 990) (dk dt_L_law_14 0 rfl) rfl ?_
  refine v_iconst (pc := 992) (dk dt_L_law_14 1 rfl) ⟨by decide, by decide⟩ ?_
  obtain ⟨v1, h⟩ := h
  refine v_iadd (pc := 993) (dk dt_L_law_14 2 rfl) v1 ?_
  obtain ⟨v2, h⟩ := h
  obtain ⟨v3, h⟩ := h
  obtain ⟨v4, h⟩ := h
  refine v_iald (pc := 994) (dk dt_L_law_14 3 rfl) v2 v3 v4 (fun _ => ?_)
  refine v_aload_n (pc := 995) (dk dt_L_law_14 4 rfl) rfl rfl ?_
  refine v_csHI (As := [rv l1, iv (gel G l0 (l4 + 1)), rv l3]) (stk := []) (pc := 996) (dk dt_L_law_14 5 rfl) ml_L_156 rfl rfl (Nat.le_of_ble_eq_true rfl) rfl rfl (CallH.mono h (fun r5 G6 c7 s8 h => ?_))
  refine v_istore (pc := 999) (ls' := [some (rv l0), some (rv l1), some (rv l2), some (rv l3), some (iv l4), some (iv r5), none, none]) (dk dt_L_law_14 6 rfl) (Nat.le_of_ble_eq_true rfl) rfl ?_
  refine v_aload_n (pc := 1001) (dk dt_L_law_14 7 rfl) rfl rfl ?_
  refine v_aload_n (pc := 1002) (dk dt_L_law_14 8 rfl) rfl rfl ?_
  refine v_iload (pc := 1003) (dk dt_L_law_14 9 rfl) rfl ?_
  refine v_iconst (pc := 1005) (dk dt_L_law_14 10 rfl) ⟨by decide, by decide⟩ ?_
  obtain ⟨v9, h⟩ := h
  refine v_iadd (pc := 1006) (dk dt_L_law_14 11 rfl) v9 ?_
  obtain ⟨v10, h⟩ := h
  obtain ⟨v11, h⟩ := h
  obtain ⟨v12, h⟩ := h
  refine v_iald (pc := 1007) (dk dt_L_law_14 12 rfl) v10 v11 v12 (fun _ => ?_)
  obtain ⟨v13, h⟩ := h
  refine v_cvJ (c := 12) (As := [iv (gel G6 l0 (l4 + 1))]) (stk := []) (pc := 1008) (dk dt_L_law_14 13 rfl) ml_L_158 rfl rfl (Nat.le_of_ble_eq_true rfl) rfl ⟨by decide, rfl⟩ v13 rfl (Call.mono h (fun r14 G15 c16 s17 h => ?_))
  refine v_lstore (pc := 1011) (ls' := [some (rv l0), some (rv l1), some (rv l2), some (rv l3), some (iv l4), some (iv r5), some (jv r14), none]) (dk dt_L_law_14 14 rfl) (Nat.le_of_ble_eq_true rfl) rfl ?_
  refine v_aload_n (pc := 1013) (dk dt_L_law_14 15 rfl) rfl rfl ?_
  obtain ⟨v18, h⟩ := h
  refine v_cvI (c := 12) (As := []) (stk := []) (pc := 1014) (dk dt_L_law_14 16 rfl) ml_L_102 rfl rfl (Nat.le_of_ble_eq_true rfl) rfl ⟨by decide, rfl⟩ v18 rfl (Call.mono h (fun r19 G20 c21 s22 h => ?_))
  refine v_iload (pc := 1017) (dk dt_L_law_14 17 rfl) rfl ?_
  refine v_icmp_eq (pc := 1019) (tgt := 1024) (dk dt_L_law_14 18 rfl) (by decide) (fun c23 => ?_) (fun c23 => ?_)
  · replace h := h.1 c23
    refine v_iload (pc := 1024) (dk dt_L_law_14 21 rfl) rfl ?_
    refine v_if_ne (pc := 1026) (tgt := 1040) (dk dt_L_law_14 22 rfl) (by decide) (fun c24 => ?_) (fun c24 => ?_)
    · replace h := h.1 c24
      refine v_goto (pc := 1040) (tgt := 1893) (dk dt_L_law_14 31 rfl) (by decide) ?_
      exact v_less2 (ls' := [some (rv l0), some (rv l1), some (rv l2), some (rv l3), some (iv l4), none, none, none]) ⟨rfl, rfl, rfl, rfl, rfl, trivial⟩ h
    · replace h := h.2 c24
      refine v_aload_n (pc := 1029) (dk dt_L_law_14 23 rfl) rfl rfl ?_
      refine v_iconst (pc := 1030) (dk dt_L_law_14 24 rfl) ⟨by decide, by decide⟩ ?_
      obtain ⟨v25, h⟩ := h
      obtain ⟨v26, h⟩ := h
      refine v_lald (pc := 1031) (dk dt_L_law_14 25 rfl) v25 (by decide) v26 (fun _ => ?_)
      refine v_lload (pc := 1032) (dk dt_L_law_14 26 rfl) rfl ?_
      refine v_lcmp_eq (pc := 1034) (tgt := 1040) (dk dt_L_law_14 27 rfl) (dk dt_L_law_14 28 rfl) (by decide) (fun c27 => ?_) (fun c27 => ?_)
      · replace h := h.1 c27
        refine v_goto (pc := 1040) (tgt := 1893) (dk dt_L_law_14 31 rfl) (by decide) ?_
        exact v_less2 (ls' := [some (rv l0), some (rv l1), some (rv l2), some (rv l3), some (iv l4), none, none, none]) ⟨rfl, rfl, rfl, rfl, rfl, trivial⟩ h
      · replace h := h.2 c27
        refine v_iconst (pc := 1038) (dk dt_L_law_14 29 rfl) ⟨by decide, by decide⟩ ?_
        exact v_zret (pc := 1039) (dk dt_L_law_14 30 rfl) rfl (Or.inl rfl) h
  · replace h := h.2 c23
    refine v_iconst (pc := 1022) (dk dt_L_law_14 19 rfl) ⟨by decide, by decide⟩ ?_
    exact v_zret (pc := 1023) (dk dt_L_law_14 20 rfl) rfl (Or.inl rfl) h
set_option maxRecDepth 20000 in
set_option maxHeartbeats 1000000 in
theorem b_L_law_1043 {E : EE} {l0 l1 l2 l3 l4 : Int} {G : Gt} {c s : Nat} {Q X : Int → Gt → Prop} (h : (i32 (l4 + 1) ∧ (gcl G l0 = 15 ∨ gcl G l0 = 19) ∧ 0 ≤ (l4 + 1) ∧ (l4 + 1) < gln G l0 ∧ CallH E M_L_labelsOf [rv l1, iv (gel G l0 (l4 + 1)), rv l3] G c s (fun r5 G6 c7 s8 => i32 (l4 + 1) ∧ (gcl G6 l0 = 15 ∨ gcl G6 l0 = 19) ∧ 0 ≤ (l4 + 1) ∧ (l4 + 1) < gln G6 l0 ∧ gcl G6 l2 = 13 ∧ Call E M_X12_labelsOf [rv l2, iv (gel G6 l0 (l4 + 1))] G6 c7 s8 X (fun r14 G15 c16 s17 => gcl G15 l2 = 13 ∧ Call E M_X12_thrown [rv l2] G15 c16 s17 X (fun r19 G20 c21 s22 => ((r19 = r5 → ((r5 ≠ 0 → V E M_L_law 1893 [some (rv l0), some (rv l1), some (rv l2), some (rv l3), some (iv l4), none, none, none] [] G20 c21 s22 Q X) ∧ (r5 = 0 → (gcl G20 l3 = 16 ∧ 0 < gln G20 l3 ∧ (((gel G20 l3 0) = r14 → V E M_L_law 1893 [some (rv l0), some (rv l1), some (rv l2), some (rv l3), some (iv l4), none, none, none] [] G20 c21 s22 Q X) ∧ ((gel G20 l3 0) ≠ r14 → Q 0 G20)))))) ∧ (r19 ≠ r5 → Q 0 G20))))))) : V E M_L_law 1043 [some (rv l0), some (rv l1), some (rv l2), some (rv l3), some (iv l4), none, none, none] [] G c s Q X := by
  refine v_aload_n (pc := 1043) (dk dt_L_law_14 32 rfl) rfl rfl ?_
  refine v_aload_n (pc := 1044) (dk dt_L_law_14 33 rfl) rfl rfl ?_
  refine v_iload (pc := 1045) (dk dt_L_law_14 34 rfl) rfl ?_
  refine v_iconst (pc := 1047) (dk dt_L_law_14 35 rfl) ⟨by decide, by decide⟩ ?_
  obtain ⟨v1, h⟩ := h
  refine v_iadd (pc := 1048) (dk dt_L_law_14 36 rfl) v1 ?_
  obtain ⟨v2, h⟩ := h
  obtain ⟨v3, h⟩ := h
  obtain ⟨v4, h⟩ := h
  refine v_iald (pc := 1049) (dk dt_L_law_14 37 rfl) v2 v3 v4 (fun _ => ?_)
  refine v_aload_n (pc := 1050) (dk dt_L_law_14 38 rfl) rfl rfl ?_
  refine v_csHI (As := [rv l1, iv (gel G l0 (l4 + 1)), rv l3]) (stk := []) (pc := 1051) (dk dt_L_law_14 39 rfl) ml_L_159 rfl rfl (Nat.le_of_ble_eq_true rfl) rfl rfl (CallH.mono h (fun r5 G6 c7 s8 h => ?_))
  refine v_istore (pc := 1054) (ls' := [some (rv l0), some (rv l1), some (rv l2), some (rv l3), some (iv l4), some (iv r5), none, none]) (dk dt_L_law_15 0 rfl) (Nat.le_of_ble_eq_true rfl) rfl ?_
  refine v_aload_n (pc := 1056) (dk dt_L_law_15 1 rfl) rfl rfl ?_
  refine v_aload_n (pc := 1057) (dk dt_L_law_15 2 rfl) rfl rfl ?_
  refine v_iload (pc := 1058) (dk dt_L_law_15 3 rfl) rfl ?_
  refine v_iconst (pc := 1060) (dk dt_L_law_15 4 rfl) ⟨by decide, by decide⟩ ?_
  obtain ⟨v9, h⟩ := h
  refine v_iadd (pc := 1061) (dk dt_L_law_15 5 rfl) v9 ?_
  obtain ⟨v10, h⟩ := h
  obtain ⟨v11, h⟩ := h
  obtain ⟨v12, h⟩ := h
  refine v_iald (pc := 1062) (dk dt_L_law_15 6 rfl) v10 v11 v12 (fun _ => ?_)
  obtain ⟨v13, h⟩ := h
  refine v_cvI (c := 12) (As := [iv (gel G6 l0 (l4 + 1))]) (stk := []) (pc := 1063) (dk dt_L_law_15 7 rfl) ml_L_161 rfl rfl (Nat.le_of_ble_eq_true rfl) rfl ⟨by decide, rfl⟩ v13 rfl (Call.mono h (fun r14 G15 c16 s17 h => ?_))
  refine v_istore (pc := 1066) (ls' := [some (rv l0), some (rv l1), some (rv l2), some (rv l3), some (iv l4), some (iv r5), some (iv r14), none]) (dk dt_L_law_15 8 rfl) (Nat.le_of_ble_eq_true rfl) rfl ?_
  refine v_aload_n (pc := 1068) (dk dt_L_law_15 9 rfl) rfl rfl ?_
  obtain ⟨v18, h⟩ := h
  refine v_cvI (c := 12) (As := []) (stk := []) (pc := 1069) (dk dt_L_law_15 10 rfl) ml_L_102 rfl rfl (Nat.le_of_ble_eq_true rfl) rfl ⟨by decide, rfl⟩ v18 rfl (Call.mono h (fun r19 G20 c21 s22 h => ?_))
  refine v_iload (pc := 1072) (dk dt_L_law_15 11 rfl) rfl ?_
  refine v_icmp_eq (pc := 1074) (tgt := 1079) (dk dt_L_law_15 12 rfl) (by decide) (fun c23 => ?_) (fun c23 => ?_)
  · replace h := h.1 c23
    refine v_iload (pc := 1079) (dk dt_L_law_15 15 rfl) rfl ?_
    refine v_if_ne (pc := 1081) (tgt := 1096) (dk dt_L_law_15 16 rfl) (by decide) (fun c24 => ?_) (fun c24 => ?_)
    · replace h := h.1 c24
      refine v_goto (pc := 1096) (tgt := 1893) (dk dt_L_law_15 26 rfl) (by decide) ?_
      exact v_less2 (ls' := [some (rv l0), some (rv l1), some (rv l2), some (rv l3), some (iv l4), none, none, none]) ⟨rfl, rfl, rfl, rfl, rfl, trivial⟩ h
    · replace h := h.2 c24
      refine v_aload_n (pc := 1084) (dk dt_L_law_15 17 rfl) rfl rfl ?_
      refine v_iconst (pc := 1085) (dk dt_L_law_15 18 rfl) ⟨by decide, by decide⟩ ?_
      obtain ⟨v25, h⟩ := h
      obtain ⟨v26, h⟩ := h
      refine v_lald (pc := 1086) (dk dt_L_law_15 19 rfl) v25 (by decide) v26 (fun _ => ?_)
      refine v_iload (pc := 1087) (dk dt_L_law_15 20 rfl) rfl ?_
      refine v_i2l (pc := 1089) (dk dt_L_law_15 21 rfl) ?_
      refine v_lcmp_eq (pc := 1090) (tgt := 1096) (dk dt_L_law_15 22 rfl) (dk dt_L_law_15 23 rfl) (by decide) (fun c27 => ?_) (fun c27 => ?_)
      · replace h := h.1 c27
        refine v_goto (pc := 1096) (tgt := 1893) (dk dt_L_law_15 26 rfl) (by decide) ?_
        exact v_less2 (ls' := [some (rv l0), some (rv l1), some (rv l2), some (rv l3), some (iv l4), none, none, none]) ⟨rfl, rfl, rfl, rfl, rfl, trivial⟩ h
      · replace h := h.2 c27
        refine v_iconst (pc := 1094) (dk dt_L_law_15 24 rfl) ⟨by decide, by decide⟩ ?_
        exact v_zret (pc := 1095) (dk dt_L_law_15 25 rfl) rfl (Or.inl rfl) h
  · replace h := h.2 c23
    refine v_iconst (pc := 1077) (dk dt_L_law_15 13 rfl) ⟨by decide, by decide⟩ ?_
    exact v_zret (pc := 1078) (dk dt_L_law_15 14 rfl) rfl (Or.inl rfl) h
set_option maxRecDepth 20000 in
set_option maxHeartbeats 1000000 in
theorem b_L_law_1099 {E : EE} {l0 l1 l2 l3 l4 : Int} {G : Gt} {c s : Nat} {Q X : Int → Gt → Prop} (h : (i32 (l4 + 1) ∧ (gcl G l0 = 15 ∨ gcl G l0 = 19) ∧ 0 ≤ (l4 + 1) ∧ (l4 + 1) < gln G l0 ∧ CallH E M_L_record [rv l1, iv (gel G l0 (l4 + 1)), rv l3] G c s (fun r5 G6 c7 s8 => i32 (l4 + 1) ∧ (gcl G6 l0 = 15 ∨ gcl G6 l0 = 19) ∧ 0 ≤ (l4 + 1) ∧ (l4 + 1) < gln G6 l0 ∧ gcl G6 l2 = 13 ∧ Call E M_X12_record [rv l2, iv (gel G6 l0 (l4 + 1))] G6 c7 s8 X (fun r14 G15 c16 s17 => gcl G15 l2 = 13 ∧ Call E M_X12_thrown [rv l2] G15 c16 s17 X (fun r19 G20 c21 s22 => ((r19 = r5 → ((r5 ≠ 0 → V E M_L_law 1893 [some (rv l0), some (rv l1), some (rv l2), some (rv l3), some (iv l4), none, none, none] [] G20 c21 s22 Q X) ∧ (r5 = 0 → (gcl G20 l3 = 16 ∧ 0 < gln G20 l3 ∧ (((gel G20 l3 0) = r14 → V E M_L_law 1893 [some (rv l0), some (rv l1), some (rv l2), some (rv l3), some (iv l4), none, none, none] [] G20 c21 s22 Q X) ∧ ((gel G20 l3 0) ≠ r14 → Q 0 G20)))))) ∧ (r19 ≠ r5 → Q 0 G20))))))) : V E M_L_law 1099 [some (rv l0), some (rv l1), some (rv l2), some (rv l3), some (iv l4), none, none, none] [] G c s Q X := by
  refine v_aload_n (pc := 1099) (dk dt_L_law_15 27 rfl) rfl rfl ?_
  refine v_aload_n (pc := 1100) (dk dt_L_law_15 28 rfl) rfl rfl ?_
  refine v_iload (pc := 1101) (dk dt_L_law_15 29 rfl) rfl ?_
  refine v_iconst (pc := 1103) (dk dt_L_law_15 30 rfl) ⟨by decide, by decide⟩ ?_
  obtain ⟨v1, h⟩ := h
  refine v_iadd (pc := 1104) (dk dt_L_law_15 31 rfl) v1 ?_
  obtain ⟨v2, h⟩ := h
  obtain ⟨v3, h⟩ := h
  obtain ⟨v4, h⟩ := h
  refine v_iald (pc := 1105) (dk dt_L_law_15 32 rfl) v2 v3 v4 (fun _ => ?_)
  refine v_aload_n (pc := 1106) (dk dt_L_law_15 33 rfl) rfl rfl ?_
  refine v_csHI (As := [rv l1, iv (gel G l0 (l4 + 1)), rv l3]) (stk := []) (pc := 1107) (dk dt_L_law_15 34 rfl) ml_L_162 rfl rfl (Nat.le_of_ble_eq_true rfl) rfl rfl (CallH.mono h (fun r5 G6 c7 s8 h => ?_))
  refine v_istore (pc := 1110) (ls' := [some (rv l0), some (rv l1), some (rv l2), some (rv l3), some (iv l4), some (iv r5), none, none]) (dk dt_L_law_15 35 rfl) (Nat.le_of_ble_eq_true rfl) rfl ?_
  refine v_aload_n (pc := 1112) (dk dt_L_law_15 36 rfl) rfl rfl ?_
  refine v_aload_n (pc := 1113) (dk dt_L_law_15 37 rfl) rfl rfl ?_
  refine v_iload (pc := 1114) (dk dt_L_law_15 38 rfl) rfl ?_
  refine v_iconst (pc := 1116) (dk dt_L_law_15 39 rfl) ⟨by decide, by decide⟩ ?_
  obtain ⟨v9, h⟩ := h
  refine v_iadd (pc := 1117) (dk dt_L_law_16 0 rfl) v9 ?_
  obtain ⟨v10, h⟩ := h
  obtain ⟨v11, h⟩ := h
  obtain ⟨v12, h⟩ := h
  refine v_iald (pc := 1118) (dk dt_L_law_16 1 rfl) v10 v11 v12 (fun _ => ?_)
  obtain ⟨v13, h⟩ := h
  refine v_cvI (c := 12) (As := [iv (gel G6 l0 (l4 + 1))]) (stk := []) (pc := 1119) (dk dt_L_law_16 2 rfl) ml_L_164 rfl rfl (Nat.le_of_ble_eq_true rfl) rfl ⟨by decide, rfl⟩ v13 rfl (Call.mono h (fun r14 G15 c16 s17 h => ?_))
  refine v_istore (pc := 1122) (ls' := [some (rv l0), some (rv l1), some (rv l2), some (rv l3), some (iv l4), some (iv r5), some (iv r14), none]) (dk dt_L_law_16 3 rfl) (Nat.le_of_ble_eq_true rfl) rfl ?_
  refine v_aload_n (pc := 1124) (dk dt_L_law_16 4 rfl) rfl rfl ?_
  obtain ⟨v18, h⟩ := h
  refine v_cvI (c := 12) (As := []) (stk := []) (pc := 1125) (dk dt_L_law_16 5 rfl) ml_L_102 rfl rfl (Nat.le_of_ble_eq_true rfl) rfl ⟨by decide, rfl⟩ v18 rfl (Call.mono h (fun r19 G20 c21 s22 h => ?_))
  refine v_iload (pc := 1128) (dk dt_L_law_16 6 rfl) rfl ?_
  refine v_icmp_eq (pc := 1130) (tgt := 1135) (dk dt_L_law_16 7 rfl) (by decide) (fun c23 => ?_) (fun c23 => ?_)
  · replace h := h.1 c23
    refine v_iload (pc := 1135) (dk dt_L_law_16 10 rfl) rfl ?_
    refine v_if_ne (pc := 1137) (tgt := 1152) (dk dt_L_law_16 11 rfl) (by decide) (fun c24 => ?_) (fun c24 => ?_)
    · replace h := h.1 c24
      refine v_goto (pc := 1152) (tgt := 1893) (dk dt_L_law_16 21 rfl) (by decide) ?_
      exact v_less2 (ls' := [some (rv l0), some (rv l1), some (rv l2), some (rv l3), some (iv l4), none, none, none]) ⟨rfl, rfl, rfl, rfl, rfl, trivial⟩ h
    · replace h := h.2 c24
      refine v_aload_n (pc := 1140) (dk dt_L_law_16 12 rfl) rfl rfl ?_
      refine v_iconst (pc := 1141) (dk dt_L_law_16 13 rfl) ⟨by decide, by decide⟩ ?_
      obtain ⟨v25, h⟩ := h
      obtain ⟨v26, h⟩ := h
      refine v_lald (pc := 1142) (dk dt_L_law_16 14 rfl) v25 (by decide) v26 (fun _ => ?_)
      refine v_iload (pc := 1143) (dk dt_L_law_16 15 rfl) rfl ?_
      refine v_i2l (pc := 1145) (dk dt_L_law_16 16 rfl) ?_
      refine v_lcmp_eq (pc := 1146) (tgt := 1152) (dk dt_L_law_16 17 rfl) (dk dt_L_law_16 18 rfl) (by decide) (fun c27 => ?_) (fun c27 => ?_)
      · replace h := h.1 c27
        refine v_goto (pc := 1152) (tgt := 1893) (dk dt_L_law_16 21 rfl) (by decide) ?_
        exact v_less2 (ls' := [some (rv l0), some (rv l1), some (rv l2), some (rv l3), some (iv l4), none, none, none]) ⟨rfl, rfl, rfl, rfl, rfl, trivial⟩ h
      · replace h := h.2 c27
        refine v_iconst (pc := 1150) (dk dt_L_law_16 19 rfl) ⟨by decide, by decide⟩ ?_
        exact v_zret (pc := 1151) (dk dt_L_law_16 20 rfl) rfl (Or.inl rfl) h
  · replace h := h.2 c23
    refine v_iconst (pc := 1133) (dk dt_L_law_16 8 rfl) ⟨by decide, by decide⟩ ?_
    exact v_zret (pc := 1134) (dk dt_L_law_16 9 rfl) rfl (Or.inl rfl) h
set_option maxRecDepth 20000 in
set_option maxHeartbeats 1000000 in
theorem b_L_law_1155 {E : EE} {l0 l1 l2 l3 l4 : Int} {G : Gt} {c s : Nat} {Q X : Int → Gt → Prop} (h : (i32 (l4 + 1) ∧ (gcl G l0 = 15 ∨ gcl G l0 = 19) ∧ 0 ≤ (l4 + 1) ∧ (l4 + 1) < gln G l0 ∧ i32 (l4 + 2) ∧ (gcl G l0 = 15 ∨ gcl G l0 = 19) ∧ 0 ≤ (l4 + 2) ∧ (l4 + 2) < gln G l0 ∧ CallH E M_L_alert [rv l1, iv (gel G l0 (l4 + 1)), iv (gel G l0 (l4 + 2)), rv l3] G c s (fun r9 G10 c11 s12 => i32 (l4 + 1) ∧ (gcl G10 l0 = 15 ∨ gcl G10 l0 = 19) ∧ 0 ≤ (l4 + 1) ∧ (l4 + 1) < gln G10 l0 ∧ i32 (l4 + 2) ∧ (gcl G10 l0 = 15 ∨ gcl G10 l0 = 19) ∧ 0 ≤ (l4 + 2) ∧ (l4 + 2) < gln G10 l0 ∧ gcl G10 l2 = 13 ∧ Call E M_X12_alert [rv l2, iv (gel G10 l0 (l4 + 1)), iv (gel G10 l0 (l4 + 2))] G10 c11 s12 X (fun r22 G23 c24 s25 => gcl G23 l2 = 13 ∧ Call E M_X12_thrown [rv l2] G23 c24 s25 X (fun r27 G28 c29 s30 => ((r27 = r9 → ((r9 ≠ 0 → V E M_L_law 1893 [some (rv l0), some (rv l1), some (rv l2), some (rv l3), some (iv l4), none, none, none] [] G28 c29 s30 Q X) ∧ (r9 = 0 → (gcl G28 l3 = 16 ∧ 0 < gln G28 l3 ∧ (((gel G28 l3 0) = r22 → V E M_L_law 1893 [some (rv l0), some (rv l1), some (rv l2), some (rv l3), some (iv l4), none, none, none] [] G28 c29 s30 Q X) ∧ ((gel G28 l3 0) ≠ r22 → Q 0 G28)))))) ∧ (r27 ≠ r9 → Q 0 G28))))))) : V E M_L_law 1155 [some (rv l0), some (rv l1), some (rv l2), some (rv l3), some (iv l4), none, none, none] [] G c s Q X := by
  refine v_aload_n (pc := 1155) (dk dt_L_law_16 22 rfl) rfl rfl ?_
  refine v_aload_n (pc := 1156) (dk dt_L_law_16 23 rfl) rfl rfl ?_
  refine v_iload (pc := 1157) (dk dt_L_law_16 24 rfl) rfl ?_
  refine v_iconst (pc := 1159) (dk dt_L_law_16 25 rfl) ⟨by decide, by decide⟩ ?_
  obtain ⟨v1, h⟩ := h
  refine v_iadd (pc := 1160) (dk dt_L_law_16 26 rfl) v1 ?_
  obtain ⟨v2, h⟩ := h
  obtain ⟨v3, h⟩ := h
  obtain ⟨v4, h⟩ := h
  refine v_iald (pc := 1161) (dk dt_L_law_16 27 rfl) v2 v3 v4 (fun _ => ?_)
  refine v_aload_n (pc := 1162) (dk dt_L_law_16 28 rfl) rfl rfl ?_
  refine v_iload (pc := 1163) (dk dt_L_law_16 29 rfl) rfl ?_
  refine v_iconst (pc := 1165) (dk dt_L_law_16 30 rfl) ⟨by decide, by decide⟩ ?_
  obtain ⟨v5, h⟩ := h
  refine v_iadd (pc := 1166) (dk dt_L_law_16 31 rfl) v5 ?_
  obtain ⟨v6, h⟩ := h
  obtain ⟨v7, h⟩ := h
  obtain ⟨v8, h⟩ := h
  refine v_iald (pc := 1167) (dk dt_L_law_16 32 rfl) v6 v7 v8 (fun _ => ?_)
  refine v_aload_n (pc := 1168) (dk dt_L_law_16 33 rfl) rfl rfl ?_
  refine v_csHI (As := [rv l1, iv (gel G l0 (l4 + 1)), iv (gel G l0 (l4 + 2)), rv l3]) (stk := []) (pc := 1169) (dk dt_L_law_16 34 rfl) ml_L_165 rfl rfl (Nat.le_of_ble_eq_true rfl) rfl rfl (CallH.mono h (fun r9 G10 c11 s12 h => ?_))
  refine v_istore (pc := 1172) (ls' := [some (rv l0), some (rv l1), some (rv l2), some (rv l3), some (iv l4), some (iv r9), none, none]) (dk dt_L_law_16 35 rfl) (Nat.le_of_ble_eq_true rfl) rfl ?_
  refine v_aload_n (pc := 1174) (dk dt_L_law_16 36 rfl) rfl rfl ?_
  refine v_aload_n (pc := 1175) (dk dt_L_law_16 37 rfl) rfl rfl ?_
  refine v_iload (pc := 1176) (dk dt_L_law_16 38 rfl) rfl ?_
  refine v_iconst (pc := 1178) (dk dt_L_law_16 39 rfl) ⟨by decide, by decide⟩ ?_
  obtain ⟨v13, h⟩ := h
  refine v_iadd (pc := 1179) (dk dt_L_law_17 0 rfl) v13 ?_
  obtain ⟨v14, h⟩ := h
  obtain ⟨v15, h⟩ := h
  obtain ⟨v16, h⟩ := h
  refine v_iald (pc := 1180) (dk dt_L_law_17 1 rfl) v14 v15 v16 (fun _ => ?_)
  refine v_aload_n (pc := 1181) (dk dt_L_law_17 2 rfl) rfl rfl ?_
  refine v_iload (pc := 1182) (dk dt_L_law_17 3 rfl) rfl ?_
  refine v_iconst (pc := 1184) (dk dt_L_law_17 4 rfl) ⟨by decide, by decide⟩ ?_
  obtain ⟨v17, h⟩ := h
  refine v_iadd (pc := 1185) (dk dt_L_law_17 5 rfl) v17 ?_
  obtain ⟨v18, h⟩ := h
  obtain ⟨v19, h⟩ := h
  obtain ⟨v20, h⟩ := h
  refine v_iald (pc := 1186) (dk dt_L_law_17 6 rfl) v18 v19 v20 (fun _ => ?_)
  obtain ⟨v21, h⟩ := h
  refine v_cvI (c := 12) (As := [iv (gel G10 l0 (l4 + 1)), iv (gel G10 l0 (l4 + 2))]) (stk := []) (pc := 1187) (dk dt_L_law_17 7 rfl) ml_L_167 rfl rfl (Nat.le_of_ble_eq_true rfl) rfl ⟨by decide, rfl⟩ v21 rfl (Call.mono h (fun r22 G23 c24 s25 h => ?_))
  refine v_istore (pc := 1190) (ls' := [some (rv l0), some (rv l1), some (rv l2), some (rv l3), some (iv l4), some (iv r9), some (iv r22), none]) (dk dt_L_law_17 8 rfl) (Nat.le_of_ble_eq_true rfl) rfl ?_
  refine v_aload_n (pc := 1192) (dk dt_L_law_17 9 rfl) rfl rfl ?_
  obtain ⟨v26, h⟩ := h
  refine v_cvI (c := 12) (As := []) (stk := []) (pc := 1193) (dk dt_L_law_17 10 rfl) ml_L_102 rfl rfl (Nat.le_of_ble_eq_true rfl) rfl ⟨by decide, rfl⟩ v26 rfl (Call.mono h (fun r27 G28 c29 s30 h => ?_))
  refine v_iload (pc := 1196) (dk dt_L_law_17 11 rfl) rfl ?_
  refine v_icmp_eq (pc := 1198) (tgt := 1203) (dk dt_L_law_17 12 rfl) (by decide) (fun c31 => ?_) (fun c31 => ?_)
  · replace h := h.1 c31
    refine v_iload (pc := 1203) (dk dt_L_law_17 15 rfl) rfl ?_
    refine v_if_ne (pc := 1205) (tgt := 1220) (dk dt_L_law_17 16 rfl) (by decide) (fun c32 => ?_) (fun c32 => ?_)
    · replace h := h.1 c32
      refine v_goto (pc := 1220) (tgt := 1893) (dk dt_L_law_17 26 rfl) (by decide) ?_
      exact v_less2 (ls' := [some (rv l0), some (rv l1), some (rv l2), some (rv l3), some (iv l4), none, none, none]) ⟨rfl, rfl, rfl, rfl, rfl, trivial⟩ h
    · replace h := h.2 c32
      refine v_aload_n (pc := 1208) (dk dt_L_law_17 17 rfl) rfl rfl ?_
      refine v_iconst (pc := 1209) (dk dt_L_law_17 18 rfl) ⟨by decide, by decide⟩ ?_
      obtain ⟨v33, h⟩ := h
      obtain ⟨v34, h⟩ := h
      refine v_lald (pc := 1210) (dk dt_L_law_17 19 rfl) v33 (by decide) v34 (fun _ => ?_)
      refine v_iload (pc := 1211) (dk dt_L_law_17 20 rfl) rfl ?_
      refine v_i2l (pc := 1213) (dk dt_L_law_17 21 rfl) ?_
      refine v_lcmp_eq (pc := 1214) (tgt := 1220) (dk dt_L_law_17 22 rfl) (dk dt_L_law_17 23 rfl) (by decide) (fun c35 => ?_) (fun c35 => ?_)
      · replace h := h.1 c35
        refine v_goto (pc := 1220) (tgt := 1893) (dk dt_L_law_17 26 rfl) (by decide) ?_
        exact v_less2 (ls' := [some (rv l0), some (rv l1), some (rv l2), some (rv l3), some (iv l4), none, none, none]) ⟨rfl, rfl, rfl, rfl, rfl, trivial⟩ h
      · replace h := h.2 c35
        refine v_iconst (pc := 1218) (dk dt_L_law_17 24 rfl) ⟨by decide, by decide⟩ ?_
        exact v_zret (pc := 1219) (dk dt_L_law_17 25 rfl) rfl (Or.inl rfl) h
  · replace h := h.2 c31
    refine v_iconst (pc := 1201) (dk dt_L_law_17 13 rfl) ⟨by decide, by decide⟩ ?_
    exact v_zret (pc := 1202) (dk dt_L_law_17 14 rfl) rfl (Or.inl rfl) h
set_option maxRecDepth 20000 in
set_option maxHeartbeats 1000000 in
theorem b_L_law_1223 {E : EE} {l0 l1 l2 l3 l4 : Int} {G : Gt} {c s : Nat} {Q X : Int → Gt → Prop} (h : (i32 (l4 + 1) ∧ (gcl G l0 = 15 ∨ gcl G l0 = 19) ∧ 0 ≤ (l4 + 1) ∧ (l4 + 1) < gln G l0 ∧ i32 (l4 + 2) ∧ (gcl G l0 = 15 ∨ gcl G l0 = 19) ∧ 0 ≤ (l4 + 2) ∧ (l4 + 2) < gln G l0 ∧ CallH E M_L_inhibit [rv l1, iv (gel G l0 (l4 + 1)), iv (gel G l0 (l4 + 2)), rv l3] G c s (fun r9 G10 c11 s12 => i32 (l4 + 1) ∧ (gcl G10 l0 = 15 ∨ gcl G10 l0 = 19) ∧ 0 ≤ (l4 + 1) ∧ (l4 + 1) < gln G10 l0 ∧ i32 (l4 + 2) ∧ (gcl G10 l0 = 15 ∨ gcl G10 l0 = 19) ∧ 0 ≤ (l4 + 2) ∧ (l4 + 2) < gln G10 l0 ∧ gcl G10 l2 = 13 ∧ Call E M_X12_inhibit [rv l2, iv (gel G10 l0 (l4 + 1)), iv (gel G10 l0 (l4 + 2))] G10 c11 s12 X (fun r22 G23 c24 s25 => gcl G23 l2 = 13 ∧ Call E M_X12_thrown [rv l2] G23 c24 s25 X (fun r27 G28 c29 s30 => ((r27 = r9 → ((r9 ≠ 0 → V E M_L_law 1893 [some (rv l0), some (rv l1), some (rv l2), some (rv l3), some (iv l4), none, none, none] [] G28 c29 s30 Q X) ∧ (r9 = 0 → (gcl G28 l3 = 16 ∧ 0 < gln G28 l3 ∧ (((gel G28 l3 0) = r22 → V E M_L_law 1893 [some (rv l0), some (rv l1), some (rv l2), some (rv l3), some (iv l4), none, none, none] [] G28 c29 s30 Q X) ∧ ((gel G28 l3 0) ≠ r22 → Q 0 G28)))))) ∧ (r27 ≠ r9 → Q 0 G28))))))) : V E M_L_law 1223 [some (rv l0), some (rv l1), some (rv l2), some (rv l3), some (iv l4), none, none, none] [] G c s Q X := by
  refine v_aload_n (pc := 1223) (dk dt_L_law_17 27 rfl) rfl rfl ?_
  refine v_aload_n (pc := 1224) (dk dt_L_law_17 28 rfl) rfl rfl ?_
  refine v_iload (pc := 1225) (dk dt_L_law_17 29 rfl) rfl ?_
  refine v_iconst (pc := 1227) (dk dt_L_law_17 30 rfl) ⟨by decide, by decide⟩ ?_
  obtain ⟨v1, h⟩ := h
  refine v_iadd (pc := 1228) (dk dt_L_law_17 31 rfl) v1 ?_
  obtain ⟨v2, h⟩ := h
  obtain ⟨v3, h⟩ := h
  obtain ⟨v4, h⟩ := h
  refine v_iald (pc := 1229) (dk dt_L_law_17 32 rfl) v2 v3 v4 (fun _ => ?_)
  refine v_aload_n (pc := 1230) (dk dt_L_law_17 33 rfl) rfl rfl ?_
  refine v_iload (pc := 1231) (dk dt_L_law_17 34 rfl) rfl ?_
  refine v_iconst (pc := 1233) (dk dt_L_law_17 35 rfl) ⟨by decide, by decide⟩ ?_
  obtain ⟨v5, h⟩ := h
  refine v_iadd (pc := 1234) (dk dt_L_law_17 36 rfl) v5 ?_
  obtain ⟨v6, h⟩ := h
  obtain ⟨v7, h⟩ := h
  obtain ⟨v8, h⟩ := h
  refine v_iald (pc := 1235) (dk dt_L_law_17 37 rfl) v6 v7 v8 (fun _ => ?_)
  refine v_aload_n (pc := 1236) (dk dt_L_law_17 38 rfl) rfl rfl ?_
  refine v_csHI (As := [rv l1, iv (gel G l0 (l4 + 1)), iv (gel G l0 (l4 + 2)), rv l3]) (stk := []) (pc := 1237) (dk dt_L_law_17 39 rfl) ml_L_168 rfl rfl (Nat.le_of_ble_eq_true rfl) rfl rfl (CallH.mono h (fun r9 G10 c11 s12 h => ?_))
  refine v_istore (pc := 1240) (ls' := [some (rv l0), some (rv l1), some (rv l2), some (rv l3), some (iv l4), some (iv r9), none, none]) (dk dt_L_law_18 0 rfl) (Nat.le_of_ble_eq_true rfl) rfl ?_
  refine v_aload_n (pc := 1242) (dk dt_L_law_18 1 rfl) rfl rfl ?_
  refine v_aload_n (pc := 1243) (dk dt_L_law_18 2 rfl) rfl rfl ?_
  refine v_iload (pc := 1244) (dk dt_L_law_18 3 rfl) rfl ?_
  refine v_iconst (pc := 1246) (dk dt_L_law_18 4 rfl) ⟨by decide, by decide⟩ ?_
  obtain ⟨v13, h⟩ := h
  refine v_iadd (pc := 1247) (dk dt_L_law_18 5 rfl) v13 ?_
  obtain ⟨v14, h⟩ := h
  obtain ⟨v15, h⟩ := h
  obtain ⟨v16, h⟩ := h
  refine v_iald (pc := 1248) (dk dt_L_law_18 6 rfl) v14 v15 v16 (fun _ => ?_)
  refine v_aload_n (pc := 1249) (dk dt_L_law_18 7 rfl) rfl rfl ?_
  refine v_iload (pc := 1250) (dk dt_L_law_18 8 rfl) rfl ?_
  refine v_iconst (pc := 1252) (dk dt_L_law_18 9 rfl) ⟨by decide, by decide⟩ ?_
  obtain ⟨v17, h⟩ := h
  refine v_iadd (pc := 1253) (dk dt_L_law_18 10 rfl) v17 ?_
  obtain ⟨v18, h⟩ := h
  obtain ⟨v19, h⟩ := h
  obtain ⟨v20, h⟩ := h
  refine v_iald (pc := 1254) (dk dt_L_law_18 11 rfl) v18 v19 v20 (fun _ => ?_)
  obtain ⟨v21, h⟩ := h
  refine v_cvI (c := 12) (As := [iv (gel G10 l0 (l4 + 1)), iv (gel G10 l0 (l4 + 2))]) (stk := []) (pc := 1255) (dk dt_L_law_18 12 rfl) ml_L_170 rfl rfl (Nat.le_of_ble_eq_true rfl) rfl ⟨by decide, rfl⟩ v21 rfl (Call.mono h (fun r22 G23 c24 s25 h => ?_))
  refine v_istore (pc := 1258) (ls' := [some (rv l0), some (rv l1), some (rv l2), some (rv l3), some (iv l4), some (iv r9), some (iv r22), none]) (dk dt_L_law_18 13 rfl) (Nat.le_of_ble_eq_true rfl) rfl ?_
  refine v_aload_n (pc := 1260) (dk dt_L_law_18 14 rfl) rfl rfl ?_
  obtain ⟨v26, h⟩ := h
  refine v_cvI (c := 12) (As := []) (stk := []) (pc := 1261) (dk dt_L_law_18 15 rfl) ml_L_102 rfl rfl (Nat.le_of_ble_eq_true rfl) rfl ⟨by decide, rfl⟩ v26 rfl (Call.mono h (fun r27 G28 c29 s30 h => ?_))
  refine v_iload (pc := 1264) (dk dt_L_law_18 16 rfl) rfl ?_
  refine v_icmp_eq (pc := 1266) (tgt := 1271) (dk dt_L_law_18 17 rfl) (by decide) (fun c31 => ?_) (fun c31 => ?_)
  · replace h := h.1 c31
    refine v_iload (pc := 1271) (dk dt_L_law_18 20 rfl) rfl ?_
    refine v_if_ne (pc := 1273) (tgt := 1288) (dk dt_L_law_18 21 rfl) (by decide) (fun c32 => ?_) (fun c32 => ?_)
    · replace h := h.1 c32
      refine v_goto (pc := 1288) (tgt := 1893) (dk dt_L_law_18 31 rfl) (by decide) ?_
      exact v_less2 (ls' := [some (rv l0), some (rv l1), some (rv l2), some (rv l3), some (iv l4), none, none, none]) ⟨rfl, rfl, rfl, rfl, rfl, trivial⟩ h
    · replace h := h.2 c32
      refine v_aload_n (pc := 1276) (dk dt_L_law_18 22 rfl) rfl rfl ?_
      refine v_iconst (pc := 1277) (dk dt_L_law_18 23 rfl) ⟨by decide, by decide⟩ ?_
      obtain ⟨v33, h⟩ := h
      obtain ⟨v34, h⟩ := h
      refine v_lald (pc := 1278) (dk dt_L_law_18 24 rfl) v33 (by decide) v34 (fun _ => ?_)
      refine v_iload (pc := 1279) (dk dt_L_law_18 25 rfl) rfl ?_
      refine v_i2l (pc := 1281) (dk dt_L_law_18 26 rfl) ?_
      refine v_lcmp_eq (pc := 1282) (tgt := 1288) (dk dt_L_law_18 27 rfl) (dk dt_L_law_18 28 rfl) (by decide) (fun c35 => ?_) (fun c35 => ?_)
      · replace h := h.1 c35
        refine v_goto (pc := 1288) (tgt := 1893) (dk dt_L_law_18 31 rfl) (by decide) ?_
        exact v_less2 (ls' := [some (rv l0), some (rv l1), some (rv l2), some (rv l3), some (iv l4), none, none, none]) ⟨rfl, rfl, rfl, rfl, rfl, trivial⟩ h
      · replace h := h.2 c35
        refine v_iconst (pc := 1286) (dk dt_L_law_18 29 rfl) ⟨by decide, by decide⟩ ?_
        exact v_zret (pc := 1287) (dk dt_L_law_18 30 rfl) rfl (Or.inl rfl) h
  · replace h := h.2 c31
    refine v_iconst (pc := 1269) (dk dt_L_law_18 18 rfl) ⟨by decide, by decide⟩ ?_
    exact v_zret (pc := 1270) (dk dt_L_law_18 19 rfl) rfl (Or.inl rfl) h
set_option maxRecDepth 20000 in
set_option maxHeartbeats 1000000 in
theorem b_L_law_1291 {E : EE} {l0 l1 l2 l3 l4 : Int} {G : Gt} {c s : Nat} {Q X : Int → Gt → Prop} (h : (i32 (l4 + 1) ∧ (gcl G l0 = 15 ∨ gcl G l0 = 19) ∧ 0 ≤ (l4 + 1) ∧ (l4 + 1) < gln G l0 ∧ i32 (l4 + 2) ∧ (gcl G l0 = 15 ∨ gcl G l0 = 19) ∧ 0 ≤ (l4 + 2) ∧ (l4 + 2) < gln G l0 ∧ CallH E M_L_silence [rv l1, iv (gel G l0 (l4 + 1)), iv (gel G l0 (l4 + 2)), rv l3] G c s (fun r9 G10 c11 s12 => i32 (l4 + 1) ∧ (gcl G10 l0 = 15 ∨ gcl G10 l0 = 19) ∧ 0 ≤ (l4 + 1) ∧ (l4 + 1) < gln G10 l0 ∧ i32 (l4 + 2) ∧ (gcl G10 l0 = 15 ∨ gcl G10 l0 = 19) ∧ 0 ≤ (l4 + 2) ∧ (l4 + 2) < gln G10 l0 ∧ gcl G10 l2 = 13 ∧ Call E M_X12_silence [rv l2, iv (gel G10 l0 (l4 + 1)), iv (gel G10 l0 (l4 + 2))] G10 c11 s12 X (fun r22 G23 c24 s25 => gcl G23 l2 = 13 ∧ Call E M_X12_thrown [rv l2] G23 c24 s25 X (fun r27 G28 c29 s30 => ((r27 = r9 → ((r9 ≠ 0 → V E M_L_law 1893 [some (rv l0), some (rv l1), some (rv l2), some (rv l3), some (iv l4), none, none, none] [] G28 c29 s30 Q X) ∧ (r9 = 0 → (gcl G28 l3 = 16 ∧ 0 < gln G28 l3 ∧ (((gel G28 l3 0) = r22 → V E M_L_law 1893 [some (rv l0), some (rv l1), some (rv l2), some (rv l3), some (iv l4), none, none, none] [] G28 c29 s30 Q X) ∧ ((gel G28 l3 0) ≠ r22 → Q 0 G28)))))) ∧ (r27 ≠ r9 → Q 0 G28))))))) : V E M_L_law 1291 [some (rv l0), some (rv l1), some (rv l2), some (rv l3), some (iv l4), none, none, none] [] G c s Q X := by
  refine v_aload_n (pc := 1291) (dk dt_L_law_18 32 rfl) rfl rfl ?_
  refine v_aload_n (pc := 1292) (dk dt_L_law_18 33 rfl) rfl rfl ?_
  refine v_iload (pc := 1293) (dk dt_L_law_18 34 rfl) rfl ?_
  refine v_iconst (pc := 1295) (dk dt_L_law_18 35 rfl) ⟨by decide, by decide⟩ ?_
  obtain ⟨v1, h⟩ := h
  refine v_iadd (pc := 1296) (dk dt_L_law_18 36 rfl) v1 ?_
  obtain ⟨v2, h⟩ := h
  obtain ⟨v3, h⟩ := h
  obtain ⟨v4, h⟩ := h
  refine v_iald (pc := 1297) (dk dt_L_law_18 37 rfl) v2 v3 v4 (fun _ => ?_)
  refine v_aload_n (pc := 1298) (dk dt_L_law_18 38 rfl) rfl rfl ?_
  refine v_iload (pc := 1299) (dk dt_L_law_18 39 rfl) rfl ?_
  refine v_iconst (pc := 1301) (dk dt_L_law_19 0 rfl) ⟨by decide, by decide⟩ ?_
  obtain ⟨v5, h⟩ := h
  refine v_iadd (pc := 1302) (dk dt_L_law_19 1 rfl) v5 ?_
  obtain ⟨v6, h⟩ := h
  obtain ⟨v7, h⟩ := h
  obtain ⟨v8, h⟩ := h
  refine v_iald (pc := 1303) (dk dt_L_law_19 2 rfl) v6 v7 v8 (fun _ => ?_)
  refine v_aload_n (pc := 1304) (dk dt_L_law_19 3 rfl) rfl rfl ?_
  refine v_csHI (As := [rv l1, iv (gel G l0 (l4 + 1)), iv (gel G l0 (l4 + 2)), rv l3]) (stk := []) (pc := 1305) (dk dt_L_law_19 4 rfl) ml_L_171 rfl rfl (Nat.le_of_ble_eq_true rfl) rfl rfl (CallH.mono h (fun r9 G10 c11 s12 h => ?_))
  refine v_istore (pc := 1308) (ls' := [some (rv l0), some (rv l1), some (rv l2), some (rv l3), some (iv l4), some (iv r9), none, none]) (dk dt_L_law_19 5 rfl) (Nat.le_of_ble_eq_true rfl) rfl ?_
  refine v_aload_n (pc := 1310) (dk dt_L_law_19 6 rfl) rfl rfl ?_
  refine v_aload_n (pc := 1311) (dk dt_L_law_19 7 rfl) rfl rfl ?_
  refine v_iload (pc := 1312) (dk dt_L_law_19 8 rfl) rfl ?_
  refine v_iconst (pc := 1314) (dk dt_L_law_19 9 rfl) ⟨by decide, by decide⟩ ?_
  obtain ⟨v13, h⟩ := h
  refine v_iadd (pc := 1315) (dk dt_L_law_19 10 rfl) v13 ?_
  obtain ⟨v14, h⟩ := h
  obtain ⟨v15, h⟩ := h
  obtain ⟨v16, h⟩ := h
  refine v_iald (pc := 1316) (dk dt_L_law_19 11 rfl) v14 v15 v16 (fun _ => ?_)
  refine v_aload_n (pc := 1317) (dk dt_L_law_19 12 rfl) rfl rfl ?_
  refine v_iload (pc := 1318) (dk dt_L_law_19 13 rfl) rfl ?_
  refine v_iconst (pc := 1320) (dk dt_L_law_19 14 rfl) ⟨by decide, by decide⟩ ?_
  obtain ⟨v17, h⟩ := h
  refine v_iadd (pc := 1321) (dk dt_L_law_19 15 rfl) v17 ?_
  obtain ⟨v18, h⟩ := h
  obtain ⟨v19, h⟩ := h
  obtain ⟨v20, h⟩ := h
  refine v_iald (pc := 1322) (dk dt_L_law_19 16 rfl) v18 v19 v20 (fun _ => ?_)
  obtain ⟨v21, h⟩ := h
  refine v_cvI (c := 12) (As := [iv (gel G10 l0 (l4 + 1)), iv (gel G10 l0 (l4 + 2))]) (stk := []) (pc := 1323) (dk dt_L_law_19 17 rfl) ml_L_173 rfl rfl (Nat.le_of_ble_eq_true rfl) rfl ⟨by decide, rfl⟩ v21 rfl (Call.mono h (fun r22 G23 c24 s25 h => ?_))
  refine v_istore (pc := 1326) (ls' := [some (rv l0), some (rv l1), some (rv l2), some (rv l3), some (iv l4), some (iv r9), some (iv r22), none]) (dk dt_L_law_19 18 rfl) (Nat.le_of_ble_eq_true rfl) rfl ?_
  refine v_aload_n (pc := 1328) (dk dt_L_law_19 19 rfl) rfl rfl ?_
  obtain ⟨v26, h⟩ := h
  refine v_cvI (c := 12) (As := []) (stk := []) (pc := 1329) (dk dt_L_law_19 20 rfl) ml_L_102 rfl rfl (Nat.le_of_ble_eq_true rfl) rfl ⟨by decide, rfl⟩ v26 rfl (Call.mono h (fun r27 G28 c29 s30 h => ?_))
  refine v_iload (pc := 1332) (dk dt_L_law_19 21 rfl) rfl ?_
  refine v_icmp_eq (pc := 1334) (tgt := 1339) (dk dt_L_law_19 22 rfl) (by decide) (fun c31 => ?_) (fun c31 => ?_)
  · replace h := h.1 c31
    refine v_iload (pc := 1339) (dk dt_L_law_19 25 rfl) rfl ?_
    refine v_if_ne (pc := 1341) (tgt := 1356) (dk dt_L_law_19 26 rfl) (by decide) (fun c32 => ?_) (fun c32 => ?_)
    · replace h := h.1 c32
      refine v_goto (pc := 1356) (tgt := 1893) (dk dt_L_law_19 36 rfl) (by decide) ?_
      exact v_less2 (ls' := [some (rv l0), some (rv l1), some (rv l2), some (rv l3), some (iv l4), none, none, none]) ⟨rfl, rfl, rfl, rfl, rfl, trivial⟩ h
    · replace h := h.2 c32
      refine v_aload_n (pc := 1344) (dk dt_L_law_19 27 rfl) rfl rfl ?_
      refine v_iconst (pc := 1345) (dk dt_L_law_19 28 rfl) ⟨by decide, by decide⟩ ?_
      obtain ⟨v33, h⟩ := h
      obtain ⟨v34, h⟩ := h
      refine v_lald (pc := 1346) (dk dt_L_law_19 29 rfl) v33 (by decide) v34 (fun _ => ?_)
      refine v_iload (pc := 1347) (dk dt_L_law_19 30 rfl) rfl ?_
      refine v_i2l (pc := 1349) (dk dt_L_law_19 31 rfl) ?_
      refine v_lcmp_eq (pc := 1350) (tgt := 1356) (dk dt_L_law_19 32 rfl) (dk dt_L_law_19 33 rfl) (by decide) (fun c35 => ?_) (fun c35 => ?_)
      · replace h := h.1 c35
        refine v_goto (pc := 1356) (tgt := 1893) (dk dt_L_law_19 36 rfl) (by decide) ?_
        exact v_less2 (ls' := [some (rv l0), some (rv l1), some (rv l2), some (rv l3), some (iv l4), none, none, none]) ⟨rfl, rfl, rfl, rfl, rfl, trivial⟩ h
      · replace h := h.2 c35
        refine v_iconst (pc := 1354) (dk dt_L_law_19 34 rfl) ⟨by decide, by decide⟩ ?_
        exact v_zret (pc := 1355) (dk dt_L_law_19 35 rfl) rfl (Or.inl rfl) h
  · replace h := h.2 c31
    refine v_iconst (pc := 1337) (dk dt_L_law_19 23 rfl) ⟨by decide, by decide⟩ ?_
    exact v_zret (pc := 1338) (dk dt_L_law_19 24 rfl) rfl (Or.inl rfl) h
set_option maxRecDepth 20000 in
set_option maxHeartbeats 1000000 in
theorem b_L_law_1359 {E : EE} {l0 l1 l2 l3 l4 : Int} {G : Gt} {c s : Nat} {Q X : Int → Gt → Prop} (h : (i32 (l4 + 1) ∧ (gcl G l0 = 15 ∨ gcl G l0 = 19) ∧ 0 ≤ (l4 + 1) ∧ (l4 + 1) < gln G l0 ∧ i32 (l4 + 2) ∧ (gcl G l0 = 15 ∨ gcl G l0 = 19) ∧ 0 ≤ (l4 + 2) ∧ (l4 + 2) < gln G l0 ∧ CallH E M_L_entries [rv l1, iv (gel G l0 (l4 + 1)), iv (if (gel G l0 (l4 + 2)) = 0 then (0 : Int) else 1), rv l3] G c s (fun r10 G11 c12 s13 => i32 (l4 + 1) ∧ (gcl G11 l0 = 15 ∨ gcl G11 l0 = 19) ∧ 0 ≤ (l4 + 1) ∧ (l4 + 1) < gln G11 l0 ∧ i32 (l4 + 2) ∧ (gcl G11 l0 = 15 ∨ gcl G11 l0 = 19) ∧ 0 ≤ (l4 + 2) ∧ (l4 + 2) < gln G11 l0 ∧ gcl G11 l2 = 13 ∧ Call E M_X12_entries [rv l2, iv (gel G11 l0 (l4 + 1)), iv (if (gel G11 l0 (l4 + 2)) = 0 then (0 : Int) else 1)] G11 c12 s13 X (fun r24 G25 c26 s27 => gcl G25 l2 = 13 ∧ Call E M_X12_thrown [rv l2] G25 c26 s27 X (fun r29 G30 c31 s32 => ((r29 = r10 → ((r10 ≠ 0 → V E M_L_law 1893 [some (rv l0), some (rv l1), some (rv l2), some (rv l3), some (iv l4), none, none, none] [] G30 c31 s32 Q X) ∧ (r10 = 0 → (gcl G30 l3 = 16 ∧ 0 < gln G30 l3 ∧ (((gel G30 l3 0) = r24 → V E M_L_law 1893 [some (rv l0), some (rv l1), some (rv l2), some (rv l3), some (iv l4), none, none, none] [] G30 c31 s32 Q X) ∧ ((gel G30 l3 0) ≠ r24 → Q 0 G30)))))) ∧ (r29 ≠ r10 → Q 0 G30))))))) : V E M_L_law 1359 [some (rv l0), some (rv l1), some (rv l2), some (rv l3), some (iv l4), none, none, none] [] G c s Q X := by
  refine v_aload_n (pc := 1359) (dk dt_L_law_19 37 rfl) rfl rfl ?_
  refine v_aload_n (pc := 1360) (dk dt_L_law_19 38 rfl) rfl rfl ?_
  refine v_iload (pc := 1361) (dk dt_L_law_19 39 rfl) rfl ?_
  refine v_iconst (pc := 1363) (dk dt_L_law_20 0 rfl) ⟨by decide, by decide⟩ ?_
  obtain ⟨v1, h⟩ := h
  refine v_iadd (pc := 1364) (dk dt_L_law_20 1 rfl) v1 ?_
  obtain ⟨v2, h⟩ := h
  obtain ⟨v3, h⟩ := h
  obtain ⟨v4, h⟩ := h
  refine v_iald (pc := 1365) (dk dt_L_law_20 2 rfl) v2 v3 v4 (fun _ => ?_)
  refine v_aload_n (pc := 1366) (dk dt_L_law_20 3 rfl) rfl rfl ?_
  refine v_iload (pc := 1367) (dk dt_L_law_20 4 rfl) rfl ?_
  refine v_iconst (pc := 1369) (dk dt_L_law_20 5 rfl) ⟨by decide, by decide⟩ ?_
  obtain ⟨v5, h⟩ := h
  refine v_iadd (pc := 1370) (dk dt_L_law_20 6 rfl) v5 ?_
  obtain ⟨v6, h⟩ := h
  obtain ⟨v7, h⟩ := h
  obtain ⟨v8, h⟩ := h
  refine v_iald (pc := 1371) (dk dt_L_law_20 7 rfl) v6 v7 v8 (fun _ => ?_)
  suffices k38 : V E M_L_law 1380 [some (rv l0), some (rv l1), some (rv l2), some (rv l3), some (iv l4), none, none, none] [iv (if (gel G l0 (l4 + 2)) = 0 then (0 : Int) else 1), iv (gel G l0 (l4 + 1)), rv l1] G c s Q X by
    refine v_if_eq (pc := 1372) (tgt := 1379) (dk dt_L_law_20 8 rfl) (by decide) (fun c9 => ?_) (fun c9 => ?_)
    · refine v_iconst (pc := 1379) (dk dt_L_law_20 11 rfl) ⟨by decide, by decide⟩ ?_
      exact v_less2 (ls' := [some (rv l0), some (rv l1), some (rv l2), some (rv l3), some (iv l4), none, none, none]) ⟨rfl, rfl, rfl, rfl, rfl, trivial⟩ (by have hk9 := k38; try simp only [if_pos c9] at hk9 ⊢; exact hk9)
    · refine v_iconst (pc := 1375) (dk dt_L_law_20 9 rfl) ⟨by decide, by decide⟩ ?_
      refine v_goto (pc := 1376) (tgt := 1380) (dk dt_L_law_20 10 rfl) (by decide) ?_
      exact v_less2 (ls' := [some (rv l0), some (rv l1), some (rv l2), some (rv l3), some (iv l4), none, none, none]) ⟨rfl, rfl, rfl, rfl, rfl, trivial⟩ (by have hk9 := k38; try simp only [if_neg c9] at hk9 ⊢; exact hk9)
  refine v_aload_n (pc := 1380) (dk dt_L_law_20 12 rfl) rfl rfl ?_
  refine v_csHI (As := [rv l1, iv (gel G l0 (l4 + 1)), iv (if (gel G l0 (l4 + 2)) = 0 then (0 : Int) else 1), rv l3]) (stk := []) (pc := 1381) (dk dt_L_law_20 13 rfl) ml_L_174 rfl rfl (Nat.le_of_ble_eq_true rfl) rfl rfl (CallH.mono h (fun r10 G11 c12 s13 h => ?_))
  refine v_istore (pc := 1384) (ls' := [some (rv l0), some (rv l1), some (rv l2), some (rv l3), some (iv l4), some (iv r10), none, none]) (dk dt_L_law_20 14 rfl) (Nat.le_of_ble_eq_true rfl) rfl ?_
  refine v_aload_n (pc := 1386) (dk dt_L_law_20 15 rfl) rfl rfl ?_
  refine v_aload_n (pc := 1387) (dk dt_L_law_20 16 rfl) rfl rfl ?_
  refine v_iload (pc := 1388) (dk dt_L_law_20 17 rfl) rfl ?_
  refine v_iconst (pc := 1390) (dk dt_L_law_20 18 rfl) ⟨by decide, by decide⟩ ?_
  obtain ⟨v14, h⟩ := h
  refine v_iadd (pc := 1391) (dk dt_L_law_20 19 rfl) v14 ?_
  obtain ⟨v15, h⟩ := h
  obtain ⟨v16, h⟩ := h
  obtain ⟨v17, h⟩ := h
  refine v_iald (pc := 1392) (dk dt_L_law_20 20 rfl) v15 v16 v17 (fun _ => ?_)
  refine v_aload_n (pc := 1393) (dk dt_L_law_20 21 rfl) rfl rfl ?_
  refine v_iload (pc := 1394) (dk dt_L_law_20 22 rfl) rfl ?_
  refine v_iconst (pc := 1396) (dk dt_L_law_20 23 rfl) ⟨by decide, by decide⟩ ?_
  obtain ⟨v18, h⟩ := h
  refine v_iadd (pc := 1397) (dk dt_L_law_20 24 rfl) v18 ?_
  obtain ⟨v19, h⟩ := h
  obtain ⟨v20, h⟩ := h
  obtain ⟨v21, h⟩ := h
  refine v_iald (pc := 1398) (dk dt_L_law_20 25 rfl) v19 v20 v21 (fun _ => ?_)
  suffices k39 : V E M_L_law 1407 [some (rv l0), some (rv l1), some (rv l2), some (rv l3), some (iv l4), some (iv r10), none, none] [iv (if (gel G11 l0 (l4 + 2)) = 0 then (0 : Int) else 1), iv (gel G11 l0 (l4 + 1)), rv l2] G11 c12 s13 Q X by
    refine v_if_eq (pc := 1399) (tgt := 1406) (dk dt_L_law_20 26 rfl) (by decide) (fun c22 => ?_) (fun c22 => ?_)
    · refine v_iconst (pc := 1406) (dk dt_L_law_20 29 rfl) ⟨by decide, by decide⟩ ?_
      exact v_less2 (ls' := [some (rv l0), some (rv l1), some (rv l2), some (rv l3), some (iv l4), some (iv r10), none, none]) ⟨rfl, rfl, rfl, rfl, rfl, rfl, trivial⟩ (by have hk9 := k39; try simp only [if_pos c22] at hk9 ⊢; exact hk9)
    · refine v_iconst (pc := 1402) (dk dt_L_law_20 27 rfl) ⟨by decide, by decide⟩ ?_
      refine v_goto (pc := 1403) (tgt := 1407) (dk dt_L_law_20 28 rfl) (by decide) ?_
      exact v_less2 (ls' := [some (rv l0), some (rv l1), some (rv l2), some (rv l3), some (iv l4), some (iv r10), none, none]) ⟨rfl, rfl, rfl, rfl, rfl, rfl, trivial⟩ (by have hk9 := k39; try simp only [if_neg c22] at hk9 ⊢; exact hk9)
  obtain ⟨v23, h⟩ := h
  refine v_cvI (c := 12) (As := [iv (gel G11 l0 (l4 + 1)), iv (if (gel G11 l0 (l4 + 2)) = 0 then (0 : Int) else 1)]) (stk := []) (pc := 1407) (dk dt_L_law_20 30 rfl) ml_L_177 rfl rfl (Nat.le_of_ble_eq_true rfl) rfl ⟨by decide, rfl⟩ v23 rfl (Call.mono h (fun r24 G25 c26 s27 h => ?_))
  refine v_istore (pc := 1410) (ls' := [some (rv l0), some (rv l1), some (rv l2), some (rv l3), some (iv l4), some (iv r10), some (iv r24), none]) (dk dt_L_law_20 31 rfl) (Nat.le_of_ble_eq_true rfl) rfl ?_
  refine v_aload_n (pc := 1412) (dk dt_L_law_20 32 rfl) rfl rfl ?_
  obtain ⟨v28, h⟩ := h
  refine v_cvI (c := 12) (As := []) (stk := []) (pc := 1413) (dk dt_L_law_20 33 rfl) ml_L_102 rfl rfl (Nat.le_of_ble_eq_true rfl) rfl ⟨by decide, rfl⟩ v28 rfl (Call.mono h (fun r29 G30 c31 s32 h => ?_))
  refine v_iload (pc := 1416) (dk dt_L_law_20 34 rfl) rfl ?_
  refine v_icmp_eq (pc := 1418) (tgt := 1423) (dk dt_L_law_20 35 rfl) (by decide) (fun c33 => ?_) (fun c33 => ?_)
  · replace h := h.1 c33
    refine v_iload (pc := 1423) (dk dt_L_law_20 38 rfl) rfl ?_
    refine v_if_ne (pc := 1425) (tgt := 1440) (dk dt_L_law_20 39 rfl) (by decide) (fun c34 => ?_) (fun c34 => ?_)
    · replace h := h.1 c34
      refine v_goto (pc := 1440) (tgt := 1893) (dk dt_L_law_21 9 rfl) (by decide) ?_
      exact v_less2 (ls' := [some (rv l0), some (rv l1), some (rv l2), some (rv l3), some (iv l4), none, none, none]) ⟨rfl, rfl, rfl, rfl, rfl, trivial⟩ h
    · replace h := h.2 c34
      refine v_aload_n (pc := 1428) (dk dt_L_law_21 0 rfl) rfl rfl ?_
      refine v_iconst (pc := 1429) (dk dt_L_law_21 1 rfl) ⟨by decide, by decide⟩ ?_
      obtain ⟨v35, h⟩ := h
      obtain ⟨v36, h⟩ := h
      refine v_lald (pc := 1430) (dk dt_L_law_21 2 rfl) v35 (by decide) v36 (fun _ => ?_)
      refine v_iload (pc := 1431) (dk dt_L_law_21 3 rfl) rfl ?_
      refine v_i2l (pc := 1433) (dk dt_L_law_21 4 rfl) ?_
      refine v_lcmp_eq (pc := 1434) (tgt := 1440) (dk dt_L_law_21 5 rfl) (dk dt_L_law_21 6 rfl) (by decide) (fun c37 => ?_) (fun c37 => ?_)
      · replace h := h.1 c37
        refine v_goto (pc := 1440) (tgt := 1893) (dk dt_L_law_21 9 rfl) (by decide) ?_
        exact v_less2 (ls' := [some (rv l0), some (rv l1), some (rv l2), some (rv l3), some (iv l4), none, none, none]) ⟨rfl, rfl, rfl, rfl, rfl, trivial⟩ h
      · replace h := h.2 c37
        refine v_iconst (pc := 1438) (dk dt_L_law_21 7 rfl) ⟨by decide, by decide⟩ ?_
        exact v_zret (pc := 1439) (dk dt_L_law_21 8 rfl) rfl (Or.inl rfl) h
  · replace h := h.2 c33
    refine v_iconst (pc := 1421) (dk dt_L_law_20 36 rfl) ⟨by decide, by decide⟩ ?_
    exact v_zret (pc := 1422) (dk dt_L_law_20 37 rfl) rfl (Or.inl rfl) h
set_option maxRecDepth 20000 in
set_option maxHeartbeats 1000000 in
theorem b_L_law_1443 {E : EE} {l0 l1 l2 l3 l4 : Int} {G : Gt} {c s : Nat} {Q X : Int → Gt → Prop} (h : (i32 (l4 + 1) ∧ (gcl G l0 = 15 ∨ gcl G l0 = 19) ∧ 0 ≤ (l4 + 1) ∧ (l4 + 1) < gln G l0 ∧ i32 (l4 + 2) ∧ (gcl G l0 = 15 ∨ gcl G l0 = 19) ∧ 0 ≤ (l4 + 2) ∧ (l4 + 2) < gln G l0 ∧ i32 (l4 + 3) ∧ (gcl G l0 = 15 ∨ gcl G l0 = 19) ∧ 0 ≤ (l4 + 3) ∧ (l4 + 3) < gln G l0 ∧ CallH E M_L_entry [rv l1, iv (gel G l0 (l4 + 1)), iv (gel G l0 (l4 + 2)), iv (gel G l0 (l4 + 3)), rv l3] G c s (fun r13 G14 c15 s16 => i32 (l4 + 1) ∧ (gcl G14 l0 = 15 ∨ gcl G14 l0 = 19) ∧ 0 ≤ (l4 + 1) ∧ (l4 + 1) < gln G14 l0 ∧ i32 (l4 + 2) ∧ (gcl G14 l0 = 15 ∨ gcl G14 l0 = 19) ∧ 0 ≤ (l4 + 2) ∧ (l4 + 2) < gln G14 l0 ∧ i32 (l4 + 3) ∧ (gcl G14 l0 = 15 ∨ gcl G14 l0 = 19) ∧ 0 ≤ (l4 + 3) ∧ (l4 + 3) < gln G14 l0 ∧ gcl G14 l2 = 13 ∧ Call E M_X12_entry [rv l2, iv (gel G14 l0 (l4 + 1)), iv (gel G14 l0 (l4 + 2)), iv (gel G14 l0 (l4 + 3))] G14 c15 s16 X (fun r30 G31 c32 s33 => gcl G31 l2 = 13 ∧ Call E M_X12_thrown [rv l2] G31 c32 s33 X (fun r35 G36 c37 s38 => ((r35 = r13 → ((r13 ≠ 0 → V E M_L_law 1893 [some (rv l0), some (rv l1), some (rv l2), some (rv l3), some (iv l4), none, none, none] [] G36 c37 s38 Q X) ∧ (r13 = 0 → (gcl G36 l3 = 16 ∧ 0 < gln G36 l3 ∧ (((gel G36 l3 0) = r30 → V E M_L_law 1893 [some (rv l0), some (rv l1), some (rv l2), some (rv l3), some (iv l4), none, none, none] [] G36 c37 s38 Q X) ∧ ((gel G36 l3 0) ≠ r30 → Q 0 G36)))))) ∧ (r35 ≠ r13 → Q 0 G36))))))) : V E M_L_law 1443 [some (rv l0), some (rv l1), some (rv l2), some (rv l3), some (iv l4), none, none, none] [] G c s Q X := by
  refine v_aload_n (pc := 1443) (dk dt_L_law_21 10 rfl) rfl rfl ?_
  refine v_aload_n (pc := 1444) (dk dt_L_law_21 11 rfl) rfl rfl ?_
  refine v_iload (pc := 1445) (dk dt_L_law_21 12 rfl) rfl ?_
  refine v_iconst (pc := 1447) (dk dt_L_law_21 13 rfl) ⟨by decide, by decide⟩ ?_
  obtain ⟨v1, h⟩ := h
  refine v_iadd (pc := 1448) (dk dt_L_law_21 14 rfl) v1 ?_
  obtain ⟨v2, h⟩ := h
  obtain ⟨v3, h⟩ := h
  obtain ⟨v4, h⟩ := h
  refine v_iald (pc := 1449) (dk dt_L_law_21 15 rfl) v2 v3 v4 (fun _ => ?_)
  refine v_aload_n (pc := 1450) (dk dt_L_law_21 16 rfl) rfl rfl ?_
  refine v_iload (pc := 1451) (dk dt_L_law_21 17 rfl) rfl ?_
  refine v_iconst (pc := 1453) (dk dt_L_law_21 18 rfl) ⟨by decide, by decide⟩ ?_
  obtain ⟨v5, h⟩ := h
  refine v_iadd (pc := 1454) (dk dt_L_law_21 19 rfl) v5 ?_
  obtain ⟨v6, h⟩ := h
  obtain ⟨v7, h⟩ := h
  obtain ⟨v8, h⟩ := h
  refine v_iald (pc := 1455) (dk dt_L_law_21 20 rfl) v6 v7 v8 (fun _ => ?_)
  refine v_aload_n (pc := 1456) (dk dt_L_law_21 21 rfl) rfl rfl ?_
  refine v_iload (pc := 1457) (dk dt_L_law_21 22 rfl) rfl ?_
  refine v_iconst (pc := 1459) (dk dt_L_law_21 23 rfl) ⟨by decide, by decide⟩ ?_
  obtain ⟨v9, h⟩ := h
  refine v_iadd (pc := 1460) (dk dt_L_law_21 24 rfl) v9 ?_
  obtain ⟨v10, h⟩ := h
  obtain ⟨v11, h⟩ := h
  obtain ⟨v12, h⟩ := h
  refine v_iald (pc := 1461) (dk dt_L_law_21 25 rfl) v10 v11 v12 (fun _ => ?_)
  refine v_aload_n (pc := 1462) (dk dt_L_law_21 26 rfl) rfl rfl ?_
  refine v_csHI (As := [rv l1, iv (gel G l0 (l4 + 1)), iv (gel G l0 (l4 + 2)), iv (gel G l0 (l4 + 3)), rv l3]) (stk := []) (pc := 1463) (dk dt_L_law_21 27 rfl) ml_L_178 rfl rfl (Nat.le_of_ble_eq_true rfl) rfl rfl (CallH.mono h (fun r13 G14 c15 s16 h => ?_))
  refine v_istore (pc := 1466) (ls' := [some (rv l0), some (rv l1), some (rv l2), some (rv l3), some (iv l4), some (iv r13), none, none]) (dk dt_L_law_21 28 rfl) (Nat.le_of_ble_eq_true rfl) rfl ?_
  refine v_aload_n (pc := 1468) (dk dt_L_law_21 29 rfl) rfl rfl ?_
  refine v_aload_n (pc := 1469) (dk dt_L_law_21 30 rfl) rfl rfl ?_
  refine v_iload (pc := 1470) (dk dt_L_law_21 31 rfl) rfl ?_
  refine v_iconst (pc := 1472) (dk dt_L_law_21 32 rfl) ⟨by decide, by decide⟩ ?_
  obtain ⟨v17, h⟩ := h
  refine v_iadd (pc := 1473) (dk dt_L_law_21 33 rfl) v17 ?_
  obtain ⟨v18, h⟩ := h
  obtain ⟨v19, h⟩ := h
  obtain ⟨v20, h⟩ := h
  refine v_iald (pc := 1474) (dk dt_L_law_21 34 rfl) v18 v19 v20 (fun _ => ?_)
  refine v_aload_n (pc := 1475) (dk dt_L_law_21 35 rfl) rfl rfl ?_
  refine v_iload (pc := 1476) (dk dt_L_law_21 36 rfl) rfl ?_
  refine v_iconst (pc := 1478) (dk dt_L_law_21 37 rfl) ⟨by decide, by decide⟩ ?_
  obtain ⟨v21, h⟩ := h
  refine v_iadd (pc := 1479) (dk dt_L_law_21 38 rfl) v21 ?_
  obtain ⟨v22, h⟩ := h
  obtain ⟨v23, h⟩ := h
  obtain ⟨v24, h⟩ := h
  refine v_iald (pc := 1480) (dk dt_L_law_21 39 rfl) v22 v23 v24 (fun _ => ?_)
  refine v_aload_n (pc := 1481) (dk dt_L_law_22 0 rfl) rfl rfl ?_
  refine v_iload (pc := 1482) (dk dt_L_law_22 1 rfl) rfl ?_
  refine v_iconst (pc := 1484) (dk dt_L_law_22 2 rfl) ⟨by decide, by decide⟩ ?_
  obtain ⟨v25, h⟩ := h
  refine v_iadd (pc := 1485) (dk dt_L_law_22 3 rfl) v25 ?_
  obtain ⟨v26, h⟩ := h
  obtain ⟨v27, h⟩ := h
  obtain ⟨v28, h⟩ := h
  refine v_iald (pc := 1486) (dk dt_L_law_22 4 rfl) v26 v27 v28 (fun _ => ?_)
  obtain ⟨v29, h⟩ := h
  refine v_cvI (c := 12) (As := [iv (gel G14 l0 (l4 + 1)), iv (gel G14 l0 (l4 + 2)), iv (gel G14 l0 (l4 + 3))]) (stk := []) (pc := 1487) (dk dt_L_law_22 5 rfl) ml_L_180 rfl rfl (Nat.le_of_ble_eq_true rfl) rfl ⟨by decide, rfl⟩ v29 rfl (Call.mono h (fun r30 G31 c32 s33 h => ?_))
  refine v_istore (pc := 1490) (ls' := [some (rv l0), some (rv l1), some (rv l2), some (rv l3), some (iv l4), some (iv r13), some (iv r30), none]) (dk dt_L_law_22 6 rfl) (Nat.le_of_ble_eq_true rfl) rfl ?_
  refine v_aload_n (pc := 1492) (dk dt_L_law_22 7 rfl) rfl rfl ?_
  obtain ⟨v34, h⟩ := h
  refine v_cvI (c := 12) (As := []) (stk := []) (pc := 1493) (dk dt_L_law_22 8 rfl) ml_L_102 rfl rfl (Nat.le_of_ble_eq_true rfl) rfl ⟨by decide, rfl⟩ v34 rfl (Call.mono h (fun r35 G36 c37 s38 h => ?_))
  refine v_iload (pc := 1496) (dk dt_L_law_22 9 rfl) rfl ?_
  refine v_icmp_eq (pc := 1498) (tgt := 1503) (dk dt_L_law_22 10 rfl) (by decide) (fun c39 => ?_) (fun c39 => ?_)
  · replace h := h.1 c39
    refine v_iload (pc := 1503) (dk dt_L_law_22 13 rfl) rfl ?_
    refine v_if_ne (pc := 1505) (tgt := 1520) (dk dt_L_law_22 14 rfl) (by decide) (fun c40 => ?_) (fun c40 => ?_)
    · replace h := h.1 c40
      refine v_goto (pc := 1520) (tgt := 1893) (dk dt_L_law_22 24 rfl) (by decide) ?_
      exact v_less2 (ls' := [some (rv l0), some (rv l1), some (rv l2), some (rv l3), some (iv l4), none, none, none]) ⟨rfl, rfl, rfl, rfl, rfl, trivial⟩ h
    · replace h := h.2 c40
      refine v_aload_n (pc := 1508) (dk dt_L_law_22 15 rfl) rfl rfl ?_
      refine v_iconst (pc := 1509) (dk dt_L_law_22 16 rfl) ⟨by decide, by decide⟩ ?_
      obtain ⟨v41, h⟩ := h
      obtain ⟨v42, h⟩ := h
      refine v_lald (pc := 1510) (dk dt_L_law_22 17 rfl) v41 (by decide) v42 (fun _ => ?_)
      refine v_iload (pc := 1511) (dk dt_L_law_22 18 rfl) rfl ?_
      refine v_i2l (pc := 1513) (dk dt_L_law_22 19 rfl) ?_
      refine v_lcmp_eq (pc := 1514) (tgt := 1520) (dk dt_L_law_22 20 rfl) (dk dt_L_law_22 21 rfl) (by decide) (fun c43 => ?_) (fun c43 => ?_)
      · replace h := h.1 c43
        refine v_goto (pc := 1520) (tgt := 1893) (dk dt_L_law_22 24 rfl) (by decide) ?_
        exact v_less2 (ls' := [some (rv l0), some (rv l1), some (rv l2), some (rv l3), some (iv l4), none, none, none]) ⟨rfl, rfl, rfl, rfl, rfl, trivial⟩ h
      · replace h := h.2 c43
        refine v_iconst (pc := 1518) (dk dt_L_law_22 22 rfl) ⟨by decide, by decide⟩ ?_
        exact v_zret (pc := 1519) (dk dt_L_law_22 23 rfl) rfl (Or.inl rfl) h
  · replace h := h.2 c39
    refine v_iconst (pc := 1501) (dk dt_L_law_22 11 rfl) ⟨by decide, by decide⟩ ?_
    exact v_zret (pc := 1502) (dk dt_L_law_22 12 rfl) rfl (Or.inl rfl) h
set_option maxRecDepth 20000 in
set_option maxHeartbeats 1000000 in
theorem b_L_law_1523 {E : EE} {l0 l1 l2 l3 l4 : Int} {G : Gt} {c s : Nat} {Q X : Int → Gt → Prop} (h : (gcl G l1 = 12 ∧ Call E M_X11_notices [rv l1] G c s X (fun r2 G3 c4 s5 => gcl G3 l2 = 13 ∧ Call E M_X12_notices [rv l2] G3 c4 s5 X (fun r7 G8 c9 s10 => ((r2 = r7 → V E M_L_law 1893 [some (rv l0), some (rv l1), some (rv l2), some (rv l3), some (iv l4), none, none, none] [] G8 c9 s10 Q X) ∧ (r2 ≠ r7 → Q 0 G8)))))) : V E M_L_law 1523 [some (rv l0), some (rv l1), some (rv l2), some (rv l3), some (iv l4), none, none, none] [] G c s Q X := by
  refine v_aload_n (pc := 1523) (dk dt_L_law_22 25 rfl) rfl rfl ?_
  obtain ⟨v1, h⟩ := h
  refine v_cvI (c := 11) (As := []) (stk := []) (pc := 1524) (dk dt_L_law_22 26 rfl) ml_L_181 rfl rfl (Nat.le_of_ble_eq_true rfl) rfl ⟨by decide, rfl⟩ v1 rfl (Call.mono h (fun r2 G3 c4 s5 h => ?_))
  refine v_aload_n (pc := 1527) (dk dt_L_law_22 27 rfl) rfl rfl ?_
  obtain ⟨v6, h⟩ := h
  refine v_cvI (c := 12) (As := []) (stk := [iv r2]) (pc := 1528) (dk dt_L_law_22 28 rfl) ml_L_184 rfl rfl (Nat.le_of_ble_eq_true rfl) rfl ⟨by decide, rfl⟩ v6 rfl (Call.mono h (fun r7 G8 c9 s10 h => ?_))
  refine v_icmp_eq (pc := 1531) (tgt := 1893) (dk dt_L_law_22 29 rfl) (by decide) (fun c11 => ?_) (fun c11 => ?_)
  · replace h := h.1 c11
    exact h
  · replace h := h.2 c11
    refine v_iconst (pc := 1534) (dk dt_L_law_22 30 rfl) ⟨by decide, by decide⟩ ?_
    exact v_zret (pc := 1535) (dk dt_L_law_22 31 rfl) rfl (Or.inl rfl) h
set_option maxRecDepth 20000 in
set_option maxHeartbeats 1000000 in
theorem b_L_law_1536 {E : EE} {l0 l1 l2 l3 l4 : Int} {G : Gt} {c s : Nat} {Q X : Int → Gt → Prop} (h : (i32 (l4 + 1) ∧ (gcl G l0 = 15 ∨ gcl G l0 = 19) ∧ 0 ≤ (l4 + 1) ∧ (l4 + 1) < gln G l0 ∧ i32 (l4 + 2) ∧ (gcl G l0 = 15 ∨ gcl G l0 = 19) ∧ 0 ≤ (l4 + 2) ∧ (l4 + 2) < gln G l0 ∧ CallH E M_L_notice [rv l1, iv (gel G l0 (l4 + 1)), iv (gel G l0 (l4 + 2)), rv l3] G c s (fun r9 G10 c11 s12 => i32 (l4 + 1) ∧ (gcl G10 l0 = 15 ∨ gcl G10 l0 = 19) ∧ 0 ≤ (l4 + 1) ∧ (l4 + 1) < gln G10 l0 ∧ i32 (l4 + 2) ∧ (gcl G10 l0 = 15 ∨ gcl G10 l0 = 19) ∧ 0 ≤ (l4 + 2) ∧ (l4 + 2) < gln G10 l0 ∧ gcl G10 l2 = 13 ∧ Call E M_X12_notice [rv l2, iv (gel G10 l0 (l4 + 1)), iv (gel G10 l0 (l4 + 2))] G10 c11 s12 X (fun r22 G23 c24 s25 => gcl G23 l2 = 13 ∧ Call E M_X12_thrown [rv l2] G23 c24 s25 X (fun r27 G28 c29 s30 => ((r27 = r9 → ((r9 ≠ 0 → V E M_L_law 1893 [some (rv l0), some (rv l1), some (rv l2), some (rv l3), some (iv l4), none, none, none] [] G28 c29 s30 Q X) ∧ (r9 = 0 → (gcl G28 l3 = 16 ∧ 0 < gln G28 l3 ∧ (((gel G28 l3 0) = r22 → V E M_L_law 1893 [some (rv l0), some (rv l1), some (rv l2), some (rv l3), some (iv l4), none, none, none] [] G28 c29 s30 Q X) ∧ ((gel G28 l3 0) ≠ r22 → Q 0 G28)))))) ∧ (r27 ≠ r9 → Q 0 G28))))))) : V E M_L_law 1536 [some (rv l0), some (rv l1), some (rv l2), some (rv l3), some (iv l4), none, none, none] [] G c s Q X := by
  refine v_aload_n (pc := 1536) (dk dt_L_law_22 32 rfl) rfl rfl ?_
  refine v_aload_n (pc := 1537) (dk dt_L_law_22 33 rfl) rfl rfl ?_
  refine v_iload (pc := 1538) (dk dt_L_law_22 34 rfl) rfl ?_
  refine v_iconst (pc := 1540) (dk dt_L_law_22 35 rfl) ⟨by decide, by decide⟩ ?_
  obtain ⟨v1, h⟩ := h
  refine v_iadd (pc := 1541) (dk dt_L_law_22 36 rfl) v1 ?_
  obtain ⟨v2, h⟩ := h
  obtain ⟨v3, h⟩ := h
  obtain ⟨v4, h⟩ := h
  refine v_iald (pc := 1542) (dk dt_L_law_22 37 rfl) v2 v3 v4 (fun _ => ?_)
  refine v_aload_n (pc := 1543) (dk dt_L_law_22 38 rfl) rfl rfl ?_
  refine v_iload (pc := 1544) (dk dt_L_law_22 39 rfl) rfl ?_
  refine v_iconst (pc := 1546) (dk dt_L_law_23 0 rfl) ⟨by decide, by decide⟩ ?_
  obtain ⟨v5, h⟩ := h
  refine v_iadd (pc := 1547) (dk dt_L_law_23 1 rfl) v5 ?_
  obtain ⟨v6, h⟩ := h
  obtain ⟨v7, h⟩ := h
  obtain ⟨v8, h⟩ := h
  refine v_iald (pc := 1548) (dk dt_L_law_23 2 rfl) v6 v7 v8 (fun _ => ?_)
  refine v_aload_n (pc := 1549) (dk dt_L_law_23 3 rfl) rfl rfl ?_
  refine v_csHI (As := [rv l1, iv (gel G l0 (l4 + 1)), iv (gel G l0 (l4 + 2)), rv l3]) (stk := []) (pc := 1550) (dk dt_L_law_23 4 rfl) ml_L_185 rfl rfl (Nat.le_of_ble_eq_true rfl) rfl rfl (CallH.mono h (fun r9 G10 c11 s12 h => ?_))
  refine v_istore (pc := 1553) (ls' := [some (rv l0), some (rv l1), some (rv l2), some (rv l3), some (iv l4), some (iv r9), none, none]) (dk dt_L_law_23 5 rfl) (Nat.le_of_ble_eq_true rfl) rfl ?_
  refine v_aload_n (pc := 1555) (dk dt_L_law_23 6 rfl) rfl rfl ?_
  refine v_aload_n (pc := 1556) (dk dt_L_law_23 7 rfl) rfl rfl ?_
  refine v_iload (pc := 1557) (dk dt_L_law_23 8 rfl) rfl ?_
  refine v_iconst (pc := 1559) (dk dt_L_law_23 9 rfl) ⟨by decide, by decide⟩ ?_
  obtain ⟨v13, h⟩ := h
  refine v_iadd (pc := 1560) (dk dt_L_law_23 10 rfl) v13 ?_
  obtain ⟨v14, h⟩ := h
  obtain ⟨v15, h⟩ := h
  obtain ⟨v16, h⟩ := h
  refine v_iald (pc := 1561) (dk dt_L_law_23 11 rfl) v14 v15 v16 (fun _ => ?_)
  refine v_aload_n (pc := 1562) (dk dt_L_law_23 12 rfl) rfl rfl ?_
  refine v_iload (pc := 1563) (dk dt_L_law_23 13 rfl) rfl ?_
  refine v_iconst (pc := 1565) (dk dt_L_law_23 14 rfl) ⟨by decide, by decide⟩ ?_
  obtain ⟨v17, h⟩ := h
  refine v_iadd (pc := 1566) (dk dt_L_law_23 15 rfl) v17 ?_
  obtain ⟨v18, h⟩ := h
  obtain ⟨v19, h⟩ := h
  obtain ⟨v20, h⟩ := h
  refine v_iald (pc := 1567) (dk dt_L_law_23 16 rfl) v18 v19 v20 (fun _ => ?_)
  obtain ⟨v21, h⟩ := h
  refine v_cvI (c := 12) (As := [iv (gel G10 l0 (l4 + 1)), iv (gel G10 l0 (l4 + 2))]) (stk := []) (pc := 1568) (dk dt_L_law_23 17 rfl) ml_L_187 rfl rfl (Nat.le_of_ble_eq_true rfl) rfl ⟨by decide, rfl⟩ v21 rfl (Call.mono h (fun r22 G23 c24 s25 h => ?_))
  refine v_istore (pc := 1571) (ls' := [some (rv l0), some (rv l1), some (rv l2), some (rv l3), some (iv l4), some (iv r9), some (iv r22), none]) (dk dt_L_law_23 18 rfl) (Nat.le_of_ble_eq_true rfl) rfl ?_
  refine v_aload_n (pc := 1573) (dk dt_L_law_23 19 rfl) rfl rfl ?_
  obtain ⟨v26, h⟩ := h
  refine v_cvI (c := 12) (As := []) (stk := []) (pc := 1574) (dk dt_L_law_23 20 rfl) ml_L_102 rfl rfl (Nat.le_of_ble_eq_true rfl) rfl ⟨by decide, rfl⟩ v26 rfl (Call.mono h (fun r27 G28 c29 s30 h => ?_))
  refine v_iload (pc := 1577) (dk dt_L_law_23 21 rfl) rfl ?_
  refine v_icmp_eq (pc := 1579) (tgt := 1584) (dk dt_L_law_23 22 rfl) (by decide) (fun c31 => ?_) (fun c31 => ?_)
  · replace h := h.1 c31
    refine v_iload (pc := 1584) (dk dt_L_law_23 25 rfl) rfl ?_
    refine v_if_ne (pc := 1586) (tgt := 1601) (dk dt_L_law_23 26 rfl) (by decide) (fun c32 => ?_) (fun c32 => ?_)
    · replace h := h.1 c32
      refine v_goto (pc := 1601) (tgt := 1893) (dk dt_L_law_23 36 rfl) (by decide) ?_
      exact v_less2 (ls' := [some (rv l0), some (rv l1), some (rv l2), some (rv l3), some (iv l4), none, none, none]) ⟨rfl, rfl, rfl, rfl, rfl, trivial⟩ h
    · replace h := h.2 c32
      refine v_aload_n (pc := 1589) (dk dt_L_law_23 27 rfl) rfl rfl ?_
      refine v_iconst (pc := 1590) (dk dt_L_law_23 28 rfl) ⟨by decide, by decide⟩ ?_
      obtain ⟨v33, h⟩ := h
      obtain ⟨v34, h⟩ := h
      refine v_lald (pc := 1591) (dk dt_L_law_23 29 rfl) v33 (by decide) v34 (fun _ => ?_)
      refine v_iload (pc := 1592) (dk dt_L_law_23 30 rfl) rfl ?_
      refine v_i2l (pc := 1594) (dk dt_L_law_23 31 rfl) ?_
      refine v_lcmp_eq (pc := 1595) (tgt := 1601) (dk dt_L_law_23 32 rfl) (dk dt_L_law_23 33 rfl) (by decide) (fun c35 => ?_) (fun c35 => ?_)
      · replace h := h.1 c35
        refine v_goto (pc := 1601) (tgt := 1893) (dk dt_L_law_23 36 rfl) (by decide) ?_
        exact v_less2 (ls' := [some (rv l0), some (rv l1), some (rv l2), some (rv l3), some (iv l4), none, none, none]) ⟨rfl, rfl, rfl, rfl, rfl, trivial⟩ h
      · replace h := h.2 c35
        refine v_iconst (pc := 1599) (dk dt_L_law_23 34 rfl) ⟨by decide, by decide⟩ ?_
        exact v_zret (pc := 1600) (dk dt_L_law_23 35 rfl) rfl (Or.inl rfl) h
  · replace h := h.2 c31
    refine v_iconst (pc := 1582) (dk dt_L_law_23 23 rfl) ⟨by decide, by decide⟩ ?_
    exact v_zret (pc := 1583) (dk dt_L_law_23 24 rfl) rfl (Or.inl rfl) h
set_option maxRecDepth 20000 in
set_option maxHeartbeats 1000000 in
theorem b_L_law_1604 {E : EE} {l0 l1 l2 l3 l4 : Int} {G : Gt} {c s : Nat} {Q X : Int → Gt → Prop} (h : (i32 (l4 + 1) ∧ (gcl G l0 = 15 ∨ gcl G l0 = 19) ∧ 0 ≤ (l4 + 1) ∧ (l4 + 1) < gln G l0 ∧ i32 (l4 + 2) ∧ (gcl G l0 = 15 ∨ gcl G l0 = 19) ∧ 0 ≤ (l4 + 2) ∧ (l4 + 2) < gln G l0 ∧ i32 (l4 + 3) ∧ (gcl G l0 = 15 ∨ gcl G l0 = 19) ∧ 0 ≤ (l4 + 3) ∧ (l4 + 3) < gln G l0 ∧ i32 (l4 + 4) ∧ (gcl G l0 = 15 ∨ gcl G l0 = 19) ∧ 0 ≤ (l4 + 4) ∧ (l4 + 4) < gln G l0 ∧ CallH E M_L_thinned [rv l1, iv (gel G l0 (l4 + 1)), iv (gel G l0 (l4 + 2)), iv (gel G l0 (l4 + 3)), iv (gel G l0 (l4 + 4)), rv l3] G c s (fun r17 G18 c19 s20 => i32 (l4 + 1) ∧ (gcl G18 l0 = 15 ∨ gcl G18 l0 = 19) ∧ 0 ≤ (l4 + 1) ∧ (l4 + 1) < gln G18 l0 ∧ i32 (l4 + 2) ∧ (gcl G18 l0 = 15 ∨ gcl G18 l0 = 19) ∧ 0 ≤ (l4 + 2) ∧ (l4 + 2) < gln G18 l0 ∧ i32 (l4 + 3) ∧ (gcl G18 l0 = 15 ∨ gcl G18 l0 = 19) ∧ 0 ≤ (l4 + 3) ∧ (l4 + 3) < gln G18 l0 ∧ i32 (l4 + 4) ∧ (gcl G18 l0 = 15 ∨ gcl G18 l0 = 19) ∧ 0 ≤ (l4 + 4) ∧ (l4 + 4) < gln G18 l0 ∧ gcl G18 l2 = 13 ∧ Call E M_X12_thinned [rv l2, iv (gel G18 l0 (l4 + 1)), iv (gel G18 l0 (l4 + 2)), iv (gel G18 l0 (l4 + 3)), iv (gel G18 l0 (l4 + 4))] G18 c19 s20 X (fun r38 G39 c40 s41 => gcl G39 l2 = 13 ∧ Call E M_X12_thrown [rv l2] G39 c40 s41 X (fun r43 G44 c45 s46 => ((r43 = r17 → ((r17 ≠ 0 → V E M_L_law 1893 [some (rv l0), some (rv l1), some (rv l2), some (rv l3), some (iv l4), none, none, none] [] G44 c45 s46 Q X) ∧ (r17 = 0 → (gcl G44 l3 = 16 ∧ 0 < gln G44 l3 ∧ (((gel G44 l3 0) = r38 → V E M_L_law 1893 [some (rv l0), some (rv l1), some (rv l2), some (rv l3), some (iv l4), none, none, none] [] G44 c45 s46 Q X) ∧ ((gel G44 l3 0) ≠ r38 → Q 0 G44)))))) ∧ (r43 ≠ r17 → Q 0 G44))))))) : V E M_L_law 1604 [some (rv l0), some (rv l1), some (rv l2), some (rv l3), some (iv l4), none, none, none] [] G c s Q X := by
  refine v_aload_n (pc := 1604) (dk dt_L_law_23 37 rfl) rfl rfl ?_
  refine v_aload_n (pc := 1605) (dk dt_L_law_23 38 rfl) rfl rfl ?_
  refine v_iload (pc := 1606) (dk dt_L_law_23 39 rfl) rfl ?_
  refine v_iconst (pc := 1608) (dk dt_L_law_24 0 rfl) ⟨by decide, by decide⟩ ?_
  obtain ⟨v1, h⟩ := h
  refine v_iadd (pc := 1609) (dk dt_L_law_24 1 rfl) v1 ?_
  obtain ⟨v2, h⟩ := h
  obtain ⟨v3, h⟩ := h
  obtain ⟨v4, h⟩ := h
  refine v_iald (pc := 1610) (dk dt_L_law_24 2 rfl) v2 v3 v4 (fun _ => ?_)
  refine v_aload_n (pc := 1611) (dk dt_L_law_24 3 rfl) rfl rfl ?_
  refine v_iload (pc := 1612) (dk dt_L_law_24 4 rfl) rfl ?_
  refine v_iconst (pc := 1614) (dk dt_L_law_24 5 rfl) ⟨by decide, by decide⟩ ?_
  obtain ⟨v5, h⟩ := h
  refine v_iadd (pc := 1615) (dk dt_L_law_24 6 rfl) v5 ?_
  obtain ⟨v6, h⟩ := h
  obtain ⟨v7, h⟩ := h
  obtain ⟨v8, h⟩ := h
  refine v_iald (pc := 1616) (dk dt_L_law_24 7 rfl) v6 v7 v8 (fun _ => ?_)
  refine v_aload_n (pc := 1617) (dk dt_L_law_24 8 rfl) rfl rfl ?_
  refine v_iload (pc := 1618) (dk dt_L_law_24 9 rfl) rfl ?_
  refine v_iconst (pc := 1620) (dk dt_L_law_24 10 rfl) ⟨by decide, by decide⟩ ?_
  obtain ⟨v9, h⟩ := h
  refine v_iadd (pc := 1621) (dk dt_L_law_24 11 rfl) v9 ?_
  obtain ⟨v10, h⟩ := h
  obtain ⟨v11, h⟩ := h
  obtain ⟨v12, h⟩ := h
  refine v_iald (pc := 1622) (dk dt_L_law_24 12 rfl) v10 v11 v12 (fun _ => ?_)
  refine v_aload_n (pc := 1623) (dk dt_L_law_24 13 rfl) rfl rfl ?_
  refine v_iload (pc := 1624) (dk dt_L_law_24 14 rfl) rfl ?_
  refine v_iconst (pc := 1626) (dk dt_L_law_24 15 rfl) ⟨by decide, by decide⟩ ?_
  obtain ⟨v13, h⟩ := h
  refine v_iadd (pc := 1627) (dk dt_L_law_24 16 rfl) v13 ?_
  obtain ⟨v14, h⟩ := h
  obtain ⟨v15, h⟩ := h
  obtain ⟨v16, h⟩ := h
  refine v_iald (pc := 1628) (dk dt_L_law_24 17 rfl) v14 v15 v16 (fun _ => ?_)
  refine v_aload_n (pc := 1629) (dk dt_L_law_24 18 rfl) rfl rfl ?_
  refine v_csHI (As := [rv l1, iv (gel G l0 (l4 + 1)), iv (gel G l0 (l4 + 2)), iv (gel G l0 (l4 + 3)), iv (gel G l0 (l4 + 4)), rv l3]) (stk := []) (pc := 1630) (dk dt_L_law_24 19 rfl) ml_L_188 rfl rfl (Nat.le_of_ble_eq_true rfl) rfl rfl (CallH.mono h (fun r17 G18 c19 s20 h => ?_))
  refine v_istore (pc := 1633) (ls' := [some (rv l0), some (rv l1), some (rv l2), some (rv l3), some (iv l4), some (iv r17), none, none]) (dk dt_L_law_24 20 rfl) (Nat.le_of_ble_eq_true rfl) rfl ?_
  refine v_aload_n (pc := 1635) (dk dt_L_law_24 21 rfl) rfl rfl ?_
  refine v_aload_n (pc := 1636) (dk dt_L_law_24 22 rfl) rfl rfl ?_
  refine v_iload (pc := 1637) (dk dt_L_law_24 23 rfl) rfl ?_
  refine v_iconst (pc := 1639) (dk dt_L_law_24 24 rfl) ⟨by decide, by decide⟩ ?_
  obtain ⟨v21, h⟩ := h
  refine v_iadd (pc := 1640) (dk dt_L_law_24 25 rfl) v21 ?_
  obtain ⟨v22, h⟩ := h
  obtain ⟨v23, h⟩ := h
  obtain ⟨v24, h⟩ := h
  refine v_iald (pc := 1641) (dk dt_L_law_24 26 rfl) v22 v23 v24 (fun _ => ?_)
  refine v_aload_n (pc := 1642) (dk dt_L_law_24 27 rfl) rfl rfl ?_
  refine v_iload (pc := 1643) (dk dt_L_law_24 28 rfl) rfl ?_
  refine v_iconst (pc := 1645) (dk dt_L_law_24 29 rfl) ⟨by decide, by decide⟩ ?_
  obtain ⟨v25, h⟩ := h
  refine v_iadd (pc := 1646) (dk dt_L_law_24 30 rfl) v25 ?_
  obtain ⟨v26, h⟩ := h
  obtain ⟨v27, h⟩ := h
  obtain ⟨v28, h⟩ := h
  refine v_iald (pc := 1647) (dk dt_L_law_24 31 rfl) v26 v27 v28 (fun _ => ?_)
  refine v_aload_n (pc := 1648) (dk dt_L_law_24 32 rfl) rfl rfl ?_
  refine v_iload (pc := 1649) (dk dt_L_law_24 33 rfl) rfl ?_
  refine v_iconst (pc := 1651) (dk dt_L_law_24 34 rfl) ⟨by decide, by decide⟩ ?_
  obtain ⟨v29, h⟩ := h
  refine v_iadd (pc := 1652) (dk dt_L_law_24 35 rfl) v29 ?_
  obtain ⟨v30, h⟩ := h
  obtain ⟨v31, h⟩ := h
  obtain ⟨v32, h⟩ := h
  refine v_iald (pc := 1653) (dk dt_L_law_24 36 rfl) v30 v31 v32 (fun _ => ?_)
  refine v_aload_n (pc := 1654) (dk dt_L_law_24 37 rfl) rfl rfl ?_
  refine v_iload (pc := 1655) (dk dt_L_law_24 38 rfl) rfl ?_
  refine v_iconst (pc := 1657) (dk dt_L_law_24 39 rfl) ⟨by decide, by decide⟩ ?_
  obtain ⟨v33, h⟩ := h
  refine v_iadd (pc := 1658) (dk dt_L_law_25 0 rfl) v33 ?_
  obtain ⟨v34, h⟩ := h
  obtain ⟨v35, h⟩ := h
  obtain ⟨v36, h⟩ := h
  refine v_iald (pc := 1659) (dk dt_L_law_25 1 rfl) v34 v35 v36 (fun _ => ?_)
  obtain ⟨v37, h⟩ := h
  refine v_cvI (c := 12) (As := [iv (gel G18 l0 (l4 + 1)), iv (gel G18 l0 (l4 + 2)), iv (gel G18 l0 (l4 + 3)), iv (gel G18 l0 (l4 + 4))]) (stk := []) (pc := 1660) (dk dt_L_law_25 2 rfl) ml_L_190 rfl rfl (Nat.le_of_ble_eq_true rfl) rfl ⟨by decide, rfl⟩ v37 rfl (Call.mono h (fun r38 G39 c40 s41 h => ?_))
  refine v_istore (pc := 1663) (ls' := [some (rv l0), some (rv l1), some (rv l2), some (rv l3), some (iv l4), some (iv r17), some (iv r38), none]) (dk dt_L_law_25 3 rfl) (Nat.le_of_ble_eq_true rfl) rfl ?_
  refine v_aload_n (pc := 1665) (dk dt_L_law_25 4 rfl) rfl rfl ?_
  obtain ⟨v42, h⟩ := h
  refine v_cvI (c := 12) (As := []) (stk := []) (pc := 1666) (dk dt_L_law_25 5 rfl) ml_L_102 rfl rfl (Nat.le_of_ble_eq_true rfl) rfl ⟨by decide, rfl⟩ v42 rfl (Call.mono h (fun r43 G44 c45 s46 h => ?_))
  refine v_iload (pc := 1669) (dk dt_L_law_25 6 rfl) rfl ?_
  refine v_icmp_eq (pc := 1671) (tgt := 1676) (dk dt_L_law_25 7 rfl) (by decide) (fun c47 => ?_) (fun c47 => ?_)
  · replace h := h.1 c47
    refine v_iload (pc := 1676) (dk dt_L_law_25 10 rfl) rfl ?_
    refine v_if_ne (pc := 1678) (tgt := 1693) (dk dt_L_law_25 11 rfl) (by decide) (fun c48 => ?_) (fun c48 => ?_)
    · replace h := h.1 c48
      refine v_goto (pc := 1693) (tgt := 1893) (dk dt_L_law_25 21 rfl) (by decide) ?_
      exact v_less2 (ls' := [some (rv l0), some (rv l1), some (rv l2), some (rv l3), some (iv l4), none, none, none]) ⟨rfl, rfl, rfl, rfl, rfl, trivial⟩ h
    · replace h := h.2 c48
      refine v_aload_n (pc := 1681) (dk dt_L_law_25 12 rfl) rfl rfl ?_
      refine v_iconst (pc := 1682) (dk dt_L_law_25 13 rfl) ⟨by decide, by decide⟩ ?_
      obtain ⟨v49, h⟩ := h
      obtain ⟨v50, h⟩ := h
      refine v_lald (pc := 1683) (dk dt_L_law_25 14 rfl) v49 (by decide) v50 (fun _ => ?_)
      refine v_iload (pc := 1684) (dk dt_L_law_25 15 rfl) rfl ?_
      refine v_i2l (pc := 1686) (dk dt_L_law_25 16 rfl) ?_
      refine v_lcmp_eq (pc := 1687) (tgt := 1693) (dk dt_L_law_25 17 rfl) (dk dt_L_law_25 18 rfl) (by decide) (fun c51 => ?_) (fun c51 => ?_)
      · replace h := h.1 c51
        refine v_goto (pc := 1693) (tgt := 1893) (dk dt_L_law_25 21 rfl) (by decide) ?_
        exact v_less2 (ls' := [some (rv l0), some (rv l1), some (rv l2), some (rv l3), some (iv l4), none, none, none]) ⟨rfl, rfl, rfl, rfl, rfl, trivial⟩ h
      · replace h := h.2 c51
        refine v_iconst (pc := 1691) (dk dt_L_law_25 19 rfl) ⟨by decide, by decide⟩ ?_
        exact v_zret (pc := 1692) (dk dt_L_law_25 20 rfl) rfl (Or.inl rfl) h
  · replace h := h.2 c47
    refine v_iconst (pc := 1674) (dk dt_L_law_25 8 rfl) ⟨by decide, by decide⟩ ?_
    exact v_zret (pc := 1675) (dk dt_L_law_25 9 rfl) rfl (Or.inl rfl) h
set_option maxRecDepth 20000 in
set_option maxHeartbeats 1000000 in
theorem b_L_law_1696 {E : EE} {l0 l1 l2 l3 l4 : Int} {G : Gt} {c s : Nat} {Q X : Int → Gt → Prop} (h : (i32 (l4 + 1) ∧ (gcl G l0 = 15 ∨ gcl G l0 = 19) ∧ 0 ≤ (l4 + 1) ∧ (l4 + 1) < gln G l0 ∧ i32 (l4 + 2) ∧ (gcl G l0 = 15 ∨ gcl G l0 = 19) ∧ 0 ≤ (l4 + 2) ∧ (l4 + 2) < gln G l0 ∧ i32 (l4 + 3) ∧ (gcl G l0 = 15 ∨ gcl G l0 = 19) ∧ 0 ≤ (l4 + 3) ∧ (l4 + 3) < gln G l0 ∧ CallH E M_L_suits [rv l1, iv (gel G l0 (l4 + 1)), iv (gel G l0 (l4 + 2)), iv (gel G l0 (l4 + 3)), rv l3] G c s (fun r13 G14 c15 s16 => i32 (l4 + 1) ∧ (gcl G14 l0 = 15 ∨ gcl G14 l0 = 19) ∧ 0 ≤ (l4 + 1) ∧ (l4 + 1) < gln G14 l0 ∧ i32 (l4 + 2) ∧ (gcl G14 l0 = 15 ∨ gcl G14 l0 = 19) ∧ 0 ≤ (l4 + 2) ∧ (l4 + 2) < gln G14 l0 ∧ i32 (l4 + 3) ∧ (gcl G14 l0 = 15 ∨ gcl G14 l0 = 19) ∧ 0 ≤ (l4 + 3) ∧ (l4 + 3) < gln G14 l0 ∧ gcl G14 l2 = 13 ∧ Call E M_X12_suits [rv l2, iv (gel G14 l0 (l4 + 1)), iv (gel G14 l0 (l4 + 2)), iv (gel G14 l0 (l4 + 3))] G14 c15 s16 X (fun r30 G31 c32 s33 => gcl G31 l2 = 13 ∧ Call E M_X12_thrown [rv l2] G31 c32 s33 X (fun r35 G36 c37 s38 => ((r35 = r13 → ((r13 ≠ 0 → V E M_L_law 1893 [some (rv l0), some (rv l1), some (rv l2), some (rv l3), some (iv l4), none, none, none] [] G36 c37 s38 Q X) ∧ (r13 = 0 → (gcl G36 l3 = 16 ∧ 0 < gln G36 l3 ∧ (((gel G36 l3 0) = (if r30 = 0 then (0 : Int) else 1) → V E M_L_law 1893 [some (rv l0), some (rv l1), some (rv l2), some (rv l3), some (iv l4), none, none, none] [] G36 c37 s38 Q X) ∧ ((gel G36 l3 0) ≠ (if r30 = 0 then (0 : Int) else 1) → Q 0 G36)))))) ∧ (r35 ≠ r13 → Q 0 G36))))))) : V E M_L_law 1696 [some (rv l0), some (rv l1), some (rv l2), some (rv l3), some (iv l4), none, none, none] [] G c s Q X := by
  refine v_aload_n (pc := 1696) (dk dt_L_law_25 22 rfl) rfl rfl ?_
  refine v_aload_n (pc := 1697) (dk dt_L_law_25 23 rfl) rfl rfl ?_
  refine v_iload (pc := 1698) (dk dt_L_law_25 24 rfl) rfl ?_
  refine v_iconst (pc := 1700) (dk dt_L_law_25 25 rfl) ⟨by decide, by decide⟩ ?_
  obtain ⟨v1, h⟩ := h
  refine v_iadd (pc := 1701) (dk dt_L_law_25 26 rfl) v1 ?_
  obtain ⟨v2, h⟩ := h
  obtain ⟨v3, h⟩ := h
  obtain ⟨v4, h⟩ := h
  refine v_iald (pc := 1702) (dk dt_L_law_25 27 rfl) v2 v3 v4 (fun _ => ?_)
  refine v_aload_n (pc := 1703) (dk dt_L_law_25 28 rfl) rfl rfl ?_
  refine v_iload (pc := 1704) (dk dt_L_law_25 29 rfl) rfl ?_
  refine v_iconst (pc := 1706) (dk dt_L_law_25 30 rfl) ⟨by decide, by decide⟩ ?_
  obtain ⟨v5, h⟩ := h
  refine v_iadd (pc := 1707) (dk dt_L_law_25 31 rfl) v5 ?_
  obtain ⟨v6, h⟩ := h
  obtain ⟨v7, h⟩ := h
  obtain ⟨v8, h⟩ := h
  refine v_iald (pc := 1708) (dk dt_L_law_25 32 rfl) v6 v7 v8 (fun _ => ?_)
  refine v_aload_n (pc := 1709) (dk dt_L_law_25 33 rfl) rfl rfl ?_
  refine v_iload (pc := 1710) (dk dt_L_law_25 34 rfl) rfl ?_
  refine v_iconst (pc := 1712) (dk dt_L_law_25 35 rfl) ⟨by decide, by decide⟩ ?_
  obtain ⟨v9, h⟩ := h
  refine v_iadd (pc := 1713) (dk dt_L_law_25 36 rfl) v9 ?_
  obtain ⟨v10, h⟩ := h
  obtain ⟨v11, h⟩ := h
  obtain ⟨v12, h⟩ := h
  refine v_iald (pc := 1714) (dk dt_L_law_25 37 rfl) v10 v11 v12 (fun _ => ?_)
  refine v_aload_n (pc := 1715) (dk dt_L_law_25 38 rfl) rfl rfl ?_
  refine v_csHI (As := [rv l1, iv (gel G l0 (l4 + 1)), iv (gel G l0 (l4 + 2)), iv (gel G l0 (l4 + 3)), rv l3]) (stk := []) (pc := 1716) (dk dt_L_law_25 39 rfl) ml_L_191 rfl rfl (Nat.le_of_ble_eq_true rfl) rfl rfl (CallH.mono h (fun r13 G14 c15 s16 h => ?_))
  refine v_istore (pc := 1719) (ls' := [some (rv l0), some (rv l1), some (rv l2), some (rv l3), some (iv l4), some (iv r13), none, none]) (dk dt_L_law_26 0 rfl) (Nat.le_of_ble_eq_true rfl) rfl ?_
  refine v_aload_n (pc := 1721) (dk dt_L_law_26 1 rfl) rfl rfl ?_
  refine v_aload_n (pc := 1722) (dk dt_L_law_26 2 rfl) rfl rfl ?_
  refine v_iload (pc := 1723) (dk dt_L_law_26 3 rfl) rfl ?_
  refine v_iconst (pc := 1725) (dk dt_L_law_26 4 rfl) ⟨by decide, by decide⟩ ?_
  obtain ⟨v17, h⟩ := h
  refine v_iadd (pc := 1726) (dk dt_L_law_26 5 rfl) v17 ?_
  obtain ⟨v18, h⟩ := h
  obtain ⟨v19, h⟩ := h
  obtain ⟨v20, h⟩ := h
  refine v_iald (pc := 1727) (dk dt_L_law_26 6 rfl) v18 v19 v20 (fun _ => ?_)
  refine v_aload_n (pc := 1728) (dk dt_L_law_26 7 rfl) rfl rfl ?_
  refine v_iload (pc := 1729) (dk dt_L_law_26 8 rfl) rfl ?_
  refine v_iconst (pc := 1731) (dk dt_L_law_26 9 rfl) ⟨by decide, by decide⟩ ?_
  obtain ⟨v21, h⟩ := h
  refine v_iadd (pc := 1732) (dk dt_L_law_26 10 rfl) v21 ?_
  obtain ⟨v22, h⟩ := h
  obtain ⟨v23, h⟩ := h
  obtain ⟨v24, h⟩ := h
  refine v_iald (pc := 1733) (dk dt_L_law_26 11 rfl) v22 v23 v24 (fun _ => ?_)
  refine v_aload_n (pc := 1734) (dk dt_L_law_26 12 rfl) rfl rfl ?_
  refine v_iload (pc := 1735) (dk dt_L_law_26 13 rfl) rfl ?_
  refine v_iconst (pc := 1737) (dk dt_L_law_26 14 rfl) ⟨by decide, by decide⟩ ?_
  obtain ⟨v25, h⟩ := h
  refine v_iadd (pc := 1738) (dk dt_L_law_26 15 rfl) v25 ?_
  obtain ⟨v26, h⟩ := h
  obtain ⟨v27, h⟩ := h
  obtain ⟨v28, h⟩ := h
  refine v_iald (pc := 1739) (dk dt_L_law_26 16 rfl) v26 v27 v28 (fun _ => ?_)
  obtain ⟨v29, h⟩ := h
  refine v_cvZ (c := 12) (As := [iv (gel G14 l0 (l4 + 1)), iv (gel G14 l0 (l4 + 2)), iv (gel G14 l0 (l4 + 3))]) (stk := []) (pc := 1740) (dk dt_L_law_26 17 rfl) ml_L_193 rfl rfl (Nat.le_of_ble_eq_true rfl) rfl ⟨by decide, rfl⟩ v29 rfl (Call.mono h (fun r30 G31 c32 s33 h => ?_))
  refine v_istore (pc := 1743) (ls' := [some (rv l0), some (rv l1), some (rv l2), some (rv l3), some (iv l4), some (iv r13), some (iv r30), none]) (dk dt_L_law_26 18 rfl) (Nat.le_of_ble_eq_true rfl) rfl ?_
  refine v_aload_n (pc := 1745) (dk dt_L_law_26 19 rfl) rfl rfl ?_
  obtain ⟨v34, h⟩ := h
  refine v_cvI (c := 12) (As := []) (stk := []) (pc := 1746) (dk dt_L_law_26 20 rfl) ml_L_102 rfl rfl (Nat.le_of_ble_eq_true rfl) rfl ⟨by decide, rfl⟩ v34 rfl (Call.mono h (fun r35 G36 c37 s38 h => ?_))
  refine v_iload (pc := 1749) (dk dt_L_law_26 21 rfl) rfl ?_
  refine v_icmp_eq (pc := 1751) (tgt := 1756) (dk dt_L_law_26 22 rfl) (by decide) (fun c39 => ?_) (fun c39 => ?_)
  · replace h := h.1 c39
    refine v_iload (pc := 1756) (dk dt_L_law_26 25 rfl) rfl ?_
    refine v_if_ne (pc := 1758) (tgt := 1780) (dk dt_L_law_26 26 rfl) (by decide) (fun c40 => ?_) (fun c40 => ?_)
    · replace h := h.1 c40
      refine v_goto (pc := 1780) (tgt := 1893) (dk dt_L_law_26 39 rfl) (by decide) ?_
      exact v_less2 (ls' := [some (rv l0), some (rv l1), some (rv l2), some (rv l3), some (iv l4), none, none, none]) ⟨rfl, rfl, rfl, rfl, rfl, trivial⟩ h
    · replace h := h.2 c40
      refine v_aload_n (pc := 1761) (dk dt_L_law_26 27 rfl) rfl rfl ?_
      refine v_iconst (pc := 1762) (dk dt_L_law_26 28 rfl) ⟨by decide, by decide⟩ ?_
      obtain ⟨v41, h⟩ := h
      obtain ⟨v42, h⟩ := h
      refine v_lald (pc := 1763) (dk dt_L_law_26 29 rfl) v41 (by decide) v42 (fun _ => ?_)
      refine v_iload (pc := 1764) (dk dt_L_law_26 30 rfl) rfl ?_
      suffices k45 : V E M_L_law 1774 [some (rv l0), some (rv l1), some (rv l2), some (rv l3), some (iv l4), none, none, none] [jv (if r30 = 0 then (0 : Int) else 1), jv (gel G36 l3 0)] G36 c37 s38 Q X by
        refine v_if_eq (pc := 1766) (tgt := 1773) (dk dt_L_law_26 31 rfl) (by decide) (fun c43 => ?_) (fun c43 => ?_)
        · refine v_lconst (x := 0) (pc := 1773) (dk dt_L_law_26 34 rfl) (by decide) ⟨by decide, by decide⟩ ?_
          exact v_less2 (ls' := [some (rv l0), some (rv l1), some (rv l2), some (rv l3), some (iv l4), none, none, none]) ⟨rfl, rfl, rfl, rfl, rfl, trivial⟩ (by have hk9 := k45; try simp only [if_pos c43] at hk9 ⊢; exact hk9)
        · refine v_lconst (x := 1) (pc := 1769) (dk dt_L_law_26 32 rfl) (by decide) ⟨by decide, by decide⟩ ?_
          refine v_goto (pc := 1770) (tgt := 1774) (dk dt_L_law_26 33 rfl) (by decide) ?_
          exact v_less2 (ls' := [some (rv l0), some (rv l1), some (rv l2), some (rv l3), some (iv l4), none, none, none]) ⟨rfl, rfl, rfl, rfl, rfl, trivial⟩ (by have hk9 := k45; try simp only [if_neg c43] at hk9 ⊢; exact hk9)
      refine v_lcmp_eq (pc := 1774) (tgt := 1780) (dk dt_L_law_26 35 rfl) (dk dt_L_law_26 36 rfl) (by decide) (fun c44 => ?_) (fun c44 => ?_)
      · replace h := h.1 c44
        refine v_goto (pc := 1780) (tgt := 1893) (dk dt_L_law_26 39 rfl) (by decide) ?_
        exact h
      · replace h := h.2 c44
        refine v_iconst (pc := 1778) (dk dt_L_law_26 37 rfl) ⟨by decide, by decide⟩ ?_
        exact v_zret (pc := 1779) (dk dt_L_law_26 38 rfl) rfl (Or.inl rfl) h
  · replace h := h.2 c39
    refine v_iconst (pc := 1754) (dk dt_L_law_26 23 rfl) ⟨by decide, by decide⟩ ?_
    exact v_zret (pc := 1755) (dk dt_L_law_26 24 rfl) rfl (Or.inl rfl) h
set_option maxRecDepth 20000 in
set_option maxHeartbeats 1000000 in
theorem b_L_law_1783 {E : EE} {l0 l1 l2 l3 l4 : Int} {G : Gt} {c s : Nat} {Q X : Int → Gt → Prop} (h : (i32 (l4 + 1) ∧ (gcl G l0 = 15 ∨ gcl G l0 = 19) ∧ 0 ≤ (l4 + 1) ∧ (l4 + 1) < gln G l0 ∧ gcl G l1 = 12 ∧ Call E M_X11_down [rv l1, iv (if (gel G l0 (l4 + 1)) = 0 then (0 : Int) else 1)] G c s X (fun r7 G8 c9 s10 => SPin E G8 → i32 (l4 + 1) ∧ (gcl G8 l0 = 15 ∨ gcl G8 l0 = 19) ∧ 0 ≤ (l4 + 1) ∧ (l4 + 1) < gln G8 l0 ∧ gcl G8 l2 = 13 ∧ Call E M_X12_down [rv l2, iv (if (gel G8 l0 (l4 + 1)) = 0 then (0 : Int) else 1)] G8 c9 s10 X (fun r17 G18 c19 s20 => ((r7 = r17 → V E M_L_law 1893 [some (rv l0), some (rv l1), some (rv l2), some (rv l3), some (iv l4), none, none, none] [] G18 c19 s20 Q X) ∧ (r7 ≠ r17 → Q 0 G18)))))) : V E M_L_law 1783 [some (rv l0), some (rv l1), some (rv l2), some (rv l3), some (iv l4), none, none, none] [] G c s Q X := by
  refine v_aload_n (pc := 1783) (dk dt_L_law_27 0 rfl) rfl rfl ?_
  refine v_aload_n (pc := 1784) (dk dt_L_law_27 1 rfl) rfl rfl ?_
  refine v_iload (pc := 1785) (dk dt_L_law_27 2 rfl) rfl ?_
  refine v_iconst (pc := 1787) (dk dt_L_law_27 3 rfl) ⟨by decide, by decide⟩ ?_
  obtain ⟨v1, h⟩ := h
  refine v_iadd (pc := 1788) (dk dt_L_law_27 4 rfl) v1 ?_
  obtain ⟨v2, h⟩ := h
  obtain ⟨v3, h⟩ := h
  obtain ⟨v4, h⟩ := h
  refine v_iald (pc := 1789) (dk dt_L_law_27 5 rfl) v2 v3 v4 (fun _ => ?_)
  suffices k22 : V E M_L_law 1798 [some (rv l0), some (rv l1), some (rv l2), some (rv l3), some (iv l4), none, none, none] [iv (if (gel G l0 (l4 + 1)) = 0 then (0 : Int) else 1), rv l1] G c s Q X by
    refine v_if_eq (pc := 1790) (tgt := 1797) (dk dt_L_law_27 6 rfl) (by decide) (fun c5 => ?_) (fun c5 => ?_)
    · refine v_iconst (pc := 1797) (dk dt_L_law_27 9 rfl) ⟨by decide, by decide⟩ ?_
      exact v_less2 (ls' := [some (rv l0), some (rv l1), some (rv l2), some (rv l3), some (iv l4), none, none, none]) ⟨rfl, rfl, rfl, rfl, rfl, trivial⟩ (by have hk9 := k22; try simp only [if_pos c5] at hk9 ⊢; exact hk9)
    · refine v_iconst (pc := 1793) (dk dt_L_law_27 7 rfl) ⟨by decide, by decide⟩ ?_
      refine v_goto (pc := 1794) (tgt := 1798) (dk dt_L_law_27 8 rfl) (by decide) ?_
      exact v_less2 (ls' := [some (rv l0), some (rv l1), some (rv l2), some (rv l3), some (iv l4), none, none, none]) ⟨rfl, rfl, rfl, rfl, rfl, trivial⟩ (by have hk9 := k22; try simp only [if_neg c5] at hk9 ⊢; exact hk9)
  obtain ⟨v6, h⟩ := h
  refine v_cvZ (c := 11) (As := [iv (if (gel G l0 (l4 + 1)) = 0 then (0 : Int) else 1)]) (stk := []) (pc := 1798) (dk dt_L_law_27 10 rfl) ml_L_194 rfl rfl (Nat.le_of_ble_eq_true rfl) rfl ⟨by decide, rfl⟩ v6 rfl (Call.mono h (fun r7 G8 c9 s10 h => ?_))
  refine V.scr (fun hsp => ?_)
  replace h := h hsp
  refine v_aload_n (pc := 1801) (dk dt_L_law_27 11 rfl) rfl rfl ?_
  refine v_aload_n (pc := 1802) (dk dt_L_law_27 12 rfl) rfl rfl ?_
  refine v_iload (pc := 1803) (dk dt_L_law_27 13 rfl) rfl ?_
  refine v_iconst (pc := 1805) (dk dt_L_law_27 14 rfl) ⟨by decide, by decide⟩ ?_
  obtain ⟨v11, h⟩ := h
  refine v_iadd (pc := 1806) (dk dt_L_law_27 15 rfl) v11 ?_
  obtain ⟨v12, h⟩ := h
  obtain ⟨v13, h⟩ := h
  obtain ⟨v14, h⟩ := h
  refine v_iald (pc := 1807) (dk dt_L_law_27 16 rfl) v12 v13 v14 (fun _ => ?_)
  suffices k23 : V E M_L_law 1816 [some (rv l0), some (rv l1), some (rv l2), some (rv l3), some (iv l4), none, none, none] [iv (if (gel G8 l0 (l4 + 1)) = 0 then (0 : Int) else 1), rv l2, iv r7] G8 c9 s10 Q X by
    refine v_if_eq (pc := 1808) (tgt := 1815) (dk dt_L_law_27 17 rfl) (by decide) (fun c15 => ?_) (fun c15 => ?_)
    · refine v_iconst (pc := 1815) (dk dt_L_law_27 20 rfl) ⟨by decide, by decide⟩ ?_
      exact v_less2 (ls' := [some (rv l0), some (rv l1), some (rv l2), some (rv l3), some (iv l4), none, none, none]) ⟨rfl, rfl, rfl, rfl, rfl, trivial⟩ (by have hk9 := k23; try simp only [if_pos c15] at hk9 ⊢; exact hk9)
    · refine v_iconst (pc := 1811) (dk dt_L_law_27 18 rfl) ⟨by decide, by decide⟩ ?_
      refine v_goto (pc := 1812) (tgt := 1816) (dk dt_L_law_27 19 rfl) (by decide) ?_
      exact v_less2 (ls' := [some (rv l0), some (rv l1), some (rv l2), some (rv l3), some (iv l4), none, none, none]) ⟨rfl, rfl, rfl, rfl, rfl, trivial⟩ (by have hk9 := k23; try simp only [if_neg c15] at hk9 ⊢; exact hk9)
  obtain ⟨v16, h⟩ := h
  refine v_cvZ (c := 12) (As := [iv (if (gel G8 l0 (l4 + 1)) = 0 then (0 : Int) else 1)]) (stk := [iv r7]) (pc := 1816) (dk dt_L_law_27 21 rfl) ml_L_198 rfl rfl (Nat.le_of_ble_eq_true rfl) rfl ⟨by decide, rfl⟩ v16 rfl (Call.mono h (fun r17 G18 c19 s20 h => ?_))
  refine v_icmp_eq (pc := 1819) (tgt := 1893) (dk dt_L_law_27 22 rfl) (by decide) (fun c21 => ?_) (fun c21 => ?_)
  · replace h := h.1 c21
    exact h
  · replace h := h.2 c21
    refine v_iconst (pc := 1822) (dk dt_L_law_27 23 rfl) ⟨by decide, by decide⟩ ?_
    exact v_zret (pc := 1823) (dk dt_L_law_27 24 rfl) rfl (Or.inl rfl) h
set_option maxRecDepth 20000 in
set_option maxHeartbeats 1000000 in
theorem b_L_law_1824 {E : EE} {l0 l1 l2 l3 l4 : Int} {G : Gt} {c s : Nat} {Q X : Int → Gt → Prop} (h : (gcl G l1 = 12 ∧ Call E M_X11_behind [rv l1] G c s X (fun r2 G3 c4 s5 => gcl G3 l2 = 13 ∧ Call E M_X12_behind [rv l2] G3 c4 s5 X (fun r7 G8 c9 s10 => ((r2 = r7 → V E M_L_law 1893 [some (rv l0), some (rv l1), some (rv l2), some (rv l3), some (iv l4), none, none, none] [] G8 c9 s10 Q X) ∧ (r2 ≠ r7 → Q 0 G8)))))) : V E M_L_law 1824 [some (rv l0), some (rv l1), some (rv l2), some (rv l3), some (iv l4), none, none, none] [] G c s Q X := by
  refine v_aload_n (pc := 1824) (dk dt_L_law_27 25 rfl) rfl rfl ?_
  obtain ⟨v1, h⟩ := h
  refine v_cvI (c := 11) (As := []) (stk := []) (pc := 1825) (dk dt_L_law_27 26 rfl) ml_L_199 rfl rfl (Nat.le_of_ble_eq_true rfl) rfl ⟨by decide, rfl⟩ v1 rfl (Call.mono h (fun r2 G3 c4 s5 h => ?_))
  refine v_aload_n (pc := 1828) (dk dt_L_law_27 27 rfl) rfl rfl ?_
  obtain ⟨v6, h⟩ := h
  refine v_cvI (c := 12) (As := []) (stk := [iv r2]) (pc := 1829) (dk dt_L_law_27 28 rfl) ml_L_202 rfl rfl (Nat.le_of_ble_eq_true rfl) rfl ⟨by decide, rfl⟩ v6 rfl (Call.mono h (fun r7 G8 c9 s10 h => ?_))
  refine v_icmp_eq (pc := 1832) (tgt := 1893) (dk dt_L_law_27 29 rfl) (by decide) (fun c11 => ?_) (fun c11 => ?_)
  · replace h := h.1 c11
    exact h
  · replace h := h.2 c11
    refine v_iconst (pc := 1835) (dk dt_L_law_27 30 rfl) ⟨by decide, by decide⟩ ?_
    exact v_zret (pc := 1836) (dk dt_L_law_27 31 rfl) rfl (Or.inl rfl) h
set_option maxRecDepth 20000 in
set_option maxHeartbeats 1000000 in
theorem b_L_law_1837 {E : EE} {l0 l1 l2 l3 l4 : Int} {G : Gt} {c s : Nat} {Q X : Int → Gt → Prop} (h : (i32 (l4 + 1) ∧ (gcl G l0 = 15 ∨ gcl G l0 = 19) ∧ 0 ≤ (l4 + 1) ∧ (l4 + 1) < gln G l0 ∧ CallH E M_L_mend [rv l1, iv (gel G l0 (l4 + 1)), rv l3] G c s (fun r5 G6 c7 s8 => i32 (l4 + 1) ∧ (gcl G6 l0 = 15 ∨ gcl G6 l0 = 19) ∧ 0 ≤ (l4 + 1) ∧ (l4 + 1) < gln G6 l0 ∧ gcl G6 l2 = 13 ∧ Call E M_X12_mend [rv l2, iv (gel G6 l0 (l4 + 1))] G6 c7 s8 X (fun r14 G15 c16 s17 => gcl G15 l2 = 13 ∧ Call E M_X12_thrown [rv l2] G15 c16 s17 X (fun r19 G20 c21 s22 => ((r19 = r5 → ((r5 ≠ 0 → V E M_L_law 1893 [some (rv l0), some (rv l1), some (rv l2), some (rv l3), some (iv l4), none, none, none] [] G20 c21 s22 Q X) ∧ (r5 = 0 → (gcl G20 l3 = 16 ∧ 0 < gln G20 l3 ∧ (((gel G20 l3 0) = r14 → V E M_L_law 1893 [some (rv l0), some (rv l1), some (rv l2), some (rv l3), some (iv l4), none, none, none] [] G20 c21 s22 Q X) ∧ ((gel G20 l3 0) ≠ r14 → Q 0 G20)))))) ∧ (r19 ≠ r5 → Q 0 G20))))))) : V E M_L_law 1837 [some (rv l0), some (rv l1), some (rv l2), some (rv l3), some (iv l4), none, none, none] [] G c s Q X := by
  refine v_aload_n (pc := 1837) (dk dt_L_law_27 32 rfl) rfl rfl ?_
  refine v_aload_n (pc := 1838) (dk dt_L_law_27 33 rfl) rfl rfl ?_
  refine v_iload (pc := 1839) (dk dt_L_law_27 34 rfl) rfl ?_
  refine v_iconst (pc := 1841) (dk dt_L_law_27 35 rfl) ⟨by decide, by decide⟩ ?_
  obtain ⟨v1, h⟩ := h
  refine v_iadd (pc := 1842) (dk dt_L_law_27 36 rfl) v1 ?_
  obtain ⟨v2, h⟩ := h
  obtain ⟨v3, h⟩ := h
  obtain ⟨v4, h⟩ := h
  refine v_iald (pc := 1843) (dk dt_L_law_27 37 rfl) v2 v3 v4 (fun _ => ?_)
  refine v_aload_n (pc := 1844) (dk dt_L_law_27 38 rfl) rfl rfl ?_
  refine v_csHI (As := [rv l1, iv (gel G l0 (l4 + 1)), rv l3]) (stk := []) (pc := 1845) (dk dt_L_law_27 39 rfl) ml_L_203 rfl rfl (Nat.le_of_ble_eq_true rfl) rfl rfl (CallH.mono h (fun r5 G6 c7 s8 h => ?_))
  refine v_istore (pc := 1848) (ls' := [some (rv l0), some (rv l1), some (rv l2), some (rv l3), some (iv l4), some (iv r5), none, none]) (dk dt_L_law_28 0 rfl) (Nat.le_of_ble_eq_true rfl) rfl ?_
  refine v_aload_n (pc := 1850) (dk dt_L_law_28 1 rfl) rfl rfl ?_
  refine v_aload_n (pc := 1851) (dk dt_L_law_28 2 rfl) rfl rfl ?_
  refine v_iload (pc := 1852) (dk dt_L_law_28 3 rfl) rfl ?_
  refine v_iconst (pc := 1854) (dk dt_L_law_28 4 rfl) ⟨by decide, by decide⟩ ?_
  obtain ⟨v9, h⟩ := h
  refine v_iadd (pc := 1855) (dk dt_L_law_28 5 rfl) v9 ?_
  obtain ⟨v10, h⟩ := h
  obtain ⟨v11, h⟩ := h
  obtain ⟨v12, h⟩ := h
  refine v_iald (pc := 1856) (dk dt_L_law_28 6 rfl) v10 v11 v12 (fun _ => ?_)
  obtain ⟨v13, h⟩ := h
  refine v_cvI (c := 12) (As := [iv (gel G6 l0 (l4 + 1))]) (stk := []) (pc := 1857) (dk dt_L_law_28 7 rfl) ml_L_205 rfl rfl (Nat.le_of_ble_eq_true rfl) rfl ⟨by decide, rfl⟩ v13 rfl (Call.mono h (fun r14 G15 c16 s17 h => ?_))
  refine v_istore (pc := 1860) (ls' := [some (rv l0), some (rv l1), some (rv l2), some (rv l3), some (iv l4), some (iv r5), some (iv r14), none]) (dk dt_L_law_28 8 rfl) (Nat.le_of_ble_eq_true rfl) rfl ?_
  refine v_aload_n (pc := 1862) (dk dt_L_law_28 9 rfl) rfl rfl ?_
  obtain ⟨v18, h⟩ := h
  refine v_cvI (c := 12) (As := []) (stk := []) (pc := 1863) (dk dt_L_law_28 10 rfl) ml_L_102 rfl rfl (Nat.le_of_ble_eq_true rfl) rfl ⟨by decide, rfl⟩ v18 rfl (Call.mono h (fun r19 G20 c21 s22 h => ?_))
  refine v_iload (pc := 1866) (dk dt_L_law_28 11 rfl) rfl ?_
  refine v_icmp_eq (pc := 1868) (tgt := 1873) (dk dt_L_law_28 12 rfl) (by decide) (fun c23 => ?_) (fun c23 => ?_)
  · replace h := h.1 c23
    refine v_iload (pc := 1873) (dk dt_L_law_28 15 rfl) rfl ?_
    refine v_if_ne (pc := 1875) (tgt := 1890) (dk dt_L_law_28 16 rfl) (by decide) (fun c24 => ?_) (fun c24 => ?_)
    · replace h := h.1 c24
      refine v_goto (pc := 1890) (tgt := 1893) (dk dt_L_law_28 26 rfl) (by decide) ?_
      exact v_less2 (ls' := [some (rv l0), some (rv l1), some (rv l2), some (rv l3), some (iv l4), none, none, none]) ⟨rfl, rfl, rfl, rfl, rfl, trivial⟩ h
    · replace h := h.2 c24
      refine v_aload_n (pc := 1878) (dk dt_L_law_28 17 rfl) rfl rfl ?_
      refine v_iconst (pc := 1879) (dk dt_L_law_28 18 rfl) ⟨by decide, by decide⟩ ?_
      obtain ⟨v25, h⟩ := h
      obtain ⟨v26, h⟩ := h
      refine v_lald (pc := 1880) (dk dt_L_law_28 19 rfl) v25 (by decide) v26 (fun _ => ?_)
      refine v_iload (pc := 1881) (dk dt_L_law_28 20 rfl) rfl ?_
      refine v_i2l (pc := 1883) (dk dt_L_law_28 21 rfl) ?_
      refine v_lcmp_eq (pc := 1884) (tgt := 1890) (dk dt_L_law_28 22 rfl) (dk dt_L_law_28 23 rfl) (by decide) (fun c27 => ?_) (fun c27 => ?_)
      · replace h := h.1 c27
        refine v_goto (pc := 1890) (tgt := 1893) (dk dt_L_law_28 26 rfl) (by decide) ?_
        exact v_less2 (ls' := [some (rv l0), some (rv l1), some (rv l2), some (rv l3), some (iv l4), none, none, none]) ⟨rfl, rfl, rfl, rfl, rfl, trivial⟩ h
      · replace h := h.2 c27
        refine v_iconst (pc := 1888) (dk dt_L_law_28 24 rfl) ⟨by decide, by decide⟩ ?_
        exact v_zret (pc := 1889) (dk dt_L_law_28 25 rfl) rfl (Or.inl rfl) h
  · replace h := h.2 c23
    refine v_iconst (pc := 1871) (dk dt_L_law_28 13 rfl) ⟨by decide, by decide⟩ ?_
    exact v_zret (pc := 1872) (dk dt_L_law_28 14 rfl) rfl (Or.inl rfl) h
set_option maxRecDepth 20000 in
set_option maxHeartbeats 1000000 in
theorem b_L_law_1893 {E : EE} {l0 l1 l2 l3 l4 : Int} {G : Gt} {c s : Nat} {Q X : Int → Gt → Prop} (h : (i32 (l4 + 6) ∧ V E M_L_law 23 [some (rv l0), some (rv l1), some (rv l2), some (rv l3), some (iv (l4 + 6)), none, none, none] [] G c s Q X)) : V E M_L_law 1893 [some (rv l0), some (rv l1), some (rv l2), some (rv l3), some (iv l4), none, none, none] [] G c s Q X := by
  obtain ⟨v1, h⟩ := h
  refine v_iinc (pc := 1893) (ls' := [some (rv l0), some (rv l1), some (rv l2), some (rv l3), some (iv (l4 + 6)), none, none, none]) (dk dt_L_law_28 27 rfl) (Nat.le_of_ble_eq_true rfl) rfl v1 rfl ?_
  refine v_goto (pc := 1896) (tgt := 23) (dk dt_L_law_28 28 rfl) (by decide) ?_
  exact h
