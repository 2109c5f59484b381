theorem vx_ofWF {l : Launch} {y : MethodName} {ws ws' : List Cond} {rm : Room} {Pc : Array Value → State → Prop} {Qc : Array Value → State → Outcome → State → Prop} {XC : String → State → State → Prop} {mc ms : Nat} {free : Addr → Prop} {cc : ByteArray} {maxL : Nat} {ret : Option FieldType}
    (hy : plainFor y = true) (hw : ws = Cond.code y cc maxL ret :: ws')
    (body : ∀ p e s m args below meth c s₁, BodyLoose p l y (headSpec ws rm) cc maxL ret e s m args below meth c s₁ → c.maxLocals = maxL → (∀ x ∈ c.exceptionTable.toList, False) → Pc args s →
      W p l e (headSpec ws rm).room s m args below meth c s.heap [] 0 0 (vx_MQ below Qc XC args s mc ms free) (entryFrame m args maxL)) : vx_Met l y ws rm Pc Qc XC mc ms free := by
  refine MetFree.of_bodySF (code := cc) (maxLocals := maxL) (ret := ret) hy ?_ ?_
  · intro args s m h hn
    obtain ⟨meth, c, h1, h2, h3, h4, h5, h6, -, -⟩ := Cond.code_spec hn (atoms_spec (ws := ws) h _ (by rw [hw]; exact List.mem_cons_self))
    exact ⟨meth, c, h1, h2, h3, h4, h5, h6⟩
  · intro p e s m args below meth c s₁ B hml hP _
    have hh0 : s₁.heap = s.heap := by rw [B.state]; rfl
    have ht : ∀ x ∈ c.exceptionTable.toList, False := by
      obtain ⟨meth9, c9, h1, h2, -, -, -, -, h7, -⟩ := Cond.code_spec B.named (atoms_spec (ws := ws) B.pre _ (by rw [hw]; exact List.mem_cons_self))
      cases Option.some.inj (h1.symm.trans B.method)
      cases Option.some.inj (h2.symm.trans (Stand.of_body B).code)
      intro x hx
      rw [Array.isEmpty_iff.mp h7] at hx
      cases hx
    obtain ⟨t, a1, o, b1, b2, b3⟩ := body p e s m args below meth c s₁ B hml ht hP s₁ hh0 (Stand.of_body B)
    exact ⟨t, o, a1, b1, b2, b3⟩
theorem Ok.introF {E : EE} {M : MD} {G : Gt} {Q X : Int → Gt → Prop} {svs : List SV} {mc ms k : Nat} {ls : List (Option SV)} (hy : plainFor (mY M) = true) (hh : mh M = []) (hsz : scat svs ≤ mL M) (hls : ls = args0 svs ++ List.replicate k none) (hV : V E M 0 ls [] G mc ms Q X) : Ok E M svs G mc ms Q X := by
  refine vx_ofWF (cc := mb M) (maxL := mL M) (ret := mret M) hy rfl ?_
  intro p e s m args below meth c s₁ Bd hml hex hPc
  obtain ⟨rfl, hb, hG, hs, hK, hST, hfl⟩ := hPc
  rw [lg_entry_eq]
  have hent := lv_entry (svs.map enc) (n := mL M) (by rw [lgsl_len]; exact hsz)
  generalize (lg_sl (svs.map enc) ++ List.replicate (mL M - (lg_sl (svs.map enc)).length) Slot.unset).toArray = lsA at hent ⊢
  have hat : ∀ (j : Nat) (w : SV), ls[j]? = some (some w) → (args0 svs)[j]? = some (some w) := by
    intro j w hj
    rw [hls] at hj
    by_cases hlt : j < (args0 svs).length
    · rw [List.getElem?_append_left hlt] at hj; exact hj
    · rw [List.getElem?_append_right (by omega), List.getElem?_replicate] at hj
      split at hj <;> cases hj
  have hpre := atoms_spec (ws := wsM M) Bd.pre
  refine hV (cells := 0) (slots := 0) (mc := mc) (ms := ms) ⟨Bd.exec, Bd.bytes, hml, findClass_of_methodNamed Bd.named, fun w hw => hpre w (List.mem_cons_of_mem _ hw), hK, Bd.returns, Bd.notSynchronized, ?_, Nat.le_refl _, Nat.le_refl _, (name_of_methodNamed Bd.named Bd.method).1, hST, hfl⟩ ⟨by omega, by omega, Nat.le_refl _, Nat.le_refl _⟩ ⟨hb, hG, va_S.rf⟩ ⟨fun v hv => ?_, fun v hv => by cases hv⟩ ⟨hent.1, hent.2.1, fun j w hj => ?_⟩
  · rw [hh]
    cases hx : c.exceptionTable.toList with
    | nil => rfl
    | cons a r => exact (hex a (by rw [hx]; exact List.mem_cons_self)).elim
  · obtain ⟨j, hj⟩ := List.getElem?_of_mem hv
    exact hs v (args0_sub v (List.mem_of_getElem? (hat j v hj)))
  · have := args0_mem 0 (hat j w hj)
    rw [Nat.zero_add] at this
    exact hent.2.2 _ this
theorem tk_in {w : Cond} (h : w ∈ tables_1) : w ∈ lw_tbl := List.mem_append_right _ h
theorem tk_0 {w : Cond} (i : Nat) (hi : (k2_sels lw_privs)[i]? = some w) (hg : goodWord w = true) : w ∈ WS := List.mem_filter.mpr ⟨by have h := List.mem_of_getElem? hi; exact List.mem_append_left _ h, hg⟩
theorem tn_0 {w : Cond} (i : Nat) (hi : (k2_sels lw_privs)[i]? = some w) (hg : isNs w = true) : w ∈ NS := List.mem_filter.mpr ⟨by have h := List.mem_of_getElem? hi; exact List.mem_append_left _ h, hg⟩
theorem tk_1 {w : Cond} (i : Nat) (hi : tables_1_1[i]? = some w) (hg : goodWord w = true) : w ∈ WS := List.mem_filter.mpr ⟨by have h := List.mem_of_getElem? hi; exact tk_in (List.mem_append_left _ h), hg⟩
theorem tn_1 {w : Cond} (i : Nat) (hi : tables_1_1[i]? = some w) (hg : isNs w = true) : w ∈ NS := List.mem_filter.mpr ⟨by have h := List.mem_of_getElem? hi; exact tk_in (List.mem_append_left _ h), hg⟩
theorem tk_2 {w : Cond} (i : Nat) (hi : tables_1_2[i]? = some w) (hg : goodWord w = true) : w ∈ WS := List.mem_filter.mpr ⟨by have h := List.mem_of_getElem? hi; exact tk_in (List.mem_append_right _ (List.mem_append_left _ h)), hg⟩
theorem tn_2 {w : Cond} (i : Nat) (hi : tables_1_2[i]? = some w) (hg : isNs w = true) : w ∈ NS := List.mem_filter.mpr ⟨by have h := List.mem_of_getElem? hi; exact tk_in (List.mem_append_right _ (List.mem_append_left _ h)), hg⟩
theorem tk_3 {w : Cond} (i : Nat) (hi : tables_1_3[i]? = some w) (hg : goodWord w = true) : w ∈ WS := List.mem_filter.mpr ⟨by have h := List.mem_of_getElem? hi; exact tk_in (List.mem_append_right _ (List.mem_append_right _ (List.mem_append_left _ h))), hg⟩
theorem tn_3 {w : Cond} (i : Nat) (hi : tables_1_3[i]? = some w) (hg : isNs w = true) : w ∈ NS := List.mem_filter.mpr ⟨by have h := List.mem_of_getElem? hi; exact tk_in (List.mem_append_right _ (List.mem_append_right _ (List.mem_append_left _ h))), hg⟩
theorem tk_4 {w : Cond} (i : Nat) (hi : tables_1_4[i]? = some w) (hg : goodWord w = true) : w ∈ WS := List.mem_filter.mpr ⟨by have h := List.mem_of_getElem? hi; exact tk_in (List.mem_append_right _ (List.mem_append_right _ (List.mem_append_right _ (List.mem_append_left _ h)))), hg⟩
theorem tn_4 {w : Cond} (i : Nat) (hi : tables_1_4[i]? = some w) (hg : isNs w = true) : w ∈ NS := List.mem_filter.mpr ⟨by have h := List.mem_of_getElem? hi; exact tk_in (List.mem_append_right _ (List.mem_append_right _ (List.mem_append_right _ (List.mem_append_left _ h)))), hg⟩
theorem tk_5 {w : Cond} (i : Nat) (hi : tables_1_5[i]? = some w) (hg : goodWord w = true) : w ∈ WS := List.mem_filter.mpr ⟨by have h := List.mem_of_getElem? hi; exact tk_in (List.mem_append_right _ (List.mem_append_right _ (List.mem_append_right _ (List.mem_append_right _ (List.mem_append_left _ h))))), hg⟩
theorem tn_5 {w : Cond} (i : Nat) (hi : tables_1_5[i]? = some w) (hg : isNs w = true) : w ∈ NS := List.mem_filter.mpr ⟨by have h := List.mem_of_getElem? hi; exact tk_in (List.mem_append_right _ (List.mem_append_right _ (List.mem_append_right _ (List.mem_append_right _ (List.mem_append_left _ h))))), hg⟩
theorem tk_6 {w : Cond} (i : Nat) (hi : tables_1_6[i]? = some w) (hg : goodWord w = true) : w ∈ WS := List.mem_filter.mpr ⟨by have h := List.mem_of_getElem? hi; exact tk_in (List.mem_append_right _ (List.mem_append_right _ (List.mem_append_right _ (List.mem_append_right _ (List.mem_append_right _ (List.mem_append_left _ h)))))), hg⟩
theorem tn_6 {w : Cond} (i : Nat) (hi : tables_1_6[i]? = some w) (hg : isNs w = true) : w ∈ NS := List.mem_filter.mpr ⟨by have h := List.mem_of_getElem? hi; exact tk_in (List.mem_append_right _ (List.mem_append_right _ (List.mem_append_right _ (List.mem_append_right _ (List.mem_append_right _ (List.mem_append_left _ h)))))), hg⟩
theorem tk_7 {w : Cond} (i : Nat) (hi : tables_1_7[i]? = some w) (hg : goodWord w = true) : w ∈ WS := List.mem_filter.mpr ⟨by have h := List.mem_of_getElem? hi; exact tk_in (List.mem_append_right _ (List.mem_append_right _ (List.mem_append_right _ (List.mem_append_right _ (List.mem_append_right _ (List.mem_append_right _ (List.mem_append_left _ h))))))), hg⟩
theorem tn_7 {w : Cond} (i : Nat) (hi : tables_1_7[i]? = some w) (hg : isNs w = true) : w ∈ NS := List.mem_filter.mpr ⟨by have h := List.mem_of_getElem? hi; exact tk_in (List.mem_append_right _ (List.mem_append_right _ (List.mem_append_right _ (List.mem_append_right _ (List.mem_append_right _ (List.mem_append_right _ (List.mem_append_left _ h))))))), hg⟩
theorem tk_8 {w : Cond} (i : Nat) (hi : tables_1_8[i]? = some w) (hg : goodWord w = true) : w ∈ WS := List.mem_filter.mpr ⟨by have h := List.mem_of_getElem? hi; exact tk_in (List.mem_append_right _ (List.mem_append_right _ (List.mem_append_right _ (List.mem_append_right _ (List.mem_append_right _ (List.mem_append_right _ (List.mem_append_right _ (h)))))))), hg⟩
theorem tn_8 {w : Cond} (i : Nat) (hi : tables_1_8[i]? = some w) (hg : isNs w = true) : w ∈ NS := List.mem_filter.mpr ⟨by have h := List.mem_of_getElem? hi; exact tk_in (List.mem_append_right _ (List.mem_append_right _ (List.mem_append_right _ (List.mem_append_right _ (List.mem_append_right _ (List.mem_append_right _ (List.mem_append_right _ (h)))))))), hg⟩
theorem ml_Jx4a65c_1 : LI "java/util/ArrayList" 1 M_B_init 0 := ⟨⟨tk_1 55 rfl rfl, tk_1 57 rfl rfl, tk_1 4 rfl rfl, by decide +kernel⟩, tk_1 56 rfl rfl, rfl, rfl⟩
theorem fs_Jx4a65c_39 : Cond.fieldLink "java/util/ArrayList" 39 "java/util/ArrayList" "DEFAULTCAPACITY_EMPTY_ELEMENTDATA" "[Ljava/lang/Object;" ∈ WS := tk_1 62 rfl rfl
theorem fl_Jx4a65c_9 : FL "java/util/ArrayList" 9 "java/util/ArrayList" 13 1 2 := ⟨by decide, by decide, rfl, tk_1 64 rfl rfl, Or.inl rfl⟩
theorem ml_Jx4a65c_73 : LSt "java/util/ArrayList" 73 M_S_newLength 3 := ⟨⟨tk_1 181 rfl rfl, tk_1 183 rfl rfl, tk_1 9 rfl rfl, by decide +kernel⟩, tk_1 182 rfl rfl⟩
theorem ml_Jx4a65c_66 : LSt "java/util/ArrayList" 66 M_R_copyOf2 2 := ⟨⟨tk_1 191 rfl rfl, tk_1 193 rfl rfl, tk_1 11 rfl rfl, by decide +kernel⟩, tk_1 192 rfl rfl⟩
theorem mw_Jx4a65c_79 : Cond.methodLink "java/util/ArrayList" 79 Lib.Math.max.name ∈ WS := tk_1 229 rfl rfl
theorem cl_Jx4a65c_7 : Cond.classLink "java/util/ArrayList" 7 "java/lang/Object" ∈ WS := tk_1 230 rfl rfl
theorem fl_Jx4a65c_48 : FL "java/util/ArrayList" 48 "java/util/ArrayList" 13 2 0 := ⟨by decide, by decide, rfl, tk_1 65 rfl rfl, Or.inl rfl⟩
theorem ml_Jx4a65c_69 : LV "java/util/ArrayList" 69 M_A_grow1 1 := ⟨⟨tk_1 177 rfl rfl, tk_1 180 rfl rfl, tk_1 5 rfl rfl, by decide +kernel⟩, tk_1 179 rfl rfl, tk_0 2 rfl rfl⟩
theorem ml_Jx4a65c_118 : LSt "java/util/ArrayList" 118 M_O_checkIndex 2 := ⟨⟨tk_2 91 rfl rfl, tk_2 93 rfl rfl, tk_1 19 rfl rfl, by decide +kernel⟩, tk_2 92 rfl rfl⟩
theorem ml_Jx4a65c_123 : LV "java/util/ArrayList" 123 M_A_elementData 1 := ⟨⟨tk_2 97 rfl rfl, tk_2 100 rfl rfl, tk_1 5 rfl rfl, by decide +kernel⟩, tk_2 98 rfl rfl, tk_2 99 rfl rfl⟩
theorem ml_Jx4a65c_129 : LV "java/util/ArrayList" 129 M_A_grow0 0 := ⟨⟨tk_1 173 rfl rfl, tk_1 176 rfl rfl, tk_1 5 rfl rfl, by decide +kernel⟩, tk_1 175 rfl rfl, tk_0 1 rfl rfl⟩
theorem fl_Jx4a65c_63 : FL "java/util/ArrayList" 63 "java/util/ArrayList" 13 0 0 := ⟨by decide, by decide, rfl, tk_1 67 rfl rfl, Or.inr (tk_1 68 rfl rfl)⟩
theorem ml_Jx4a65c_131 : LV "java/util/ArrayList" 131 M_A_add3 3 := ⟨⟨tk_1 169 rfl rfl, tk_1 172 rfl rfl, tk_1 5 rfl rfl, by decide +kernel⟩, tk_1 171 rfl rfl, tk_0 0 rfl rfl⟩
theorem ml_Jx4a65c_135 : LV "java/util/ArrayList" 135 M_A_rangeCheck 1 := ⟨⟨tk_3 102 rfl rfl, tk_3 105 rfl rfl, tk_1 5 rfl rfl, by decide +kernel⟩, tk_3 104 rfl rfl, tk_0 9 rfl rfl⟩
theorem mw_Jx4a65c_112 : Cond.methodLink "java/util/ArrayList" 112 arraycopyName ∈ WS := tk_2 121 rfl rfl
theorem ml_Jx4a65c_144 : LV "java/util/ArrayList" 144 M_A_fastRemove 2 := ⟨⟨tk_2 117 rfl rfl, tk_2 120 rfl rfl, tk_1 5 rfl rfl, by decide +kernel⟩, tk_2 119 rfl rfl, tk_0 3 rfl rfl⟩
theorem ml_Jxc12de_1 : LI "java/util/AbstractList" 1 M_C_init 0 := ⟨⟨tk_1 58 rfl rfl, tk_1 60 rfl rfl, tk_1 3 rfl rfl, by decide +kernel⟩, tk_1 59 rfl rfl, rfl, rfl⟩
theorem fl_Jxc12de_7 : FL "java/util/AbstractList" 7 "java/util/AbstractList" 13 0 0 := ⟨by decide, by decide, rfl, tk_1 66 rfl rfl, Or.inl rfl⟩
theorem mw_Jxa1e45_1 : Cond.methodLink "java/util/AbstractCollection" 1 Lib.objectInit ∈ WS := tk_1 61 rfl rfl
theorem mw_J7_86 : Cond.methodLink "java/util/Arrays" 86 ⟨"java/lang/Object", "getClass", "()Ljava/lang/Class;"⟩ ∈ WS := tk_1 194 rfl rfl
theorem ml_J7_300 : LSt "java/util/Arrays" 300 M_R_copyOf3 3 := ⟨⟨tk_1 217 rfl rfl, tk_1 219 rfl rfl, tk_1 11 rfl rfl, by decide +kernel⟩, tk_1 218 rfl rfl⟩
theorem cl_J7_110 : Cond.classLink "java/util/Arrays" 110 "[Ljava/lang/Object;" ∈ WS := tk_1 220 rfl rfl
theorem cl_J7_2 : Cond.classLink "java/util/Arrays" 2 "java/lang/Object" ∈ WS := tk_1 222 rfl rfl
theorem mw_J7_304 : Cond.methodLink "java/util/Arrays" 304 Lib.Math.min.name ∈ WS := tk_1 223 rfl rfl
theorem mw_J7_150 : Cond.methodLink "java/util/Arrays" 150 arraycopyName ∈ WS := tk_1 226 rfl rfl
theorem ml_J15_105 : LSt "java/util/Objects" 105 M_P_checkIndex 3 := ⟨⟨tk_2 94 rfl rfl, tk_2 96 rfl rfl, tk_1 20 rfl rfl, by decide +kernel⟩, tk_2 95 rfl rfl⟩
theorem mw_J8_194 : Cond.methodLink "jdk/internal/util/ArraysSupport" 194 Lib.Math.max.name ∈ WS := tk_1 184 rfl rfl
theorem co_J8_200 : Cond.constant "jdk/internal/util/ArraysSupport" 200 (Int32.ofInt (2147483639)) ∈ WS := tk_1 187 rfl rfl
theorem mw_X0_3 : Cond.methodLink "Ticksilo$Entry" 3 Lib.objectInit ∈ WS := tk_5 153 rfl rfl
theorem fl_X0_9 : FL "Ticksilo$Entry" 9 "Ticksilo$Entry" 0 1 3 := ⟨by decide, by decide, rfl, tk_5 157 rfl rfl, Or.inl rfl⟩
theorem fl_X0_15 : FL "Ticksilo$Entry" 15 "Ticksilo$Entry" 0 2 3 := ⟨by decide, by decide, rfl, tk_5 160 rfl rfl, Or.inl rfl⟩
theorem fl_X0_18 : FL "Ticksilo$Entry" 18 "Ticksilo$Entry" 0 0 0 := ⟨by decide, by decide, rfl, tk_5 154 rfl rfl, Or.inl rfl⟩
theorem fl_X0_22 : FL "Ticksilo$Entry" 22 "Ticksilo$Entry" 0 3 0 := ⟨by decide, by decide, rfl, tk_5 162 rfl rfl, Or.inl rfl⟩
theorem fl_X0_25 : FL "Ticksilo$Entry" 25 "Ticksilo$Entry" 0 4 0 := ⟨by decide, by decide, rfl, tk_5 164 rfl rfl, Or.inl rfl⟩
theorem mw_X1_1 : Cond.methodLink "Ticksilo$Logged" 1 Lib.objectInit ∈ WS := tk_4 121 rfl rfl
theorem fl_X1_7 : FL "Ticksilo$Logged" 7 "Ticksilo$Logged" 1 0 2 := ⟨by decide, by decide, rfl, tk_4 122 rfl rfl, Or.inl rfl⟩
theorem fl_X1_13 : FL "Ticksilo$Logged" 13 "Ticksilo$Logged" 1 1 3 := ⟨by decide, by decide, rfl, tk_4 124 rfl rfl, Or.inl rfl⟩
theorem mw_X3_3 : Cond.methodLink "Ticksilo$Result" 3 Lib.objectInit ∈ WS := tk_1 139 rfl rfl
theorem ac_int : Cond.arrayClass (newarray.typeOf ArrayType.int) ∈ WS := tk_1 163 rfl rfl
theorem fl_X3_9 : FL "Ticksilo$Result" 9 "Ticksilo$Result" 3 0 2 := ⟨by decide, by decide, rfl, tk_1 140 rfl rfl, Or.inl rfl⟩
theorem ac_long : Cond.arrayClass (newarray.typeOf ArrayType.long) ∈ WS := tk_1 164 rfl rfl
theorem fl_X3_15 : FL "Ticksilo$Result" 15 "Ticksilo$Result" 3 1 2 := ⟨by decide, by decide, rfl, tk_1 144 rfl rfl, Or.inl rfl⟩
theorem fl_X3_19 : FL "Ticksilo$Result" 19 "Ticksilo$Result" 3 2 0 := ⟨by decide, by decide, rfl, tk_1 147 rfl rfl, Or.inl rfl⟩
theorem fl_X3_23 : FL "Ticksilo$Result" 23 "Ticksilo$Result" 3 3 3 := ⟨by decide, by decide, rfl, tk_1 151 rfl rfl, Or.inl rfl⟩
theorem ml_X3_27 : LV "Ticksilo$Result" 27 M_X3_put 2 := ⟨⟨tk_4 234 rfl rfl, tk_4 237 rfl rfl, tk_1 8 rfl rfl, by decide +kernel⟩, tk_4 235 rfl rfl, tk_4 236 rfl rfl⟩
theorem co_X3_31 : Cond.constantLong "Ticksilo$Result" 31 (Int64.ofInt (-100000000000000)) ∈ WS := tk_5 109 rfl rfl
theorem co_X3_33 : Cond.constantLong "Ticksilo$Result" 33 (Int64.ofInt (100000000000000)) ∈ WS := tk_5 110 rfl rfl
theorem mw_X3_35 : Cond.methodLink "Ticksilo$Result" 35 Lib.MathLoose.min_long.x ∈ WS := tk_5 111 rfl rfl
theorem mw_X3_41 : Cond.methodLink "Ticksilo$Result" 41 Lib.MathLoose.max_long.x ∈ WS := tk_5 112 rfl rfl
theorem mw_X4_3 : Cond.methodLink "Ticksilo$Rule" 3 Lib.objectInit ∈ WS := tk_6 103 rfl rfl
theorem nl_X4_9 : NL "Ticksilo$Rule" 9 13 := ⟨by decide, tk_6 104 rfl rfl, tk_1 51 rfl rfl, tk_1 5 rfl rfl⟩
theorem ml_X4_11 : LI "Ticksilo$Rule" 11 M_A_init 0 := ⟨⟨tk_6 105 rfl rfl, tk_1 54 rfl rfl, tk_1 5 rfl rfl, by decide +kernel⟩, tk_1 53 rfl rfl, rfl, rfl⟩
theorem fl_X4_12 : FL "Ticksilo$Rule" 12 "Ticksilo$Rule" 4 4 2 := ⟨by decide, by decide, rfl, tk_6 112 rfl rfl, Or.inl rfl⟩
theorem fl_X4_18 : FL "Ticksilo$Rule" 18 "Ticksilo$Rule" 4 5 0 := ⟨by decide, by decide, rfl, tk_6 114 rfl rfl, Or.inl rfl⟩
theorem fl_X4_22 : FL "Ticksilo$Rule" 22 "Ticksilo$Rule" 4 0 2 := ⟨by decide, by decide, rfl, tk_6 106 rfl rfl, Or.inl rfl⟩
theorem fl_X4_25 : FL "Ticksilo$Rule" 25 "Ticksilo$Rule" 4 1 0 := ⟨by decide, by decide, rfl, tk_6 108 rfl rfl, Or.inl rfl⟩
theorem fl_X4_28 : FL "Ticksilo$Rule" 28 "Ticksilo$Rule" 4 2 0 := ⟨by decide, by decide, rfl, tk_6 110 rfl rfl, Or.inl rfl⟩
theorem fl_X4_31 : FL "Ticksilo$Rule" 31 "Ticksilo$Rule" 4 3 0 := ⟨by decide, by decide, rfl, tk_6 111 rfl rfl, Or.inl rfl⟩
theorem fl_X4_34 : FL "Ticksilo$Rule" 34 "Ticksilo$Result" 3 3 3 := ⟨by decide, by decide, rfl, tk_1 152 rfl rfl, Or.inl rfl⟩
theorem ml_X4_44 : LV "Ticksilo$Rule" 44 M_A_size 0 := ⟨⟨tk_5 139 rfl rfl, tk_2 77 rfl rfl, tk_1 5 rfl rfl, by decide +kernel⟩, tk_2 75 rfl rfl, tk_2 76 rfl rfl⟩
theorem ml_X4_40 : LV "Ticksilo$Rule" 40 M_X3_single 0 := ⟨⟨tk_5 138 rfl rfl, tk_5 75 rfl rfl, tk_1 8 rfl rfl, by decide +kernel⟩, tk_5 73 rfl rfl, tk_5 74 rfl rfl⟩
theorem ml_X4_48 : LV "Ticksilo$Rule" 48 M_A_get 1 := ⟨⟨tk_5 140 rfl rfl, tk_2 90 rfl rfl, tk_1 5 rfl rfl, by decide +kernel⟩, tk_2 88 rfl rfl, tk_2 89 rfl rfl⟩
theorem cl_X4_52 : Cond.classLink "Ticksilo$Rule" 52 "Ticksilo$Entry" ∈ WS := tk_5 141 rfl rfl
theorem fl_X4_64 : FL "Ticksilo$Rule" 64 "Ticksilo$Entry" 0 1 3 := ⟨by decide, by decide, rfl, tk_5 158 rfl rfl, Or.inl rfl⟩
theorem ml_X4_70 : LV "Ticksilo$Rule" 70 M_X4_addNew 2 := ⟨⟨tk_5 144 rfl rfl, tk_5 148 rfl rfl, tk_1 35 rfl rfl, by decide +kernel⟩, tk_5 146 rfl rfl, tk_0 26 rfl rfl⟩
theorem ml_X4_67 : LV "Ticksilo$Rule" 67 M_A_remove 1 := ⟨⟨tk_5 143 rfl rfl, tk_2 116 rfl rfl, tk_1 5 rfl rfl, by decide +kernel⟩, tk_2 114 rfl rfl, tk_2 115 rfl rfl⟩
theorem fl_X4_61 : FL "Ticksilo$Rule" 61 "Ticksilo$Entry" 0 4 0 := ⟨by decide, by decide, rfl, tk_5 165 rfl rfl, Or.inl rfl⟩
theorem fl_X4_54 : FL "Ticksilo$Rule" 54 "Ticksilo$Entry" 0 0 0 := ⟨by decide, by decide, rfl, tk_5 155 rfl rfl, Or.inl rfl⟩
theorem ml_X4_57 : LV "Ticksilo$Rule" 57 M_X3_find 1 := ⟨⟨tk_5 142 rfl rfl, tk_5 82 rfl rfl, tk_1 8 rfl rfl, by decide +kernel⟩, tk_5 80 rfl rfl, tk_5 81 rfl rfl⟩
theorem fl_X4_74 : FL "Ticksilo$Rule" 74 "Ticksilo$Entry" 0 3 0 := ⟨by decide, by decide, rfl, tk_5 163 rfl rfl, Or.inl rfl⟩
theorem ml_X4_77 : LV "Ticksilo$Rule" 77 M_X0_fire 1 := ⟨⟨tk_5 178 rfl rfl, tk_5 181 rfl rfl, tk_1 34 rfl rfl, by decide +kernel⟩, tk_5 179 rfl rfl, tk_5 180 rfl rfl⟩
theorem fl_X4_81 : FL "Ticksilo$Rule" 81 "Ticksilo$Result" 3 2 0 := ⟨by decide, by decide, rfl, tk_1 148 rfl rfl, Or.inl rfl⟩
theorem fl_X4_83 : FL "Ticksilo$Rule" 83 "Ticksilo$Result" 3 0 2 := ⟨by decide, by decide, rfl, tk_1 141 rfl rfl, Or.inl rfl⟩
theorem nl_X4_52 : NL "Ticksilo$Rule" 52 0 := ⟨by decide, tk_5 141 rfl rfl, tk_5 149 rfl rfl, tk_1 34 rfl rfl⟩
theorem ml_X4_86 : LI "Ticksilo$Rule" 86 M_X0_init 2 := ⟨⟨tk_5 150 rfl rfl, tk_5 152 rfl rfl, tk_1 34 rfl rfl, by decide +kernel⟩, tk_5 151 rfl rfl, rfl, rfl⟩
theorem ml_X4_89 : LV "Ticksilo$Rule" 89 M_A_addAt 2 := ⟨⟨tk_5 177 rfl rfl, tk_3 101 rfl rfl, tk_1 5 rfl rfl, by decide +kernel⟩, tk_3 99 rfl rfl, tk_3 100 rfl rfl⟩
theorem mw_X5_1 : Cond.methodLink "Ticksilo$Sample" 1 Lib.objectInit ∈ WS := tk_3 65 rfl rfl
theorem fl_X5_7 : FL "Ticksilo$Sample" 7 "Ticksilo$Sample" 5 5 2 := ⟨by decide, by decide, rfl, tk_3 79 rfl rfl, Or.inl rfl⟩
theorem fl_X5_13 : FL "Ticksilo$Sample" 13 "Ticksilo$Sample" 5 0 2 := ⟨by decide, by decide, rfl, tk_3 66 rfl rfl, Or.inl rfl⟩
theorem fl_X5_17 : FL "Ticksilo$Sample" 17 "Ticksilo$Sample" 5 1 0 := ⟨by decide, by decide, rfl, tk_3 68 rfl rfl, Or.inl rfl⟩
theorem fl_X5_21 : FL "Ticksilo$Sample" 21 "Ticksilo$Sample" 5 2 0 := ⟨by decide, by decide, rfl, tk_3 71 rfl rfl, Or.inl rfl⟩
theorem fl_X5_24 : FL "Ticksilo$Sample" 24 "Ticksilo$Sample" 5 3 0 := ⟨by decide, by decide, rfl, tk_3 75 rfl rfl, Or.inl rfl⟩
theorem fl_X5_27 : FL "Ticksilo$Sample" 27 "Ticksilo$Sample" 5 4 3 := ⟨by decide, by decide, rfl, tk_3 77 rfl rfl, Or.inl rfl⟩
theorem mw_X6_1 : Cond.methodLink "Ticksilo$Selector" 1 Lib.objectInit ∈ WS := tk_2 13 rfl rfl
theorem fl_X6_7 : FL "Ticksilo$Selector" 7 "Ticksilo$Selector" 6 0 0 := ⟨by decide, by decide, rfl, tk_2 14 rfl rfl, Or.inl rfl⟩
theorem fl_X6_13 : FL "Ticksilo$Selector" 13 "Ticksilo$Selector" 6 1 0 := ⟨by decide, by decide, rfl, tk_2 15 rfl rfl, Or.inl rfl⟩
theorem fl_X6_16 : FL "Ticksilo$Selector" 16 "Ticksilo$Selector" 6 2 0 := ⟨by decide, by decide, rfl, tk_2 16 rfl rfl, Or.inl rfl⟩
theorem mw_X9_3 : Cond.methodLink "Ticksilo$Window" 3 Lib.objectInit ∈ WS := tk_1 105 rfl rfl
theorem fl_X9_9 : FL "Ticksilo$Window" 9 "Ticksilo$Window" 9 0 0 := ⟨by decide, by decide, rfl, tk_1 106 rfl rfl, Or.inl rfl⟩
theorem fl_X9_15 : FL "Ticksilo$Window" 15 "Ticksilo$Window" 9 1 0 := ⟨by decide, by decide, rfl, tk_1 107 rfl rfl, Or.inl rfl⟩
theorem fl_X9_18 : FL "Ticksilo$Window" 18 "Ticksilo$Window" 9 2 0 := ⟨by decide, by decide, rfl, tk_1 108 rfl rfl, Or.inl rfl⟩
theorem fl_X9_21 : FL "Ticksilo$Window" 21 "Ticksilo$Window" 9 3 0 := ⟨by decide, by decide, rfl, tk_1 109 rfl rfl, Or.inl rfl⟩
theorem fl_X9_24 : FL "Ticksilo$Window" 24 "Ticksilo$Window" 9 4 0 := ⟨by decide, by decide, rfl, tk_1 110 rfl rfl, Or.inl rfl⟩
theorem fl_X9_27 : FL "Ticksilo$Window" 27 "Ticksilo$Window" 9 5 0 := ⟨by decide, by decide, rfl, tk_1 111 rfl rfl, Or.inl rfl⟩
theorem fl_X9_30 : FL "Ticksilo$Window" 30 "Ticksilo$Window" 9 6 0 := ⟨by decide, by decide, rfl, tk_1 112 rfl rfl, Or.inl rfl⟩
theorem fl_X9_33 : FL "Ticksilo$Window" 33 "Ticksilo$Window" 9 7 1 := ⟨by decide, by decide, rfl, tk_1 113 rfl rfl, Or.inl rfl⟩
theorem fl_X9_37 : FL "Ticksilo$Window" 37 "Ticksilo$Window" 9 8 1 := ⟨by decide, by decide, rfl, tk_1 114 rfl rfl, Or.inl rfl⟩
theorem ml_X9_40 : LV "Ticksilo$Window" 40 M_X7_countAhead 1 := ⟨⟨tk_5 20 rfl rfl, tk_2 109 rfl rfl, tk_1 21 rfl rfl, by decide +kernel⟩, tk_2 107 rfl rfl, tk_2 108 rfl rfl⟩
theorem fl_X9_46 : FL "Ticksilo$Window" 46 "Ticksilo$Series" 7 1 2 := ⟨by decide, by decide, rfl, tk_3 43 rfl rfl, Or.inl rfl⟩
theorem ml_X9_50 : LV "Ticksilo$Window" 50 M_A_get 1 := ⟨⟨tk_5 21 rfl rfl, tk_2 90 rfl rfl, tk_1 5 rfl rfl, by decide +kernel⟩, tk_2 88 rfl rfl, tk_2 89 rfl rfl⟩
theorem cl_X9_56 : Cond.classLink "Ticksilo$Window" 56 "Ticksilo$Sample" ∈ WS := tk_5 22 rfl rfl
theorem fl_X9_58 : FL "Ticksilo$Window" 58 "Ticksilo$Sample" 5 2 0 := ⟨by decide, by decide, rfl, tk_3 72 rfl rfl, Or.inl rfl⟩
theorem co_X9_61 : Cond.constant "Ticksilo$Window" 61 (Int32.ofInt (-2147483648)) ∈ WS := tk_5 23 rfl rfl
theorem fl_X9_62 : FL "Ticksilo$Window" 62 "Ticksilo$Sample" 5 1 0 := ⟨by decide, by decide, rfl, tk_3 70 rfl rfl, Or.inl rfl⟩
theorem ml_X9_65 : LV "Ticksilo$Window" 65 M_X9_include 2 := ⟨⟨tk_5 24 rfl rfl, tk_5 27 rfl rfl, tk_1 7 rfl rfl, by decide +kernel⟩, tk_5 26 rfl rfl, tk_0 16 rfl rfl⟩
theorem mw_X9_72 : Cond.methodLink "Ticksilo$Window" 72 Lib.Math.min.name ∈ WS := tk_5 33 rfl rfl
theorem mw_X9_78 : Cond.methodLink "Ticksilo$Window" 78 Lib.Math.max.name ∈ WS := tk_5 34 rfl rfl
theorem co_X9_81 : Cond.constantLong "Ticksilo$Window" 81 (Int64.ofInt (1000)) ∈ WS := tk_5 32 rfl rfl
theorem co_X9_83 : Cond.constantLong "Ticksilo$Window" 83 (Int64.ofInt (2)) ∈ WS := tk_5 35 rfl rfl
theorem ml_X9_69 : LV "Ticksilo$Window" 69 M_X9_begin 2 := ⟨⟨tk_5 28 rfl rfl, tk_5 31 rfl rfl, tk_1 7 rfl rfl, by decide +kernel⟩, tk_5 30 rfl rfl, tk_0 17 rfl rfl⟩
theorem ml_X9_85 : LV "Ticksilo$Window" 85 M_X9_rate 2 := ⟨⟨tk_5 44 rfl rfl, tk_5 47 rfl rfl, tk_1 7 rfl rfl, by decide +kernel⟩, tk_5 46 rfl rfl, tk_0 18 rfl rfl⟩
theorem mw_X9_89 : Cond.methodLink "Ticksilo$Window" 89 Lib.MathLoose.min_long.x ∈ WS := tk_5 48 rfl rfl
theorem mw_X10_3 : Cond.methodLink "Ticksilo$Word" 3 Lib.objectInit ∈ WS := tk_6 43 rfl rfl
theorem fl_X10_9 : FL "Ticksilo$Word" 9 "Ticksilo$Word" 10 0 0 := ⟨by decide, by decide, rfl, tk_6 44 rfl rfl, Or.inl rfl⟩
theorem fl_X10_15 : FL "Ticksilo$Word" 15 "Ticksilo$Word" 10 1 0 := ⟨by decide, by decide, rfl, tk_6 47 rfl rfl, Or.inl rfl⟩
theorem fl_X10_18 : FL "Ticksilo$Word" 18 "Ticksilo$Word" 10 2 0 := ⟨by decide, by decide, rfl, tk_6 49 rfl rfl, Or.inl rfl⟩
theorem fl_X10_21 : FL "Ticksilo$Word" 21 "Ticksilo$Word" 10 3 2 := ⟨by decide, by decide, rfl, tk_6 51 rfl rfl, Or.inl rfl⟩
theorem ml_X10_25 : LN "Ticksilo$Word" 25 M_X11_isWithin 3 := ⟨tn_4 222 rfl rfl, tk_2 136 rfl rfl, tk_1 1 rfl rfl, by decide +kernel⟩
theorem sw_X11_isWithin : Cond.static (mY M_X11_isWithin) ∈ WS := tk_2 135 rfl rfl
theorem ml_X10_29 : LSt "Ticksilo$Word" 29 M_X10_reads 1 := ⟨⟨tk_4 219 rfl rfl, tk_4 221 rfl rfl, tk_1 33 rfl rfl, by decide +kernel⟩, tk_4 220 rfl rfl⟩
theorem ml_X10_33 : LSt "Ticksilo$Word" 33 M_X10_joins 1 := ⟨⟨tk_4 223 rfl rfl, tk_4 225 rfl rfl, tk_1 33 rfl rfl, by decide +kernel⟩, tk_4 224 rfl rfl⟩
theorem mw_X7_3 : Cond.methodLink "Ticksilo$Series" 3 Lib.objectInit ∈ WS := tk_3 35 rfl rfl
theorem nl_X7_9 : NL "Ticksilo$Series" 9 13 := ⟨by decide, tk_3 36 rfl rfl, tk_1 51 rfl rfl, tk_1 5 rfl rfl⟩
theorem ml_X7_11 : LI "Ticksilo$Series" 11 M_A_init 0 := ⟨⟨tk_3 37 rfl rfl, tk_1 54 rfl rfl, tk_1 5 rfl rfl, by decide +kernel⟩, tk_1 53 rfl rfl, rfl, rfl⟩
theorem fl_X7_12 : FL "Ticksilo$Series" 12 "Ticksilo$Series" 7 1 2 := ⟨by decide, by decide, rfl, tk_3 42 rfl rfl, Or.inl rfl⟩
theorem fl_X7_18 : FL "Ticksilo$Series" 18 "Ticksilo$Series" 7 2 2 := ⟨by decide, by decide, rfl, tk_3 46 rfl rfl, Or.inl rfl⟩
theorem fl_X7_22 : FL "Ticksilo$Series" 22 "Ticksilo$Series" 7 3 2 := ⟨by decide, by decide, rfl, tk_3 47 rfl rfl, Or.inl rfl⟩
theorem fl_X7_25 : FL "Ticksilo$Series" 25 "Ticksilo$Series" 7 4 0 := ⟨by decide, by decide, rfl, tk_3 48 rfl rfl, Or.inl rfl⟩
theorem fl_X7_29 : FL "Ticksilo$Series" 29 "Ticksilo$Series" 7 0 0 := ⟨by decide, by decide, rfl, tk_3 38 rfl rfl, Or.inl rfl⟩
theorem ml_X7_32 : LV "Ticksilo$Series" 32 M_A_size 0 := ⟨⟨tk_2 110 rfl rfl, tk_2 77 rfl rfl, tk_1 5 rfl rfl, by decide +kernel⟩, tk_2 75 rfl rfl, tk_2 76 rfl rfl⟩
theorem ml_X7_36 : LV "Ticksilo$Series" 36 M_A_get 1 := ⟨⟨tk_2 111 rfl rfl, tk_2 90 rfl rfl, tk_1 5 rfl rfl, by decide +kernel⟩, tk_2 88 rfl rfl, tk_2 89 rfl rfl⟩
theorem cl_X7_40 : Cond.classLink "Ticksilo$Series" 40 "Ticksilo$Sample" ∈ WS := tk_2 112 rfl rfl
theorem fl_X7_42 : FL "Ticksilo$Series" 42 "Ticksilo$Sample" 5 1 0 := ⟨by decide, by decide, rfl, tk_3 69 rfl rfl, Or.inl rfl⟩
theorem ml_X7_45 : LV "Ticksilo$Series" 45 M_X7_countAhead 1 := ⟨⟨tk_2 106 rfl rfl, tk_2 109 rfl rfl, tk_1 21 rfl rfl, by decide +kernel⟩, tk_2 107 rfl rfl, tk_2 108 rfl rfl⟩
theorem ml_X7_49 : LV "Ticksilo$Series" 49 M_A_addAt 2 := ⟨⟨tk_3 98 rfl rfl, tk_3 101 rfl rfl, tk_1 5 rfl rfl, by decide +kernel⟩, tk_3 99 rfl rfl, tk_3 100 rfl rfl⟩
theorem ml_X7_53 : LV "Ticksilo$Series" 53 M_A_remove 1 := ⟨⟨tk_2 113 rfl rfl, tk_2 116 rfl rfl, tk_1 5 rfl rfl, by decide +kernel⟩, tk_2 114 rfl rfl, tk_2 115 rfl rfl⟩
theorem fl_X7_56 : FL "Ticksilo$Series" 56 "Ticksilo$Sample" 5 2 0 := ⟨by decide, by decide, rfl, tk_3 74 rfl rfl, Or.inl rfl⟩
theorem ml_X7_59 : LV "Ticksilo$Series" 59 M_X7_openBlock 1 := ⟨⟨tk_2 126 rfl rfl, tk_2 130 rfl rfl, tk_1 21 rfl rfl, by decide +kernel⟩, tk_2 128 rfl rfl, tk_0 4 rfl rfl⟩
theorem ml_X7_63 : LSt "Ticksilo$Series" 63 M_X7_bitsOfTime 1 := ⟨⟨tk_2 131 rfl rfl, tk_2 133 rfl rfl, tk_1 21 rfl rfl, by decide +kernel⟩, tk_2 132 rfl rfl⟩
theorem ml_X7_66 : LSt "Ticksilo$Series" 66 M_X7_bitsOfValue 1 := ⟨⟨tk_2 137 rfl rfl, tk_2 139 rfl rfl, tk_1 21 rfl rfl, by decide +kernel⟩, tk_2 138 rfl rfl⟩
theorem ml_X7_69 : LV "Ticksilo$Series" 69 M_X7_growBlock 1 := ⟨⟨tk_2 140 rfl rfl, tk_2 143 rfl rfl, tk_1 21 rfl rfl, by decide +kernel⟩, tk_2 142 rfl rfl, tk_0 5 rfl rfl⟩
theorem ml_X7_72 : LN "Ticksilo$Series" 72 M_X11_isWithin 3 := ⟨tn_2 134 rfl rfl, tk_2 136 rfl rfl, tk_1 1 rfl rfl, by decide +kernel⟩
theorem mw_X8_3 : Cond.methodLink "Ticksilo$Store" 3 Lib.objectInit ∈ WS := tk_1 49 rfl rfl
theorem nl_X8_9 : NL "Ticksilo$Store" 9 13 := ⟨by decide, tk_1 50 rfl rfl, tk_1 51 rfl rfl, tk_1 5 rfl rfl⟩
theorem ml_X8_11 : LI "Ticksilo$Store" 11 M_A_init 0 := ⟨⟨tk_1 52 rfl rfl, tk_1 54 rfl rfl, tk_1 5 rfl rfl, by decide +kernel⟩, tk_1 53 rfl rfl, rfl, rfl⟩
theorem fl_X8_12 : FL "Ticksilo$Store" 12 "Ticksilo$Store" 8 0 2 := ⟨by decide, by decide, rfl, tk_1 76 rfl rfl, Or.inl rfl⟩
theorem fl_X8_18 : FL "Ticksilo$Store" 18 "Ticksilo$Store" 8 1 2 := ⟨by decide, by decide, rfl, tk_1 78 rfl rfl, Or.inl rfl⟩
theorem fl_X8_21 : FL "Ticksilo$Store" 21 "Ticksilo$Store" 8 2 3 := ⟨by decide, by decide, rfl, tk_1 80 rfl rfl, Or.inl rfl⟩
theorem fl_X8_25 : FL "Ticksilo$Store" 25 "Ticksilo$Store" 8 3 0 := ⟨by decide, by decide, rfl, tk_1 82 rfl rfl, Or.inl rfl⟩
theorem ml_X8_29 : LV "Ticksilo$Store" 29 M_X8_find 1 := ⟨⟨tk_3 20 rfl rfl, tk_3 23 rfl rfl, tk_1 2 rfl rfl, by decide +kernel⟩, tk_3 22 rfl rfl, tk_0 7 rfl rfl⟩
theorem ml_X8_43 : LV "Ticksilo$Store" 43 M_X8_countSeen 1 := ⟨⟨tk_3 28 rfl rfl, tk_3 31 rfl rfl, tk_1 2 rfl rfl, by decide +kernel⟩, tk_3 30 rfl rfl, tk_0 8 rfl rfl⟩
theorem nl_X8_54 : NL "Ticksilo$Store" 54 5 := ⟨by decide, tk_2 173 rfl rfl, tk_3 61 rfl rfl, tk_1 22 rfl rfl⟩
theorem ml_X8_56 : LI "Ticksilo$Store" 56 M_X5_init 5 := ⟨⟨tk_3 62 rfl rfl, tk_3 64 rfl rfl, tk_1 22 rfl rfl, by decide +kernel⟩, tk_3 63 rfl rfl, rfl, rfl⟩
theorem ml_X8_59 : LV "Ticksilo$Store" 59 M_X7_show 1 := ⟨⟨tk_3 94 rfl rfl, tk_3 97 rfl rfl, tk_1 21 rfl rfl, by decide +kernel⟩, tk_3 95 rfl rfl, tk_3 96 rfl rfl⟩
theorem nl_X8_63 : NL "Ticksilo$Store" 63 1 := ⟨by decide, tk_4 116 rfl rfl, tk_4 117 rfl rfl, tk_1 31 rfl rfl⟩
theorem ml_X8_65 : LI "Ticksilo$Store" 65 M_X1_init 2 := ⟨⟨tk_4 118 rfl rfl, tk_4 120 rfl rfl, tk_1 31 rfl rfl, by decide +kernel⟩, tk_4 119 rfl rfl, rfl, rfl⟩
theorem ml_X8_50 : LV "Ticksilo$Store" 50 M_A_add 1 := ⟨⟨tk_3 60 rfl rfl, tk_1 168 rfl rfl, tk_1 5 rfl rfl, by decide +kernel⟩, tk_1 166 rfl rfl, tk_1 167 rfl rfl⟩
theorem nl_X8_38 : NL "Ticksilo$Store" 38 7 := ⟨by decide, tk_2 101 rfl rfl, tk_2 129 rfl rfl, tk_1 21 rfl rfl⟩
theorem ml_X8_47 : LI "Ticksilo$Store" 47 M_X7_init 1 := ⟨⟨tk_3 32 rfl rfl, tk_3 34 rfl rfl, tk_1 21 rfl rfl, by decide +kernel⟩, tk_3 33 rfl rfl, rfl, rfl⟩
theorem ml_X8_37 : LV "Ticksilo$Store" 37 M_X7_judge 2 := ⟨⟨tk_3 24 rfl rfl, tk_3 27 rfl rfl, tk_1 21 rfl rfl, by decide +kernel⟩, tk_3 25 rfl rfl, tk_3 26 rfl rfl⟩
theorem ml_X8_33 : LV "Ticksilo$Store" 33 M_A_size 0 := ⟨⟨tk_2 86 rfl rfl, tk_2 77 rfl rfl, tk_1 5 rfl rfl, by decide +kernel⟩, tk_2 75 rfl rfl, tk_2 76 rfl rfl⟩
theorem ml_X8_68 : LV "Ticksilo$Store" 68 M_A_get 1 := ⟨⟨tk_2 87 rfl rfl, tk_2 90 rfl rfl, tk_1 5 rfl rfl, by decide +kernel⟩, tk_2 88 rfl rfl, tk_2 89 rfl rfl⟩
theorem cl_X8_38 : Cond.classLink "Ticksilo$Store" 38 "Ticksilo$Series" ∈ WS := tk_2 101 rfl rfl
theorem fl_X8_72 : FL "Ticksilo$Store" 72 "Ticksilo$Series" 7 0 0 := ⟨by decide, by decide, rfl, tk_3 39 rfl rfl, Or.inl rfl⟩
theorem fl_X8_75 : FL "Ticksilo$Store" 75 "Ticksilo$Series" 7 1 2 := ⟨by decide, by decide, rfl, tk_3 44 rfl rfl, Or.inl rfl⟩
theorem ml_X8_78 : LV "Ticksilo$Store" 78 M_X6_selects 1 := ⟨⟨tk_4 173 rfl rfl, tk_4 176 rfl rfl, tk_1 13 rfl rfl, by decide +kernel⟩, tk_4 174 rfl rfl, tk_4 175 rfl rfl⟩
theorem ml_X8_84 : LV "Ticksilo$Store" 84 M_X7_countAhead 1 := ⟨⟨tk_4 177 rfl rfl, tk_2 109 rfl rfl, tk_1 21 rfl rfl, by decide +kernel⟩, tk_2 107 rfl rfl, tk_2 108 rfl rfl⟩
theorem ml_X8_87 : LV "Ticksilo$Store" 87 M_A_remove 1 := ⟨⟨tk_4 178 rfl rfl, tk_2 116 rfl rfl, tk_1 5 rfl rfl, by decide +kernel⟩, tk_2 114 rfl rfl, tk_2 115 rfl rfl⟩
theorem cl_X8_54 : Cond.classLink "Ticksilo$Store" 54 "Ticksilo$Sample" ∈ WS := tk_2 173 rfl rfl
theorem fl_X8_90 : FL "Ticksilo$Store" 90 "Ticksilo$Sample" 5 5 2 := ⟨by decide, by decide, rfl, tk_3 80 rfl rfl, Or.inl rfl⟩
theorem ml_X8_94 : LV "Ticksilo$Store" 94 M_A_isEmpty 0 := ⟨⟨tk_5 223 rfl rfl, tk_5 120 rfl rfl, tk_1 5 rfl rfl, by decide +kernel⟩, tk_5 118 rfl rfl, tk_5 119 rfl rfl⟩
theorem cl_X8_63 : Cond.classLink "Ticksilo$Store" 63 "Ticksilo$Logged" ∈ WS := tk_4 116 rfl rfl
theorem ml_X8_98 : LV "Ticksilo$Store" 98 M_X8_takeBack 1 := ⟨⟨tk_5 224 rfl rfl, tk_5 227 rfl rfl, tk_1 2 rfl rfl, by decide +kernel⟩, tk_5 226 rfl rfl, tk_0 32 rfl rfl⟩
theorem fl_X8_102 : FL "Ticksilo$Store" 102 "Ticksilo$Logged" 1 0 2 := ⟨by decide, by decide, rfl, tk_4 123 rfl rfl, Or.inl rfl⟩
theorem fl_X8_105 : FL "Ticksilo$Store" 105 "Ticksilo$Logged" 1 1 3 := ⟨by decide, by decide, rfl, tk_4 125 rfl rfl, Or.inl rfl⟩
theorem fl_X8_108 : FL "Ticksilo$Store" 108 "Ticksilo$Sample" 5 0 2 := ⟨by decide, by decide, rfl, tk_3 67 rfl rfl, Or.inl rfl⟩
theorem ml_X8_112 : LV "Ticksilo$Store" 112 M_X7_forget 1 := ⟨⟨tk_5 228 rfl rfl, tk_5 231 rfl rfl, tk_1 21 rfl rfl, by decide +kernel⟩, tk_5 229 rfl rfl, tk_5 230 rfl rfl⟩
theorem ml_X8_121 : LV "Ticksilo$Store" 121 M_A_clear 0 := ⟨⟨tk_2 144 rfl rfl, tk_2 147 rfl rfl, tk_1 5 rfl rfl, by decide +kernel⟩, tk_2 145 rfl rfl, tk_2 146 rfl rfl⟩
theorem ml_X8_115 : LV "Ticksilo$Store" 115 M_X7_forgetAheadOf 1 := ⟨⟨tk_2 102 rfl rfl, tk_2 105 rfl rfl, tk_1 21 rfl rfl, by decide +kernel⟩, tk_2 103 rfl rfl, tk_2 104 rfl rfl⟩
theorem ml_X8_118 : LV "Ticksilo$Store" 118 M_X7_packBlocks 0 := ⟨⟨tk_2 122 rfl rfl, tk_2 125 rfl rfl, tk_1 21 rfl rfl, by decide +kernel⟩, tk_2 123 rfl rfl, tk_2 124 rfl rfl⟩
theorem fl_X8_124 : FL "Ticksilo$Store" 124 "Ticksilo$Sample" 5 4 3 := ⟨by decide, by decide, rfl, tk_3 78 rfl rfl, Or.inl rfl⟩
theorem ml_X8_127 : LV "Ticksilo$Store" 127 M_X8_firstNotCopied 0 := ⟨⟨tk_6 226 rfl rfl, tk_6 229 rfl rfl, tk_1 2 rfl rfl, by decide +kernel⟩, tk_6 228 rfl rfl, tk_0 36 rfl rfl⟩
theorem fl_X8_131 : FL "Ticksilo$Store" 131 "Ticksilo$Sample" 5 3 0 := ⟨by decide, by decide, rfl, tk_3 76 rfl rfl, Or.inl rfl⟩
theorem mw_X2_3 : Cond.methodLink "Ticksilo$Pile" 3 Lib.objectInit ∈ WS := tk_1 97 rfl rfl
theorem nl_X2_9 : NL "Ticksilo$Pile" 9 13 := ⟨by decide, tk_1 98 rfl rfl, tk_1 51 rfl rfl, tk_1 5 rfl rfl⟩
theorem ml_X2_11 : LI "Ticksilo$Pile" 11 M_A_init 0 := ⟨⟨tk_1 99 rfl rfl, tk_1 54 rfl rfl, tk_1 5 rfl rfl, by decide +kernel⟩, tk_1 53 rfl rfl, rfl, rfl⟩
theorem fl_X2_12 : FL "Ticksilo$Pile" 12 "Ticksilo$Pile" 2 0 2 := ⟨by decide, by decide, rfl, tk_1 231 rfl rfl, Or.inl rfl⟩
theorem nl_X2_18 : NL "Ticksilo$Pile" 18 9 := ⟨by decide, tk_1 100 rfl rfl, tk_1 101 rfl rfl, tk_1 7 rfl rfl⟩
theorem ml_X2_20 : LN "Ticksilo$Pile" 20 M_X9_init 0 := ⟨tn_1 102 rfl rfl, tk_1 104 rfl rfl, tk_1 7 rfl rfl, by decide +kernel⟩
theorem in_X9_init : Cond.instanceMethod (mY M_X9_init) ∈ WS ∧ (mY M_X9_init).name = "<init>" ∧ mret M_X9_init = none := ⟨tk_1 103 rfl rfl, rfl, rfl⟩
theorem fl_X2_21 : FL "Ticksilo$Pile" 21 "Ticksilo$Pile" 2 1 2 := ⟨by decide, by decide, rfl, tk_1 232 rfl rfl, Or.inl rfl⟩
theorem nl_X2_25 : NL "Ticksilo$Pile" 25 3 := ⟨by decide, tk_1 134 rfl rfl, tk_1 135 rfl rfl, tk_1 8 rfl rfl⟩
theorem ml_X2_27 : LN "Ticksilo$Pile" 27 M_X3_init 0 := ⟨tn_1 136 rfl rfl, tk_1 138 rfl rfl, tk_1 8 rfl rfl, by decide +kernel⟩
theorem in_X3_init : Cond.instanceMethod (mY M_X3_init) ∈ WS ∧ (mY M_X3_init).name = "<init>" ∧ mret M_X3_init = none := ⟨tk_1 137 rfl rfl, rfl, rfl⟩
theorem fl_X2_28 : FL "Ticksilo$Pile" 28 "Ticksilo$Pile" 2 2 2 := ⟨by decide, by decide, rfl, tk_1 233 rfl rfl, Or.inl rfl⟩
theorem fl_X2_32 : FL "Ticksilo$Pile" 32 "Ticksilo$Pile" 2 3 0 := ⟨by decide, by decide, rfl, tk_1 234 rfl rfl, Or.inl rfl⟩
theorem ml_X2_36 : LV "Ticksilo$Pile" 36 M_A_add 1 := ⟨⟨tk_1 165 rfl rfl, tk_1 168 rfl rfl, tk_1 5 rfl rfl, by decide +kernel⟩, tk_1 166 rfl rfl, tk_1 167 rfl rfl⟩
theorem ml_X2_40 : LV "Ticksilo$Pile" 40 M_A_size 0 := ⟨⟨tk_4 213 rfl rfl, tk_2 77 rfl rfl, tk_1 5 rfl rfl, by decide +kernel⟩, tk_2 75 rfl rfl, tk_2 76 rfl rfl⟩
theorem ml_X2_61 : LV "Ticksilo$Pile" 61 M_A_isEmpty 0 := ⟨⟨tk_5 117 rfl rfl, tk_5 120 rfl rfl, tk_1 5 rfl rfl, by decide +kernel⟩, tk_5 118 rfl rfl, tk_5 119 rfl rfl⟩
theorem ml_X2_44 : LV "Ticksilo$Pile" 44 M_A_get 1 := ⟨⟨tk_4 214 rfl rfl, tk_2 90 rfl rfl, tk_1 5 rfl rfl, by decide +kernel⟩, tk_2 88 rfl rfl, tk_2 89 rfl rfl⟩
theorem cl_X2_25 : Cond.classLink "Ticksilo$Pile" 25 "Ticksilo$Result" ∈ WS := tk_1 134 rfl rfl
theorem cl_X2_48 : Cond.classLink "Ticksilo$Pile" 48 "Ticksilo$Word" ∈ WS := tk_4 215 rfl rfl
theorem fl_X2_50 : FL "Ticksilo$Pile" 50 "Ticksilo$Word" 10 0 0 := ⟨by decide, by decide, rfl, tk_6 45 rfl rfl, Or.inl rfl⟩
theorem ml_X2_53 : LSt "Ticksilo$Pile" 53 M_X10_needs 1 := ⟨⟨tk_4 216 rfl rfl, tk_4 218 rfl rfl, tk_1 33 rfl rfl, by decide +kernel⟩, tk_4 217 rfl rfl⟩
theorem ml_X2_57 : LV "Ticksilo$Pile" 57 M_X2_goThrough 3 := ⟨⟨tk_4 226 rfl rfl, tk_4 229 rfl rfl, tk_1 6 rfl rfl, by decide +kernel⟩, tk_4 228 rfl rfl, tk_0 14 rfl rfl⟩
theorem ml_X2_72 : LSt "Ticksilo$Pile" 72 M_X10_reads 1 := ⟨⟨tk_4 238 rfl rfl, tk_4 221 rfl rfl, tk_1 33 rfl rfl, by decide +kernel⟩, tk_4 220 rfl rfl⟩
theorem ml_X2_84 : LSt "Ticksilo$Pile" 84 M_X10_joins 1 := ⟨⟨tk_5 67 rfl rfl, tk_4 225 rfl rfl, tk_1 33 rfl rfl, by decide +kernel⟩, tk_4 224 rfl rfl⟩
theorem ml_X2_95 : LV "Ticksilo$Pile" 95 M_X3_keepInBounds 0 := ⟨⟨tk_5 105 rfl rfl, tk_5 108 rfl rfl, tk_1 8 rfl rfl, by decide +kernel⟩, tk_5 106 rfl rfl, tk_5 107 rfl rfl⟩
theorem ml_X2_98 : LV "Ticksilo$Pile" 98 M_A_set 2 := ⟨⟨tk_5 113 rfl rfl, tk_5 116 rfl rfl, tk_1 5 rfl rfl, by decide +kernel⟩, tk_5 114 rfl rfl, tk_5 115 rfl rfl⟩
theorem ml_X2_91 : LV "Ticksilo$Pile" 91 M_X2_join 3 := ⟨⟨tk_5 83 rfl rfl, tk_5 86 rfl rfl, tk_1 6 rfl rfl, by decide +kernel⟩, tk_5 85 rfl rfl, tk_0 22 rfl rfl⟩
theorem ml_X2_87 : LV "Ticksilo$Pile" 87 M_X2_fold 2 := ⟨⟨tk_5 68 rfl rfl, tk_5 71 rfl rfl, tk_1 6 rfl rfl, by decide +kernel⟩, tk_5 70 rfl rfl, tk_0 21 rfl rfl⟩
theorem fl_X2_65 : FL "Ticksilo$Pile" 65 "Ticksilo$Word" 10 1 0 := ⟨by decide, by decide, rfl, tk_6 48 rfl rfl, Or.inl rfl⟩
theorem ml_X2_80 : LV "Ticksilo$Pile" 80 M_X2_takeQuantiles 2 := ⟨⟨tk_5 51 rfl rfl, tk_5 54 rfl rfl, tk_1 6 rfl rfl, by decide +kernel⟩, tk_5 53 rfl rfl, tk_0 19 rfl rfl⟩
theorem ml_X2_76 : LV "Ticksilo$Pile" 76 M_X2_read 3 := ⟨⟨tk_4 239 rfl rfl, tk_5 2 rfl rfl, tk_1 6 rfl rfl, by decide +kernel⟩, tk_5 1 rfl rfl, tk_0 15 rfl rfl⟩
theorem ml_X2_68 : LV "Ticksilo$Pile" 68 M_X3_becomeNumber 1 := ⟨⟨tk_4 230 rfl rfl, tk_4 233 rfl rfl, tk_1 8 rfl rfl, by decide +kernel⟩, tk_4 231 rfl rfl, tk_4 232 rfl rfl⟩
theorem ml_X2_102 : LV "Ticksilo$Pile" 102 M_X3_becomeVector 0 := ⟨⟨tk_5 3 rfl rfl, tk_5 6 rfl rfl, tk_1 8 rfl rfl, by decide +kernel⟩, tk_5 4 rfl rfl, tk_5 5 rfl rfl⟩
theorem cl_X2_105 : Cond.classLink "Ticksilo$Pile" 105 "Ticksilo$Series" ∈ WS := tk_5 7 rfl rfl
theorem fl_X2_107 : FL "Ticksilo$Pile" 107 "Ticksilo$Word" 10 3 2 := ⟨by decide, by decide, rfl, tk_6 52 rfl rfl, Or.inl rfl⟩
theorem fl_X2_111 : FL "Ticksilo$Pile" 111 "Ticksilo$Series" 7 0 0 := ⟨by decide, by decide, rfl, tk_3 41 rfl rfl, Or.inl rfl⟩
theorem ml_X2_114 : LV "Ticksilo$Pile" 114 M_X6_selects 1 := ⟨⟨tk_5 8 rfl rfl, tk_4 176 rfl rfl, tk_1 13 rfl rfl, by decide +kernel⟩, tk_4 174 rfl rfl, tk_4 175 rfl rfl⟩
theorem fl_X2_119 : FL "Ticksilo$Pile" 119 "Ticksilo$Word" 10 2 0 := ⟨by decide, by decide, rfl, tk_6 50 rfl rfl, Or.inl rfl⟩
theorem ml_X2_138 : LV "Ticksilo$Pile" 138 M_X9_gather 3 := ⟨⟨tk_5 16 rfl rfl, tk_5 19 rfl rfl, tk_1 7 rfl rfl, by decide +kernel⟩, tk_5 17 rfl rfl, tk_5 18 rfl rfl⟩
theorem ml_X2_142 : LV "Ticksilo$Pile" 142 M_X9_canTell 1 := ⟨⟨tk_5 36 rfl rfl, tk_5 39 rfl rfl, tk_1 7 rfl rfl, by decide +kernel⟩, tk_5 37 rfl rfl, tk_5 38 rfl rfl⟩
theorem ml_X2_145 : LV "Ticksilo$Pile" 145 M_X9_tellOf 3 := ⟨⟨tk_5 40 rfl rfl, tk_5 43 rfl rfl, tk_1 7 rfl rfl, by decide +kernel⟩, tk_5 41 rfl rfl, tk_5 42 rfl rfl⟩
theorem ml_X2_134 : LV "Ticksilo$Pile" 134 M_X3_put 2 := ⟨⟨tk_5 15 rfl rfl, tk_4 237 rfl rfl, tk_1 8 rfl rfl, by decide +kernel⟩, tk_4 235 rfl rfl, tk_4 236 rfl rfl⟩
theorem ml_X2_122 : LV "Ticksilo$Pile" 122 M_X7_latest 1 := ⟨⟨tk_5 9 rfl rfl, tk_5 12 rfl rfl, tk_1 21 rfl rfl, by decide +kernel⟩, tk_5 10 rfl rfl, tk_5 11 rfl rfl⟩
theorem fl_X2_126 : FL "Ticksilo$Pile" 126 "Ticksilo$Sample" 5 2 0 := ⟨by decide, by decide, rfl, tk_3 73 rfl rfl, Or.inl rfl⟩
theorem co_X2_131 : Cond.constant "Ticksilo$Pile" 131 (Int32.ofInt (-2147483648)) ∈ WS := tk_5 13 rfl rfl
theorem co_X2_132 : Cond.constantLong "Ticksilo$Pile" 132 (Int64.ofInt (1000)) ∈ WS := tk_5 14 rfl rfl
theorem fl_X2_149 : FL "Ticksilo$Pile" 149 "Ticksilo$Result" 3 3 3 := ⟨by decide, by decide, rfl, tk_1 153 rfl rfl, Or.inl rfl⟩
theorem ml_X2_153 : LV "Ticksilo$Pile" 153 M_X3_single 0 := ⟨⟨tk_5 72 rfl rfl, tk_5 75 rfl rfl, tk_1 8 rfl rfl, by decide +kernel⟩, tk_5 73 rfl rfl, tk_5 74 rfl rfl⟩
theorem fl_X2_157 : FL "Ticksilo$Pile" 157 "Ticksilo$Result" 3 2 0 := ⟨by decide, by decide, rfl, tk_1 149 rfl rfl, Or.inl rfl⟩
theorem fl_X2_159 : FL "Ticksilo$Pile" 159 "Ticksilo$Result" 3 0 2 := ⟨by decide, by decide, rfl, tk_1 142 rfl rfl, Or.inl rfl⟩
theorem ml_X2_162 : LSt "Ticksilo$Pile" 162 M_X2_only 2 := ⟨⟨tk_5 76 rfl rfl, tk_5 78 rfl rfl, tk_1 6 rfl rfl, by decide +kernel⟩, tk_5 77 rfl rfl⟩
theorem ml_X2_166 : LV "Ticksilo$Pile" 166 M_X3_find 1 := ⟨⟨tk_5 79 rfl rfl, tk_5 82 rfl rfl, tk_1 8 rfl rfl, by decide +kernel⟩, tk_5 80 rfl rfl, tk_5 81 rfl rfl⟩
theorem fl_X2_169 : FL "Ticksilo$Pile" 169 "Ticksilo$Result" 3 1 2 := ⟨by decide, by decide, rfl, tk_1 145 rfl rfl, Or.inl rfl⟩
theorem mw_X2_173 : Cond.methodLink "Ticksilo$Pile" 173 Lib.MathLoose.max_long.x ∈ WS := tk_5 59 rfl rfl
theorem ml_X2_179 : LV "Ticksilo$Pile" 179 M_X2_joinNumbers 3 := ⟨⟨tk_5 87 rfl rfl, tk_5 90 rfl rfl, tk_1 6 rfl rfl, by decide +kernel⟩, tk_5 89 rfl rfl, tk_0 23 rfl rfl⟩
theorem ml_X2_183 : LV "Ticksilo$Pile" 183 M_X2_joinValues 5 := ⟨⟨tk_5 98 rfl rfl, tk_5 101 rfl rfl, tk_1 6 rfl rfl, by decide +kernel⟩, tk_5 100 rfl rfl, tk_0 24 rfl rfl⟩
theorem ml_X2_187 : LSt "Ticksilo$Pile" 187 M_X2_findSame 3 := ⟨⟨tk_5 102 rfl rfl, tk_5 104 rfl rfl, tk_1 6 rfl rfl, by decide +kernel⟩, tk_5 103 rfl rfl⟩
theorem ml_X2_191 : LSt "Ticksilo$Pile" 191 M_X2_reckonValue 3 := ⟨⟨tk_5 91 rfl rfl, tk_5 93 rfl rfl, tk_1 6 rfl rfl, by decide +kernel⟩, tk_5 92 rfl rfl⟩
theorem ml_X2_195 : LSt "Ticksilo$Pile" 195 M_X2_multiply 2 := ⟨⟨tk_5 94 rfl rfl, tk_5 96 rfl rfl, tk_1 6 rfl rfl, by decide +kernel⟩, tk_5 95 rfl rfl⟩
theorem co_X2_198 : Cond.constantLong "Ticksilo$Pile" 198 (Int64.ofInt (100000000000000)) ∈ WS := tk_5 97 rfl rfl
theorem ml_X2_200 : LV "Ticksilo$Pile" 200 M_X2_takeQuantile 4 := ⟨⟨tk_5 55 rfl rfl, tk_5 58 rfl rfl, tk_1 6 rfl rfl, by decide +kernel⟩, tk_5 57 rfl rfl, tk_0 20 rfl rfl⟩
theorem ml_X2_204 : LSt "Ticksilo$Pile" 204 M_X2_boundOf 1 := ⟨⟨tk_5 62 rfl rfl, tk_5 64 rfl rfl, tk_1 6 rfl rfl, by decide +kernel⟩, tk_5 63 rfl rfl⟩
theorem fs_X2_208 : Cond.fieldLinkNest "Ticksilo$Pile" 208 "Ticksilo" "BOUNDS" "[I" "Ticksilo" ∈ NS := tn_5 65 rfl rfl
theorem mw_X11_3 : Cond.methodLink "Ticksilo" 3 Lib.objectInit ∈ WS := tk_1 41 rfl rfl
theorem nl_X11_9 : NL "Ticksilo" 9 8 := ⟨by decide, tk_1 44 rfl rfl, tk_1 45 rfl rfl, tk_1 2 rfl rfl⟩
theorem ml_X11_11 : LN "Ticksilo" 11 M_X8_init 0 := ⟨tn_1 46 rfl rfl, tk_1 48 rfl rfl, tk_1 2 rfl rfl, by decide +kernel⟩
theorem in_X8_init : Cond.instanceMethod (mY M_X8_init) ∈ WS ∧ (mY M_X8_init).name = "<init>" ∧ mret M_X8_init = none := ⟨tk_1 47 rfl rfl, rfl, rfl⟩
theorem fl_X11_12 : FL "Ticksilo" 12 "Ticksilo" 11 0 2 := ⟨by decide, by decide, rfl, tk_2 27 rfl rfl, Or.inl rfl⟩
theorem nl_X11_18 : NL "Ticksilo" 18 2 := ⟨by decide, tk_1 92 rfl rfl, tk_1 93 rfl rfl, tk_1 6 rfl rfl⟩
theorem ml_X11_20 : LI "Ticksilo" 20 M_X2_init 0 := ⟨⟨tk_1 94 rfl rfl, tk_1 96 rfl rfl, tk_1 6 rfl rfl, by decide +kernel⟩, tk_1 95 rfl rfl, rfl, rfl⟩
theorem fl_X11_21 : FL "Ticksilo" 21 "Ticksilo" 11 1 2 := ⟨by decide, by decide, rfl, tk_2 28 rfl rfl, Or.inl rfl⟩
theorem nl_X11_25 : NL "Ticksilo" 25 3 := ⟨by decide, tk_2 4 rfl rfl, tk_1 135 rfl rfl, tk_1 8 rfl rfl⟩
theorem ml_X11_27 : LN "Ticksilo" 27 M_X3_init 0 := ⟨tn_2 5 rfl rfl, tk_1 138 rfl rfl, tk_1 8 rfl rfl, by decide +kernel⟩
theorem fl_X11_28 : FL "Ticksilo" 28 "Ticksilo" 11 2 2 := ⟨by decide, by decide, rfl, tk_2 29 rfl rfl, Or.inl rfl⟩
theorem nl_X11_32 : NL "Ticksilo" 32 9 := ⟨by decide, tk_2 6 rfl rfl, tk_1 101 rfl rfl, tk_1 7 rfl rfl⟩
theorem ml_X11_34 : LN "Ticksilo" 34 M_X9_init 0 := ⟨tn_2 7 rfl rfl, tk_1 104 rfl rfl, tk_1 7 rfl rfl, by decide +kernel⟩
theorem fl_X11_35 : FL "Ticksilo" 35 "Ticksilo" 11 3 2 := ⟨by decide, by decide, rfl, tk_2 30 rfl rfl, Or.inl rfl⟩
theorem nl_X11_39 : NL "Ticksilo" 39 6 := ⟨by decide, tk_2 8 rfl rfl, tk_2 9 rfl rfl, tk_1 13 rfl rfl⟩
theorem ml_X11_41 : LI "Ticksilo" 41 M_X6_init 3 := ⟨⟨tk_2 10 rfl rfl, tk_2 12 rfl rfl, tk_1 13 rfl rfl, by decide +kernel⟩, tk_2 11 rfl rfl, rfl, rfl⟩
theorem fl_X11_44 : FL "Ticksilo" 44 "Ticksilo" 11 4 2 := ⟨by decide, by decide, rfl, tk_2 31 rfl rfl, Or.inl rfl⟩
theorem nl_X11_48 : NL "Ticksilo" 48 13 := ⟨by decide, tk_2 24 rfl rfl, tk_1 51 rfl rfl, tk_1 5 rfl rfl⟩
theorem ml_X11_50 : LI "Ticksilo" 50 M_A_init 0 := ⟨⟨tk_2 25 rfl rfl, tk_1 54 rfl rfl, tk_1 5 rfl rfl, by decide +kernel⟩, tk_1 53 rfl rfl, rfl, rfl⟩
theorem fl_X11_51 : FL "Ticksilo" 51 "Ticksilo" 11 5 2 := ⟨by decide, by decide, rfl, tk_2 32 rfl rfl, Or.inl rfl⟩
theorem fl_X11_55 : FL "Ticksilo" 55 "Ticksilo" 11 6 2 := ⟨by decide, by decide, rfl, tk_2 33 rfl rfl, Or.inl rfl⟩
theorem fl_X11_58 : FL "Ticksilo" 58 "Ticksilo" 11 7 2 := ⟨by decide, by decide, rfl, tk_2 34 rfl rfl, Or.inl rfl⟩
theorem fl_X11_61 : FL "Ticksilo" 61 "Ticksilo" 11 8 2 := ⟨by decide, by decide, rfl, tk_2 35 rfl rfl, Or.inl rfl⟩
theorem fl_X11_65 : FL "Ticksilo" 65 "Ticksilo" 11 9 2 := ⟨by decide, by decide, rfl, tk_2 36 rfl rfl, Or.inl rfl⟩
theorem fl_X11_68 : FL "Ticksilo" 68 "Ticksilo" 11 10 2 := ⟨by decide, by decide, rfl, tk_2 37 rfl rfl, Or.inl rfl⟩
theorem fl_X11_71 : FL "Ticksilo" 71 "Ticksilo" 11 11 0 := ⟨by decide, by decide, rfl, tk_2 38 rfl rfl, Or.inl rfl⟩
theorem fl_X11_75 : FL "Ticksilo" 75 "Ticksilo" 11 12 0 := ⟨by decide, by decide, rfl, tk_2 39 rfl rfl, Or.inl rfl⟩
theorem fl_X11_78 : FL "Ticksilo" 78 "Ticksilo" 11 13 0 := ⟨by decide, by decide, rfl, tk_2 40 rfl rfl, Or.inl rfl⟩
theorem ml_X11_81 : LV "Ticksilo" 81 M_A_add 1 := ⟨⟨tk_2 26 rfl rfl, tk_1 168 rfl rfl, tk_1 5 rfl rfl, by decide +kernel⟩, tk_1 166 rfl rfl, tk_1 167 rfl rfl⟩
theorem ml_X11_85 : LSt "Ticksilo" 85 M_X11_isWithin 3 := ⟨⟨tk_2 182 rfl rfl, tk_2 136 rfl rfl, tk_1 1 rfl rfl, by decide +kernel⟩, tk_2 135 rfl rfl⟩
theorem co_X11_98 : Cond.constant "Ticksilo" 98 (Int32.ofInt (-2147483648)) ∈ WS := tk_3 12 rfl rfl
theorem ml_X11_103 : LV "Ticksilo" 103 M_X8_take 3 := ⟨⟨tk_3 16 rfl rfl, tk_3 19 rfl rfl, tk_1 2 rfl rfl, by decide +kernel⟩, tk_3 17 rfl rfl, tk_3 18 rfl rfl⟩
theorem co_X11_99 : Cond.constant "Ticksilo" 99 (Int32.ofInt (-1000000)) ∈ WS := tk_3 13 rfl rfl
theorem co_X11_100 : Cond.constant "Ticksilo" 100 (Int32.ofInt (1000000)) ∈ WS := tk_3 14 rfl rfl
theorem fl_X11_107 : FL "Ticksilo" 107 "Ticksilo$Store" 8 0 2 := ⟨by decide, by decide, rfl, tk_1 77 rfl rfl, Or.inl rfl⟩
theorem ml_X11_110 : LV "Ticksilo" 110 M_A_size 0 := ⟨⟨tk_2 74 rfl rfl, tk_2 77 rfl rfl, tk_1 5 rfl rfl, by decide +kernel⟩, tk_2 75 rfl rfl, tk_2 76 rfl rfl⟩
theorem ml_X11_114 : LV "Ticksilo" 114 M_X11_seriesOf 1 := ⟨⟨tk_4 139 rfl rfl, tk_4 142 rfl rfl, tk_1 1 rfl rfl, by decide +kernel⟩, tk_4 141 rfl rfl, tk_0 11 rfl rfl⟩
theorem fl_X11_118 : FL "Ticksilo" 118 "Ticksilo$Series" 7 0 0 := ⟨by decide, by decide, rfl, tk_3 40 rfl rfl, Or.inl rfl⟩
theorem fl_X11_123 : FL "Ticksilo" 123 "Ticksilo$Series" 7 1 2 := ⟨by decide, by decide, rfl, tk_3 45 rfl rfl, Or.inl rfl⟩
theorem ml_X11_126 : LV "Ticksilo" 126 M_X11_selectorOf 1 := ⟨⟨tk_4 162 rfl rfl, tk_4 165 rfl rfl, tk_1 1 rfl rfl, by decide +kernel⟩, tk_4 164 rfl rfl, tk_0 12 rfl rfl⟩
theorem co_X11_130 : Cond.constant "Ticksilo" 130 (Int32.ofInt (100000)) ∈ WS := tk_4 167 rfl rfl
theorem ml_X11_133 : LV "Ticksilo" 133 M_X8_hide 3 := ⟨⟨tk_4 169 rfl rfl, tk_4 172 rfl rfl, tk_1 2 rfl rfl, by decide +kernel⟩, tk_4 170 rfl rfl, tk_4 171 rfl rfl⟩
theorem ml_X11_144 : LV "Ticksilo" 144 M_X11_goThroughRules 0 := ⟨⟨tk_4 204 rfl rfl, tk_4 207 rfl rfl, tk_1 1 rfl rfl, by decide +kernel⟩, tk_4 206 rfl rfl, tk_0 13 rfl rfl⟩
theorem ml_X11_147 : LV "Ticksilo" 147 M_X8_packAll 1 := ⟨⟨tk_2 82 rfl rfl, tk_2 85 rfl rfl, tk_1 2 rfl rfl, by decide +kernel⟩, tk_2 83 rfl rfl, tk_2 84 rfl rfl⟩
theorem fl_X11_151 : FL "Ticksilo" 151 "Ticksilo$Store" 8 1 2 := ⟨by decide, by decide, rfl, tk_1 79 rfl rfl, Or.inl rfl⟩
theorem ml_X11_156 : LV "Ticksilo" 156 M_X8_tearOff 1 := ⟨⟨tk_5 219 rfl rfl, tk_5 222 rfl rfl, tk_1 2 rfl rfl, by decide +kernel⟩, tk_5 220 rfl rfl, tk_5 221 rfl rfl⟩
theorem ml_X11_159 : LV "Ticksilo" 159 M_X7_bitsOfBlock 1 := ⟨⟨tk_5 239 rfl rfl, tk_6 2 rfl rfl, tk_1 21 rfl rfl, by decide +kernel⟩, tk_6 0 rfl rfl, tk_6 1 rfl rfl⟩
theorem ml_X11_171 : LV "Ticksilo" 171 M_A_set 2 := ⟨⟨tk_6 12 rfl rfl, tk_5 116 rfl rfl, tk_1 5 rfl rfl, by decide +kernel⟩, tk_5 114 rfl rfl, tk_5 115 rfl rfl⟩
theorem ml_X11_175 : LV "Ticksilo" 175 M_X8_countSelected 1 := ⟨⟨tk_6 13 rfl rfl, tk_6 16 rfl rfl, tk_1 2 rfl rfl, by decide +kernel⟩, tk_6 14 rfl rfl, tk_6 15 rfl rfl⟩
theorem ml_X11_179 : LSt "Ticksilo" 179 M_X11_isFirstFit 2 := ⟨⟨tk_6 24 rfl rfl, tk_6 26 rfl rfl, tk_1 1 rfl rfl, by decide +kernel⟩, tk_6 25 rfl rfl⟩
theorem ml_X11_183 : LSt "Ticksilo" 183 M_X11_isSecondFit 2 := ⟨⟨tk_6 28 rfl rfl, tk_6 30 rfl rfl, tk_1 1 rfl rfl, by decide +kernel⟩, tk_6 29 rfl rfl⟩
theorem ml_X11_188 : LV "Ticksilo" 188 M_X11_resultsLeft 0 := ⟨⟨tk_6 32 rfl rfl, tk_6 35 rfl rfl, tk_1 1 rfl rfl, by decide +kernel⟩, tk_6 34 rfl rfl, tk_0 33 rfl rfl⟩
theorem ml_X11_191 : LSt "Ticksilo" 191 M_X10_needs 1 := ⟨⟨tk_6 37 rfl rfl, tk_4 218 rfl rfl, tk_1 33 rfl rfl, by decide +kernel⟩, tk_4 217 rfl rfl⟩
theorem ml_X11_198 : LSt "Ticksilo" 198 M_X10_reads 1 := ⟨⟨tk_6 27 rfl rfl, tk_4 221 rfl rfl, tk_1 33 rfl rfl, by decide +kernel⟩, tk_4 220 rfl rfl⟩
theorem ml_X11_202 : LV "Ticksilo" 202 M_A_get 1 := ⟨⟨tk_4 146 rfl rfl, tk_2 90 rfl rfl, tk_1 5 rfl rfl, by decide +kernel⟩, tk_2 88 rfl rfl, tk_2 89 rfl rfl⟩
theorem cl_X11_39 : Cond.classLink "Ticksilo" 39 "Ticksilo$Selector" ∈ WS := tk_2 8 rfl rfl
theorem nl_X11_192 : NL "Ticksilo" 192 10 := ⟨by decide, tk_6 36 rfl rfl, tk_6 39 rfl rfl, tk_1 33 rfl rfl⟩
theorem ml_X11_206 : LI "Ticksilo" 206 M_X10_init 4 := ⟨⟨tk_6 40 rfl rfl, tk_6 42 rfl rfl, tk_1 33 rfl rfl, by decide +kernel⟩, tk_6 41 rfl rfl, rfl, rfl⟩
theorem ml_X11_209 : LV "Ticksilo" 209 M_A_clear 0 := ⟨⟨tk_2 156 rfl rfl, tk_2 147 rfl rfl, tk_1 5 rfl rfl, by decide +kernel⟩, tk_2 145 rfl rfl, tk_2 146 rfl rfl⟩
theorem ml_X11_214 : LV "Ticksilo" 214 M_X2_reckon 3 := ⟨⟨tk_4 209 rfl rfl, tk_4 212 rfl rfl, tk_1 6 rfl rfl, by decide +kernel⟩, tk_4 210 rfl rfl, tk_4 211 rfl rfl⟩
theorem ml_X11_218 : LV "Ticksilo" 218 M_X3_becomeVector 0 := ⟨⟨tk_6 70 rfl rfl, tk_5 6 rfl rfl, tk_1 8 rfl rfl, by decide +kernel⟩, tk_5 4 rfl rfl, tk_5 5 rfl rfl⟩
theorem fl_X11_221 : FL "Ticksilo" 221 "Ticksilo$Result" 3 2 0 := ⟨by decide, by decide, rfl, tk_1 150 rfl rfl, Or.inl rfl⟩
theorem fl_X11_223 : FL "Ticksilo" 223 "Ticksilo$Result" 3 0 2 := ⟨by decide, by decide, rfl, tk_1 143 rfl rfl, Or.inl rfl⟩
theorem fl_X11_225 : FL "Ticksilo" 225 "Ticksilo$Result" 3 1 2 := ⟨by decide, by decide, rfl, tk_1 146 rfl rfl, Or.inl rfl⟩
theorem ml_X11_229 : LV "Ticksilo" 229 M_X3_put 2 := ⟨⟨tk_6 71 rfl rfl, tk_4 237 rfl rfl, tk_1 8 rfl rfl, by decide +kernel⟩, tk_4 235 rfl rfl, tk_4 236 rfl rfl⟩
theorem ml_X11_239 : LV "Ticksilo" 239 M_X11_addRule 3 := ⟨⟨tk_6 96 rfl rfl, tk_6 99 rfl rfl, tk_1 1 rfl rfl, by decide +kernel⟩, tk_6 98 rfl rfl, tk_0 34 rfl rfl⟩
theorem ml_X11_244 : LV "Ticksilo" 244 M_X11_alertOf 1 := ⟨⟨tk_6 144 rfl rfl, tk_6 147 rfl rfl, tk_1 1 rfl rfl, by decide +kernel⟩, tk_6 146 rfl rfl, tk_0 35 rfl rfl⟩
theorem fl_X11_253 : FL "Ticksilo" 253 "Ticksilo$Rule" 4 5 0 := ⟨by decide, by decide, rfl, tk_6 115 rfl rfl, Or.inl rfl⟩
theorem ml_X11_248 : LV "Ticksilo" 248 M_X11_isAlert 1 := ⟨⟨tk_5 191 rfl rfl, tk_5 194 rfl rfl, tk_1 1 rfl rfl, by decide +kernel⟩, tk_5 193 rfl rfl, tk_0 29 rfl rfl⟩
theorem fl_X11_262 : FL "Ticksilo" 262 "Ticksilo$Rule" 4 4 2 := ⟨by decide, by decide, rfl, tk_6 113 rfl rfl, Or.inl rfl⟩
theorem cl_X11_265 : Cond.classLink "Ticksilo" 265 "Ticksilo$Entry" ∈ WS := tk_5 186 rfl rfl
theorem fl_X11_267 : FL "Ticksilo" 267 "Ticksilo$Entry" 0 1 3 := ⟨by decide, by decide, rfl, tk_5 159 rfl rfl, Or.inl rfl⟩
theorem ml_X11_273 : LV "Ticksilo" 273 M_X0_tell 1 := ⟨⟨tk_6 174 rfl rfl, tk_6 177 rfl rfl, tk_1 34 rfl rfl, by decide +kernel⟩, tk_6 175 rfl rfl, tk_6 176 rfl rfl⟩
theorem mw_X11_276 : Cond.methodLink "Ticksilo" 276 Lib.Math.min.name ∈ WS := tk_6 185 rfl rfl
theorem ml_X11_284 : LSt "Ticksilo" 284 M_X11_isLevel 1 := ⟨⟨tk_6 194 rfl rfl, tk_6 196 rfl rfl, tk_1 1 rfl rfl, by decide +kernel⟩, tk_6 195 rfl rfl⟩
theorem ml_X11_289 : LV "Ticksilo" 289 M_X9_gather 3 := ⟨⟨tk_6 198 rfl rfl, tk_5 19 rfl rfl, tk_1 7 rfl rfl, by decide +kernel⟩, tk_5 17 rfl rfl, tk_5 18 rfl rfl⟩
theorem ml_X11_293 : LV "Ticksilo" 293 M_X9_tellThinned 1 := ⟨⟨tk_6 199 rfl rfl, tk_6 202 rfl rfl, tk_1 7 rfl rfl, by decide +kernel⟩, tk_6 200 rfl rfl, tk_6 201 rfl rfl⟩
theorem ml_X11_298 : LSt "Ticksilo" 298 M_T_floorMod 2 := ⟨⟨tk_6 211 rfl rfl, tk_6 213 rfl rfl, tk_1 10 rfl rfl, by decide +kernel⟩, tk_6 212 rfl rfl⟩
theorem fl_X11_301 : FL "Ticksilo" 301 "Ticksilo$Store" 8 2 3 := ⟨by decide, by decide, rfl, tk_1 81 rfl rfl, Or.inl rfl⟩
theorem ml_X11_304 : LV "Ticksilo" 304 M_X8_countNotCopied 0 := ⟨⟨tk_2 169 rfl rfl, tk_2 172 rfl rfl, tk_1 2 rfl rfl, by decide +kernel⟩, tk_2 170 rfl rfl, tk_2 171 rfl rfl⟩
theorem ml_X11_309 : LV "Ticksilo" 309 M_X8_copyFirst 1 := ⟨⟨tk_6 222 rfl rfl, tk_6 225 rfl rfl, tk_1 2 rfl rfl, by decide +kernel⟩, tk_6 223 rfl rfl, tk_6 224 rfl rfl⟩
theorem cl_X11_119 : Cond.classLink "Ticksilo" 119 "Ticksilo$Series" ∈ WS := tk_4 147 rfl rfl
theorem cl_X11_254 : Cond.classLink "Ticksilo" 254 "Ticksilo$Rule" ∈ WS := tk_4 208 rfl rfl
theorem ml_X11_314 : LV "Ticksilo" 314 M_X4_records 0 := ⟨⟨tk_5 121 rfl rfl, tk_5 124 rfl rfl, tk_1 35 rfl rfl, by decide +kernel⟩, tk_5 122 rfl rfl, tk_5 123 rfl rfl⟩
theorem cl_X11_192 : Cond.classLink "Ticksilo" 192 "Ticksilo$Word" ∈ WS := tk_6 36 rfl rfl
theorem fl_X11_319 : FL "Ticksilo" 319 "Ticksilo$Word" 10 0 0 := ⟨by decide, by decide, rfl, tk_6 46 rfl rfl, Or.inl rfl⟩
theorem nl_X11_254 : NL "Ticksilo" 254 4 := ⟨by decide, tk_4 208 rfl rfl, tk_5 147 rfl rfl, tk_1 35 rfl rfl⟩
theorem ml_X11_322 : LI "Ticksilo" 322 M_X4_init 4 := ⟨⟨tk_6 100 rfl rfl, tk_6 102 rfl rfl, tk_1 35 rfl rfl, by decide +kernel⟩, tk_6 101 rfl rfl, rfl, rfl⟩
theorem fl_X11_325 : FL "Ticksilo" 325 "Ticksilo$Rule" 4 0 2 := ⟨by decide, by decide, rfl, tk_6 107 rfl rfl, Or.inl rfl⟩
theorem ml_X11_335 : LV "Ticksilo" 335 M_X4_look 2 := ⟨⟨tk_5 134 rfl rfl, tk_5 137 rfl rfl, tk_1 35 rfl rfl, by decide +kernel⟩, tk_5 135 rfl rfl, tk_5 136 rfl rfl⟩
theorem ml_X11_338 : LV "Ticksilo" 338 M_X11_tellOf 2 := ⟨⟨tk_5 182 rfl rfl, tk_5 185 rfl rfl, tk_1 1 rfl rfl, by decide +kernel⟩, tk_5 184 rfl rfl, tk_0 27 rfl rfl⟩
theorem fl_X11_328 : FL "Ticksilo" 328 "Ticksilo$Rule" 4 1 0 := ⟨by decide, by decide, rfl, tk_6 109 rfl rfl, Or.inl rfl⟩
theorem ml_X11_331 : LV "Ticksilo" 331 M_X11_writeResult 2 := ⟨⟨tk_5 125 rfl rfl, tk_5 128 rfl rfl, tk_1 1 rfl rfl, by decide +kernel⟩, tk_5 127 rfl rfl, tk_0 25 rfl rfl⟩
theorem co_X11_342 : Cond.constantLong "Ticksilo" 342 (Int64.ofInt (1000)) ∈ WS := tk_5 129 rfl rfl
theorem co_X11_344 : Cond.constantLong "Ticksilo" 344 (Int64.ofInt (-1000000)) ∈ WS := tk_5 130 rfl rfl
theorem co_X11_346 : Cond.constantLong "Ticksilo" 346 (Int64.ofInt (1000000)) ∈ WS := tk_5 131 rfl rfl
theorem mw_X11_348 : Cond.methodLink "Ticksilo" 348 Lib.MathLoose.min_long.x ∈ WS := tk_5 132 rfl rfl
theorem mw_X11_351 : Cond.methodLink "Ticksilo" 351 Lib.MathLoose.max_long.x ∈ WS := tk_5 133 rfl rfl
theorem fl_X11_354 : FL "Ticksilo" 354 "Ticksilo$Entry" 0 2 3 := ⟨by decide, by decide, rfl, tk_5 161 rfl rfl, Or.inl rfl⟩
theorem ml_X11_357 : LV "Ticksilo" 357 M_X11_isInhibited 2 := ⟨⟨tk_5 187 rfl rfl, tk_5 190 rfl rfl, tk_1 1 rfl rfl, by decide +kernel⟩, tk_5 189 rfl rfl, tk_0 28 rfl rfl⟩
theorem ml_X11_361 : LV "Ticksilo" 361 M_X11_isSilenced 1 := ⟨⟨tk_5 195 rfl rfl, tk_5 198 rfl rfl, tk_1 1 rfl rfl, by decide +kernel⟩, tk_5 197 rfl rfl, tk_0 30 rfl rfl⟩
theorem fl_X11_365 : FL "Ticksilo" 365 "Ticksilo$Entry" 0 0 0 := ⟨by decide, by decide, rfl, tk_5 156 rfl rfl, Or.inl rfl⟩
theorem ml_X11_366 : LV "Ticksilo" 366 M_X11_keepNotice 2 := ⟨⟨tk_5 200 rfl rfl, tk_5 203 rfl rfl, tk_1 1 rfl rfl, by decide +kernel⟩, tk_5 202 rfl rfl, tk_0 31 rfl rfl⟩
theorem ml_X11_370 : LV "Ticksilo" 370 M_X6_selects 1 := ⟨⟨tk_5 199 rfl rfl, tk_4 176 rfl rfl, tk_1 13 rfl rfl, by decide +kernel⟩, tk_4 174 rfl rfl, tk_4 175 rfl rfl⟩
theorem mw_X12_3 : Cond.methodLink "TicksiloModel" 3 Lib.objectInit ∈ WS := tk_6 235 rfl rfl
theorem fl_X12_9 : FL "TicksiloModel" 9 "TicksiloModel" 12 2 0 := ⟨by decide, by decide, rfl, tk_6 239 rfl rfl, Or.inl rfl⟩
theorem fl_X12_15 : FL "TicksiloModel" 15 "TicksiloModel" 12 3 2 := ⟨by decide, by decide, rfl, tk_7 0 rfl rfl, Or.inl rfl⟩
theorem fl_X12_19 : FL "TicksiloModel" 19 "TicksiloModel" 12 4 2 := ⟨by decide, by decide, rfl, tk_7 1 rfl rfl, Or.inl rfl⟩
theorem fl_X12_22 : FL "TicksiloModel" 22 "TicksiloModel" 12 5 2 := ⟨by decide, by decide, rfl, tk_7 2 rfl rfl, Or.inl rfl⟩
theorem co_X12_25 : Cond.constant "TicksiloModel" 25 (Int32.ofInt (40000)) ∈ WS := tk_6 236 rfl rfl
theorem fl_X12_26 : FL "TicksiloModel" 26 "TicksiloModel" 12 7 2 := ⟨by decide, by decide, rfl, tk_7 4 rfl rfl, Or.inl rfl⟩
theorem fl_X12_29 : FL "TicksiloModel" 29 "TicksiloModel" 12 8 2 := ⟨by decide, by decide, rfl, tk_7 5 rfl rfl, Or.inl rfl⟩
theorem fl_X12_32 : FL "TicksiloModel" 32 "TicksiloModel" 12 9 2 := ⟨by decide, by decide, rfl, tk_7 6 rfl rfl, Or.inl rfl⟩
theorem fl_X12_35 : FL "TicksiloModel" 35 "TicksiloModel" 12 10 2 := ⟨by decide, by decide, rfl, tk_7 7 rfl rfl, Or.inl rfl⟩
theorem ac_boolean : Cond.arrayClass (newarray.typeOf ArrayType.boolean) ∈ WS := tk_7 154 rfl rfl
theorem fl_X12_38 : FL "TicksiloModel" 38 "TicksiloModel" 12 11 2 := ⟨by decide, by decide, rfl, tk_7 8 rfl rfl, Or.inl rfl⟩
theorem fl_X12_42 : FL "TicksiloModel" 42 "TicksiloModel" 12 13 2 := ⟨by decide, by decide, rfl, tk_7 10 rfl rfl, Or.inl rfl⟩
theorem fl_X12_45 : FL "TicksiloModel" 45 "TicksiloModel" 12 16 2 := ⟨by decide, by decide, rfl, tk_7 13 rfl rfl, Or.inl rfl⟩
theorem fl_X12_48 : FL "TicksiloModel" 48 "TicksiloModel" 12 17 2 := ⟨by decide, by decide, rfl, tk_7 14 rfl rfl, Or.inl rfl⟩
theorem fl_X12_51 : FL "TicksiloModel" 51 "TicksiloModel" 12 18 2 := ⟨by decide, by decide, rfl, tk_7 15 rfl rfl, Or.inl rfl⟩
theorem fl_X12_54 : FL "TicksiloModel" 54 "TicksiloModel" 12 20 2 := ⟨by decide, by decide, rfl, tk_7 17 rfl rfl, Or.inl rfl⟩
theorem fl_X12_57 : FL "TicksiloModel" 57 "TicksiloModel" 12 21 2 := ⟨by decide, by decide, rfl, tk_7 18 rfl rfl, Or.inl rfl⟩
theorem fl_X12_60 : FL "TicksiloModel" 60 "TicksiloModel" 12 22 2 := ⟨by decide, by decide, rfl, tk_7 19 rfl rfl, Or.inl rfl⟩
theorem fl_X12_63 : FL "TicksiloModel" 63 "TicksiloModel" 12 24 2 := ⟨by decide, by decide, rfl, tk_7 21 rfl rfl, Or.inl rfl⟩
theorem fl_X12_66 : FL "TicksiloModel" 66 "TicksiloModel" 12 25 2 := ⟨by decide, by decide, rfl, tk_7 22 rfl rfl, Or.inl rfl⟩
theorem fl_X12_69 : FL "TicksiloModel" 69 "TicksiloModel" 12 26 2 := ⟨by decide, by decide, rfl, tk_7 23 rfl rfl, Or.inl rfl⟩
theorem fl_X12_72 : FL "TicksiloModel" 72 "TicksiloModel" 12 27 2 := ⟨by decide, by decide, rfl, tk_7 24 rfl rfl, Or.inl rfl⟩
theorem fl_X12_75 : FL "TicksiloModel" 75 "TicksiloModel" 12 28 2 := ⟨by decide, by decide, rfl, tk_7 25 rfl rfl, Or.inl rfl⟩
theorem fl_X12_78 : FL "TicksiloModel" 78 "TicksiloModel" 12 29 2 := ⟨by decide, by decide, rfl, tk_7 26 rfl rfl, Or.inl rfl⟩
theorem fl_X12_81 : FL "TicksiloModel" 81 "TicksiloModel" 12 30 2 := ⟨by decide, by decide, rfl, tk_7 27 rfl rfl, Or.inl rfl⟩
theorem fl_X12_84 : FL "TicksiloModel" 84 "TicksiloModel" 12 31 2 := ⟨by decide, by decide, rfl, tk_7 28 rfl rfl, Or.inl rfl⟩
theorem fl_X12_87 : FL "TicksiloModel" 87 "TicksiloModel" 12 32 2 := ⟨by decide, by decide, rfl, tk_7 29 rfl rfl, Or.inl rfl⟩
theorem fl_X12_91 : FL "TicksiloModel" 91 "TicksiloModel" 12 36 2 := ⟨by decide, by decide, rfl, tk_7 33 rfl rfl, Or.inl rfl⟩
theorem fl_X12_94 : FL "TicksiloModel" 94 "TicksiloModel" 12 37 2 := ⟨by decide, by decide, rfl, tk_7 34 rfl rfl, Or.inl rfl⟩
theorem fl_X12_97 : FL "TicksiloModel" 97 "TicksiloModel" 12 38 2 := ⟨by decide, by decide, rfl, tk_7 35 rfl rfl, Or.inl rfl⟩
theorem fl_X12_100 : FL "TicksiloModel" 100 "TicksiloModel" 12 39 2 := ⟨by decide, by decide, rfl, tk_7 36 rfl rfl, Or.inl rfl⟩
theorem fl_X12_103 : FL "TicksiloModel" 103 "TicksiloModel" 12 40 2 := ⟨by decide, by decide, rfl, tk_7 37 rfl rfl, Or.inl rfl⟩
theorem fl_X12_106 : FL "TicksiloModel" 106 "TicksiloModel" 12 41 2 := ⟨by decide, by decide, rfl, tk_7 38 rfl rfl, Or.inl rfl⟩
theorem fl_X12_109 : FL "TicksiloModel" 109 "TicksiloModel" 12 42 2 := ⟨by decide, by decide, rfl, tk_7 39 rfl rfl, Or.inl rfl⟩
theorem fl_X12_112 : FL "TicksiloModel" 112 "TicksiloModel" 12 43 2 := ⟨by decide, by decide, rfl, tk_7 40 rfl rfl, Or.inl rfl⟩
theorem fl_X12_115 : FL "TicksiloModel" 115 "TicksiloModel" 12 44 2 := ⟨by decide, by decide, rfl, tk_7 41 rfl rfl, Or.inl rfl⟩
theorem fl_X12_118 : FL "TicksiloModel" 118 "TicksiloModel" 12 47 2 := ⟨by decide, by decide, rfl, tk_7 44 rfl rfl, Or.inl rfl⟩
theorem fl_X12_121 : FL "TicksiloModel" 121 "TicksiloModel" 12 49 2 := ⟨by decide, by decide, rfl, tk_7 46 rfl rfl, Or.inl rfl⟩
theorem fl_X12_124 : FL "TicksiloModel" 124 "TicksiloModel" 12 50 2 := ⟨by decide, by decide, rfl, tk_7 47 rfl rfl, Or.inl rfl⟩
theorem fl_X12_127 : FL "TicksiloModel" 127 "TicksiloModel" 12 0 0 := ⟨by decide, by decide, rfl, tk_6 237 rfl rfl, Or.inl rfl⟩
theorem ml_X12_130 : LSt "TicksiloModel" 130 M_X12_codeOf 3 := ⟨⟨tk_7 201 rfl rfl, tk_7 203 rfl rfl, tk_1 14 rfl rfl, by decide +kernel⟩, tk_7 202 rfl rfl⟩
theorem ml_X12_134 : LV "TicksiloModel" 134 M_X12_codeOfSeries 1 := ⟨⟨tk_7 197 rfl rfl, tk_7 200 rfl rfl, tk_1 14 rfl rfl, by decide +kernel⟩, tk_7 199 rfl rfl, tk_0 41 rfl rfl⟩
theorem ml_X12_138 : LSt "TicksiloModel" 138 M_X12_isIn 4 := ⟨⟨tk_7 217 rfl rfl, tk_7 219 rfl rfl, tk_1 14 rfl rfl, by decide +kernel⟩, tk_7 218 rfl rfl⟩
theorem fl_X12_142 : FL "TicksiloModel" 142 "TicksiloModel" 12 6 0 := ⟨by decide, by decide, rfl, tk_7 3 rfl rfl, Or.inl rfl⟩
theorem mw_X12_145 : Cond.methodLink "TicksiloModel" 145 arraycopyName ∈ WS := tk_7 184 rfl rfl
theorem ml_X12_151 : LV "TicksiloModel" 151 M_X12_find 3 := ⟨⟨tk_7 173 rfl rfl, tk_7 176 rfl rfl, tk_1 14 rfl rfl, by decide +kernel⟩, tk_7 175 rfl rfl, tk_0 38 rfl rfl⟩
theorem fl_X12_154 : FL "TicksiloModel" 154 "TicksiloModel" 12 12 0 := ⟨by decide, by decide, rfl, tk_7 9 rfl rfl, Or.inl rfl⟩
theorem fl_X12_165 : FL "TicksiloModel" 165 "TicksiloModel" 12 48 3 := ⟨by decide, by decide, rfl, tk_7 45 rfl rfl, Or.inl rfl⟩
theorem fl_X12_169 : FL "TicksiloModel" 169 "TicksiloModel" 12 14 0 := ⟨by decide, by decide, rfl, tk_7 11 rfl rfl, Or.inl rfl⟩
theorem ml_X12_161 : LSt "TicksiloModel" 161 M_X12_longer 1 := ⟨⟨tk_7 181 rfl rfl, tk_7 183 rfl rfl, tk_1 14 rfl rfl, by decide +kernel⟩, tk_7 182 rfl rfl⟩
theorem ml_X12_157 : LV "TicksiloModel" 157 M_X12_isSeen 1 := ⟨⟨tk_7 177 rfl rfl, tk_7 180 rfl rfl, tk_1 14 rfl rfl, by decide +kernel⟩, tk_7 179 rfl rfl, tk_0 39 rfl rfl⟩
theorem ml_X12_172 : LSt "TicksiloModel" 172 M_X12_in 3 := ⟨⟨tk_7 163 rfl rfl, tk_7 165 rfl rfl, tk_1 14 rfl rfl, by decide +kernel⟩, tk_7 164 rfl rfl⟩
theorem fl_X12_176 : FL "TicksiloModel" 176 "TicksiloModel" 12 1 0 := ⟨by decide, by decide, rfl, tk_6 238 rfl rfl, Or.inl rfl⟩
theorem co_X12_179 : Cond.constant "TicksiloModel" 179 (Int32.ofInt (-2147483648)) ∈ WS := tk_7 166 rfl rfl
theorem co_X12_180 : Cond.constant "TicksiloModel" 180 (Int32.ofInt (-1000000)) ∈ WS := tk_7 167 rfl rfl
theorem co_X12_181 : Cond.constant "TicksiloModel" 181 (Int32.ofInt (1000000)) ∈ WS := tk_7 168 rfl rfl
theorem ml_X12_182 : LV "TicksiloModel" 182 M_X12_take 5 := ⟨⟨tk_7 169 rfl rfl, tk_7 172 rfl rfl, tk_1 14 rfl rfl, by decide +kernel⟩, tk_7 171 rfl rfl, tk_0 37 rfl rfl⟩
theorem ml_X12_186 : LV "TicksiloModel" 186 M_X12_isSeries 1 := ⟨⟨tk_7 193 rfl rfl, tk_7 196 rfl rfl, tk_1 14 rfl rfl, by decide +kernel⟩, tk_7 195 rfl rfl, tk_0 40 rfl rfl⟩
theorem co_X12_189 : Cond.constant "TicksiloModel" 189 (Int32.ofInt (100000)) ∈ WS := tk_7 212 rfl rfl
theorem fl_X12_190 : FL "TicksiloModel" 190 "TicksiloModel" 12 15 0 := ⟨by decide, by decide, rfl, tk_7 12 rfl rfl, Or.inl rfl⟩
theorem ml_X12_193 : LV "TicksiloModel" 193 M_X12_isSelected 2 := ⟨⟨tk_7 213 rfl rfl, tk_7 216 rfl rfl, tk_1 14 rfl rfl, by decide +kernel⟩, tk_7 215 rfl rfl, tk_0 42 rfl rfl⟩
theorem fl_X12_197 : FL "TicksiloModel" 197 "TicksiloModel" 12 23 0 := ⟨by decide, by decide, rfl, tk_7 20 rfl rfl, Or.inl rfl⟩
theorem ml_X12_200 : LV "TicksiloModel" 200 M_X12_run 2 := ⟨⟨tk_7 224 rfl rfl, tk_7 227 rfl rfl, tk_1 14 rfl rfl, by decide +kernel⟩, tk_7 226 rfl rfl, tk_0 43 rfl rfl⟩
theorem fl_X12_208 : FL "TicksiloModel" 208 "TicksiloModel" 12 34 3 := ⟨by decide, by decide, rfl, tk_7 31 rfl rfl, Or.inl rfl⟩
theorem ml_X12_211 : LV "TicksiloModel" 211 M_X12_notes 1 := ⟨⟨tk_8 62 rfl rfl, tk_8 65 rfl rfl, tk_1 14 rfl rfl, by decide +kernel⟩, tk_8 64 rfl rfl, tk_0 57 rfl rfl⟩
theorem ml_X12_204 : LV "TicksiloModel" 204 M_X12_looks 1 := ⟨⟨tk_8 50 rfl rfl, tk_8 53 rfl rfl, tk_1 14 rfl rfl, by decide +kernel⟩, tk_8 52 rfl rfl, tk_0 54 rfl rfl⟩
theorem fl_X12_214 : FL "TicksiloModel" 214 "TicksiloModel" 12 19 0 := ⟨by decide, by decide, rfl, tk_7 16 rfl rfl, Or.inl rfl⟩
theorem ml_X12_217 : LV "TicksiloModel" 217 M_X12_nextTime 2 := ⟨⟨tk_8 10 rfl rfl, tk_8 13 rfl rfl, tk_1 14 rfl rfl, by decide +kernel⟩, tk_8 12 rfl rfl, tk_0 48 rfl rfl⟩
theorem ml_X12_221 : LV "TicksiloModel" 221 M_X12_packed 2 := ⟨⟨tk_8 76 rfl rfl, tk_8 79 rfl rfl, tk_1 14 rfl rfl, by decide +kernel⟩, tk_8 78 rfl rfl, tk_0 58 rfl rfl⟩
theorem ml_X12_224 : LV "TicksiloModel" 224 M_X12_valueAt 2 := ⟨⟨tk_8 14 rfl rfl, tk_8 17 rfl rfl, tk_1 14 rfl rfl, by decide +kernel⟩, tk_8 16 rfl rfl, tk_0 49 rfl rfl⟩
theorem ml_X12_227 : LSt "TicksiloModel" 227 M_X12_spread 1 := ⟨⟨tk_8 80 rfl rfl, tk_8 82 rfl rfl, tk_1 14 rfl rfl, by decide +kernel⟩, tk_8 81 rfl rfl⟩
theorem ml_X12_230 : LV "TicksiloModel" 230 M_X12_left 1 := ⟨⟨tk_8 103 rfl rfl, tk_8 106 rfl rfl, tk_1 14 rfl rfl, by decide +kernel⟩, tk_8 105 rfl rfl, tk_0 59 rfl rfl⟩
theorem co_X12_233 : Cond.constantLong "TicksiloModel" 233 (Int64.ofInt (100000000000000)) ∈ WS := tk_7 239 rfl rfl
theorem co_X12_235 : Cond.constantLong "TicksiloModel" 235 (Int64.ofInt (-100000000000000)) ∈ WS := tk_8 0 rfl rfl
theorem fl_X12_237 : FL "TicksiloModel" 237 "TicksiloModel" 12 33 0 := ⟨by decide, by decide, rfl, tk_7 30 rfl rfl, Or.inl rfl⟩
theorem ml_X12_240 : LSt "TicksiloModel" 240 M_X12_bounded 1 := ⟨⟨tk_7 236 rfl rfl, tk_7 238 rfl rfl, tk_1 14 rfl rfl, by decide +kernel⟩, tk_7 237 rfl rfl⟩
theorem co_X12_244 : Cond.constantLong "TicksiloModel" 244 (Int64.ofInt (1000)) ∈ WS := tk_8 9 rfl rfl
theorem ml_X12_246 : LV "TicksiloModel" 246 M_X12_add 2 := ⟨⟨tk_7 232 rfl rfl, tk_7 235 rfl rfl, tk_1 14 rfl rfl, by decide +kernel⟩, tk_7 234 rfl rfl, tk_0 45 rfl rfl⟩
theorem co_X12_250 : Cond.constantLong "TicksiloModel" 250 (Int64.ofInt (2)) ∈ WS := tk_8 18 rfl rfl
theorem ml_X12_252 : LSt "TicksiloModel" 252 M_X12_least 2 := ⟨⟨tk_8 19 rfl rfl, tk_8 21 rfl rfl, tk_1 14 rfl rfl, by decide +kernel⟩, tk_8 20 rfl rfl⟩
theorem ml_X12_256 : LSt "TicksiloModel" 256 M_X12_masked 2 := ⟨⟨tk_8 26 rfl rfl, tk_8 28 rfl rfl, tk_1 14 rfl rfl, by decide +kernel⟩, tk_8 27 rfl rfl⟩
theorem fl_X12_259 : FL "TicksiloModel" 259 "TicksiloModel" 12 51 3 := ⟨by decide, by decide, rfl, tk_7 48 rfl rfl, Or.inl rfl⟩
theorem co_X12_262 : Cond.constantLong "TicksiloModel" 262 (Int64.ofInt (100000000000000000)) ∈ WS := tk_8 49 rfl rfl
theorem ml_X12_264 : LV "TicksiloModel" 264 M_X12_joined 3 := ⟨⟨tk_8 45 rfl rfl, tk_8 48 rfl rfl, tk_1 14 rfl rfl, by decide +kernel⟩, tk_8 47 rfl rfl, tk_0 53 rfl rfl⟩
theorem co_X12_274 : Cond.constantLong "TicksiloModel" 274 (Int64.ofInt (20000)) ∈ WS := tk_8 40 rfl rfl
theorem co_X12_272 : Cond.constantLong "TicksiloModel" 272 (Int64.ofInt (10000)) ∈ WS := tk_8 39 rfl rfl
theorem co_X12_270 : Cond.constantLong "TicksiloModel" 270 (Int64.ofInt (5000)) ∈ WS := tk_8 38 rfl rfl
theorem co_X12_268 : Cond.constantLong "TicksiloModel" 268 (Int64.ofInt (2000)) ∈ WS := tk_8 37 rfl rfl
theorem co_X12_276 : Cond.constantLong "TicksiloModel" 276 (Int64.ofInt (-1)) ∈ WS := tk_8 33 rfl rfl
theorem ml_X12_278 : LSt "TicksiloModel" 278 M_X12_bound 1 := ⟨⟨tk_8 34 rfl rfl, tk_8 36 rfl rfl, tk_1 14 rfl rfl, by decide +kernel⟩, tk_8 35 rfl rfl⟩
theorem ml_X12_299 : LV "TicksiloModel" 299 M_X12_joins 2 := ⟨⟨tk_8 41 rfl rfl, tk_8 44 rfl rfl, tk_1 14 rfl rfl, by decide +kernel⟩, tk_8 43 rfl rfl, tk_0 52 rfl rfl⟩
theorem ml_X12_296 : LV "TicksiloModel" 296 M_X12_quantile 1 := ⟨⟨tk_8 29 rfl rfl, tk_8 32 rfl rfl, tk_1 14 rfl rfl, by decide +kernel⟩, tk_8 31 rfl rfl, tk_0 51 rfl rfl⟩
theorem ml_X12_293 : LV "TicksiloModel" 293 M_X12_groups 2 := ⟨⟨tk_8 22 rfl rfl, tk_8 25 rfl rfl, tk_1 14 rfl rfl, by decide +kernel⟩, tk_8 24 rfl rfl, tk_0 50 rfl rfl⟩
theorem ml_X12_282 : LV "TicksiloModel" 282 M_X12_open 1 := ⟨⟨tk_7 228 rfl rfl, tk_7 231 rfl rfl, tk_1 14 rfl rfl, by decide +kernel⟩, tk_7 230 rfl rfl, tk_0 44 rfl rfl⟩
theorem ml_X12_286 : LV "TicksiloModel" 286 M_X12_nextSeries 2 := ⟨⟨tk_8 1 rfl rfl, tk_8 4 rfl rfl, tk_1 14 rfl rfl, by decide +kernel⟩, tk_8 3 rfl rfl, tk_0 46 rfl rfl⟩
theorem ml_X12_289 : LV "TicksiloModel" 289 M_X12_looksAt 3 := ⟨⟨tk_8 5 rfl rfl, tk_8 8 rfl rfl, tk_1 14 rfl rfl, by decide +kernel⟩, tk_8 7 rfl rfl, tk_0 47 rfl rfl⟩
theorem fl_X12_302 : FL "TicksiloModel" 302 "TicksiloModel" 12 35 0 := ⟨by decide, by decide, rfl, tk_7 32 rfl rfl, Or.inl rfl⟩
theorem ml_X12_305 : LV "TicksiloModel" 305 M_X12_keep 1 := ⟨⟨tk_8 127 rfl rfl, tk_8 130 rfl rfl, tk_1 14 rfl rfl, by decide +kernel⟩, tk_8 129 rfl rfl, tk_0 60 rfl rfl⟩
theorem ml_X12_309 : LV "TicksiloModel" 309 M_X12_isAlert 1 := ⟨⟨tk_8 139 rfl rfl, tk_8 142 rfl rfl, tk_1 14 rfl rfl, by decide +kernel⟩, tk_8 141 rfl rfl, tk_0 61 rfl rfl⟩
theorem fl_X12_311 : FL "TicksiloModel" 311 "TicksiloModel" 12 45 0 := ⟨by decide, by decide, rfl, tk_7 42 rfl rfl, Or.inl rfl⟩
theorem co_X12_314 : Cond.constantLong "TicksiloModel" 314 (Int64.ofInt (1000000)) ∈ WS := tk_8 66 rfl rfl
theorem co_X12_316 : Cond.constantLong "TicksiloModel" 316 (Int64.ofInt (-1000000)) ∈ WS := tk_8 67 rfl rfl
theorem ml_X12_318 : LV "TicksiloModel" 318 M_X12_moves 2 := ⟨⟨tk_8 54 rfl rfl, tk_8 57 rfl rfl, tk_1 14 rfl rfl, by decide +kernel⟩, tk_8 56 rfl rfl, tk_0 55 rfl rfl⟩
theorem ml_X12_321 : LV "TicksiloModel" 321 M_X12_isKept 2 := ⟨⟨tk_8 58 rfl rfl, tk_8 61 rfl rfl, tk_1 14 rfl rfl, by decide +kernel⟩, tk_8 60 rfl rfl, tk_0 56 rfl rfl⟩
theorem fl_X12_324 : FL "TicksiloModel" 324 "TicksiloModel" 12 46 0 := ⟨by decide, by decide, rfl, tk_7 43 rfl rfl, Or.inl rfl⟩
