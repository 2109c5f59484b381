/-! the whole: from the entry of the law, and the claim (written by program: wip/gen/lstart.py) -/
theorem instC {c : Nat} (hc : c < 14) : Cond.instantiable (cN c) (fN c) ∈ WS := match c, hc with | 0, _ => nl_X4_52.2.2.1 | 1, _ => nl_X8_63.2.2.1 | 2, _ => nl_X11_18.2.2.1 | 3, _ => nl_X2_25.2.2.1 | 4, _ => nl_X11_254.2.2.1 | 5, _ => nl_X8_54.2.2.1 | 6, _ => nl_X11_39.2.2.1 | 7, _ => nl_X8_38.2.2.1 | 8, _ => nl_X11_9.2.2.1 | 9, _ => nl_X2_18.2.2.1 | 10, _ => nl_X11_192.2.2.1 | 11, _ => nl_L_8.2.2.1 | 12, _ => nl_L_93.2.2.1 | 13, _ => nl_X4_9.2.2.1 | n + 14, h => absurd h (by omega)
theorem sr_0 : Cond.stringRef "Ticksilo" 91 "a label is out of range" ∈ lw_tbl := List.mem_of_getElem? (l := lw_tbl) (i := 526) (by decide +kernel)
theorem se_0 : Cond.exactly (.string "Ticksilo" 91) "java/lang/String" ∈ flatC (Jvm.Cond.and given_1 narrow_1) := by decide +kernel
theorem sr_1 : Cond.stringRef "Ticksilo" 96 "the time is out of range" ∈ lw_tbl := List.mem_of_getElem? (l := lw_tbl) (i := 553) (by decide +kernel)
theorem se_1 : Cond.exactly (.string "Ticksilo" 96) "java/lang/String" ∈ flatC (Jvm.Cond.and given_1 narrow_1) := by decide +kernel
theorem sr_2 : Cond.stringRef "Ticksilo" 101 "the value is out of range" ∈ lw_tbl := List.mem_of_getElem? (l := lw_tbl) (i := 557) (by decide +kernel)
theorem se_2 : Cond.exactly (.string "Ticksilo" 101) "java/lang/String" ∈ flatC (Jvm.Cond.and given_1 narrow_1) := by decide +kernel
theorem sr_3 : Cond.stringRef "Ticksilo" 312 "no such series" ∈ lw_tbl := List.mem_of_getElem? (l := lw_tbl) (i := 926) (by decide +kernel)
theorem se_3 : Cond.exactly (.string "Ticksilo" 312) "java/lang/String" ∈ flatC (Jvm.Cond.and given_1 narrow_1) := by decide +kernel
theorem sr_4 : Cond.stringRef "Ticksilo" 167 "no such selector" ∈ lw_tbl := List.mem_of_getElem? (l := lw_tbl) (i := 948) (by decide +kernel)
theorem se_4 : Cond.exactly (.string "Ticksilo" 167) "java/lang/String" ∈ flatC (Jvm.Cond.and given_1 narrow_1) := by decide +kernel
theorem sr_5 : Cond.stringRef "Ticksilo" 131 "from or to is out of range" ∈ lw_tbl := List.mem_of_getElem? (l := lw_tbl) (i := 950) (by decide +kernel)
theorem se_5 : Cond.exactly (.string "Ticksilo" 131) "java/lang/String" ∈ flatC (Jvm.Cond.and given_1 narrow_1) := by decide +kernel
theorem sr_6 : Cond.stringRef "Ticksilo" 137 "times is out of range" ∈ lw_tbl := List.mem_of_getElem? (l := lw_tbl) (i := 969) (by decide +kernel)
theorem se_6 : Cond.exactly (.string "Ticksilo" 137) "java/lang/String" ∈ flatC (Jvm.Cond.and given_1 narrow_1) := by decide +kernel
theorem sr_7 : Cond.stringRef "Ticksilo" 141 "time would be above its end" ∈ lw_tbl := List.mem_of_getElem? (l := lw_tbl) (i := 979) (by decide +kernel)
theorem se_7 : Cond.exactly (.string "Ticksilo" 141) "java/lang/String" ∈ flatC (Jvm.Cond.and given_1 narrow_1) := by decide +kernel
theorem sr_8 : Cond.stringRef "Ticksilo" 154 "records is out of range" ∈ lw_tbl := List.mem_of_getElem? (l := lw_tbl) (i := 1240) (by decide +kernel)
theorem se_8 : Cond.exactly (.string "Ticksilo" 154) "java/lang/String" ∈ flatC (Jvm.Cond.and given_1 narrow_1) := by decide +kernel
theorem sr_9 : Cond.stringRef "Ticksilo" 164 "no such block" ∈ lw_tbl := List.mem_of_getElem? (l := lw_tbl) (i := 1265) (by decide +kernel)
theorem se_9 : Cond.exactly (.string "Ticksilo" 164) "java/lang/String" ∈ flatC (Jvm.Cond.and given_1 narrow_1) := by decide +kernel
theorem sr_10 : Cond.stringRef "Ticksilo" 169 "a set of values is out of range" ∈ lw_tbl := List.mem_of_getElem? (l := lw_tbl) (i := 1273) (by decide +kernel)
theorem se_10 : Cond.exactly (.string "Ticksilo" 169) "java/lang/String" ∈ flatC (Jvm.Cond.and given_1 narrow_1) := by decide +kernel
theorem sr_11 : Cond.stringRef "Ticksilo" 186 "what, one or two is out of range" ∈ lw_tbl := List.mem_of_getElem? (l := lw_tbl) (i := 1293) (by decide +kernel)
theorem se_11 : Cond.exactly (.string "Ticksilo" 186) "java/lang/String" ∈ flatC (Jvm.Cond.and given_1 narrow_1) := by decide +kernel
theorem sr_12 : Cond.stringRef "Ticksilo" 196 "too many words, or too few results" ∈ lw_tbl := List.mem_of_getElem? (l := lw_tbl) (i := 1300) (by decide +kernel)
theorem se_12 : Cond.exactly (.string "Ticksilo" 196) "java/lang/String" ∈ flatC (Jvm.Cond.and given_1 narrow_1) := by decide +kernel
theorem sr_13 : Cond.stringRef "Ticksilo" 212 "the draft does not leave just one result" ∈ lw_tbl := List.mem_of_getElem? (l := lw_tbl) (i := 1331) (by decide +kernel)
theorem se_13 : Cond.exactly (.string "Ticksilo" 212) "java/lang/String" ∈ flatC (Jvm.Cond.and given_1 narrow_1) := by decide +kernel
theorem sr_14 : Cond.stringRef "Ticksilo" 233 "no such entry" ∈ lw_tbl := List.mem_of_getElem? (l := lw_tbl) (i := 1341) (by decide +kernel)
theorem se_14 : Cond.exactly (.string "Ticksilo" 233) "java/lang/String" ∈ flatC (Jvm.Cond.and given_1 narrow_1) := by decide +kernel
theorem sr_15 : Cond.stringRef "Ticksilo" 235 "two is out of range" ∈ lw_tbl := List.mem_of_getElem? (l := lw_tbl) (i := 1356) (by decide +kernel)
theorem se_15 : Cond.exactly (.string "Ticksilo" 235) "java/lang/String" ∈ flatC (Jvm.Cond.and given_1 narrow_1) := by decide +kernel
theorem sr_16 : Cond.stringRef "Ticksilo" 237 "not just one result, or too many rules" ∈ lw_tbl := List.mem_of_getElem? (l := lw_tbl) (i := 1357) (by decide +kernel)
theorem se_16 : Cond.exactly (.string "Ticksilo" 237) "java/lang/String" ∈ flatC (Jvm.Cond.and given_1 narrow_1) := by decide +kernel
theorem sr_17 : Cond.stringRef "Ticksilo" 242 "wait or keep is out of range" ∈ lw_tbl := List.mem_of_getElem? (l := lw_tbl) (i := 1398) (by decide +kernel)
theorem se_17 : Cond.exactly (.string "Ticksilo" 242) "java/lang/String" ∈ flatC (Jvm.Cond.and given_1 narrow_1) := by decide +kernel
theorem sr_18 : Cond.stringRef "Ticksilo" 317 "no such alert" ∈ lw_tbl := List.mem_of_getElem? (l := lw_tbl) (i := 1410) (by decide +kernel)
theorem se_18 : Cond.exactly (.string "Ticksilo" 317) "java/lang/String" ∈ flatC (Jvm.Cond.and given_1 narrow_1) := by decide +kernel
theorem sr_19 : Cond.stringRef "Ticksilo" 251 "no such lower alert" ∈ lw_tbl := List.mem_of_getElem? (l := lw_tbl) (i := 1411) (by decide +kernel)
theorem se_19 : Cond.exactly (.string "Ticksilo" 251) "java/lang/String" ∈ flatC (Jvm.Cond.and given_1 narrow_1) := by decide +kernel
theorem sr_20 : Cond.stringRef "Ticksilo" 258 "until is out of range" ∈ lw_tbl := List.mem_of_getElem? (l := lw_tbl) (i := 1419) (by decide +kernel)
theorem se_20 : Cond.exactly (.string "Ticksilo" 258) "java/lang/String" ∈ flatC (Jvm.Cond.and given_1 narrow_1) := by decide +kernel
theorem sr_21 : Cond.stringRef "Ticksilo" 260 "too many silences" ∈ lw_tbl := List.mem_of_getElem? (l := lw_tbl) (i := 1420) (by decide +kernel)
theorem se_21 : Cond.exactly (.string "Ticksilo" 260) "java/lang/String" ∈ flatC (Jvm.Cond.and given_1 narrow_1) := by decide +kernel
theorem sr_22 : Cond.stringRef "Ticksilo" 271 "what is out of range" ∈ lw_tbl := List.mem_of_getElem? (l := lw_tbl) (i := 1435) (by decide +kernel)
theorem se_22 : Cond.exactly (.string "Ticksilo" 271) "java/lang/String" ∈ flatC (Jvm.Cond.and given_1 narrow_1) := by decide +kernel
theorem sr_23 : Cond.stringRef "Ticksilo" 282 "no such notice" ∈ lw_tbl := List.mem_of_getElem? (l := lw_tbl) (i := 1448) (by decide +kernel)
theorem se_23 : Cond.exactly (.string "Ticksilo" 282) "java/lang/String" ∈ flatC (Jvm.Cond.and given_1 narrow_1) := by decide +kernel
theorem sr_24 : Cond.stringRef "Ticksilo" 287 "level, span or what is out of range" ∈ lw_tbl := List.mem_of_getElem? (l := lw_tbl) (i := 1459) (by decide +kernel)
theorem se_24 : Cond.exactly (.string "Ticksilo" 287) "java/lang/String" ∈ flatC (Jvm.Cond.and given_1 narrow_1) := by decide +kernel
theorem sr_25 : Cond.stringRef "Ticksilo" 296 "level, time or window is out of range" ∈ lw_tbl := List.mem_of_getElem? (l := lw_tbl) (i := 1472) (by decide +kernel)
theorem se_25 : Cond.exactly (.string "Ticksilo" 296) "java/lang/String" ∈ flatC (Jvm.Cond.and given_1 narrow_1) := by decide +kernel
theorem sr_26 : Cond.stringRef "Ticksilo" 307 "many is out of range" ∈ lw_tbl := List.mem_of_getElem? (l := lw_tbl) (i := 1483) (by decide +kernel)
theorem se_26 : Cond.exactly (.string "Ticksilo" 307) "java/lang/String" ∈ flatC (Jvm.Cond.and given_1 narrow_1) := by decide +kernel
theorem ly_E : Cond.laysStatic "java/util/ArrayList" "DEFAULTCAPACITY_EMPTY_ELEMENTDATA" "[Ljava/lang/Object;" ∈ lw_tbl := List.mem_of_getElem? (l := lw_tbl) (i := 125) (by decide +kernel)
theorem ly_B : Cond.laysStatic "Ticksilo" "BOUNDS" "[I" ∈ lw_tbl := List.mem_of_getElem? (l := lw_tbl) (i := 1088) (by decide +kernel)
theorem ly_U : Cond.laysStatic Bundle.tN "UNASSIGNED_STACK" Bundle.steD ∈ lw_tbl := List.mem_of_getElem? (l := lw_tbl) (i := 512) (by decide +kernel)
theorem ly_S : Cond.laysStatic Bundle.tN "SUPPRESSED_SENTINEL" Bundle.listD ∈ lw_tbl := List.mem_of_getElem? (l := lw_tbl) (i := 514) (by decide +kernel)
theorem in_A : Cond.initialized "java/util/ArrayList" ∈ lw_tbl := List.mem_of_getElem? (l := lw_tbl) (i := 67) (by decide +kernel)
theorem in_T : Cond.initialized "Ticksilo" ∈ lw_tbl := List.mem_of_getElem? (l := lw_tbl) (i := 63) (by decide +kernel)
theorem in_W : Cond.initialized "java/lang/Throwable" ∈ lw_tbl := List.mem_of_getElem? (l := lw_tbl) (i := 77) (by decide +kernel)
theorem ao_O : Cond.arrayOver (.object "java/lang/Object") ∈ lw_tbl := List.mem_of_getElem? (l := lw_tbl) (i := 283) (by decide +kernel)
theorem nc_0 : Cond.not (.castable "java/lang/IllegalArgumentException" "java/lang/IndexOutOfBoundsException") ∈ flatC (Jvm.Cond.and given_1 narrow_1) := by decide +kernel
theorem nc_1 : Cond.not (.castable "java/lang/IllegalStateException" "java/lang/IndexOutOfBoundsException") ∈ flatC (Jvm.Cond.and given_1 narrow_1) := by decide +kernel
theorem nc_2 : Cond.not (.castable "java/lang/IllegalStateException" "java/lang/IllegalArgumentException") ∈ flatC (Jvm.Cond.and given_1 narrow_1) := by decide +kernel
theorem nc_3 : Cond.not (.castable "java/lang/IllegalArgumentException" "java/lang/IllegalStateException") ∈ flatC (Jvm.Cond.and given_1 narrow_1) := by decide +kernel
theorem nc_4 : Cond.not (.castable "java/lang/IndexOutOfBoundsException" "java/lang/IllegalArgumentException") ∈ flatC (Jvm.Cond.and given_1 narrow_1) := by decide +kernel
theorem nc_5 : Cond.not (.castable "java/lang/IndexOutOfBoundsException" "java/lang/IllegalStateException") ∈ flatC (Jvm.Cond.and given_1 narrow_1) := by decide +kernel
theorem fl9_Ea : Cond.arrayOf (.static "java/util/ArrayList" "DEFAULTCAPACITY_EMPTY_ELEMENTDATA" "[Ljava/lang/Object;") (.object "java/lang/Object") ∈ flatC (Jvm.Cond.and given_1 narrow_1) := by decide +kernel
theorem fl9_Ex : Cond.exactly (.static "java/util/ArrayList" "DEFAULTCAPACITY_EMPTY_ELEMENTDATA" "[Ljava/lang/Object;") "[Ljava/lang/Object;" ∈ flatC (Jvm.Cond.and given_1 narrow_1) := by decide +kernel
theorem fl9_El : Cond.eq (.length (.static "java/util/ArrayList" "DEFAULTCAPACITY_EMPTY_ELEMENTDATA" "[Ljava/lang/Object;")) (.int 0) ∈ flatC (Jvm.Cond.and given_1 narrow_1) := by decide +kernel
theorem fl9_Ba : Cond.arrayOf (.static "Ticksilo" "BOUNDS" "[I") .int ∈ flatC (Jvm.Cond.and given_1 narrow_1) := by decide +kernel
theorem fl9_Bl : Cond.eq (.length (.static "Ticksilo" "BOUNDS" "[I")) (.int 5) ∈ flatC (Jvm.Cond.and given_1 narrow_1) := by decide +kernel
theorem fl9_B0 : Cond.eq (.elem (.static "Ticksilo" "BOUNDS" "[I") (.int 0)) (.int 1000) ∈ flatC (Jvm.Cond.and given_1 narrow_1) := by decide +kernel
theorem fl9_B1 : Cond.eq (.elem (.static "Ticksilo" "BOUNDS" "[I") (.int 1)) (.int 2000) ∈ flatC (Jvm.Cond.and given_1 narrow_1) := by decide +kernel
theorem fl9_B2 : Cond.eq (.elem (.static "Ticksilo" "BOUNDS" "[I") (.int 2)) (.int 5000) ∈ flatC (Jvm.Cond.and given_1 narrow_1) := by decide +kernel
theorem fl9_B3 : Cond.eq (.elem (.static "Ticksilo" "BOUNDS" "[I") (.int 3)) (.int 10000) ∈ flatC (Jvm.Cond.and given_1 narrow_1) := by decide +kernel
theorem fl9_B4 : Cond.eq (.elem (.static "Ticksilo" "BOUNDS" "[I") (.int 4)) (.int 20000) ∈ flatC (Jvm.Cond.and given_1 narrow_1) := by decide +kernel
theorem fl9_Bn : Cond.not (.eq (.arg 0) (.static "Ticksilo" "BOUNDS" "[I")) ∈ flatC (Jvm.Cond.and given_1 narrow_1) := by decide +kernel
theorem fl9_U : Cond.isRef (.static Bundle.tN "UNASSIGNED_STACK" Bundle.steD) ∈ flatC (Jvm.Cond.and given_1 narrow_1) := by decide +kernel
theorem fl9_S : Cond.isRef (.static Bundle.tN "SUPPRESSED_SENTINEL" Bundle.listD) ∈ flatC (Jvm.Cond.and given_1 narrow_1) := by decide +kernel
theorem fl9_M : Cond.isRef (.mirror "[Ljava/lang/Object;") ∈ flatC (Jvm.Cond.and given_1 narrow_1) := by decide +kernel
/-- the maps at the start: the bounds, the script, the shared empty array -/
def bdv (i : Int) : Int := if i = 0 then 1000 else if i = 1 then 2000 else if i = 2 then 5000 else if i = 3 then 10000 else if i = 4 then 20000 else 0
def G0 (tB b tE L : Nat) (xs : Nat → Int32) : Gt := (fun a => if a = tB ∨ a = b then 19 else if a = tE then 18 else 0, fun _ _ _ => 0, fun a => if a = tB then 5 else if a = b then L else 0, fun a i => if a = tB then bdv i else if a = b then (xs i.toNat).toInt else -1)
theorem bdv_i32 (i : Int) : i32 (bdv i) := by
  unfold bdv i32
  repeat' split
  all_goals omega
theorem i32_ofX (x : Int32) : i32 x.toInt := ⟨by have := Int32.le_toInt x; omega, by have := Int32.toInt_lt x; omega⟩
theorem arr_of {s : State} {cell : Cell} {ty : FieldType} (h : s.isArrayOf cell ty) : ArrOfT s cell.cls ty := by
  obtain ⟨_, k, hk, comp, hkind⟩ := h
  exact fun n z => ⟨fun k h => (by cases h), k, hk, comp, hkind⟩
theorem arr_ne {s : State} {cell : Cell} {ty ty' : FieldType} (h : s.isArrayOf cell ty) (h' : s.isArrayOf cell ty') : ty = ty' := by
  obtain ⟨_, k, hk, comp, hkind⟩ := h
  obtain ⟨_, k', hk', comp', hkind'⟩ := h'
  cases Option.some.inj (hk.symm.trans hk')
  rw [hkind] at hkind'
  injection hkind'

/-! THE CLAIM OUT OF ONE WALK OF THE LAW'S BODY. Your part is whole_start (and what it stands on); all else here is the same for every law, but numbers. -/
def R_law : String := "TicksiloLaw"
def lw_P (b : Addr) (xs : List Int32) (args : Array Value) (s : State) : Prop := args = #[.ref b] ∧ s.IntsAt b xs ∧ xs.length ≤ 3072 ∧ (Jvm.Cond.and given_1 narrow_1).before args s = true
def lw_Q (_ : Array Value) (s : State) (o : Outcome) (t : State) : Prop := o = .returned (some (.int 1)) ∧ Framed s o t [] 601024 7293034
def lw_Z (below : List Frame) (a : Array Value) (s : State) : State → Prop := fun t => ∃ o, t.status = .running ∧ Ended t below o ∧ lw_Q a s o t
/-- the law's own end, with 1 on the stack, nothing written that was there before, its room as the claim has it -/
theorem lw_ret {p : Program} {l : Launch} {e : Env} {s : State} {m : MethodId} {below : List Frame} {meth : Method} {c : Code} {b : Nat} (hx : p.tables.exec = Jvm.exec) (hb : c.code = code) (hr : meth.sig.returnType = ret) (hlocks : meth.locks = false) {pc : Nat} {H : Heap} {ls : Array Slot} (hdg : decode code pc = .ok (.ireturn, 1)) : W p l e room_1 s m #[Value.ref b] below meth c H [] 601024 7293034 (lw_Z below #[Value.ref b] s) (F0 m pc ls [.int 1]) := by
  intro T hT X
  obtain ⟨fs, hret, hrun, hended, hW, hframe⟩ := X.leave (v := some (.int 1)) (hlocks := hlocks) (fun h => by rw [hr] at h; cases h)
  have hmeth' : T.vm.method? m = some meth := X.method'
  refine ⟨T.setFrames fs, ?_, .returned (some (.int 1)), hrun, hended, rfl, ⟨_, rfl⟩, hW, hframe⟩
  jvm_step X.here [X.here.top, hx, hb, hdg, hmeth', hr, ret, narrow_b1]
  (try refine ⟨rfl, ?_⟩); (try refine ⟨rfl, ?_⟩)
  first | (intro acts; rw [hret _ acts rfl rfl rfl]) | rw [hret _ _ rfl rfl rfl]
  exact Steps.refl _
/-- what holds at the law's entry: the machine, the code, the tables' words (any of lw_tbl by 'hts w (by decide +kernel)'), the script of L ints xs at the cell b, what the Statement gives of the start (any of its parts by flat_of_before) -/
def lw_At (p : Program) (s : State) (m : MethodId) (meth : Method) (c : Code) (b L : Nat) (xs : Nat → Int32) : Prop :=
  p.tables.exec = Jvm.exec ∧ c.code = code ∧ meth.sig.returnType = ret ∧ c.maxLocals = 8 ∧ s.vm.findClass R_law = some m.cls ∧ (∀ w ∈ lw_tbl, w.before #[Value.ref b] s = true) ∧ va_X b L xs s s.heap ∧ b < s.heap.size ∧ meth.locks = false ∧ (Jvm.Cond.and given_1 narrow_1).before #[Value.ref b] s = true ∧ c.exceptionTable.toList = [] ∧ meth.name = "law"
theorem whole_start {p : Program} {e : Env} {s : State} {m : MethodId} {below : List Frame} {meth : Method} {c : Code} (l : Launch) (hflags : l.flags = flags0) {b L : Nat} {xs : Nat → Int32} (hL : L ≤ 3072) (C0 : lw_At p s m meth c b L xs) : W p l e room_1 s m #[Value.ref b] below meth c s.heap [] 0 0 (lw_Z below #[Value.ref b] s) (entryFrame m ([Value.ref b] : List Value).toArray 8) := by
  obtain ⟨hx, hb, hr, hml, hown, hts, hX, hbl, hlocks, hgv, hex, hnm⟩ := id C0
  have hq := flat_of_before _ hgv
  have htsW : ∀ w ∈ WS, w.before #[Value.ref b] s = true := fun w hw => hts w (List.mem_filter.mp hw).1
  have hA : ∀ a : Nat, a < s.heap.size → ¬ (fun q : Nat => s.heap.size ≤ q) a := fun a h1 h2 => Nat.not_lt.mpr h2 h1
  obtain ⟨D, hD⟩ : ∃ D : Nat → ClassId × (Nat → Nat), ∀ c, c < 14 → u_Kn s (cN c) (cT c) (fN c) (D c).1 (D c).2 := by
    have h : ∀ c : Nat, ∃ q : ClassId × (Nat → Nat), c < 14 → u_Kn s (cN c) (cT c) (fN c) q.1 q.2 := fun c => by
      by_cases hc : c < 14
      · obtain ⟨cC, iS, h⟩ := u_known htsW (wsC hc) (htsW _ (instC hc))
        exact ⟨(cC, iS), fun _ => h⟩
      · exact ⟨(0, fun _ => 0), fun h => absurd h hc⟩
    exact ⟨fun c => Classical.choose (h c), fun c hc => Classical.choose_spec (h c) hc⟩
  obtain ⟨c0, k0, comp0, a01, a02, a03⟩ := Cond.arrayClass_spec (htsW _ ac_int)
  obtain ⟨c1, k1, comp1, a11, a12, a13⟩ := Cond.arrayClass_spec (htsW _ ac_long)
  obtain ⟨c2, k2, comp2, a21, a22, a23⟩ := Cond.arrayClass_spec (htsW _ ac_boolean)
  obtain ⟨comp3, c3, k3, a31, a32, a33, a34, a35⟩ := Cond.arrayOver_spec (hts _ ao_O)
  obtain ⟨tE, vE, TE⟩ := va_Tof (N := 0) (f := fun _ => .null) (A := fun q : Nat => s.heap.size ≤ q) (by decide) (hq _ fl9_Ea) (va_eqt (hq _ fl9_El)) (fun j hj => absurd hj (Nat.not_lt_zero j)) hA
  obtain ⟨tB, vB, TB⟩ := va_Tof (N := 5) (f := fun j => .int (Int32.ofInt (bdv j))) (A := fun q : Nat => s.heap.size ≤ q) (by decide) (hq _ fl9_Ba) (va_eqt (hq _ fl9_Bl)) (fun j hj => by
    match j, hj with
    | 0, _ => exact va_eqt (hq _ fl9_B0)
    | 1, _ => exact va_eqt (hq _ fl9_B1)
    | 2, _ => exact va_eqt (hq _ fl9_B2)
    | 3, _ => exact va_eqt (hq _ fl9_B3)
    | 4, _ => exact va_eqt (hq _ fl9_B4)
    | n + 5, h => exact absurd h (by omega)) hA
  obtain ⟨cE, hcE, iE, kE, lE, zE, -, nE⟩ := TE
  obtain ⟨cB, hcB, iB, kB, lB, zB, fB, nB⟩ := TB
  obtain ⟨scr, hsc, isc, ksc, lsc, fsc⟩ := hX
  have tEl : tE < s.heap.size := Nat.not_le.mp nE
  have tBl : tB < s.heap.size := Nat.not_le.mp nB
  obtain ⟨a9, c9, cell9, k9, x1, x2, x3, x4, x5, x6, -⟩ := Cond.exactly_spec (hq _ fl9_Ex)
  cases Value.ref.inj (Option.some.inj (vE.symm.trans x1))
  cases Option.some.inj (hcE.symm.trans x3)
  have cE3 : cE.cls = c3 := by
    have e9 : ("[" ++ (FieldType.object "java/lang/Object").toString) = "[Ljava/lang/Object;" := by decide +kernel
    rw [e9] at a35
    exact x6.trans (Option.some.inj (x2.symm.trans a35))
  have nEB : tE ≠ tB := fun h9 => by
    subst h9
    cases Option.some.inj (hcE.symm.trans hcB)
    cases arr_ne iE iB
  have nEs : tE ≠ b := fun h9 => by
    subst h9
    cases Option.some.inj (hcE.symm.trans hsc)
    cases arr_ne iE isc
  have nBs : tB ≠ b := fun h9 => by
    subst h9
    have h8 := hq _ fl9_Bn
    have h7 : (Term.arg 0).eval #[Value.ref tB] s none [] s = some (.ref tB) := rfl
    simp [Cond.before, Cond.holds, Cond.value, h7, vB] at h8
  obtain ⟨mi, hmi⟩ := va_Mi.of (hq _ fl9_M)
  let cA : Nat → ClassId := fun q => ((s.heap[q]?).map (·.cls)).getD 0
  have cAE : cA tE = cE.cls := by show ((s.heap[tE]?).map (·.cls)).getD 0 = _; rw [hcE]; rfl
  have cAB : cA tB = cB.cls := by show ((s.heap[tB]?).map (·.cls)).getD 0 = _; rw [hcB]; rfl
  have cAs : cA b = scr.cls := by show ((s.heap[b]?).map (·.cls)).getD 0 = _; rw [hsc]; rfl
  let E : EE := (l, (fun c => (D c).1, fun c => (D c).2), (fun k => match k with | 0 => c0 | 1 => c1 | 2 => c2 | 3 => c3 | q + 4 => cA q), s.heap.size, tE, tB, mi, (b, L, xs))
  have eb9 : eb E = s.heap.size := rfl
  have hK : va_K (eD E) myCl (tys4 E) s := by
    refine ⟨fun k q hkq => ?_, fun k q hkq => ?_⟩
    · by_cases hk : k < 14
      · cases Option.some.inj ((clC hk).symm.trans hkq)
        exact hD k hk
      · have h9 : myCl.length ≤ k := by show 14 ≤ k; omega
        rw [List.getElem?_eq_none h9] at hkq
        cases hkq
    · match k, hkq with
      | 0, hkq => cases hkq; exact ⟨fun n z => ⟨fun k h => (by cases h), k0, a02, comp0, a03⟩, a01⟩
      | 1, hkq => cases hkq; exact ⟨fun n z => ⟨fun k h => (by cases h), k1, a12, comp1, a13⟩, a11⟩
      | 2, hkq => cases hkq; exact ⟨fun n z => ⟨fun k h => (by cases h), k2, a22, comp2, a23⟩, a21⟩
      | 3, hkq => cases hkq; exact ⟨fun n z => ⟨fun k h => (by cases h), k3, a33, comp3, a34⟩, k3, comp3, a33, a34, a31, a35⟩
      | n + 4, hkq => simp [tys4] at hkq
  have hST : STF E s := by
    refine ⟨⟨va_Zref (hts _ ly_E) (hts _ in_A) vE hA, fun q hqn => ?_, ⟨hbl, hL, scr, hsc, lsc, fsc⟩, ?_, ?_, ?_⟩, va_Zref (hts _ ly_B) (hts _ in_T) vB hA, vx_Zqof (hts _ ly_U) (hts _ in_W) (hq _ fl9_U) hA, vx_Zqof (hts _ ly_S) (hts _ in_W) (hq _ fl9_S) hA, ?_, hmi, va_AO.of (hts _ ao_O), fun w hw => ?_⟩
    · revert q
      unfold ncP
      exact List.forall_mem_cons.mpr ⟨va_Nc.of (hq _ nc_0), List.forall_mem_cons.mpr ⟨va_Nc.of (hq _ nc_1), List.forall_mem_cons.mpr ⟨va_Nc.of (hq _ nc_2), List.forall_mem_cons.mpr ⟨va_Nc.of (hq _ nc_3), List.forall_mem_cons.mpr ⟨va_Nc.of (hq _ nc_4), List.forall_mem_cons.mpr ⟨va_Nc.of (hq _ nc_5), fun _ h => absurd h List.not_mem_nil⟩⟩⟩⟩⟩⟩
    · show ArrOfT s (cA tB) .int
      rw [cAB]; exact arr_of iB
    · show ArrOfT s (cA b) .int
      rw [cAs]; exact arr_of isc
    · show ArrOfT s (cA tE) _
      rw [cAE]; exact arr_of iE
    · unfold txts
      obtain ⟨_, _, _, _, e0, -⟩ := Cond.exactly_spec (hq _ se_0)
      obtain ⟨_, _, _, _, e1, -⟩ := Cond.exactly_spec (hq _ se_1)
      obtain ⟨_, _, _, _, e2, -⟩ := Cond.exactly_spec (hq _ se_2)
      obtain ⟨_, _, _, _, e3, -⟩ := Cond.exactly_spec (hq _ se_3)
      obtain ⟨_, _, _, _, e4, -⟩ := Cond.exactly_spec (hq _ se_4)
      obtain ⟨_, _, _, _, e5, -⟩ := Cond.exactly_spec (hq _ se_5)
      obtain ⟨_, _, _, _, e6, -⟩ := Cond.exactly_spec (hq _ se_6)
      obtain ⟨_, _, _, _, e7, -⟩ := Cond.exactly_spec (hq _ se_7)
      obtain ⟨_, _, _, _, e8, -⟩ := Cond.exactly_spec (hq _ se_8)
      obtain ⟨_, _, _, _, e9, -⟩ := Cond.exactly_spec (hq _ se_9)
      obtain ⟨_, _, _, _, e10, -⟩ := Cond.exactly_spec (hq _ se_10)
      obtain ⟨_, _, _, _, e11, -⟩ := Cond.exactly_spec (hq _ se_11)
      obtain ⟨_, _, _, _, e12, -⟩ := Cond.exactly_spec (hq _ se_12)
      obtain ⟨_, _, _, _, e13, -⟩ := Cond.exactly_spec (hq _ se_13)
      obtain ⟨_, _, _, _, e14, -⟩ := Cond.exactly_spec (hq _ se_14)
      obtain ⟨_, _, _, _, e15, -⟩ := Cond.exactly_spec (hq _ se_15)
      obtain ⟨_, _, _, _, e16, -⟩ := Cond.exactly_spec (hq _ se_16)
      obtain ⟨_, _, _, _, e17, -⟩ := Cond.exactly_spec (hq _ se_17)
      obtain ⟨_, _, _, _, e18, -⟩ := Cond.exactly_spec (hq _ se_18)
      obtain ⟨_, _, _, _, e19, -⟩ := Cond.exactly_spec (hq _ se_19)
      obtain ⟨_, _, _, _, e20, -⟩ := Cond.exactly_spec (hq _ se_20)
      obtain ⟨_, _, _, _, e21, -⟩ := Cond.exactly_spec (hq _ se_21)
      obtain ⟨_, _, _, _, e22, -⟩ := Cond.exactly_spec (hq _ se_22)
      obtain ⟨_, _, _, _, e23, -⟩ := Cond.exactly_spec (hq _ se_23)
      obtain ⟨_, _, _, _, e24, -⟩ := Cond.exactly_spec (hq _ se_24)
      obtain ⟨_, _, _, _, e25, -⟩ := Cond.exactly_spec (hq _ se_25)
      obtain ⟨_, _, _, _, e26, -⟩ := Cond.exactly_spec (hq _ se_26)
      exact List.forall_mem_cons.mpr ⟨⟨_, vk_R.of (hts _ sr_0) e0⟩, List.forall_mem_cons.mpr ⟨⟨_, vk_R.of (hts _ sr_1) e1⟩, List.forall_mem_cons.mpr ⟨⟨_, vk_R.of (hts _ sr_2) e2⟩, List.forall_mem_cons.mpr ⟨⟨_, vk_R.of (hts _ sr_3) e3⟩, List.forall_mem_cons.mpr ⟨⟨_, vk_R.of (hts _ sr_4) e4⟩, List.forall_mem_cons.mpr ⟨⟨_, vk_R.of (hts _ sr_5) e5⟩, List.forall_mem_cons.mpr ⟨⟨_, vk_R.of (hts _ sr_6) e6⟩, List.forall_mem_cons.mpr ⟨⟨_, vk_R.of (hts _ sr_7) e7⟩, List.forall_mem_cons.mpr ⟨⟨_, vk_R.of (hts _ sr_8) e8⟩, List.forall_mem_cons.mpr ⟨⟨_, vk_R.of (hts _ sr_9) e9⟩, List.forall_mem_cons.mpr ⟨⟨_, vk_R.of (hts _ sr_10) e10⟩, List.forall_mem_cons.mpr ⟨⟨_, vk_R.of (hts _ sr_11) e11⟩, List.forall_mem_cons.mpr ⟨⟨_, vk_R.of (hts _ sr_12) e12⟩, List.forall_mem_cons.mpr ⟨⟨_, vk_R.of (hts _ sr_13) e13⟩, List.forall_mem_cons.mpr ⟨⟨_, vk_R.of (hts _ sr_14) e14⟩, List.forall_mem_cons.mpr ⟨⟨_, vk_R.of (hts _ sr_15) e15⟩, List.forall_mem_cons.mpr ⟨⟨_, vk_R.of (hts _ sr_16) e16⟩, List.forall_mem_cons.mpr ⟨⟨_, vk_R.of (hts _ sr_17) e17⟩, List.forall_mem_cons.mpr ⟨⟨_, vk_R.of (hts _ sr_18) e18⟩, List.forall_mem_cons.mpr ⟨⟨_, vk_R.of (hts _ sr_19) e19⟩, List.forall_mem_cons.mpr ⟨⟨_, vk_R.of (hts _ sr_20) e20⟩, List.forall_mem_cons.mpr ⟨⟨_, vk_R.of (hts _ sr_21) e21⟩, List.forall_mem_cons.mpr ⟨⟨_, vk_R.of (hts _ sr_22) e22⟩, List.forall_mem_cons.mpr ⟨⟨_, vk_R.of (hts _ sr_23) e23⟩, List.forall_mem_cons.mpr ⟨⟨_, vk_R.of (hts _ sr_24) e24⟩, List.forall_mem_cons.mpr ⟨⟨_, vk_R.of (hts _ sr_25) e25⟩, List.forall_mem_cons.mpr ⟨⟨_, vk_R.of (hts _ sr_26) e26⟩, fun _ h => absurd h List.not_mem_nil⟩⟩⟩⟩⟩⟩⟩⟩⟩⟩⟩⟩⟩⟩⟩⟩⟩⟩⟩⟩⟩⟩⟩⟩⟩⟩⟩
    · have hg := (List.mem_filter.mp hw).2
      have ho : w.onTables = true := by cases w <;> first | rfl | cases hg
      exact va_Nw.of ho (hts w (List.mem_filter.mp hw).1)
  have gB : gcl (G0 tB b tE L xs) tB = 19 := if_pos (Or.inl rfl)
  have gs : gcl (G0 tB b tE L xs) b = 19 := if_pos (Or.inr rfl)
  have gE : gcl (G0 tB b tE L xs) tE = 18 := by
    show (if (tE : Int) = tB ∨ (tE : Int) = b then 19 else if (tE : Int) = tE then 18 else 0) = 18
    rw [if_neg (by omega), if_pos rfl]
  have gk : ∀ a : Int, (gcl (G0 tB b tE L xs) a = 19 ∧ (a = tB ∨ a = b)) ∨ (gcl (G0 tB b tE L xs) a = 18 ∧ a = tE ∧ ¬ (a = tB ∨ a = b)) ∨ gcl (G0 tB b tE L xs) a = 0 := fun a => by
    show ((if a = tB ∨ a = b then 19 else if a = tE then 18 else 0) = 19 ∧ _) ∨ ((if a = tB ∨ a = b then 19 else if a = tE then 18 else 0) = 18 ∧ _) ∨ (if a = tB ∨ a = b then 19 else if a = tE then 18 else 0) = 0
    by_cases h1 : a = tB ∨ a = b
    · rw [if_pos h1]; exact Or.inl ⟨rfl, h1⟩
    · rw [if_neg h1]
      by_cases h2 : a = tE
      · rw [if_pos h2]; exact Or.inr (Or.inl ⟨rfl, h2, h1⟩)
      · rw [if_neg h2]; exact Or.inr (Or.inr rfl)
  have lnB : gln (G0 tB b tE L xs) tB = 5 := if_pos rfl
  have lns : gln (G0 tB b tE L xs) b = L := by
    show (if (b : Int) = tB then (5 : Int) else if (b : Int) = b then L else 0) = L
    rw [if_neg (by omega), if_pos rfl]
  have lnE : gln (G0 tB b tE L xs) tE = 0 := by
    show (if (tE : Int) = tB then (5 : Int) else if (tE : Int) = b then (L : Int) else 0) = 0
    rw [if_neg (by omega), if_neg (by omega)]
  have elB : ∀ i, gel (G0 tB b tE L xs) tB i = bdv i := fun i => if_pos rfl
  have els : ∀ i, gel (G0 tB b tE L xs) b i = (xs i.toNat).toInt := fun i => by
    show (if (b : Int) = tB then bdv i else if (b : Int) = b then (xs i.toNat).toInt else -1) = _
    rw [if_neg (by omega), if_pos rfl]
  have elE : ∀ i, gel (G0 tB b tE L xs) tE i = -1 := fun i => by
    show (if (tE : Int) = tB then bdv i else if (tE : Int) = b then (xs i.toNat).toInt else -1) = _
    rw [if_neg (by omega), if_neg (by omega)]
  have hwt : wt E (G0 tB b tE L xs) := by
    refine ⟨fun a ha => ?_, fun a h1 ha => ?_, fun c k a h1 h2 h3 => ?_, fun a ha => ?_, fun a i ha => ?_, fun a i ha => ?_, fun a i ha => ?_, fun a i ha => ?_, ⟨gE, lnE⟩, ⟨gB, lnB, elB 0, elB 1, elB 2, elB 3, elB 4⟩, fun a ha => ?_⟩
    · rcases gk a with ⟨h8, h9 | h9⟩ | ⟨h8, h9, -⟩ | h8
      · exact ⟨by omega, by omega⟩
      · exact ⟨by omega, by omega⟩
      · exact ⟨by omega, by omega⟩
      · exact absurd h8 ha
    · rcases gk a with ⟨h8, h9⟩ | ⟨h8, h9, -⟩ | h8
      · exact Or.inl h8
      · exact Or.inr ⟨h8, by rw [h9]; exact lnE⟩
      · exact absurd h8 ha
    · rcases gk a with ⟨h8, h9⟩ | ⟨h8, h9, -⟩ | h8 <;> omega
    · rcases gk a with ⟨h8, h9 | h9⟩ | ⟨h8, h9, -⟩ | h8
      · rw [h9, lnB]; decide
      · rw [h9, lns]; omega
      · rw [h9, lnE]; decide
      · omega
    · rcases gk a with ⟨h8, h9 | h9⟩ | ⟨h8, h9, -⟩ | h8
      · rw [h9, elB]; exact bdv_i32 i
      · rw [h9, els]; exact i32_ofX _
      · omega
      · omega
    · rcases gk a with ⟨h8, h9⟩ | ⟨h8, h9, -⟩ | h8 <;> omega
    · rcases gk a with ⟨h8, h9⟩ | ⟨h8, h9, -⟩ | h8 <;> omega
    · rcases gk a with ⟨h8, h9⟩ | ⟨h8, h9, -⟩ | h8
      · omega
      · rw [h9, elE]; exact Or.inl rfl
      · omega
    · rcases gk a with ⟨h8, h9 | h9⟩ | ⟨h8, h9, -⟩ | h8
      · rw [h9, eb9]; omega
      · rw [h9, eb9]; omega
      · omega
      · omega
  have hRG : RG E (G0 tB b tE L xs) s.heap := by
    refine ⟨hwt, ⟨[], fun q => ⟨fun h => absurd h List.not_mem_nil, fun h => ?_⟩, fun k q h => by simp [va_pl] at h, ⟨fun i j p q h => by simp [va_pl] at h, fun k q h => by simp [va_pl] at h⟩⟩, fun q hq1 hq2 => ?_⟩
    · have h1 : s.heap.size ≤ q := h.1
      rcases gk q with ⟨h8, h9 | h9⟩ | ⟨h8, h9, -⟩ | h8
      · omega
      · omega
      · omega
      · exact absurd h8 h.2
    · have ofN : ∀ n : Nat, (n.toInt32 : Int32) = Int32.ofInt (n : Int) := fun n => (Int32.ofInt_eq_ofNat).symm
      rcases gk q with ⟨h8, h9 | h9⟩ | ⟨h8, h9, h10⟩ | h8
      · have h9 : q = tB := by omega
        subst h9
        refine ⟨cB, hcB, cAB.symm, kB, iB.1, by rw [lnB]; exact lB, by rw [lnB]; exact zB, fun _ => ⟨Or.inl rfl, fun j hj => ?_⟩, fun h => by omega⟩
        rw [lnB] at hj
        rw [elB]
        exact fB j hj
      · have h9 : q = b := by omega
        subst h9
        refine ⟨scr, hsc, cAs.symm, ksc, isc.1, by rw [lns, lsc]; omega, by rw [lns, lsc]; exact ofN L, fun _ => ⟨Or.inr rfl, fun j hj => ?_⟩, fun h => by omega⟩
        rw [lns] at hj
        rw [els, fsc j (by omega)]
        have e9 : ((j : Int)).toNat = j := Int.toNat_natCast j
        rw [e9, Int32.ofInt_toInt]
      · have h9 : q = tE := by omega
        subst h9
        refine ⟨cE, hcE, cAE.symm, kE, iE.1, by rw [lnE]; exact Nat.zero_le _, by rw [lnE]; exact zE, fun h => by omega, fun _ => ⟨rfl, cE3⟩⟩
      · exact absurd h8 hq2
  have hLW : LW E (G0 tB b tE L xs) := by
    refine ⟨fun a ha => ?_, fun a b9 ha => ?_, gE, lnE⟩
    · rcases gk a with ⟨h8, h9⟩ | ⟨h8, h9, -⟩ | h8 <;> omega
    · rcases gk a with ⟨h8, h9⟩ | ⟨h8, h9, -⟩ | h8 <;> omega
  have hOW : OW (G0 tB b tE L xs) := by
    have no : ∀ p ∈ oF, ∀ y, gcl (G0 tB b tE L xs) y = p.1 + 1 → False := fun p hp y hy => by
      have h9 := (oF_fty p hp).1
      rcases gk y with ⟨h8, -⟩ | ⟨h8, -, -⟩ | h8 <;> omega
    refine ⟨fun p hp p' _ y y' hy => (no p hp y hy).elim, fun p hp y hy => (no p hp y hy).elim, ?_⟩
    rcases gk (-1) with ⟨h8, h9⟩ | ⟨h8, h9, -⟩ | h8
    · omega
    · omega
    · exact Or.inl h8
  have hfl : l.stackTraces = false := by
    unfold Launch.stackTraces
    rw [hflags]
    decide +kernel
  have hV := v_start (E := E) (G := G0 tB b tE L xs) (b := (b : Int)) rfl hL gs hLW hOW rfl rfl
  have e8 : ([rv (b : Int)] : List SV).map enc = [Value.ref b] := by
    show [enc (rv (b : Int))] = _
    rw [enc_rv, o2_nat]; rfl
  have hent := lv_entry (([rv (b : Int)] : List SV).map enc) (n := 8) (by rw [lgsl_len]; exact Nat.le_of_ble_eq_true rfl)
  rw [e8] at hent
  rw [lg_entry_eq]
  generalize (lg_sl ([.ref b] : List Value) ++ List.replicate (8 - (lg_sl ([.ref b] : List Value)).length) Slot.unset).toArray = lsA at hent ⊢
  have hW := hV (p := p) (e := e) (s := s) (m := m) (args := #[Value.ref b]) (below := below) (meth := meth) (c := c) (R := room_1) (mc := 601024) (ms := 7293034) (H := s.heap) (locs := []) (cells := 0) (slots := 0) (lsA := lsA)
    ⟨hx, hb, hml, hown, htsW, hK, hr, hlocks, hex, Nat.le_of_ble_eq_true rfl, Nat.le_of_ble_eq_true rfl, hnm, hST, hfl⟩ ⟨Nat.le_of_ble_eq_true rfl, Nat.le_of_ble_eq_true rfl, Nat.le_of_ble_eq_true rfl, Nat.le_of_ble_eq_true rfl⟩ ⟨Nat.le_refl _, hRG, va_S.rf⟩ ⟨fun v hv => ?_, fun v hv => absurd hv List.not_mem_nil⟩ ⟨hent.1, hent.2.1, fun j w hj => ?_⟩
  · intro T hT Y
    obtain ⟨t, st, o, h1, h2, h3⟩ := hW T hT Y
    refine ⟨t, st, o, h1, h2, ?_⟩
    rcases h3 with ⟨⟨r, G', e1, -, e2, -, -⟩, L9, ⟨f1, f2, f3⟩, f4⟩ | ⟨q, -, En, ce, L9, ⟨ex, G', -, e2, -⟩, -⟩
    · have e2 : r = 1 := e2
      rw [e2] at e1
      refine ⟨e1, f1, f2, f3.weaken (fun x hx hlt => ?_) (Nat.le_refl _) (Nat.le_refl _)⟩
      have h9 : s.heap.size ≤ x.base := f4 x hx
      exact absurd hlt (Nat.not_lt.mpr h9)
    · exact e2.elim
  · rcases List.mem_cons.mp hv with h9 | h9
    · cases Option.some.inj h9
      show (-1 : Int) ≤ b
      omega
    · simp at h9
  · have hat : (args0 [rv (b : Int)])[j]? = some (some w) := by
      match j, hj with
      | 0, hj => exact hj
      | 1, hj => cases hj
      | 2, hj => cases hj
      | 3, hj => cases hj
      | 4, hj => cases hj
      | 5, hj => cases hj
      | 6, hj => cases hj
      | 7, hj => cases hj
      | n + 8, hj => cases hj
    have := args0_mem 0 hat
    rw [Nat.zero_add, e8] at this
    exact hent.2.2 _ this
-- ===== YOUR PART ENDS =====
set_option maxHeartbeats 4000000 in
theorem lw_walk (l : Launch) (hflags : l.flags = flags0) (b : Addr) (xs : List Int32) : MetFree l x (headSpec (Jvm.Cond.code x code maxLocals ret :: tables_1) room_1) (lw_P b xs) (fun _ _ _ _ _ => True) lw_Q := by
  refine MetFree.of_bodyS (code := code) (maxLocals := maxLocals) (ret := ret) (by decide) ?_ ?_
  · intro args s m h hn
    obtain ⟨meth, c, h1, h2, h3, h4, h5, h6, -, -⟩ := Cond.code_spec hn (atoms_spec (ws := Jvm.Cond.code x code maxLocals ret :: tables_1) h _ List.mem_cons_self)
    exact ⟨meth, c, h1, h2, h3, h4, h5, h6⟩
  · intro p e s m args below meth c s₁ B hml0 hP _
    obtain ⟨rfl, hx, hbd, hgv⟩ := hP
    obtain ⟨scr, harrAt, hlist, hof, hsmall⟩ := hx
    obtain ⟨hcb, hkn, -, -⟩ := State.arrayAt?_spec harrAt
    have hown : s.vm.findClass R_law = some m.cls := findClass_of_methodNamed B.named
    have hts0 : ∀ c ∈ (Jvm.Cond.code x code maxLocals ret :: tables_1), c.before #[Value.ref b] s = true := atoms_spec (ws := Jvm.Cond.code x code maxLocals ret :: tables_1) B.pre
    have hts : ∀ w ∈ lw_tbl, w.before #[Value.ref b] s = true := k2_hts_sels lw_privs (fun w hw => hts0 w (List.mem_cons_of_mem _ hw)) lw_privs_ok
    have hml : c.maxLocals = 8 := B.maxLocals_eq (hts0 _ List.mem_cons_self)
    have X₀ : Stand p l e room_1 s m #[Value.ref b] below meth c s₁ [] 0 0 := Stand.of_body B
    have hh0 : s₁.heap = s.heap := by rw [B.state]; rfl
    have hsz : scr.slots.size = xs.length := by rw [← Array.length_toList, hlist, List.length_map]
    have hval : ∀ j : Nat, j < xs.length → scr.slots[j]? = some (.int (xs.getD j 0)) := fun j hj => by
      rw [← Array.getElem?_toList, hlist]
      simp [hj]
    have hbl : b < s.heap.size := (Array.getElem?_eq_some_iff.mp hcb).1
    have hX : va_X b xs.length (fun j => xs.getD j 0) s s.heap := ⟨scr, hcb, hof, hkn, hsz, hval⟩
    have K : W p l e room_1 s m #[Value.ref b] below meth c s₁.heap [] 0 0 (lw_Z below #[Value.ref b] s) (entryFrame m ([Value.ref b] : List Value).toArray 8) := by
      rw [hh0]
      refine whole_start l hflags hbd ⟨B.exec, B.bytes, B.returns, hml, hown, hts, hX, hbl, B.notSynchronized, hgv, ?_, (name_of_methodNamed B.named B.method).1⟩
      obtain ⟨meth9, c9, q1, q2, -, -, -, -, q7, -⟩ := Cond.code_spec B.named (hts0 _ List.mem_cons_self)
      cases Option.some.inj (q1.symm.trans B.method)
      cases Option.some.inj (q2.symm.trans (Stand.of_body B).code)
      exact Array.toList_eq_nil_iff.mpr (Array.isEmpty_iff.mp q7)
    obtain ⟨t, a1, o, b1, b2, b3⟩ := K s₁ rfl X₀
    exact ⟨t, o, a1, b1, b2, b3⟩
theorem lw_pre_spec {args : Array Value} {s : State} (h : (Jvm.Cond.and given_1 narrow_1).before args s = true) (hr : rest_1_c.before args s = true) : ∃ (b : Addr) (xs : List Int32), lw_P b xs args s := by
  have hs := flat_of_before _ h
  have hq := flat_of_before _ hr
  have hc : (Cond.count 1).before args s = true := hs _ (by decide +kernel)
  have harr : (Cond.arrayOf (.arg 0) .int).before args s = true := hs _ (by decide +kernel)
  have hle : (Cond.le (.length (.arg 0)) (.int 3072)).before args s = true := hs _ (by decide +kernel)
  have hlen : (Cond.isInt (.length (.arg 0))).before args s = true := hq _ (by decide +kernel)
  have hall : (Cond.all (.arg 0) (.isInt (.elem (.arg 0) (.index 0)))).before args s = true := hq _ (by decide +kernel)
  obtain ⟨b, xs, hb, hx⟩ := State.ints_of_pre rfl harr hlen hall
  have hsm : xs.length < 2 ^ 31 := hx.choose_spec.2.2.2
  have hev : (Term.length (.arg 0)).eval args s none [] s = some (.int xs.length.toInt32) := hx.length_eval hb
  have hv := Cond.le_ints hev (show (Term.int 3072).eval args s none [] s = some (.int 3072) from rfl)
  have hd : xs.length.toInt32 ≤ 3072 := by
    simpa [Cond.before, Cond.holds, hv] using hle
  have hN : xs.length ≤ 3072 := (Int32.ofNat_le_ofNat hsm (by decide)).mp (show Int32.ofNat xs.length ≤ Int32.ofNat 3072 from hd)
  exact ⟨b, xs, Cond.one_arg hc (show args[0]? = some (.ref b) from hb), hx, hN, h⟩
theorem lw_comes (l : Launch) (hflags : l.flags = flags0) : Comes l x (Jvm.Cond.code x code maxLocals ret :: tables_1) room_1 (fun tb e args s => Calls_1 tb e args s ∧ rest_1 tb e args s ∧ Pre_1 tb e args s)
    (fun _ _ args s o t => lw_Q args s o t) := by
  intro p e ha hc hk s m args below hf hfit hheap happ hpre
  obtain ⟨b, xs, hP⟩ := lw_pre_spec hpre.2.2 hpre.2.1
  obtain ⟨k, o, h1, h2, h3, hQ⟩ := lw_walk l hflags b xs p e ha hc hk s m args below hf ((Spec.applies_iff_loose hf).mp happ).1 hP trivial
  exact ⟨k, o, h1, h2, h3, hQ⟩
theorem lw_frame {s t : State} {o : Outcome} {args : Array Value} (h : Framed s o t [] 601024 7293034) :
    Framed s o t (fieldLocs frame_1_writes args s ++ arrayLocs frame_1_arrays args s ++ staticLocs frame_1_statics s) 601024 7293034 := h
theorem lw_limb (L : Cond) (hL : ∀ (args : Array Value) (s t : State), L.after args s (.returned (some (.int 1))) t = true) :
    ArmFor flags0 classFile x code maxLocals ret World_1 tables_1 room_1 Calls_1 rest_1 Pre_1
      (fun tb e a s o t => postC L tb e a s o t ∧ Framed s o t (fieldLocs frame_1_writes a s ++ arrayLocs frame_1_arrays a s ++ staticLocs frame_1_statics s) 601024 7293034) := by
  intro l hflags _ _ p e ha hc hk s m args below hf hfit hheap happ hpre
  obtain ⟨k, o, h1, h2, h3, rfl, hF⟩ := lw_comes l hflags p e ha hc hk s m args below hf hfit hheap happ hpre
  exact ⟨k, _, h1, h2, h3, hL args s _, lw_frame hF⟩
theorem i_vc : Claimed_1_1 ∧ Claimed_1_2 := ⟨lw_limb limb_1_1 (fun args s t => by simp [limb_1_1, Cond.after, Cond.holds, Cond.value]), lw_limb limb_1_2 (fun args s t => Cond.after_iff.mpr (by
  first | (rw [show limb_1_2 = Cond.eq .result (.int 1) from rfl, Cond.eq_ints (x := 1) (y := 1) rfl rfl]; simp; done) | (simp [limb_1_2, Cond.value, Term.eval]; done)))⟩
