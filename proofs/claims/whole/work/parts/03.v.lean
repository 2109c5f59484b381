/-! V: the machine over maps of fields, whole numbers in place of words -/
abbrev SV : Type := Nat × Int
def iv (x : Int) : SV := (0, x)
def jv (x : Int) : SV := (1, x)
def rv (x : Int) : SV := (2, x)
def i32 (x : Int) : Prop := -2147483648 ≤ x ∧ x ≤ 2147483647
def i64 (x : Int) : Prop := -9223372036854775808 ≤ x ∧ x ≤ 9223372036854775807
def sokT (t : Nat) (x : Int) : Prop := match t with
  | 0 => i32 x
  | 1 => i64 x
  | 2 => -1 ≤ x
  | _ => x = 0 ∨ x = 1
def sok (v : SV) : Prop := sokT v.1 v.2
def o2 (x : Int) : Option Nat := if x < 0 then none else some x.toNat
def encT (t : Nat) (x : Int) : Value := match t with
  | 1 => .long (Int64.ofInt x)
  | 2 => va_rf (o2 x)
  | _ => .int (Int32.ofInt x)
def enc (v : SV) : Value := encT v.1 v.2
theorem enc_iv (x : Int) : enc (iv x) = .int (Int32.ofInt x) := rfl
theorem enc_jv (x : Int) : enc (jv x) = .long (Int64.ofInt x) := rfl
theorem enc_rv (x : Int) : enc (rv x) = va_rf (o2 x) := rfl
theorem o2_null : o2 (-1) = none := rfl
theorem o2_nat (a : Nat) : o2 (a : Int) = some a := by
  unfold o2
  rw [if_neg (by omega)]
  simp
theorem o2_pos {x : Int} (h : 0 ≤ x) : o2 x = some x.toNat := by
  unfold o2
  rw [if_neg (by omega)]
theorem o2_neg {x : Int} (h : x < 0) : o2 x = none := by
  unfold o2
  rw [if_pos h]
theorem o2_inj {x y : Int} (hx : -1 ≤ x) (hy : -1 ≤ y) : o2 x = o2 y ↔ x = y := by
  unfold o2
  by_cases h1 : x < 0 <;> by_cases h2 : y < 0 <;> simp [h1, h2] <;> omega
theorem i32_toInt {x : Int} (h : i32 x) : (Int32.ofInt x).toInt = x := Int32.toInt_ofInt_of_le (by have := h.1; simpa using this) (by have := h.2; show x < 2 ^ 31; omega)
theorem i64_toInt {x : Int} (h : i64 x) : (Int64.ofInt x).toInt = x := Int64.toInt_ofInt_of_le (by have := h.1; simpa using this) (by have := h.2; show x < 2 ^ 63; omega)
theorem i32_toNat {x : Int} (h : i32 x) : (Int32.ofInt x).toNatClampNeg = x.toNat := by
  show (Int32.ofInt x).toInt.toNat = _
  rw [i32_toInt h]
theorem i32_lt {x y : Int} (hx : i32 x) (hy : i32 y) : Int32.ofInt x < Int32.ofInt y ↔ x < y := by
  rw [Int32.lt_iff_toInt_lt, i32_toInt hx, i32_toInt hy]
theorem i32_le {x y : Int} (hx : i32 x) (hy : i32 y) : Int32.ofInt x ≤ Int32.ofInt y ↔ x ≤ y := by
  rw [Int32.le_iff_toInt_le, i32_toInt hx, i32_toInt hy]
theorem i32_eq {x y : Int} (hx : i32 x) (hy : i32 y) : Int32.ofInt x = Int32.ofInt y ↔ x = y := by
  rw [← Int32.toInt_inj, i32_toInt hx, i32_toInt hy]
theorem i32_lt0 {x : Int} (hx : i32 x) : Int32.ofInt x < 0 ↔ x < 0 := i32_lt (y := 0) hx ⟨by decide, by decide⟩
theorem i64_lt {x y : Int} (hx : i64 x) (hy : i64 y) : Int64.ofInt x < Int64.ofInt y ↔ x < y := by
  rw [Int64.lt_iff_toInt_lt, i64_toInt hx, i64_toInt hy]
theorem i64_eq {x y : Int} (hx : i64 x) (hy : i64 y) : Int64.ofInt x = Int64.ofInt y ↔ x = y := by
  rw [← Int64.toInt_inj, i64_toInt hx, i64_toInt hy]
/-! the maps: the kind of each address (0: none, c + 1: class c, 15 int[], 16 long[], 17 boolean[], 18 Object[], 19 a static int[]), fields, lengths, elements -/
abbrev Gt : Type := (Int → Nat) × (Nat → Nat → Int → Int) × (Int → Int) × (Int → Int → Int)
def gcl (G : Gt) (a : Int) : Nat := G.1 a
def gfd (G : Gt) (c k : Nat) (a : Int) : Int := G.2.1 c k a
def gln (G : Gt) (a : Int) : Int := G.2.2.1 a
def gel (G : Gt) (a i : Int) : Int := G.2.2.2 a i
/-- launch, class numbers and slots, array classes, the first new cell, the empty row of lists, the row of bounds, the class object of Object[] -/
abbrev EE : Type := Launch × va_G × (Nat → ClassId) × Nat × Nat × Nat × Nat × Nat × Nat × (Nat → Int32)
def eL (E : EE) : Launch := E.1
def eD (E : EE) : va_G := E.2.1
def eK (E : EE) : Nat → ClassId := E.2.2.1
def eb (E : EE) : Nat := E.2.2.2.1
def eE (E : EE) : Nat := E.2.2.2.2.1
def eB (E : EE) : Nat := E.2.2.2.2.2.1
def eM (E : EE) : Nat := E.2.2.2.2.2.2.1
/-- the law's script: its address and what it holds -/
def eS (E : EE) : Nat × Nat × (Nat → Int32) := E.2.2.2.2.2.2.2
def eA (E : EE) : Nat → Prop := fun q => eb E ≤ q
def fsOf (G : Gt) (c : Nat) (a : Int) : List Value := (List.range (fN c)).map fun k => encT (fty c k) (gfd G c k a)
def entO (E : EE) (G : Gt) (q : Nat) : va_E :=
  if gcl G q = 15 ∨ gcl G q = 19 then .inl (eK E 0, (gln G q).toNat, .inl (fun j => Int32.ofInt (gel G q j)))
  else if gcl G q = 16 then .inl (eK E 1, (gln G q).toNat, .inr (.inl (fun j => Int64.ofInt (gel G q j))))
  else if gcl G q = 17 then .inl (eK E 2, (gln G q).toNat, .inl (fun j => Int32.ofInt (gel G q j)))
  else if gcl G q = 18 then .inl (eK E 3, (gln G q).toNat, .inr (.inr (.inr (.inr (fun j => o2 (gel G q j))))))
  else .inr (gcl G q - 1, fsOf G (gcl G q - 1) q)
def okE (t : Nat) : Prop := 1 ≤ t ∧ t ≤ 14
def wt (E : EE) (G : Gt) : Prop :=
  (∀ a, gcl G a ≠ 0 → 0 ≤ a ∧ gcl G a ≤ 19) ∧
  (∀ a : Int, a < (eb E : Int) → gcl G a ≠ 0 → gcl G a = 19 ∨ (gcl G a = 18 ∧ gln G a = 0)) ∧
  (∀ (c k : Nat) (a : Int), c < 14 → gcl G a = c + 1 → k < fN c → sokT (fty c k) (gfd G c k a)) ∧
  (∀ a, 15 ≤ gcl G a → 0 ≤ gln G a ∧ gln G a ≤ 2147483647) ∧
  (∀ a i, gcl G a = 15 ∨ gcl G a = 19 → i32 (gel G a i)) ∧
  (∀ a i, gcl G a = 16 → i64 (gel G a i)) ∧
  (∀ a i, gcl G a = 17 → gel G a i = 0 ∨ gel G a i = 1) ∧
  (∀ a i, gcl G a = 18 → gel G a i = -1 ∨ okE (gcl G (gel G a i))) ∧
  (gcl G (eE E) = 18 ∧ gln G (eE E) = 0) ∧
  (gcl G (eB E) = 19 ∧ gln G (eB E) = 5 ∧ gel G (eB E) 0 = 1000 ∧ gel G (eB E) 1 = 2000 ∧ gel G (eB E) 2 = 5000 ∧ gel G (eB E) 3 = 10000 ∧ gel G (eB E) 4 = 20000) ∧
  (∀ a : Int, gcl G a = 19 → a < (eb E : Int))
/-- an array that was there before: the shared empty one, the bounds, the script; its class number stands in E -/
def oldA (E : EE) (G : Gt) (q : Nat) (H : Heap) : Prop :=
  ∃ cell : Cell, H[q]? = some cell ∧ cell.cls = eK E (q + 4) ∧ cell.vm ≠ .unknown ∧ (∀ k, cell.vm ≠ .statics k) ∧ (gln G q).toNat ≤ cell.slots.size ∧ cell.slots.size.toInt32 = Int32.ofInt (gln G q) ∧
  (gcl G q = 19 → (q = eB E ∨ q = (eS E).1) ∧ ∀ j : Nat, j < (gln G q).toNat → cell.slots[j]? = some (.int (Int32.ofInt (gel G q j)))) ∧ (gcl G q = 18 → q = eE E ∧ cell.cls = eK E 3)
theorem oldA.same {E : EE} {G G' : Gt} {q : Nat} {H H1 : Heap} (h : oldA E G q H) (hH : H1[q]? = H[q]?) (h1 : gcl G' q = gcl G q) (h2 : gln G' q = gln G q) (h3 : ∀ j, gel G' q j = gel G q j) : oldA E G' q H1 := by
  obtain ⟨cell, a1, a2, a3, a4, a5, a6, a7, a8⟩ := h
  exact ⟨cell, by rw [hH]; exact a1, a2, a3, a4, by rw [h2]; exact a5, by rw [h2]; exact a6, fun h => by rw [h1] at h; rw [h2]; exact ⟨(a7 h).1, fun j hj => by rw [h3]; exact (a7 h).2 j hj⟩, fun h => by rw [h1] at h; exact a8 h⟩
def RG (E : EE) (G : Gt) (H : Heap) : Prop :=
  wt E G ∧ (∃ L : List Nat, (∀ q : Nat, q ∈ L ↔ eb E ≤ q ∧ gcl G q ≠ 0) ∧ va_P (eD E) myCl (va_pl L (entO E G)) H ∧ va_D (eA E) (va_pl L (entO E G))) ∧
  (∀ q : Nat, q < eb E → gcl G q ≠ 0 → oldA E G q H)
def RP (E : EE) (s : State) (G : Gt) (H : Heap) (locs : List Loc) : Prop := eb E ≤ s.heap.size ∧ RG E G H ∧ va_S (eA E) s.heap H locs
/-! methods -/
def mY (M : MD) : MethodName := M.1
def mb (M : MD) : ByteArray := M.2.1
def mL (M : MD) : Nat := M.2.2.1
def mret (M : MD) : Option FieldType := M.2.2.2.1
def mh (M : MD) : List (Nat × Nat × Nat × Nat) := M.2.2.2.2.1
def mfr (M : MD) : Nat := M.2.2.2.2.2.1
def mlo (M : MD) : Nat := M.2.2.2.2.2.2
def mo (M : MD) : String := (mY M).cls
def WS : List Cond := lw_tbl.filter goodWord
def tys4 (E : EE) : List (ClassId × FieldType) := [(eK E 0, .int), (eK E 1, .long), (eK E 2, .boolean), (eK E 3, .object "java/lang/Object")]
def isNs : Cond → Bool
  | .castable .. | .methodLinkNest .. | .fieldLinkNest .. | .declares .. => true
  | _ => false
/-- words that aren't of the tables' steady kind: kept beside -/
def NS : List Cond := lw_tbl.filter isNs
theorem Ns.warm {w : Cond} (h : isNs w = true) {s U : State} (hW : s.WarmedH U.vm) (hZ : va_Nw w s) : va_Nw w U := by
  cases w with
  | castable => exact va_Nw.warmC hW hZ
  | methodLinkNest => exact va_Nw.warmM hW hZ
  | fieldLinkNest => exact va_Nw.warmF hW hZ
  | declares => exact va_Nw.warmD hW hZ
  | _ => cases h
def txts : List (String × Nat × String) := [("Ticksilo", 91, "a label is out of range"), ("Ticksilo", 96, "the time is out of range"), ("Ticksilo", 101, "the value is out of range"), ("Ticksilo", 312, "no such series"), ("Ticksilo", 167, "no such selector"), ("Ticksilo", 131, "from or to is out of range"), ("Ticksilo", 137, "times is out of range"), ("Ticksilo", 141, "time would be above its end"), ("Ticksilo", 154, "records is out of range"), ("Ticksilo", 164, "no such block"), ("Ticksilo", 169, "a set of values is out of range"), ("Ticksilo", 186, "what, one or two is out of range"), ("Ticksilo", 196, "too many words, or too few results"), ("Ticksilo", 212, "the draft does not leave just one result"), ("Ticksilo", 233, "no such entry"), ("Ticksilo", 235, "two is out of range"), ("Ticksilo", 237, "not just one result, or too many rules"), ("Ticksilo", 242, "wait or keep is out of range"), ("Ticksilo", 317, "no such alert"), ("Ticksilo", 251, "no such lower alert"), ("Ticksilo", 258, "until is out of range"), ("Ticksilo", 260, "too many silences"), ("Ticksilo", 271, "what is out of range"), ("Ticksilo", 282, "no such notice"), ("Ticksilo", 287, "level, span or what is out of range"), ("Ticksilo", 296, "level, time or window is out of range"), ("Ticksilo", 307, "many is out of range")]
/-- exceptions that a row of a table lets go by -/
def ncP : List (String × String) := [("java/lang/IllegalArgumentException", "java/lang/IndexOutOfBoundsException"), ("java/lang/IllegalStateException", "java/lang/IndexOutOfBoundsException"), ("java/lang/IllegalStateException", "java/lang/IllegalArgumentException"), ("java/lang/IllegalArgumentException", "java/lang/IllegalStateException"), ("java/lang/IndexOutOfBoundsException", "java/lang/IllegalArgumentException"), ("java/lang/IndexOutOfBoundsException", "java/lang/IllegalStateException")]
def NCX (U : State) : Prop := ∀ q ∈ ncP, va_Nc q.1 q.2 U
def SCR (E : EE) (U : State) : Prop := ((eS E).1 < eb E ∧ (eS E).2.1 ≤ 3072 ∧ ∃ cell : Cell, U.heap[(eS E).1]? = some cell ∧ cell.slots.size = (eS E).2.1 ∧ ∀ j : Nat, j < (eS E).2.1 → cell.slots[j]? = some (.int ((eS E).2.2 j))) ∧
  ArrOfT U (eK E (eB E + 4)) .int ∧ ArrOfT U (eK E ((eS E).1 + 4)) .int ∧ ArrOfT U (eK E (eE E + 4)) (.object "java/lang/Object")
def STF (E : EE) (U : State) : Prop :=
  (va_Z "java/util/ArrayList" "DEFAULTCAPACITY_EMPTY_ELEMENTDATA" "[Ljava/lang/Object;" (.ref (eE E)) (eA E) U U.heap ∧ NCX U ∧ SCR E U) ∧
  va_Z "Ticksilo" "BOUNDS" "[I" (.ref (eB E)) (eA E) U U.heap ∧
  vx_Zq Bundle.tN "UNASSIGNED_STACK" Bundle.steD (eA E) U U.heap ∧ vx_Zq Bundle.tN "SUPPRESSED_SENTINEL" Bundle.listD (eA E) U U.heap ∧
  (∀ q ∈ txts, ∃ sa : Nat, vk_R q.1 q.2.1 q.2.2 sa U) ∧ va_Mi "[Ljava/lang/Object;" (eM E) U ∧ va_AO "java/lang/Object" U ∧ ∀ w ∈ NS, va_Nw w U
theorem STF.go {E : EE} {s U : State} (h : STF E s) (hb : eb E ≤ s.heap.size) (hW : s.WarmedH U.vm) (hq : ∀ q : Nat, q < eb E → U.heap[q]? = s.heap[q]?) : STF E U := by
  obtain ⟨h1, h2, h3, h4, h5, h6, h7, h8⟩ := h
  have kq : ∀ a : Nat, a < s.heap.size → ¬ eA E a → U.heap[a]? = s.heap[a]? := fun a _ h => hq a (by unfold eA at h; omega)
  have hal := hW.alike
  refine ⟨⟨(va_Z.moved hal h1.1).kept kq, fun q hq => va_Nc.moved hal (h1.2.1 q hq), ⟨h1.2.2.1.1, h1.2.2.1.2.1, by rw [hq _ h1.2.2.1.1]; exact h1.2.2.1.2.2⟩, arrOfT_moved hal h1.2.2.2.1, arrOfT_moved hal h1.2.2.2.2.1, arrOfT_moved hal h1.2.2.2.2.2⟩, (va_Z.moved hal h2).kept kq, (vx_Zq.moved hal h3).kept kq, (vx_Zq.moved hal h4).kept kq, fun q hq => ?_, va_Mi.moved hal h6, va_AO.moved hal h7, fun w hw => Ns.warm (List.mem_filter.mp hw).2 hW (h8 w hw)⟩
  obtain ⟨sa, h⟩ := h5 q hq
  exact ⟨sa, vk_R.warm hW h⟩

theorem STF.same {E : EE} {s U : State} (hv : U.vm = s.vm) (hh : U.heap = s.heap) (h : STF E s) : STF E U := by
  obtain ⟨h1, h2, h3, h4, h5, h6, h7, h8⟩ := h
  have hal : s.vm.Alike U.vm := by rw [hv]; exact Vm.Alike.refl _
  refine ⟨⟨by rw [hh]; exact va_Z.moved hal h1.1, fun q hq => va_Nc.moved hal (h1.2.1 q hq), ⟨h1.2.2.1.1, h1.2.2.1.2.1, by rw [hh]; exact h1.2.2.1.2.2⟩, arrOfT_moved hal h1.2.2.2.1, arrOfT_moved hal h1.2.2.2.2.1, arrOfT_moved hal h1.2.2.2.2.2⟩, by rw [hh]; exact va_Z.moved hal h2, by rw [hh]; exact vx_Zq.moved hal h3, by rw [hh]; exact vx_Zq.moved hal h4, fun q hq => ?_, va_Mi.moved hal h6, va_AO.moved hal h7, fun w hw => ?_⟩
  · obtain ⟨sa, h⟩ := h5 q hq
    exact ⟨sa, vk_R.same hv h⟩
  · have hg := (List.mem_filter.mp hw).2
    have ho : w.onTables = true := by cases w <;> first | rfl | cases hg
    exact va_Nw.same ho hv.symm (h8 w hw)
def FX (E : EE) (M : MD) (p : Program) (s : State) (m : MethodId) (args : Array Value) (meth : Method) (c : Code) (R : Room) : Prop :=
  p.tables.exec = Jvm.exec ∧ c.code = mb M ∧ c.maxLocals = mL M ∧ s.vm.findClass (mo M) = some m.cls ∧ (∀ w ∈ WS, w.before args s = true) ∧
  va_K (eD E) myCl (tys4 E) s ∧ meth.sig.returnType = mret M ∧ meth.locks = false ∧ c.exceptionTable.toList = tableOf (mh M) ∧
  mfr M ≤ R.frames ∧ mlo M ≤ R.locals ∧ meth.name = (mY M).name ∧ STF E s ∧ (eL E).stackTraces = false
/-- the kind of what is answered: whole number, long, reference, boolean -/
def rT (t : FieldType) : Nat := match t with
  | .long => 1
  | .object _ => 2
  | .array _ => 2
  | .boolean => 3
  | _ => 0
def encR (r : Option FieldType) (x : Int) : Option Value := match r with
  | none => none
  | some t => some (encT (rT t) x)
def sokR (r : Option FieldType) (x : Int) : Prop := match r with
  | none => True
  | some t => sokT (rT t) x
def exN (e : Int) : String := if e = 1 then "java/lang/IllegalArgumentException" else if e = 2 then "java/lang/IllegalStateException" else "java/lang/IndexOutOfBoundsException"
def QcR (E : EE) (M : MD) (Q : Int → Gt → Prop) : Array Value → State → Outcome → State → Prop := fun _ st o t =>
  ∃ (r : Int) (G' : Gt), o = .returned (encR (mret M) r) ∧ sokR (mret M) r ∧ Q r G' ∧ RG E G' t.heap ∧ va_F (eA E) st t
def XcR (E : EE) (X : Int → Gt → Prop) : String → State → State → Prop := fun En st t =>
  ∃ (e : Int) (G' : Gt), En = exN e ∧ X e G' ∧ RG E G' t.heap ∧ va_F (eA E) st t
def lvh (lsA : Array Slot) (n : Nat) (ls : List (Option SV)) : Prop := lsA.size = n ∧ lv_wf lsA ∧ ∀ (j : Nat) (w : SV), ls[j]? = some (some w) → lsA[j]? = some (.val (enc w))
def V (E : EE) (M : MD) (pc : Nat) (ls : List (Option SV)) (stk : List SV) (G : Gt) (bc bs : Nat) (Q X : Int → Gt → Prop) : Prop :=
  ∀ ⦃p : Program⦄ ⦃e : Env⦄ ⦃s : State⦄ ⦃m : MethodId⦄ ⦃args : Array Value⦄ ⦃below : List Frame⦄ ⦃meth : Method⦄ ⦃c : Code⦄ ⦃R : Room⦄ ⦃mc ms : Nat⦄ ⦃H : Heap⦄ ⦃locs : List Loc⦄ ⦃cells slots : Nat⦄ ⦃lsA : Array Slot⦄,
    FX E M p s m args meth c R → (cells + bc ≤ mc ∧ slots + bs ≤ ms ∧ mc ≤ R.cells ∧ ms ≤ R.slots) → RP E s G H locs → ((∀ v, some v ∈ ls → sok v) ∧ ∀ v ∈ stk, sok v) → lvh lsA (mL M) ls →
    W p (eL E) e R s m args below meth c H locs cells slots (vx_MQ below (QcR E M Q) (XcR E X) args s mc ms (eA E)) (F0 m pc lsA (stk.map enc))
def BW (E : EE) (G : Gt) (svs : List SV) (U : State) : Prop := eb E ≤ U.heap.size ∧ RG E G U.heap ∧ (∀ v ∈ svs, sok v) ∧ va_K (eD E) myCl (tys4 E) U ∧ STF E U ∧ (eL E).stackTraces = false
def rmM (M : MD) (mc ms : Nat) : Room := { frames := mfr M, cells := mc, slots := ms, locals := mlo M }
def wsM (M : MD) : List Cond := .code (mY M) (mb M) (mL M) (mret M) :: WS
/-- a method's contract: from G with these arguments it answers r with Q r G', or throws e with X e G', and makes at most mc cells of ms slots -/
def Ok (E : EE) (M : MD) (svs : List SV) (G : Gt) (mc ms : Nat) (Q X : Int → Gt → Prop) : Prop :=
  vx_Met (eL E) (mY M) (wsM M) (rmM M mc ms) (va_Pc (svs.map enc) (BW E G svs)) (QcR E M Q) (XcR E X) mc ms (eA E)
/-- positional locals of the arguments -/
def args0 : List SV → List (Option SV)
  | [] => []
  | v :: r => if v.1 = 1 then some v :: none :: args0 r else some v :: args0 r
