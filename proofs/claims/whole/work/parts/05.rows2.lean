section VR2
variable {E : EE} {M : MD} {pc : Nat} {ls : List (Option SV)} {stk : List SV} {G : Gt} {bc bs : Nat} {Q X : Int → Gt → Prop}
def and32 (a b : Int) : Int := (Int32.ofInt a &&& Int32.ofInt b).toInt
def xor32 (a b : Int) : Int := (Int32.ofInt a ^^^ Int32.ofInt b).toInt
def shr32 (a b : Int) : Int := (Int32.ofInt a >>> (Int32.ofInt b &&& 31)).toInt
def ushr32 (a b : Int) : Int := ((Int32.ofInt a).toUInt32 >>> ((Int32.ofInt b).toUInt32 &&& Int32.toUInt32 31)).toInt32.toInt
theorem i32_of (x : Int32) : i32 x.toInt := ⟨by have := Int32.le_toInt x; omega, by have := Int32.toInt_lt x; omega⟩
theorem ofI32 (x : Int32) : Int32.ofInt x.toInt = x := Int32.ofInt_toInt x
theorem tdiv32 {x y : Int} (hx : i32 x) (hy : i32 y) (hr : i32 (x.tdiv y)) : Int32.ofInt x / Int32.ofInt y = Int32.ofInt (x.tdiv y) := by
  rw [← Int32.toInt_inj, Int32.toInt_div, i32_toInt hx, i32_toInt hy, i32_toInt hr]
  have h1 := hr.1
  have h2 := hr.2
  rw [Int.bmod_eq_of_le] <;> omega
theorem tmod32 {x y : Int} (hx : i32 x) (hy : i32 y) (hr : i32 (x.tdiv y)) : Int32.ofInt x - Int32.ofInt x / Int32.ofInt y * Int32.ofInt y = Int32.ofInt (x.tmod y) := by
  rw [tdiv32 hx hy hr, ← Int32.ofInt_mul, ← Int32.ofInt_sub]
  congr 1
  have := Int.tdiv_mul_add_tmod x y
  omega
theorem tdiv64 {x y : Int} (hx : i64 x) (hy : i64 y) (hr : i64 (x.tdiv y)) : Int64.ofInt x / Int64.ofInt y = Int64.ofInt (x.tdiv y) := by
  rw [← Int64.toInt_inj, Int64.toInt_div, i64_toInt hx, i64_toInt hy, i64_toInt hr]
  have h1 := hr.1
  have h2 := hr.2
  rw [Int.bmod_eq_of_le] <;> omega
theorem tmod64 {x y : Int} (hx : i64 x) (hy : i64 y) (hr : i64 (x.tdiv y)) : Int64.ofInt x - Int64.ofInt x / Int64.ofInt y * Int64.ofInt y = Int64.ofInt (x.tmod y) := by
  rw [tdiv64 hx hy hr, ← Int64.ofInt_mul, ← Int64.ofInt_sub]
  congr 1
  have := Int.tdiv_mul_add_tmod x y
  omega
theorem i2l_eq {x : Int} (h : i32 x) : (Int32.ofInt x).toInt64 = Int64.ofInt x := by
  rw [← Int64.toInt_inj, Int32.toInt_toInt64, i32_toInt h, i64_toInt ⟨by have := h.1; omega, by have := h.2; omega⟩]
theorem l2i_eq {x : Int} (h : i32 x) : (Int64.ofInt x).toInt32 = Int32.ofInt x := by
  rw [← Int32.toInt_inj, Int64.toInt_toInt32, i32_toInt h, i64_toInt ⟨by have := h.1; omega, by have := h.2; omega⟩]
  have h1 := h.1
  have h2 := h.2
  rw [Int.bmod_eq_of_le] <;> omega
theorem v_iadd {a b : Int} (d : decode (mb M) pc = .ok (.iadd, 1)) (hr : i32 (a + b)) (k : V E M (pc + 1) ls (iv (a + b) :: stk) G bc bs Q X) : V E M pc ls (iv b :: iv a :: stk) G bc bs Q X := by
  intro p e s m args below meth c R mc ms H locs cells slots lsA F B P O hl
  have O1 := okp O
  have O2 := okp O1.2
  have hb : i32 b := O1.1
  have ha : i32 a := O2.1
  refine lv_iadd F.1 F.2.1 d ?_
  rw [← Int32.ofInt_add]
  exact k F B P (oks O2.2 hr) hl
theorem v_isub {a b : Int} (d : decode (mb M) pc = .ok (.isub, 1)) (hr : i32 (a - b)) (k : V E M (pc + 1) ls (iv (a - b) :: stk) G bc bs Q X) : V E M pc ls (iv b :: iv a :: stk) G bc bs Q X := by
  intro p e s m args below meth c R mc ms H locs cells slots lsA F B P O hl
  have O1 := okp O
  have O2 := okp O1.2
  have hb : i32 b := O1.1
  have ha : i32 a := O2.1
  refine lv_isub F.1 F.2.1 d ?_
  rw [← Int32.ofInt_sub]
  exact k F B P (oks O2.2 hr) hl
theorem v_imul {a b : Int} (d : decode (mb M) pc = .ok (.imul, 1)) (hr : i32 (a * b)) (k : V E M (pc + 1) ls (iv (a * b) :: stk) G bc bs Q X) : V E M pc ls (iv b :: iv a :: stk) G bc bs Q X := by
  intro p e s m args below meth c R mc ms H locs cells slots lsA F B P O hl
  have O1 := okp O
  have O2 := okp O1.2
  have hb : i32 b := O1.1
  have ha : i32 a := O2.1
  refine lv_imul F.1 F.2.1 d ?_
  rw [← Int32.ofInt_mul]
  exact k F B P (oks O2.2 hr) hl
theorem v_ladd {a b : Int} (d : decode (mb M) pc = .ok (.ladd, 1)) (hr : i64 (a + b)) (k : V E M (pc + 1) ls (jv (a + b) :: stk) G bc bs Q X) : V E M pc ls (jv b :: jv a :: stk) G bc bs Q X := by
  intro p e s m args below meth c R mc ms H locs cells slots lsA F B P O hl
  have O1 := okp O
  have O2 := okp O1.2
  have hb : i64 b := O1.1
  have ha : i64 a := O2.1
  refine lv_ladd F.1 F.2.1 d ?_
  rw [← Int64.ofInt_add]
  exact k F B P (oks O2.2 hr) hl
theorem v_lsub {a b : Int} (d : decode (mb M) pc = .ok (.lsub, 1)) (hr : i64 (a - b)) (k : V E M (pc + 1) ls (jv (a - b) :: stk) G bc bs Q X) : V E M pc ls (jv b :: jv a :: stk) G bc bs Q X := by
  intro p e s m args below meth c R mc ms H locs cells slots lsA F B P O hl
  have O1 := okp O
  have O2 := okp O1.2
  have hb : i64 b := O1.1
  have ha : i64 a := O2.1
  refine lv_lsub F.1 F.2.1 d ?_
  rw [← Int64.ofInt_sub]
  exact k F B P (oks O2.2 hr) hl
theorem v_lmul {a b : Int} (d : decode (mb M) pc = .ok (.lmul, 1)) (hr : i64 (a * b)) (k : V E M (pc + 1) ls (jv (a * b) :: stk) G bc bs Q X) : V E M pc ls (jv b :: jv a :: stk) G bc bs Q X := by
  intro p e s m args below meth c R mc ms H locs cells slots lsA F B P O hl
  have O1 := okp O
  have O2 := okp O1.2
  have hb : i64 b := O1.1
  have ha : i64 a := O2.1
  refine lv_lmul F.1 F.2.1 d ?_
  rw [← Int64.ofInt_mul]
  exact k F B P (oks O2.2 hr) hl
theorem v_iand {a b : Int} (d : decode (mb M) pc = .ok (.iand, 1))  (k : V E M (pc + 1) ls (iv (and32 a b) :: stk) G bc bs Q X) : V E M pc ls (iv b :: iv a :: stk) G bc bs Q X := by
  intro p e s m args below meth c R mc ms H locs cells slots lsA F B P O hl
  have O1 := okp O
  have O2 := okp O1.2
  have hb : i32 b := O1.1
  have ha : i32 a := O2.1
  refine lv_iand F.1 F.2.1 d ?_
  have := k (e := e) (below := below) F B P (oks O2.2 (i32_of _)) hl
  rw [List.map_cons, enc_iv, and32, ofI32] at this
  exact this
theorem v_ixor {a b : Int} (d : decode (mb M) pc = .ok (.ixor, 1))  (k : V E M (pc + 1) ls (iv (xor32 a b) :: stk) G bc bs Q X) : V E M pc ls (iv b :: iv a :: stk) G bc bs Q X := by
  intro p e s m args below meth c R mc ms H locs cells slots lsA F B P O hl
  have O1 := okp O
  have O2 := okp O1.2
  have hb : i32 b := O1.1
  have ha : i32 a := O2.1
  refine lv_ixor F.1 F.2.1 d ?_
  have := k (e := e) (below := below) F B P (oks O2.2 (i32_of _)) hl
  rw [List.map_cons, enc_iv, xor32, ofI32] at this
  exact this
theorem v_ishr {a b : Int} (d : decode (mb M) pc = .ok (.ishr, 1))  (k : V E M (pc + 1) ls (iv (shr32 a b) :: stk) G bc bs Q X) : V E M pc ls (iv b :: iv a :: stk) G bc bs Q X := by
  intro p e s m args below meth c R mc ms H locs cells slots lsA F B P O hl
  have O1 := okp O
  have O2 := okp O1.2
  have hb : i32 b := O1.1
  have ha : i32 a := O2.1
  refine lv_ishr F.1 F.2.1 d ?_
  have := k (e := e) (below := below) F B P (oks O2.2 (i32_of _)) hl
  rw [List.map_cons, enc_iv, shr32, ofI32] at this
  exact this
theorem v_iushr {a b : Int} (d : decode (mb M) pc = .ok (.iushr, 1))  (k : V E M (pc + 1) ls (iv (ushr32 a b) :: stk) G bc bs Q X) : V E M pc ls (iv b :: iv a :: stk) G bc bs Q X := by
  intro p e s m args below meth c R mc ms H locs cells slots lsA F B P O hl
  have O1 := okp O
  have O2 := okp O1.2
  have hb : i32 b := O1.1
  have ha : i32 a := O2.1
  refine lv_iushr F.1 F.2.1 d rfl ?_
  have := k (e := e) (below := below) F B P (oks O2.2 (i32_of _)) hl
  rw [List.map_cons, enc_iv, ushr32, ofI32] at this
  exact this
theorem v_idiv {a b : Int} (d : decode (mb M) pc = .ok (.idiv, 1)) (hne : b ≠ 0) (hr : i32 (a.tdiv b)) (k : V E M (pc + 1) ls (iv (a.tdiv b) :: stk) G bc bs Q X) : V E M pc ls (iv b :: iv a :: stk) G bc bs Q X := by
  intro p e s m args below meth c R mc ms H locs cells slots lsA F B P O hl
  have O1 := okp O
  have O2 := okp O1.2
  have hb : i32 b := O1.1
  have ha : i32 a := O2.1
  have hk := k (e := e) (below := below) F B P (oks O2.2 hr) hl
  rw [List.map_cons, enc_iv, ← tdiv32 ha hb hr] at hk
  exact lv_idiv F.1 F.2.1 d (fun h => hne ((i32_eq (y := 0) hb ⟨by decide, by decide⟩).mp h)) hk
theorem v_irem {a b : Int} (d : decode (mb M) pc = .ok (.irem, 1)) (hne : b ≠ 0) (hr : i32 (a.tdiv b)) (hr2 : i32 (a.tmod b)) (k : V E M (pc + 1) ls (iv (a.tmod b) :: stk) G bc bs Q X) : V E M pc ls (iv b :: iv a :: stk) G bc bs Q X := by
  intro p e s m args below meth c R mc ms H locs cells slots lsA F B P O hl
  have O1 := okp O
  have O2 := okp O1.2
  have hb : i32 b := O1.1
  have ha : i32 a := O2.1
  have hk := k (e := e) (below := below) F B P (oks O2.2 hr2) hl
  rw [List.map_cons, enc_iv, ← tmod32 ha hb hr] at hk
  exact lv_irem F.1 F.2.1 d (fun h => hne ((i32_eq (y := 0) hb ⟨by decide, by decide⟩).mp h)) hk
theorem v_ldiv {a b : Int} (d : decode (mb M) pc = .ok (.ldiv, 1)) (hne : b ≠ 0) (hr : i64 (a.tdiv b)) (k : V E M (pc + 1) ls (jv (a.tdiv b) :: stk) G bc bs Q X) : V E M pc ls (jv b :: jv a :: stk) G bc bs Q X := by
  intro p e s m args below meth c R mc ms H locs cells slots lsA F B P O hl
  have O1 := okp O
  have O2 := okp O1.2
  have hb : i64 b := O1.1
  have ha : i64 a := O2.1
  have hk := k (e := e) (below := below) F B P (oks O2.2 hr) hl
  rw [List.map_cons, enc_jv, ← tdiv64 ha hb hr] at hk
  exact lv_ldiv F.1 F.2.1 d (fun h => hne ((i64_eq (y := 0) hb ⟨by decide, by decide⟩).mp h)) hk
theorem v_lrem {a b : Int} (d : decode (mb M) pc = .ok (.lrem, 1)) (hne : b ≠ 0) (hr : i64 (a.tdiv b)) (hr2 : i64 (a.tmod b)) (k : V E M (pc + 1) ls (jv (a.tmod b) :: stk) G bc bs Q X) : V E M pc ls (jv b :: jv a :: stk) G bc bs Q X := by
  intro p e s m args below meth c R mc ms H locs cells slots lsA F B P O hl
  have O1 := okp O
  have O2 := okp O1.2
  have hb : i64 b := O1.1
  have ha : i64 a := O2.1
  have hk := k (e := e) (below := below) F B P (oks O2.2 hr2) hl
  rw [List.map_cons, enc_jv, ← tmod64 ha hb hr] at hk
  exact lv_lrem F.1 F.2.1 d (fun h => hne ((i64_eq (y := 0) hb ⟨by decide, by decide⟩).mp h)) hk
theorem v_lneg {a : Int} (d : decode (mb M) pc = .ok (.lneg, 1)) (hr : i64 (-a)) (k : V E M (pc + 1) ls (jv (-a) :: stk) G bc bs Q X) : V E M pc ls (jv a :: stk) G bc bs Q X := by
  intro p e s m args below meth c R mc ms H locs cells slots lsA F B P O hl
  refine lv_lneg F.1 F.2.1 d ?_
  rw [← Int64.ofInt_neg]
  exact k F B P (oks (okp O).2 hr) hl
theorem v_i2l {a : Int} (d : decode (mb M) pc = .ok (.i2l, 1)) (k : V E M (pc + 1) ls (jv a :: stk) G bc bs Q X) : V E M pc ls (iv a :: stk) G bc bs Q X := by
  intro p e s m args below meth c R mc ms H locs cells slots lsA F B P O hl
  have h : i32 a := (okp O).1
  exact lv_i2l F.1 F.2.1 d (i2l_eq h) (k F B P (oks (okp O).2 ⟨by have := h.1; show (-9223372036854775808 : Int) ≤ a; omega, by have := h.2; show a ≤ (9223372036854775807 : Int); omega⟩) hl)
theorem v_l2i {a : Int} (d : decode (mb M) pc = .ok (.l2i, 1)) (hr : i32 a) (k : V E M (pc + 1) ls (iv a :: stk) G bc bs Q X) : V E M pc ls (jv a :: stk) G bc bs Q X := by
  intro p e s m args below meth c R mc ms H locs cells slots lsA F B P O hl
  exact lv_l2i F.1 F.2.1 d (l2i_eq hr) (k F B P (oks (okp O).2 hr) hl)
theorem v_icmp_eq {a b off : Int} {tgt : Nat} (d : decode (mb M) pc = .ok (.if_icmp .eq off, 3)) (ht : (pc : Int) + off = (tgt : Int)) (kt : a = b → V E M tgt ls stk G bc bs Q X) (kf : a ≠ b → V E M (pc + 3) ls stk G bc bs Q X) : V E M pc ls (iv b :: iv a :: stk) G bc bs Q X := by
  intro p e s m args below meth c R mc ms H locs cells slots lsA F B P O hl
  have O1 := okp O
  have O2 := okp O1.2
  have hb : i32 b := O1.1
  have ha : i32 a := O2.1
  exact lv_icmp_eq F.1 F.2.1 d ht (fun q => kt ((i32_eq ha hb).mp q) F B P O2.2 hl) (fun q => kf ((fun r => q ((i32_eq ha hb).mpr r))) F B P O2.2 hl)
theorem v_if_eq {a off : Int} {tgt : Nat} (d : decode (mb M) pc = .ok (.ifCond .eq off, 3)) (ht : (pc : Int) + off = (tgt : Int)) (kt : a = 0 → V E M tgt ls stk G bc bs Q X) (kf : a ≠ 0 → V E M (pc + 3) ls stk G bc bs Q X) : V E M pc ls (iv a :: stk) G bc bs Q X := by
  intro p e s m args below meth c R mc ms H locs cells slots lsA F B P O hl
  have O2 := okp O
  have hb : i32 0 := ⟨by decide, by decide⟩
  have ha : i32 a := O2.1
  exact lv_if_eq F.1 F.2.1 d ht (fun q => kt ((i32_eq (y := 0) ha hb).mp q) F B P O2.2 hl) (fun q => kf ((fun r => q ((i32_eq (y := 0) ha hb).mpr r))) F B P O2.2 hl)
theorem v_icmp_ne {a b off : Int} {tgt : Nat} (d : decode (mb M) pc = .ok (.if_icmp .ne off, 3)) (ht : (pc : Int) + off = (tgt : Int)) (kt : a ≠ b → V E M tgt ls stk G bc bs Q X) (kf : a = b → V E M (pc + 3) ls stk G bc bs Q X) : V E M pc ls (iv b :: iv a :: stk) G bc bs Q X := by
  intro p e s m args below meth c R mc ms H locs cells slots lsA F B P O hl
  have O1 := okp O
  have O2 := okp O1.2
  have hb : i32 b := O1.1
  have ha : i32 a := O2.1
  exact lv_icmp_ne F.1 F.2.1 d ht (fun q => kt (fun r => q ((i32_eq ha hb).mpr r)) F B P O2.2 hl) (fun q => kf ((i32_eq ha hb).mp q) F B P O2.2 hl)
theorem v_if_ne {a off : Int} {tgt : Nat} (d : decode (mb M) pc = .ok (.ifCond .ne off, 3)) (ht : (pc : Int) + off = (tgt : Int)) (kt : a ≠ 0 → V E M tgt ls stk G bc bs Q X) (kf : a = 0 → V E M (pc + 3) ls stk G bc bs Q X) : V E M pc ls (iv a :: stk) G bc bs Q X := by
  intro p e s m args below meth c R mc ms H locs cells slots lsA F B P O hl
  have O2 := okp O
  have hb : i32 0 := ⟨by decide, by decide⟩
  have ha : i32 a := O2.1
  exact lv_if_ne F.1 F.2.1 d ht (fun q => kt (fun r => q ((i32_eq (y := 0) ha hb).mpr r)) F B P O2.2 hl) (fun q => kf ((i32_eq (y := 0) ha hb).mp q) F B P O2.2 hl)
theorem v_icmp_lt {a b off : Int} {tgt : Nat} (d : decode (mb M) pc = .ok (.if_icmp .lt off, 3)) (ht : (pc : Int) + off = (tgt : Int)) (kt : a < b → V E M tgt ls stk G bc bs Q X) (kf : b ≤ a → V E M (pc + 3) ls stk G bc bs Q X) : V E M pc ls (iv b :: iv a :: stk) G bc bs Q X := by
  intro p e s m args below meth c R mc ms H locs cells slots lsA F B P O hl
  have O1 := okp O
  have O2 := okp O1.2
  have hb : i32 b := O1.1
  have ha : i32 a := O2.1
  exact lv_icmp_lt F.1 F.2.1 d ht (fun q => kt ((i32_lt ha hb).mp q) F B P O2.2 hl) (fun q => kf (Int.not_lt.mp (fun r => q ((i32_lt ha hb).mpr r))) F B P O2.2 hl)
theorem v_if_lt {a off : Int} {tgt : Nat} (d : decode (mb M) pc = .ok (.ifCond .lt off, 3)) (ht : (pc : Int) + off = (tgt : Int)) (kt : a < 0 → V E M tgt ls stk G bc bs Q X) (kf : 0 ≤ a → V E M (pc + 3) ls stk G bc bs Q X) : V E M pc ls (iv a :: stk) G bc bs Q X := by
  intro p e s m args below meth c R mc ms H locs cells slots lsA F B P O hl
  have O2 := okp O
  have hb : i32 0 := ⟨by decide, by decide⟩
  have ha : i32 a := O2.1
  exact lv_if_lt F.1 F.2.1 d ht (fun q => kt ((i32_lt (y := 0) ha hb).mp q) F B P O2.2 hl) (fun q => kf (Int.not_lt.mp (fun r => q ((i32_lt (y := 0) ha hb).mpr r))) F B P O2.2 hl)
theorem v_icmp_ge {a b off : Int} {tgt : Nat} (d : decode (mb M) pc = .ok (.if_icmp .ge off, 3)) (ht : (pc : Int) + off = (tgt : Int)) (kt : b ≤ a → V E M tgt ls stk G bc bs Q X) (kf : a < b → V E M (pc + 3) ls stk G bc bs Q X) : V E M pc ls (iv b :: iv a :: stk) G bc bs Q X := by
  intro p e s m args below meth c R mc ms H locs cells slots lsA F B P O hl
  have O1 := okp O
  have O2 := okp O1.2
  have hb : i32 b := O1.1
  have ha : i32 a := O2.1
  exact lv_icmp_ge F.1 F.2.1 d ht (fun q => kt ((i32_le hb ha).mp q) F B P O2.2 hl) (fun q => kf (Int.not_le.mp (fun r => q ((i32_le hb ha).mpr r))) F B P O2.2 hl)
theorem v_if_ge {a off : Int} {tgt : Nat} (d : decode (mb M) pc = .ok (.ifCond .ge off, 3)) (ht : (pc : Int) + off = (tgt : Int)) (kt : 0 ≤ a → V E M tgt ls stk G bc bs Q X) (kf : a < 0 → V E M (pc + 3) ls stk G bc bs Q X) : V E M pc ls (iv a :: stk) G bc bs Q X := by
  intro p e s m args below meth c R mc ms H locs cells slots lsA F B P O hl
  have O2 := okp O
  have hb : i32 0 := ⟨by decide, by decide⟩
  have ha : i32 a := O2.1
  exact lv_if_ge F.1 F.2.1 d ht (fun q => kt ((i32_le (x := 0) hb ha).mp q) F B P O2.2 hl) (fun q => kf (Int.not_le.mp (fun r => q ((i32_le (x := 0) hb ha).mpr r))) F B P O2.2 hl)
theorem v_icmp_gt {a b off : Int} {tgt : Nat} (d : decode (mb M) pc = .ok (.if_icmp .gt off, 3)) (ht : (pc : Int) + off = (tgt : Int)) (kt : b < a → V E M tgt ls stk G bc bs Q X) (kf : a ≤ b → V E M (pc + 3) ls stk G bc bs Q X) : V E M pc ls (iv b :: iv a :: stk) G bc bs Q X := by
  intro p e s m args below meth c R mc ms H locs cells slots lsA F B P O hl
  have O1 := okp O
  have O2 := okp O1.2
  have hb : i32 b := O1.1
  have ha : i32 a := O2.1
  exact lv_icmp_gt F.1 F.2.1 d ht (fun q => kt ((i32_lt hb ha).mp q) F B P O2.2 hl) (fun q => kf (Int.not_lt.mp (fun r => q ((i32_lt hb ha).mpr r))) F B P O2.2 hl)
theorem v_if_gt {a off : Int} {tgt : Nat} (d : decode (mb M) pc = .ok (.ifCond .gt off, 3)) (ht : (pc : Int) + off = (tgt : Int)) (kt : 0 < a → V E M tgt ls stk G bc bs Q X) (kf : a ≤ 0 → V E M (pc + 3) ls stk G bc bs Q X) : V E M pc ls (iv a :: stk) G bc bs Q X := by
  intro p e s m args below meth c R mc ms H locs cells slots lsA F B P O hl
  have O2 := okp O
  have hb : i32 0 := ⟨by decide, by decide⟩
  have ha : i32 a := O2.1
  exact lv_if_gt F.1 F.2.1 d ht (fun q => kt ((i32_lt (x := 0) hb ha).mp q) F B P O2.2 hl) (fun q => kf (Int.not_lt.mp (fun r => q ((i32_lt (x := 0) hb ha).mpr r))) F B P O2.2 hl)
theorem v_icmp_le {a b off : Int} {tgt : Nat} (d : decode (mb M) pc = .ok (.if_icmp .le off, 3)) (ht : (pc : Int) + off = (tgt : Int)) (kt : a ≤ b → V E M tgt ls stk G bc bs Q X) (kf : b < a → V E M (pc + 3) ls stk G bc bs Q X) : V E M pc ls (iv b :: iv a :: stk) G bc bs Q X := by
  intro p e s m args below meth c R mc ms H locs cells slots lsA F B P O hl
  have O1 := okp O
  have O2 := okp O1.2
  have hb : i32 b := O1.1
  have ha : i32 a := O2.1
  exact lv_icmp_le F.1 F.2.1 d ht (fun q => kt ((i32_le ha hb).mp q) F B P O2.2 hl) (fun q => kf (Int.not_le.mp (fun r => q ((i32_le ha hb).mpr r))) F B P O2.2 hl)
theorem v_if_le {a off : Int} {tgt : Nat} (d : decode (mb M) pc = .ok (.ifCond .le off, 3)) (ht : (pc : Int) + off = (tgt : Int)) (kt : a ≤ 0 → V E M tgt ls stk G bc bs Q X) (kf : 0 < a → V E M (pc + 3) ls stk G bc bs Q X) : V E M pc ls (iv a :: stk) G bc bs Q X := by
  intro p e s m args below meth c R mc ms H locs cells slots lsA F B P O hl
  have O2 := okp O
  have hb : i32 0 := ⟨by decide, by decide⟩
  have ha : i32 a := O2.1
  exact lv_if_le F.1 F.2.1 d ht (fun q => kt ((i32_le (y := 0) ha hb).mp q) F B P O2.2 hl) (fun q => kf (Int.not_le.mp (fun r => q ((i32_le (y := 0) ha hb).mpr r))) F B P O2.2 hl)
def cmpI (a b : Int) : Int := if b < a then 1 else if a = b then 0 else -1
theorem cmpI_eq {a b : Int} (ha : i64 a) (hb : i64 b) : lg_cmp (Int64.ofInt a) (Int64.ofInt b) = Int32.ofInt (cmpI a b) := by
  unfold lg_cmp cmpI
  by_cases h1 : b < a
  · rw [if_pos h1, if_pos ((i64_lt hb ha).mpr h1)]; rfl
  · rw [if_neg h1, if_neg (fun q => h1 ((i64_lt hb ha).mp q))]
    by_cases h2 : a = b
    · rw [if_pos h2, if_pos ((i64_eq ha hb).mpr h2)]; rfl
    · rw [if_neg h2, if_neg (fun q => h2 ((i64_eq ha hb).mp q))]; rfl
theorem cmpI_ok (a b : Int) : i32 (cmpI a b) := by
  unfold cmpI i32
  split
  · omega
  · split <;> omega
theorem v_lcmp {a b : Int} (d : decode (mb M) pc = .ok (.lcmp, 1)) (k : V E M (pc + 1) ls (iv (cmpI a b) :: stk) G bc bs Q X) : V E M pc ls (jv b :: jv a :: stk) G bc bs Q X := by
  intro p e s m args below meth c R mc ms H locs cells slots lsA F B P O hl
  have O1 := okp O
  have O2 := okp O1.2
  refine W.lcmp F.1 F.2.1 d ?_
  rw [cmpI_eq O2.1 O1.1]
  exact k F B P (oks O2.2 (cmpI_ok a b)) hl
theorem v_lcmp_eq {a b off : Int} {tgt : Nat} (d : decode (mb M) pc = .ok (.lcmp, 1)) (d2 : decode (mb M) (pc + 1) = .ok (.ifCond .eq off, 3)) (ht : ((pc + 1 : Nat) : Int) + off = (tgt : Int)) (kt : a = b → V E M tgt ls stk G bc bs Q X) (kf : a ≠ b → V E M (pc + 4) ls stk G bc bs Q X) : V E M pc ls (jv b :: jv a :: stk) G bc bs Q X := by
  refine v_lcmp d (v_if_eq d2 ht (fun q => kt ?_) (fun q => kf ?_)) <;> (unfold cmpI at q; split at q <;> try split at q) <;> omega
theorem v_lcmp_ne {a b off : Int} {tgt : Nat} (d : decode (mb M) pc = .ok (.lcmp, 1)) (d2 : decode (mb M) (pc + 1) = .ok (.ifCond .ne off, 3)) (ht : ((pc + 1 : Nat) : Int) + off = (tgt : Int)) (kt : a ≠ b → V E M tgt ls stk G bc bs Q X) (kf : a = b → V E M (pc + 4) ls stk G bc bs Q X) : V E M pc ls (jv b :: jv a :: stk) G bc bs Q X := by
  refine v_lcmp d (v_if_ne d2 ht (fun q => kt ?_) (fun q => kf ?_)) <;> (unfold cmpI at q; split at q <;> try split at q) <;> omega
theorem v_lcmp_lt {a b off : Int} {tgt : Nat} (d : decode (mb M) pc = .ok (.lcmp, 1)) (d2 : decode (mb M) (pc + 1) = .ok (.ifCond .lt off, 3)) (ht : ((pc + 1 : Nat) : Int) + off = (tgt : Int)) (kt : a < b → V E M tgt ls stk G bc bs Q X) (kf : b ≤ a → V E M (pc + 4) ls stk G bc bs Q X) : V E M pc ls (jv b :: jv a :: stk) G bc bs Q X := by
  refine v_lcmp d (v_if_lt d2 ht (fun q => kt ?_) (fun q => kf ?_)) <;> (unfold cmpI at q; split at q <;> try split at q) <;> omega
theorem v_lcmp_ge {a b off : Int} {tgt : Nat} (d : decode (mb M) pc = .ok (.lcmp, 1)) (d2 : decode (mb M) (pc + 1) = .ok (.ifCond .ge off, 3)) (ht : ((pc + 1 : Nat) : Int) + off = (tgt : Int)) (kt : b ≤ a → V E M tgt ls stk G bc bs Q X) (kf : a < b → V E M (pc + 4) ls stk G bc bs Q X) : V E M pc ls (jv b :: jv a :: stk) G bc bs Q X := by
  refine v_lcmp d (v_if_ge d2 ht (fun q => kt ?_) (fun q => kf ?_)) <;> (unfold cmpI at q; split at q <;> try split at q) <;> omega
theorem v_lcmp_gt {a b off : Int} {tgt : Nat} (d : decode (mb M) pc = .ok (.lcmp, 1)) (d2 : decode (mb M) (pc + 1) = .ok (.ifCond .gt off, 3)) (ht : ((pc + 1 : Nat) : Int) + off = (tgt : Int)) (kt : b < a → V E M tgt ls stk G bc bs Q X) (kf : a ≤ b → V E M (pc + 4) ls stk G bc bs Q X) : V E M pc ls (jv b :: jv a :: stk) G bc bs Q X := by
  refine v_lcmp d (v_if_gt d2 ht (fun q => kt ?_) (fun q => kf ?_)) <;> (unfold cmpI at q; split at q <;> try split at q) <;> omega
theorem v_lcmp_le {a b off : Int} {tgt : Nat} (d : decode (mb M) pc = .ok (.lcmp, 1)) (d2 : decode (mb M) (pc + 1) = .ok (.ifCond .le off, 3)) (ht : ((pc + 1 : Nat) : Int) + off = (tgt : Int)) (kt : a ≤ b → V E M tgt ls stk G bc bs Q X) (kf : b < a → V E M (pc + 4) ls stk G bc bs Q X) : V E M pc ls (jv b :: jv a :: stk) G bc bs Q X := by
  refine v_lcmp d (v_if_le d2 ht (fun q => kt ?_) (fun q => kf ?_)) <;> (unfold cmpI at q; split at q <;> try split at q) <;> omega
theorem v_goto {off : Int} {tgt : Nat} (d : decode (mb M) pc = .ok (.goto off, 3)) (ht : (pc : Int) + off = (tgt : Int)) (k : V E M tgt ls stk G bc bs Q X) : V E M pc ls stk G bc bs Q X := by
  intro p e s m args below meth c R mc ms H locs cells slots lsA F B P O hl
  exact lv_goto F.1 F.2.1 d ht (k F B P O hl)
theorem v_tsw {x dflt lo hi : Int} {offs : Array Int} {len : Nat} (tg : Int → Nat) (td : Nat) (d : decode (mb M) pc = .ok (.tableswitch dflt lo hi offs, len)) (hd : (pc : Int) + dflt = (td : Int)) (hi0 : ∀ j : Nat, j < (hi + 1 - lo).toNat → (pc : Int) + offs.getD j 0 = (tg (lo + j) : Int) ∧ j < offs.size)
    (kin : lo ≤ x → x ≤ hi → V E M (tg x) ls stk G bc bs Q X) (kout : x < lo ∨ hi < x → V E M td ls stk G bc bs Q X) : V E M pc ls (iv x :: stk) G bc bs Q X := by
  intro p e s m args below meth c R mc ms H locs cells slots lsA F B P O hl
  have O1 := okp O
  have hx : i32 x := O1.1
  rw [List.map_cons, enc_iv]
  by_cases h : x < lo ∨ hi < x
  · exact lv_tableOut F.1 F.2.1 d (by rw [i32_toInt hx]; exact h) hd (kout h F B P O1.2 hl)
  · have h1 : lo ≤ x := by omega
    have h2 : x ≤ hi := by omega
    obtain ⟨g1, g2⟩ := hi0 (x - lo).toNat (by omega)
    rw [show lo + ((x - lo).toNat : Int) = x by omega] at g1
    refine lv_tableIn (off := offs.getD (x - lo).toNat 0) F.1 F.2.1 d (by rw [i32_toInt hx]; omega) (by rw [i32_toInt hx]; omega) ?_ g1 (kin h1 h2 F B P O1.2 hl)
    rw [i32_toInt hx, Array.getElem?_eq_getElem g2]
    simp [Array.getD, g2]
theorem v_dup {v : SV} (d : decode (mb M) pc = .ok (.dup, 1)) (hv : ¬ v.1 = 1) (k : V E M (pc + 1) ls (v :: v :: stk) G bc bs Q X) : V E M pc ls (v :: stk) G bc bs Q X := by
  intro p e s m args below meth c R mc ms H locs cells slots lsA F B P O hl
  exact lv_dup F.1 F.2.1 d (by rw [enc_cat, if_neg hv]) (k F B P (oks O (okp O).1) hl)
theorem v_pop {v : SV} (d : decode (mb M) pc = .ok (.pop, 1)) (hv : ¬ v.1 = 1) (k : V E M (pc + 1) ls stk G bc bs Q X) : V E M pc ls (v :: stk) G bc bs Q X := by
  intro p e s m args below meth c R mc ms H locs cells slots lsA F B P O hl
  exact lv_pop F.1 F.2.1 d (by rw [enc_cat, if_neg hv]) (k F B P (okp O).2 hl)
theorem v_dup_x1 {v w : SV} (d : decode (mb M) pc = .ok (.dup_x1, 1)) (hv : ¬ v.1 = 1) (hw : ¬ w.1 = 1) (k : V E M (pc + 1) ls (v :: w :: v :: stk) G bc bs Q X) : V E M pc ls (v :: w :: stk) G bc bs Q X := by
  intro p e s m args below meth c R mc ms H locs cells slots lsA F B P O hl
  have O1 := okp O
  have O2 := okp O1.2
  exact lv_dup_x1 F.1 F.2.1 d (by rw [enc_cat, if_neg hv]) (by rw [enc_cat, if_neg hw]) (k F B P (oks (oks (oks O2.2 O1.1) O2.1) O1.1) hl)
theorem v_dup2 {v w : SV} (d : decode (mb M) pc = .ok (.dup2, 1)) (hv : ¬ v.1 = 1) (hw : ¬ w.1 = 1) (k : V E M (pc + 1) ls (v :: w :: v :: w :: stk) G bc bs Q X) : V E M pc ls (v :: w :: stk) G bc bs Q X := by
  intro p e s m args below meth c R mc ms H locs cells slots lsA F B P O hl
  have O1 := okp O
  have O2 := okp O1.2
  exact lv_dup2_11 F.1 F.2.1 d (by rw [enc_cat, if_neg hv]) (by rw [enc_cat, if_neg hw]) (k F B P (oks (oks O O2.1) O1.1) hl)
theorem enc_null {x : Int} (h : x = -1) : enc (rv x) = .null := by subst h; rfl
theorem enc_ref {x : Int} (h : 0 ≤ x) : enc (rv x) = .ref x.toNat := by rw [enc_rv, o2_pos h]; rfl
theorem v_ifnull {x off : Int} {tgt : Nat} (d : decode (mb M) pc = .ok (.ifnull off, 3)) (ht : (pc : Int) + off = (tgt : Int)) (kt : x = -1 → V E M tgt ls stk G bc bs Q X) (kf : 0 ≤ x → V E M (pc + 3) ls stk G bc bs Q X) : V E M pc ls (rv x :: stk) G bc bs Q X := by
  intro p e s m args below meth c R mc ms H locs cells slots lsA F B P O hl
  have O1 := okp O
  have hx : -1 ≤ x := O1.1
  rw [List.map_cons]
  by_cases h : x = -1
  · rw [enc_null h]
    exact lv_ifnullN F.1 F.2.1 d ht (kt h F B P O1.2 hl)
  · have h0 : 0 ≤ x := by omega
    rw [enc_ref h0]
    exact lv_ifnull F.1 F.2.1 d (kf h0 F B P O1.2 hl)
theorem v_ifnonnull {x off : Int} {tgt : Nat} (d : decode (mb M) pc = .ok (.ifnonnull off, 3)) (ht : (pc : Int) + off = (tgt : Int)) (kt : 0 ≤ x → V E M tgt ls stk G bc bs Q X) (kf : x = -1 → V E M (pc + 3) ls stk G bc bs Q X) : V E M pc ls (rv x :: stk) G bc bs Q X := by
  intro p e s m args below meth c R mc ms H locs cells slots lsA F B P O hl
  have O1 := okp O
  have hx : -1 ≤ x := O1.1
  rw [List.map_cons]
  by_cases h : x = -1
  · rw [enc_null h]
    exact lv_ifnonnullN F.1 F.2.1 d (kf h F B P O1.2 hl)
  · have h0 : 0 ≤ x := by omega
    rw [enc_ref h0]
    exact lv_ifnonnull F.1 F.2.1 d ht (kt h0 F B P O1.2 hl)
theorem v_acmp_eq {x y off : Int} {tgt : Nat} (d : decode (mb M) pc = .ok (.if_acmp .eq off, 3)) (ht : (pc : Int) + off = (tgt : Int)) (kt : x = y → V E M tgt ls stk G bc bs Q X) (kf : x ≠ y → V E M (pc + 3) ls stk G bc bs Q X) : V E M pc ls (rv y :: rv x :: stk) G bc bs Q X := by
  intro p e s m args below meth c R mc ms H locs cells slots lsA F B P O hl
  have O1 := okp O
  have O2 := okp O1.2
  have hx : -1 ≤ x := O2.1
  have hy : -1 ≤ y := O1.1
  exact lv_acmp_eq F.1 F.2.1 d ht (fun q => kt ((o2_inj hx hy).mp q) F B P O2.2 hl) (fun q => kf (fun r => q ((o2_inj hx hy).mpr r)) F B P O2.2 hl)
theorem v_acmp_ne {x y off : Int} {tgt : Nat} (d : decode (mb M) pc = .ok (.if_acmp .ne off, 3)) (ht : (pc : Int) + off = (tgt : Int)) (kt : x ≠ y → V E M tgt ls stk G bc bs Q X) (kf : x = y → V E M (pc + 3) ls stk G bc bs Q X) : V E M pc ls (rv y :: rv x :: stk) G bc bs Q X := by
  intro p e s m args below meth c R mc ms H locs cells slots lsA F B P O hl
  have O1 := okp O
  have O2 := okp O1.2
  have hx : -1 ≤ x := O2.1
  have hy : -1 ≤ y := O1.1
  exact lv_acmp_ne F.1 F.2.1 d ht (fun q => kt (fun r => q ((o2_inj hx hy).mpr r)) F B P O2.2 hl) (fun q => kf ((o2_inj hx hy).mp q) F B P O2.2 hl)
end VR2
