theorem iniMath : Cond.initialized "java/lang/Math" ∈ WS := wsm 72 (by decide +kernel)
theorem mS_imax : Cond.static Lib.Math.max.name ∈ WS := wsm 247 (by decide +kernel)
theorem mC_imax : Cond.code Lib.Math.max.name Lib.Math.max.code 2 (some .int) ∈ WS := wsm 248 (by decide +kernel)
theorem mS_imin : Cond.static Lib.Math.min.name ∈ WS := wsm 286 (by decide +kernel)
theorem mC_imin : Cond.code Lib.Math.min.name Lib.Math.min.code 2 (some .int) ∈ WS := wsm 287 (by decide +kernel)
theorem mS_lmax : Cond.static Lib.MathLoose.max_long.x ∈ WS := wsm 1082 (by decide +kernel)
theorem mC_lmax : Cond.code Lib.MathLoose.max_long.x Lib.MathLoose.max_long.code 4 (some .long) ∈ WS := wsm 1083 (by decide +kernel)
theorem mS_lmin : Cond.static Lib.MathLoose.min_long.x ∈ WS := wsm 1071 (by decide +kernel)
theorem mC_lmin : Cond.code Lib.MathLoose.min_long.x Lib.MathLoose.min_long.code 4 (some .long) ∈ WS := wsm 1072 (by decide +kernel)
section VM
variable {E : EE} {M : MD} {pc : Nat} {ls : List (Option SV)} {stk : List SV} {G : Gt} {bc bs : Nat} {Q X : Int → Gt → Prop}
theorem v_imax {idx : Nat} {a b : Int} (d : decode (mb M) pc = .ok (.invokestatic idx, 3)) (hw : Cond.methodLink (mo M) idx Lib.Math.max.name ∈ WS) (hfr : 1 ≤ mfr M) (hlo : 30 ≤ mlo M) (hsc : scat stk ≤ 8) (k : V E M (pc + 3) ls (iv (max a b) :: stk) G bc bs Q X) : V E M pc ls (iv b :: iv a :: stk) G bc bs Q X := by
  intro p e s m args below meth c0 R mc ms H locs cells slots lsA F B P O hl
  have O1 := okp O
  have O2 := okp O1.2
  have hb : i32 b := O1.1
  have ha : i32 a := O2.1
  have hr1 : mfr M ≤ R.frames := F.2.2.2.2.2.2.2.2.2.1
  have hr2 : mlo M ≤ R.locals := F.2.2.2.2.2.2.2.2.2.2.1
  have hm : i32 (max a b) := by have h1 := ha.1; have h2 := ha.2; have h3 := hb.1; have h4 := hb.2; constructor <;> omega
  refine va_mmax F.1 F.2.1 (F.2.2.1.trans hl.1.symm) F.2.2.2.1 (F.2.2.2.2.1 _ hw) (F.2.2.2.2.1 _ mS_imax) (F.2.2.2.2.1 _ iniMath) (F.2.2.2.2.1 _ mC_imax) (by omega) (by rw [scat_eq]; omega) (by omega) (by omega) d ?_
  have hk := k (e := e) (below := below) F B P (oks O2.2 hm) hl
  have e1 : Int32.ofInt (max a b) = if Int32.ofInt a < Int32.ofInt b then Int32.ofInt b else Int32.ofInt a := by
    by_cases h : a < b
    · rw [if_pos ((i32_lt ha hb).mpr h)]; congr 1; omega
    · rw [if_neg (fun q => h ((i32_lt ha hb).mp q))]; congr 1; omega
  rw [List.map_cons, enc_iv, e1] at hk
  exact hk
theorem v_imin {idx : Nat} {a b : Int} (d : decode (mb M) pc = .ok (.invokestatic idx, 3)) (hw : Cond.methodLink (mo M) idx Lib.Math.min.name ∈ WS) (hfr : 1 ≤ mfr M) (hlo : 30 ≤ mlo M) (hsc : scat stk ≤ 8) (k : V E M (pc + 3) ls (iv (min a b) :: stk) G bc bs Q X) : V E M pc ls (iv b :: iv a :: stk) G bc bs Q X := by
  intro p e s m args below meth c0 R mc ms H locs cells slots lsA F B P O hl
  have O1 := okp O
  have O2 := okp O1.2
  have hb : i32 b := O1.1
  have ha : i32 a := O2.1
  have hr1 : mfr M ≤ R.frames := F.2.2.2.2.2.2.2.2.2.1
  have hr2 : mlo M ≤ R.locals := F.2.2.2.2.2.2.2.2.2.2.1
  have hm : i32 (min a b) := by have h1 := ha.1; have h2 := ha.2; have h3 := hb.1; have h4 := hb.2; constructor <;> omega
  refine va_mmin F.1 F.2.1 (F.2.2.1.trans hl.1.symm) F.2.2.2.1 (F.2.2.2.2.1 _ hw) (F.2.2.2.2.1 _ mS_imin) (F.2.2.2.2.1 _ iniMath) (F.2.2.2.2.1 _ mC_imin) (by omega) (by rw [scat_eq]; omega) (by omega) (by omega) d ?_
  have hk := k (e := e) (below := below) F B P (oks O2.2 hm) hl
  have e1 : Int32.ofInt (min a b) = if Int32.ofInt b < Int32.ofInt a then Int32.ofInt b else Int32.ofInt a := by
    by_cases h : b < a
    · rw [if_pos ((i32_lt hb ha).mpr h)]; congr 1; omega
    · rw [if_neg (fun q => h ((i32_lt hb ha).mp q))]; congr 1; omega
  rw [List.map_cons, enc_iv, e1] at hk
  exact hk
theorem v_lmax {idx : Nat} {a b : Int} (d : decode (mb M) pc = .ok (.invokestatic idx, 3)) (hw : Cond.methodLink (mo M) idx Lib.MathLoose.max_long.x ∈ WS) (hfr : 1 ≤ mfr M) (hlo : 30 ≤ mlo M) (hsc : scat stk ≤ 8) (k : V E M (pc + 3) ls (jv (max a b) :: stk) G bc bs Q X) : V E M pc ls (jv b :: jv a :: stk) G bc bs Q X := by
  intro p e s m args below meth c0 R mc ms H locs cells slots lsA F B P O hl
  have O1 := okp O
  have O2 := okp O1.2
  have hb : i64 b := O1.1
  have ha : i64 a := O2.1
  have hr1 : mfr M ≤ R.frames := F.2.2.2.2.2.2.2.2.2.1
  have hr2 : mlo M ≤ R.locals := F.2.2.2.2.2.2.2.2.2.2.1
  have hm : i64 (max a b) := by have h1 := ha.1; have h2 := ha.2; have h3 := hb.1; have h4 := hb.2; constructor <;> omega
  refine va_mmax_long F.1 F.2.1 (F.2.2.1.trans hl.1.symm) F.2.2.2.1 (F.2.2.2.2.1 _ hw) (F.2.2.2.2.1 _ mS_lmax) (F.2.2.2.2.1 _ iniMath) (F.2.2.2.2.1 _ mC_lmax) (by omega) (by rw [scat_eq]; omega) (by omega) (by omega) d ?_
  have hk := k (e := e) (below := below) F B P (oks O2.2 hm) hl
  have e1 : Int64.ofInt (max a b) = if Int64.ofInt b < Int64.ofInt a then Int64.ofInt a else Int64.ofInt b := by
    by_cases h : b < a
    · rw [if_pos ((i64_lt hb ha).mpr h)]; congr 1; omega
    · rw [if_neg (fun q => h ((i64_lt hb ha).mp q))]; congr 1; omega
  rw [List.map_cons, enc_jv, e1] at hk
  exact hk
theorem v_lmin {idx : Nat} {a b : Int} (d : decode (mb M) pc = .ok (.invokestatic idx, 3)) (hw : Cond.methodLink (mo M) idx Lib.MathLoose.min_long.x ∈ WS) (hfr : 1 ≤ mfr M) (hlo : 30 ≤ mlo M) (hsc : scat stk ≤ 8) (k : V E M (pc + 3) ls (jv (min a b) :: stk) G bc bs Q X) : V E M pc ls (jv b :: jv a :: stk) G bc bs Q X := by
  intro p e s m args below meth c0 R mc ms H locs cells slots lsA F B P O hl
  have O1 := okp O
  have O2 := okp O1.2
  have hb : i64 b := O1.1
  have ha : i64 a := O2.1
  have hr1 : mfr M ≤ R.frames := F.2.2.2.2.2.2.2.2.2.1
  have hr2 : mlo M ≤ R.locals := F.2.2.2.2.2.2.2.2.2.2.1
  have hm : i64 (min a b) := by have h1 := ha.1; have h2 := ha.2; have h3 := hb.1; have h4 := hb.2; constructor <;> omega
  refine va_mmin_long F.1 F.2.1 (F.2.2.1.trans hl.1.symm) F.2.2.2.1 (F.2.2.2.2.1 _ hw) (F.2.2.2.2.1 _ mS_lmin) (F.2.2.2.2.1 _ iniMath) (F.2.2.2.2.1 _ mC_lmin) (by omega) (by rw [scat_eq]; omega) (by omega) (by omega) d ?_
  have hk := k (e := e) (below := below) F B P (oks O2.2 hm) hl
  have e1 : Int64.ofInt (min a b) = if Int64.ofInt b < Int64.ofInt a then Int64.ofInt b else Int64.ofInt a := by
    by_cases h : b < a
    · rw [if_pos ((i64_lt hb ha).mpr h)]; congr 1; omega
    · rw [if_neg (fun q => h ((i64_lt hb ha).mp q))]; congr 1; omega
  rw [List.map_cons, enc_jv, e1] at hk
  exact hk
theorem acN : Cond.native arraycopyName ∈ WS := wsm 290 (by decide +kernel)
theorem acS : Cond.static arraycopyName ∈ WS := wsm 289 (by decide +kernel)
theorem acI : Cond.initialized "java/lang/System" ∈ WS := wsm 74 (by decide +kernel)
theorem gcD : Cond.declares ⟨"java/lang/Object", "getClass", "()Ljava/lang/Class;"⟩ ∈ NS := nsm 1956 (by decide +kernel)
theorem gcS : Cond.selects "[Ljava/lang/Object;" ⟨"java/lang/Object", "getClass", "()Ljava/lang/Class;"⟩ ⟨"java/lang/Object", "getClass", "()Ljava/lang/Class;"⟩ ∈ WS := wsm 1955 (by decide +kernel)
theorem gcI : Cond.instanceMethod ⟨"java/lang/Object", "getClass", "()Ljava/lang/Class;"⟩ ∈ WS := wsm 257 (by decide +kernel)
theorem gcN : Cond.native ⟨"java/lang/Object", "getClass", "()Ljava/lang/Class;"⟩ ∈ WS := wsm 278 (by decide +kernel)
/-- a stretch of one row copied into another -/
def cpy (G : Gt) (a b sp dp n : Int) : Gt := (G.1, G.2.1, G.2.2.1, fun a' i => if a' = b ∧ dp ≤ i ∧ i < dp + n then G.2.2.2 a (sp + (i - dp)) else G.2.2.2 a' i)
theorem gcl_cpy (G : Gt) (a b sp dp n x : Int) : gcl (cpy G a b sp dp n) x = gcl G x := rfl
theorem gln_cpy (G : Gt) (a b sp dp n x : Int) : gln (cpy G a b sp dp n) x = gln G x := rfl
theorem gfd_cpy (G : Gt) (a b sp dp n : Int) (c k : Nat) (x : Int) : gfd (cpy G a b sp dp n) c k x = gfd G c k x := rfl
theorem gel_cpy (G : Gt) (a b sp dp n x i : Int) : gel (cpy G a b sp dp n) x i = if x = b ∧ dp ≤ i ∧ i < dp + n then gel G a (sp + (i - dp)) else gel G x i := rfl
theorem wt_cpy {a b sp dp n : Int} (h : wt E G) (hab : gcl G a = gcl G b) (hb : gcl G b ≠ 19) : wt E (cpy G a b sp dp n) := by
  obtain ⟨g1, g2, g3, g4, g5, g6, g7, g8, g9, g10, g11⟩ := h
  have key : ∀ (x i : Int) (T : Int → Prop) (K : Nat → Prop), (∀ y j, K (gcl G y) → T (gel G y j)) → K (gcl G x) → T (gel (cpy G a b sp dp n) x i) := by
    intro x i T K hT hx
    rw [gel_cpy]
    by_cases q : x = b ∧ dp ≤ i ∧ i < dp + n
    · rw [if_pos q]
      exact hT _ _ (by rw [hab, ← q.1]; exact hx)
    · rw [if_neg q]; exact hT _ _ hx
  refine ⟨g1, g2, g3, g4, fun x i h => key x i i32 (fun t => t = 15 ∨ t = 19) g5 h, fun x i h => key x i i64 (fun t => t = 16) g6 h, fun x i h => key x i (fun v => v = 0 ∨ v = 1) (fun t => t = 17) g7 h, fun x i h => key x i (fun v => v = -1 ∨ okE (gcl G v)) (fun t => t = 18) g8 h, g9, ?_, g11⟩
  have ne : (eB E : Int) ≠ b := fun q => hb (q ▸ g10.1)
  simp only [gcl_cpy, gln_cpy, gel_cpy, ne, false_and, if_false]
  exact g10
theorem cpy_row {α : Type} {a b sp dp n : Int} (f : Int → α) (hsp : 0 ≤ sp) (hdp : 0 ≤ dp) (hn : 0 ≤ n) : (fun j : Nat => f (gel (cpy G a b sp dp n) b j)) = va_cpy (fun j : Nat => f (gel G a j)) (fun j : Nat => f (gel G b j)) sp.toNat dp.toNat n.toNat := by
  funext j
  rw [gel_cpy]
  unfold va_cpy
  by_cases q : dp ≤ (j : Int) ∧ (j : Int) < dp + n
  · rw [if_pos ⟨rfl, q⟩, if_pos (by omega)]
    have : sp + ((j : Int) - dp) = ((sp.toNat + (j - dp.toNat) : Nat) : Int) := by omega
    rw [this]
  · rw [if_neg (fun z => q z.2), if_neg (by omega)]
theorem set_cpy {L : List Nat} {q0 : Nat} {a b sp dp n : Int} {en : va_E} (hD : va_D (eA E) (va_pl L (entO E G))) (hm : b.toNat ∈ L) (hk : (va_pl L (entO E G))[q0]? = some (b.toNat, entO E G b.toNat)) (h0 : 0 ≤ b) (he : en = entO E (cpy G a b sp dp n) b.toNat) : (va_pl L (entO E G)).set q0 (b.toNat, en) = va_pl L (entO E (cpy G a b sp dp n)) := by
  have := va_pl_set (X := []) (e := en) hD hm hk
  refine this.trans (va_pl_congr fun y => ?_)
  by_cases hb : y = b.toNat
  · subst hb
    rw [va_up_self, he]
  · rw [va_up_ne _ _ hb]
    have hne := toNat_ne hb h0
    exact (entO_ne (G := G) (G' := cpy G a b sp dp n) (b := y) rfl rfl (fun j => by rw [gel_cpy, if_neg (fun q => hne q.1)]) (fun _ _ => rfl)).symm
theorem old_cpy {a b sp dp n : Int} (hb : (eb E : Int) ≤ b) (q : Nat) (hq : q < eb E) : gcl (cpy G a b sp dp n) q = gcl G q ∧ entO E (cpy G a b sp dp n) q = entO E G q ∧ gln (cpy G a b sp dp n) q = gln G q ∧ ∀ j, gel (cpy G a b sp dp n) q j = gel G q j := ⟨rfl, entO_ne rfl rfl (fun j => by rw [gel_cpy, if_neg (fun z => by omega)]) (fun _ _ => rfl), rfl, fun j => by rw [gel_cpy, if_neg (fun z => by omega)]⟩
theorem v_acopy {idx : Nat} {a b sp dp n : Int} (d : decode (mb M) pc = .ok (.invokestatic idx, 3)) (hw : Cond.methodLink (mo M) idx arraycopyName ∈ WS) (hfr : 1 ≤ mfr M) (hlo : 100 ≤ mlo M) (hsc : scat stk ≤ 8) (hk : gcl G b = 15 ∨ gcl G b = 17 ∨ gcl G b = 18) (hab : gcl G a = gcl G b) (hae : (eb E : Int) ≤ a) (hbe : (eb E : Int) ≤ b) (h1 : 0 ≤ sp) (h2 : 0 ≤ dp) (h3 : 0 ≤ n) (h4 : sp + n ≤ gln G a) (h5 : dp + n ≤ gln G b) (k : V E M (pc + 3) ls stk (cpy G a b sp dp n) bc bs Q X) : V E M pc ls (iv n :: iv dp :: rv b :: iv sp :: rv a :: stk) G bc bs Q X := by
  intro p e s m args below meth c0 R mc ms H locs cells slots lsA F B P O hl
  have O1 := okp O
  have O2 := okp O1.2
  have O3 := okp O2.2
  have O4 := okp O3.2
  have O5 := okp O4.2
  have hn : i32 n := O1.1
  have hdp : i32 dp := O2.1
  have hsp : i32 sp := O4.1
  have hr1 : mfr M ≤ R.frames := F.2.2.2.2.2.2.2.2.2.1
  have hr2 : mlo M ≤ R.locals := F.2.2.2.2.2.2.2.2.2.2.1
  have hw9 := P.2.1.1
  obtain ⟨L, q1, hL, hP, hD, hm, hq⟩ := P.2.1.live (a := b) (by omega) hbe
  have ha0 := (hw9.1 a (by omega)).1
  have hb0 := (hw9.1 b (by omega)).1
  obtain ⟨q0, hqa⟩ := va_pl_get (X := []) (f := entO E G) ((hL a.toNat).mpr ⟨by omega, by rw [Int.toNat_of_nonneg ha0]; omega⟩)
  have hqa : (va_pl L (entO E G))[q0]? = some (a.toNat, entO E G a.toNat) := hqa
  have hq9 := hq
  have hln := hw9.2.2.2.1 a (by omega)
  have hlnb := hw9.2.2.2.1 b (by omega)
  have t1 := i32_toNat hsp
  have t2 := i32_toNat hdp
  have t3 := i32_toNat hn
  have es := set_cpy (a := a) (b := b) (sp := sp) (dp := dp) (n := n) hD hm hq9 hb0 rfl
  have fin : ∀ (H1 : Heap) (locs1 : List Loc), va_P (eD E) myCl (va_pl L (entO E (cpy G a b sp dp n))) H1 → va_D (eA E) (va_pl L (entO E (cpy G a b sp dp n))) → va_S (eA E) s.heap H1 locs1 → _ := fun H1 locs1 hP1 hD1 hS1 => k (e := e) (below := below) F B (P.upd (wt_cpy hw9 hab (by omega)) hL hP1 hD1 hS1 (old_cpy hbe)) O5.2 hl
  have nfw : nativeFrameWords "java/lang/System" "arraycopy" 5 + 11 ≤ 40 := by decide +kernel
  rw [List.map_cons, List.map_cons, List.map_cons, List.map_cons, List.map_cons, enc_ref ha0, enc_ref hb0, enc_iv n, enc_iv dp, enc_iv sp]
  rcases hk with hk | hk | hk
  · rw [entO_I (Or.inl (hab.trans hk)) ha0] at hqa
    rw [entO_I (Or.inl hk) hb0] at hq
    rw [entO_I (G := cpy G a b sp dp n) (Or.inl hk) hb0, gln_cpy, cpy_row Int32.ofInt h1 h2 h3, ← t1, ← t2, ← t3] at es
    refine va_copyi (D := eD E) F.1 F.2.1 (F.2.2.1.trans hl.1.symm) F.2.2.2.1 (F.2.2.2.2.1 _ hw) (F.2.2.2.2.1 _ acN) (F.2.2.2.2.1 _ acS) (F.2.2.2.2.1 _ acI) F.2.2.2.2.2.1 hP hD P.2.2 q0 q1 0 0 hqa hq rfl rfl rfl (by rw [i32_lt0 hsp]; omega) (by rw [i32_lt0 hdp]; omega) (by rw [i32_lt0 hn]; omega) (by omega) (by omega) (fun _ _ => rfl) (by omega) (by rw [scat_eq]; omega) d (fun H1 locs1 hP1 hD1 hS1 => ?_)
    rw [es] at hP1 hD1
    exact fin H1 locs1 hP1 hD1 hS1
  · rw [entO_Z (hab.trans hk) ha0] at hqa
    rw [entO_Z hk hb0] at hq
    rw [entO_Z (G := cpy G a b sp dp n) hk hb0, gln_cpy, cpy_row Int32.ofInt h1 h2 h3, ← t1, ← t2, ← t3] at es
    refine va_copyi (D := eD E) F.1 F.2.1 (F.2.2.1.trans hl.1.symm) F.2.2.2.1 (F.2.2.2.2.1 _ hw) (F.2.2.2.2.1 _ acN) (F.2.2.2.2.1 _ acS) (F.2.2.2.2.1 _ acI) F.2.2.2.2.2.1 hP hD P.2.2 q0 q1 2 2 hqa hq rfl rfl rfl (by rw [i32_lt0 hsp]; omega) (by rw [i32_lt0 hdp]; omega) (by rw [i32_lt0 hn]; omega) (by omega) (by omega) (fun i _ => by rcases hw9.2.2.2.2.2.2.1 a ((Int32.ofInt sp).toNatClampNeg + i : Nat) (hab.trans hk) with h | h <;> (rw [h]; rfl)) (by omega) (by rw [scat_eq]; omega) d (fun H1 locs1 hP1 hD1 hS1 => ?_)
    rw [es] at hP1 hD1
    exact fin H1 locs1 hP1 hD1 hS1
  · rw [entO_O (hab.trans hk) ha0] at hqa
    rw [entO_O hk hb0] at hq
    rw [entO_O (G := cpy G a b sp dp n) hk hb0, gln_cpy, cpy_row o2 h1 h2 h3, ← t1, ← t2, ← t3] at es
    refine va_copyM (D := eD E) F.1 F.2.1 (F.2.2.1.trans hl.1.symm) F.2.2.2.1 (F.2.2.2.2.1 _ hw) (F.2.2.2.2.1 _ acN) (F.2.2.2.2.1 _ acS) (F.2.2.2.2.1 _ acI) F.2.2.2.2.2.1 hP hD P.2.2 q0 q1 3 3 hqa hq rfl rfl (by rw [i32_lt0 hsp]; omega) (by rw [i32_lt0 hdp]; omega) (by rw [i32_lt0 hn]; omega) (by omega) (by omega) (fun i _ y hy => ?_) (by omega) (by rw [scat_eq]; omega) d (fun H1 locs1 hP1 hD1 hS1 => ?_)
    · have h8 := hw9.2.2.2.2.2.2.2.1 a ((Int32.ofInt sp).toNatClampNeg + i : Nat) (hab.trans hk)
      generalize gel G a ((Int32.ofInt sp).toNatClampNeg + i : Nat) = v at h8 hy
      rcases h8 with h8 | h8
      · rw [h8] at hy; cases hy
      · obtain ⟨g1, g2⟩ := h8
        have hv0 := (hw9.1 v (by omega)).1
        rw [o2_pos hv0] at hy
        cases hy
        obtain ⟨c9, hc9⟩ : ∃ c9 : Nat, gcl G v = c9 + 1 := ⟨gcl G v - 1, by omega⟩
        have hbv := hw9.base (a := v) (by omega) (by omega) (by omega)
        obtain ⟨qk, hqk⟩ := va_pl_get (X := []) (f := entO E G) ((hL v.toNat).mpr ⟨by omega, by rw [Int.toNat_of_nonneg hv0]; omega⟩)
        have hqk : (va_pl L (entO E G))[qk]? = some (v.toNat, entO E G v.toNat) := hqk
        rw [entO_obj hc9 (by omega) hv0] at hqk
        obtain ⟨c5, t5, f1, f2, f3⟩ := Cond.castable_spec (va_Nw.use (A := args) rfl (F.2.2.2.2.2.2.2.2.2.2.2.2.1.2.2.2.2.2.2.2 _ (caO (c := c9) (by omega))))
        refine va_rAny F.2.2.2.2.2.1 hP hqk (clC (c := c9) (by omega)) (fun comp c1 g5 g6 => ?_)
        cases Option.some.inj (f2.symm.trans g5)
        cases Option.some.inj (f1.symm.trans g6)
        exact f3
    · rw [es] at hP1 hD1
      exact fin H1 locs1 hP1 hD1 hS1
theorem v_getC {idx : Nat} {a : Int} (d : decode (mb M) pc = .ok (.invokevirtual idx, 3)) (hw : Cond.methodLink (mo M) idx ⟨"java/lang/Object", "getClass", "()Ljava/lang/Class;"⟩ ∈ WS) (hfr : 1 ≤ mfr M) (hlo : 100 ≤ mlo M) (hsc : scat stk ≤ 8) (ha : gcl G a = 18) (k : V E M (pc + 3) ls (rv (eM E) :: stk) G bc bs Q X) : V E M pc ls (rv a :: stk) G bc bs Q X := by
  intro p e s m args below meth c0 R mc ms H locs cells slots lsA F B P O hl
  have hr1 : mfr M ≤ R.frames := F.2.2.2.2.2.2.2.2.2.1
  have hr2 : mlo M ≤ R.locals := F.2.2.2.2.2.2.2.2.2.2.1
  have hw9 := P.2.1.1
  have ha0 := (hw9.1 a (by omega)).1
  have hcell : ∃ cell : Cell, H[a.toNat]? = some cell ∧ cell.vm.isStatics = false ∧ cell.cls = eK E 3 := by
    by_cases hb : a < (eb E : Int)
    · have e9 : ((a.toNat : Nat) : Int) = a := Int.toNat_of_nonneg ha0
      obtain ⟨cell, a1, -, -, a4, -, -, -, a8⟩ := P.2.1.2.2 a.toNat (by omega) (by rw [e9]; omega)
      refine ⟨cell, a1, ?_, (a8 (by rw [e9]; exact ha)).2⟩
      cases hv : cell.vm <;> first | rfl | exact absurd hv (a4 _)
    · obtain ⟨ws, q0, hP, hq⟩ := P.2.1.readN (a := a) (by omega) (by omega)
      rw [entO_O ha ha0] at hq
      exact ⟨_, hP q0 _ hq, rfl, rfl⟩
  obtain ⟨cell, hcell, hcv, hcc⟩ := hcell
  have hS := F.2.2.2.2.2.2.2.2.2.2.2.2.1
  have hk := k (e := e) (below := below) F B P (oks (okp O).2 (show sokT 2 _ from by show (-1 : Int) ≤ (eM E : Int); omega)) hl
  rw [List.map_cons, enc_rv, o2_nat] at hk
  obtain ⟨_, _, _, _, _, z2⟩ := (F.2.2.2.2.2.1.2 3 _ rfl).2
  rw [List.map_cons, enc_ref ha0]
  exact va_getC F.1 F.2.1 (F.2.2.1.trans hl.1.symm) F.2.2.2.1 (F.2.2.2.2.1 _ hw) (va_Nw.use rfl (hS.2.2.2.2.2.2.2 _ gcD)) (F.2.2.2.2.1 _ gcS) (F.2.2.2.2.1 _ gcI) (F.2.2.2.2.1 _ gcN) hS.2.2.2.2.2.1 ⟨_, hcell, hcv, by rw [hcc]; exact z2⟩ (by omega) (by rw [scat_eq]; omega) d hk
theorem v_ldcM {idx : Nat} (d : decode (mb M) pc = .ok (.ldc idx, 2)) (hw : Cond.classLink (mo M) idx "[Ljava/lang/Object;" ∈ WS) (k : V E M (pc + 2) ls (rv (eM E) :: stk) G bc bs Q X) : V E M pc ls stk G bc bs Q X := by
  intro p e s m args below meth c0 R mc ms H locs cells slots lsA F B P O hl
  have hS := F.2.2.2.2.2.2.2.2.2.2.2.2.1
  have hk := k (e := e) (below := below) F B P (oks O (show sokT 2 _ from by show (-1 : Int) ≤ (eM E : Int); omega)) hl
  rw [List.map_cons, enc_rv, o2_nat] at hk
  exact va_ldcM F.1 F.2.1 F.2.2.2.1 (F.2.2.2.2.1 _ hw) hS.2.2.2.2.2.1 d hk
end VM
