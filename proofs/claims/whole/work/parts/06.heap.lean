theorem wsm {w : Cond} (i : Nat) (h : lw_tbl[i]? = some w ∧ goodWord w = true) : w ∈ WS := List.mem_filter.mpr ⟨List.mem_of_getElem? h.1, h.2⟩
theorem nsm {w : Cond} (i : Nat) (h : lw_tbl[i]? = some w ∧ isNs w = true) : w ∈ NS := List.mem_filter.mpr ⟨List.mem_of_getElem? h.1, h.2⟩
theorem ws_sub (l : List Cond) (is : List Nat) (h : l = is.filterMap (fun i => lw_tbl[i]?) ∧ l.all goodWord = true) : ∀ w ∈ l, w ∈ WS := by
  intro w hw
  refine List.mem_filter.mpr ⟨?_, List.all_eq_true.mp h.2 w hw⟩
  rw [h.1] at hw
  obtain ⟨i, -, hi⟩ := List.mem_filterMap.mp hw
  exact List.mem_of_getElem? hi
theorem wsC0 : ∀ w ∈ u_ws (cN 0) (cT 0) (fN 0), w ∈ WS := ws_sub _ [1188, 1190, 1192, 1194, 1196] (by decide +kernel)
theorem wsC1 : ∀ w ∈ u_ws (cN 1) (cT 1) (fN 1), w ∈ WS := ws_sub _ [908, 910] (by decide +kernel)
theorem wsC2 : ∀ w ∈ u_ws (cN 2) (cT 2) (fN 2), w ∈ WS := ws_sub _ [297, 299, 301, 303] (by decide +kernel)
theorem wsC3 : ∀ w ∈ u_ws (cN 3) (cT 3) (fN 3), w ∈ WS := ws_sub _ [216, 218, 220, 222] (by decide +kernel)
theorem wsC4 : ∀ w ∈ u_ws (cN 4) (cT 4) (fN 4), w ∈ WS := ws_sub _ [1378, 1380, 1382, 1384, 1386, 1388] (by decide +kernel)
theorem wsC5 : ∀ w ∈ u_ws (cN 5) (cT 5) (fN 5), w ∈ WS := ws_sub _ [623, 625, 627, 629, 631, 633] (by decide +kernel)
theorem wsC6 : ∀ w ∈ u_ws (cN 6) (cT 6) (fN 6), w ∈ WS := ws_sub _ [319, 321, 323] (by decide +kernel)
theorem wsC7 : ∀ w ∈ u_ws (cN 7) (cT 7) (fN 7), w ∈ WS := ws_sub _ [591, 593, 595, 597, 599] (by decide +kernel)
theorem wsC8 : ∀ w ∈ u_ws (cN 8) (cT 8) (fN 8), w ∈ WS := ws_sub _ [145, 147, 149, 151] (by decide +kernel)
theorem wsC9 : ∀ w ∈ u_ws (cN 9) (cT 9) (fN 9), w ∈ WS := ws_sub _ [177, 179, 181, 183, 185, 187, 189, 191, 193] (by decide +kernel)
theorem wsC10 : ∀ w ∈ u_ws (cN 10) (cT 10) (fN 10), w ∈ WS := ws_sub _ [1315, 1317, 1319, 1321] (by decide +kernel)
theorem wsC11 : ∀ w ∈ u_ws (cN 11) (cT 11) (fN 11), w ∈ WS := ws_sub _ [343, 345, 347, 349, 351, 353, 355, 357, 359, 361, 363, 365, 367, 369] (by decide +kernel)
theorem wsC12 : ∀ w ∈ u_ws (cN 12) (cT 12) (fN 12), w ∈ WS := ws_sub _ [1551, 1553, 1555, 1557, 1559, 1561, 1563, 1565, 1567, 1569, 1571, 1573, 1575, 1577, 1579, 1581, 1583, 1585, 1587, 1589, 1591, 1593, 1595, 1597, 1599, 1601, 1603, 1605, 1607, 1609, 1611, 1613, 1615, 1617, 1619, 1621, 1623, 1625, 1627, 1629, 1631, 1633, 1635, 1637, 1639, 1641, 1643, 1645, 1647, 1649, 1651, 1653] (by decide +kernel)
theorem wsC13 : ∀ w ∈ u_ws (cN 13) (cT 13) (fN 13), w ∈ WS := ws_sub _ [135, 131, 133] (by decide +kernel)
theorem wsC {c : Nat} (hc : c < 14) : ∀ w ∈ u_ws (cN c) (cT c) (fN c), w ∈ WS := match c, hc with | 0, _ => wsC0 | 1, _ => wsC1 | 2, _ => wsC2 | 3, _ => wsC3 | 4, _ => wsC4 | 5, _ => wsC5 | 6, _ => wsC6 | 7, _ => wsC7 | 8, _ => wsC8 | 9, _ => wsC9 | 10, _ => wsC10 | 11, _ => wsC11 | 12, _ => wsC12 | 13, _ => wsC13 | n + 14, h => absurd h (by omega)
theorem clC {c : Nat} (hc : c < 14) : myCl[c]? = some (cN c, cT c, fN c) := match c, hc with | 0, _ => rfl | 1, _ => rfl | 2, _ => rfl | 3, _ => rfl | 4, _ => rfl | 5, _ => rfl | 6, _ => rfl | 7, _ => rfl | 8, _ => rfl | 9, _ => rfl | 10, _ => rfl | 11, _ => rfl | 12, _ => rfl | 13, _ => rfl | n + 14, h => absurd h (by omega)
def okTy (t : FieldType) : Bool := match t with
  | .int => true
  | .long => true
  | .boolean => true
  | .object _ => true
  | .array _ => true
  | _ => false
theorem tyC0 : ∀ c, c < 14 → ∀ k, k < fN c → parseFieldDescriptor (cT c k).2.2.1 = some (cTy c k) := by decide +kernel
theorem tyC1 : ∀ c, c < 14 → ∀ k, k < fN c → fty c k = rT (cTy c k) ∧ okTy (cTy c k) = true := by decide +kernel
theorem nmC0 : ∀ a, a < fN 0 → ∀ b, b < fN 0 → a ≠ b → (cT 0 a).2.1 ≠ (cT 0 b).2.1 := by decide +kernel
theorem nmC1 : ∀ a, a < fN 1 → ∀ b, b < fN 1 → a ≠ b → (cT 1 a).2.1 ≠ (cT 1 b).2.1 := by decide +kernel
theorem nmC2 : ∀ a, a < fN 2 → ∀ b, b < fN 2 → a ≠ b → (cT 2 a).2.1 ≠ (cT 2 b).2.1 := by decide +kernel
theorem nmC3 : ∀ a, a < fN 3 → ∀ b, b < fN 3 → a ≠ b → (cT 3 a).2.1 ≠ (cT 3 b).2.1 := by decide +kernel
theorem nmC4 : ∀ a, a < fN 4 → ∀ b, b < fN 4 → a ≠ b → (cT 4 a).2.1 ≠ (cT 4 b).2.1 := by decide +kernel
theorem nmC5 : ∀ a, a < fN 5 → ∀ b, b < fN 5 → a ≠ b → (cT 5 a).2.1 ≠ (cT 5 b).2.1 := by decide +kernel
theorem nmC6 : ∀ a, a < fN 6 → ∀ b, b < fN 6 → a ≠ b → (cT 6 a).2.1 ≠ (cT 6 b).2.1 := by decide +kernel
theorem nmC7 : ∀ a, a < fN 7 → ∀ b, b < fN 7 → a ≠ b → (cT 7 a).2.1 ≠ (cT 7 b).2.1 := by decide +kernel
theorem nmC8 : ∀ a, a < fN 8 → ∀ b, b < fN 8 → a ≠ b → (cT 8 a).2.1 ≠ (cT 8 b).2.1 := by decide +kernel
theorem nmC9 : ∀ a, a < fN 9 → ∀ b, b < fN 9 → a ≠ b → (cT 9 a).2.1 ≠ (cT 9 b).2.1 := by decide +kernel
theorem nmC10 : ∀ a, a < fN 10 → ∀ b, b < fN 10 → a ≠ b → (cT 10 a).2.1 ≠ (cT 10 b).2.1 := by decide +kernel
theorem nmC11 : ∀ a, a < fN 11 → ∀ b, b < fN 11 → a ≠ b → (cT 11 a).2.1 ≠ (cT 11 b).2.1 := by decide +kernel
theorem nmC12 : ∀ a, a < fN 12 → ∀ b, b < fN 12 → a ≠ b → (cT 12 a).2.1 ≠ (cT 12 b).2.1 := by decide +kernel
theorem nmC13 : ∀ a, a < fN 13 → ∀ b, b < fN 13 → a ≠ b → (cT 13 a).2.1 ≠ (cT 13 b).2.1 := by decide +kernel
theorem nmC {c : Nat} (hc : c < 14) : ∀ a, a < fN c → ∀ b, b < fN c → a ≠ b → (cT c a).2.1 ≠ (cT c b).2.1 := match c, hc with | 0, _ => nmC0 | 1, _ => nmC1 | 2, _ => nmC2 | 3, _ => nmC3 | 4, _ => nmC4 | 5, _ => nmC5 | 6, _ => nmC6 | 7, _ => nmC7 | 8, _ => nmC8 | 9, _ => nmC9 | 10, _ => nmC10 | 11, _ => nmC11 | 12, _ => nmC12 | 13, _ => nmC13 | n + 14, h => absurd h (by omega)
theorem caO0 : Cond.castable (cN 0) "java/lang/Object" ∈ NS := nsm 1950 (by decide +kernel)
theorem caO1 : Cond.castable (cN 1) "java/lang/Object" ∈ NS := nsm 1948 (by decide +kernel)
theorem caO2 : Cond.castable (cN 2) "java/lang/Object" ∈ NS := nsm 1937 (by decide +kernel)
theorem caO3 : Cond.castable (cN 3) "java/lang/Object" ∈ NS := nsm 1939 (by decide +kernel)
theorem caO4 : Cond.castable (cN 4) "java/lang/Object" ∈ NS := nsm 1952 (by decide +kernel)
theorem caO5 : Cond.castable (cN 5) "java/lang/Object" ∈ NS := nsm 1944 (by decide +kernel)
theorem caO6 : Cond.castable (cN 6) "java/lang/Object" ∈ NS := nsm 1940 (by decide +kernel)
theorem caO7 : Cond.castable (cN 7) "java/lang/Object" ∈ NS := nsm 1943 (by decide +kernel)
theorem caO8 : Cond.castable (cN 8) "java/lang/Object" ∈ NS := nsm 1935 (by decide +kernel)
theorem caO9 : Cond.castable (cN 9) "java/lang/Object" ∈ NS := nsm 1938 (by decide +kernel)
theorem caO10 : Cond.castable (cN 10) "java/lang/Object" ∈ NS := nsm 1951 (by decide +kernel)
theorem caO11 : Cond.castable (cN 11) "java/lang/Object" ∈ NS := nsm 1934 (by decide +kernel)
theorem caO12 : Cond.castable (cN 12) "java/lang/Object" ∈ NS := nsm 1941 (by decide +kernel)
theorem caO13 : Cond.castable (cN 13) "java/lang/Object" ∈ NS := nsm 1936 (by decide +kernel)
theorem caO {c : Nat} (hc : c < 14) : Cond.castable (cN c) "java/lang/Object" ∈ NS := match c, hc with | 0, _ => caO0 | 1, _ => caO1 | 2, _ => caO2 | 3, _ => caO3 | 4, _ => caO4 | 5, _ => caO5 | 6, _ => caO6 | 7, _ => caO7 | 8, _ => caO8 | 9, _ => caO9 | 10, _ => caO10 | 11, _ => caO11 | 12, _ => caO12 | 13, _ => caO13 | n + 14, h => absurd h (by omega)
section VH
variable {E : EE} {M : MD} {pc : Nat} {ls : List (Option SV)} {stk : List SV} {G : Gt} {bc bs : Nat} {Q X : Int → Gt → Prop}
theorem fsOf_get {G : Gt} {c k : Nat} {a : Int} (hk : k < fN c) : (fsOf G c a)[k]? = some (encT (fty c k) (gfd G c k a)) := by
  simp [fsOf, hk]
theorem fsOf_len {G : Gt} {c : Nat} {a : Int} : (fsOf G c a).length = fN c := by simp [fsOf]
theorem entO_obj {G : Gt} {c : Nat} {a : Int} (h : gcl G a = c + 1) (hc : c < 14) (h0 : 0 ≤ a) : entO E G a.toNat = .inr (c, fsOf G c a) := by
  unfold entO
  rw [Int.toNat_of_nonneg h0, h, if_neg (by omega), if_neg (by omega), if_neg (by omega), if_neg (by omega)]
  rfl
theorem entO_I {G : Gt} {a : Int} (h : gcl G a = 15 ∨ gcl G a = 19) (h0 : 0 ≤ a) : entO E G a.toNat = .inl (eK E 0, (gln G a).toNat, .inl (fun j => Int32.ofInt (gel G a j))) := by
  unfold entO
  rw [Int.toNat_of_nonneg h0, if_pos h]
theorem entO_J {G : Gt} {a : Int} (h : gcl G a = 16) (h0 : 0 ≤ a) : entO E G a.toNat = .inl (eK E 1, (gln G a).toNat, .inr (.inl (fun j => Int64.ofInt (gel G a j)))) := by
  unfold entO
  rw [Int.toNat_of_nonneg h0, h, if_neg (by omega), if_pos rfl]
theorem entO_Z {G : Gt} {a : Int} (h : gcl G a = 17) (h0 : 0 ≤ a) : entO E G a.toNat = .inl (eK E 2, (gln G a).toNat, .inl (fun j => Int32.ofInt (gel G a j))) := by
  unfold entO
  rw [Int.toNat_of_nonneg h0, h, if_neg (by omega), if_neg (by omega), if_pos rfl]
theorem entO_O {G : Gt} {a : Int} (h : gcl G a = 18) (h0 : 0 ≤ a) : entO E G a.toNat = .inl (eK E 3, (gln G a).toNat, .inr (.inr (.inr (.inr (fun j => o2 (gel G a j)))))) := by
  unfold entO
  rw [Int.toNat_of_nonneg h0, h, if_neg (by omega), if_neg (by omega), if_neg (by omega), if_pos rfl]
theorem wt.new (h : wt E G) {a : Int} (ha : gcl G a ≠ 0) (h19 : gcl G a ≠ 19) (h18 : gcl G a = 18 → gln G a ≠ 0) : (eb E : Int) ≤ a := by
  rcases Int.lt_or_le a (eb E) with q | q
  · rcases h.2.1 a q ha with h | h
    · exact absurd h h19
    · exact absurd h.2 (h18 h.1)
  · exact q
theorem RG.readN {H : Heap} (h : RG E G H) {a : Int} (ha : gcl G a ≠ 0) (hb : (eb E : Int) ≤ a) : ∃ (ws : va_W) (q0 : Nat), va_P (eD E) myCl ws H ∧ ws[q0]? = some (a.toNat, entO E G a.toNat) := by
  obtain ⟨hw, ⟨L, hL, hP, hD⟩, ho⟩ := h
  have h0 := (hw.1 a ha).1
  have ha' : gcl G (a.toNat : Int) ≠ 0 := by rw [Int.toNat_of_nonneg h0]; exact ha
  obtain ⟨k, hk⟩ := va_pl_get (X := []) (f := entO E G) ((hL a.toNat).mpr ⟨by omega, ha'⟩)
  exact ⟨_, k, hP, hk⟩
theorem RG.read {H : Heap} (h : RG E G H) {a : Int} (ha : gcl G a ≠ 0) (h19 : gcl G a ≠ 19 := by omega) (h18 : gcl G a = 18 → gln G a ≠ 0 := by omega) : ∃ (ws : va_W) (q0 : Nat), va_P (eD E) myCl ws H ∧ ws[q0]? = some (a.toNat, entO E G a.toNat) :=
  h.readN ha (h.1.new ha h19 h18)
/-- an old array, as the kit reads it -/
theorem oldA.tab {s : State} {H : Heap} {q : Nat} {ty : FieldType} {f : Nat → Value} (h : oldA E G q H) (hq : q < eb E) (hH : H[q]? = s.heap[q]?) (hc : ArrOfT s (eK E (q + 4)) ty) (n0 : 0 ≤ gln G q) (hf : ∀ cell : Cell, H[q]? = some cell → ∀ j : Nat, j < (gln G q).toNat → cell.slots[j]? = some (f j)) : va_T ty q (gln G q).toNat f (eA E) s s.heap := by
  obtain ⟨cell, a1, a2, a3, a4, a5, a6, -, -⟩ := h
  refine ⟨cell, by rw [← hH]; exact a1, ⟨a4, ?_⟩, a3, a5, ?_, hf cell a1, by unfold eA; omega⟩
  · rw [a2]; exact (hc 0 (fun _ => .null)).2
  · rw [a6, ← Int32.ofInt_eq_ofNat, Int.toNat_of_nonneg n0]
theorem RP.old {s : State} {H : Heap} {locs : List Loc} (P : RP E s G H locs) {q : Nat} (hq : q < eb E) : H[q]? = s.heap[q]? := P.2.2.2.1 q (by have := P.1; omega) (by unfold eA; omega)
/-- a field, as the pool names it -/
def FL (own : String) (idx : Nat) (ref : String) (c k t : Nat) : Prop := c < 14 ∧ k < fN c ∧ fty c k = t ∧ Cond.fieldLink own idx ref (cT c k).2.1 (cT c k).2.2.1 ∈ WS ∧ (ref = (cT c k).1 ∨ Cond.sameField ref (cT c k).1 (cT c k).2.1 (cT c k).2.2.1 ∈ WS)
theorem FL.same {own ref : String} {idx c k t : Nat} {args : Array Value} {s : State} (h : FL own idx ref c k t) (hts : ∀ w ∈ WS, w.before args s = true) : ∀ x, s.fieldFound? (cT c k).1 (cT c k).2.1 (cT c k).2.2.1 = some x → s.fieldFound? ref (cT c k).2.1 (cT c k).2.2.1 = some x := by
  rcases h.2.2.2.2 with h | h
  · rw [h]; exact fun _ q => q
  · exact fun x q => u_same (hts _ h) x q
def stT (t : Nat) : Nat := if t = 3 then 0 else t
theorem enc_st (t : Nat) (x : Int) : enc (stT t, x) = encT t x := by
  unfold stT enc
  by_cases h : t = 3
  · subst h; rfl
  · rw [if_neg h]
theorem sok_st {t : Nat} {x : Int} (h : sokT t x) (ht : t ≤ 3) : sok (stT t, x) := by
  unfold stT sok
  by_cases h3 : t = 3
  · subst h3
    rcases h with h | h <;> (rw [h]; exact ⟨by decide, by decide⟩)
  · rw [if_neg h3]; exact h
theorem v_getT {idx c k t : Nat} {ref : String} {a : Int} (d : decode (mb M) pc = .ok (.getfield idx, 3)) (lk : FL (mo M) idx ref c k t) (ht : t ≤ 3) (ha : gcl G a = c + 1) (kk : sokT t (gfd G c k a) → V E M (pc + 3) ls ((stT t, gfd G c k a) :: stk) G bc bs Q X) : V E M pc ls (rv a :: stk) G bc bs Q X := by
  intro p e s m args below meth c0 R mc ms H locs cells slots lsA F B P O hl
  obtain ⟨hc, hk, hft, hw, -⟩ := id lk
  obtain ⟨ws, q0, hP, hq⟩ := P.2.1.read (a := a) (by omega)
  have h0 := (P.2.1.1.1 a (by omega)).1
  have hs : sokT t (gfd G c k a) := hft ▸ P.2.1.1.2.2.1 c k a hc ha hk
  have hk2 := kk hs (e := e) (below := below) F B P (oks (okp O).2 (sok_st hs ht)) hl
  rw [List.map_cons, enc_st, ← hft] at hk2
  rw [entO_obj ha hc h0] at hq
  rw [List.map_cons, enc_ref h0]
  exact va_get (D := eD E) F.1 F.2.1 F.2.2.2.2.1 (wsC hc) F.2.2.2.1 F.2.2.2.2.2.1 hP q0 hq (clC hc) k hk (F.2.2.2.2.1 _ hw) (lk.same F.2.2.2.2.1) (fsOf_get hk) d hk2
theorem v_getI {idx c k : Nat} {ref : String} {a : Int} (d : decode (mb M) pc = .ok (.getfield idx, 3)) (lk : FL (mo M) idx ref c k 0) (ha : gcl G a = c + 1) (kk : i32 (gfd G c k a) → V E M (pc + 3) ls (iv (gfd G c k a) :: stk) G bc bs Q X) : V E M pc ls (rv a :: stk) G bc bs Q X := v_getT d lk (by omega) ha kk
theorem v_getJ {idx c k : Nat} {ref : String} {a : Int} (d : decode (mb M) pc = .ok (.getfield idx, 3)) (lk : FL (mo M) idx ref c k 1) (ha : gcl G a = c + 1) (kk : i64 (gfd G c k a) → V E M (pc + 3) ls (jv (gfd G c k a) :: stk) G bc bs Q X) : V E M pc ls (rv a :: stk) G bc bs Q X := v_getT d lk (by omega) ha kk
theorem v_getR {idx c k : Nat} {ref : String} {a : Int} (d : decode (mb M) pc = .ok (.getfield idx, 3)) (lk : FL (mo M) idx ref c k 2) (ha : gcl G a = c + 1) (kk : -1 ≤ gfd G c k a → V E M (pc + 3) ls (rv (gfd G c k a) :: stk) G bc bs Q X) : V E M pc ls (rv a :: stk) G bc bs Q X := v_getT d lk (by omega) ha kk
theorem v_getZ {idx c k : Nat} {ref : String} {a : Int} (d : decode (mb M) pc = .ok (.getfield idx, 3)) (lk : FL (mo M) idx ref c k 3) (ha : gcl G a = c + 1) (kk : gfd G c k a = 0 ∨ gfd G c k a = 1 → V E M (pc + 3) ls (iv (gfd G c k a) :: stk) G bc bs Q X) : V E M pc ls (rv a :: stk) G bc bs Q X := v_getT d lk (by omega) ha kk
/-! writes -/
def sfd (G : Gt) (c k : Nat) (a v : Int) : Gt := (G.1, fun c' k' a' => if c' = c ∧ k' = k ∧ a' = a then v else G.2.1 c' k' a', G.2.2.1, G.2.2.2)
def sel (G : Gt) (a i v : Int) : Gt := (G.1, G.2.1, G.2.2.1, fun a' i' => if a' = a ∧ i' = i then v else G.2.2.2 a' i')
theorem gcl_sfd (G : Gt) (c k : Nat) (a v b : Int) : gcl (sfd G c k a v) b = gcl G b := rfl
theorem gln_sfd (G : Gt) (c k : Nat) (a v b : Int) : gln (sfd G c k a v) b = gln G b := rfl
theorem gel_sfd (G : Gt) (c k : Nat) (a v b i : Int) : gel (sfd G c k a v) b i = gel G b i := rfl
theorem gfd_sfd (G : Gt) (c k : Nat) (a v : Int) (c' k' : Nat) (b : Int) : gfd (sfd G c k a v) c' k' b = if c' = c ∧ k' = k ∧ b = a then v else gfd G c' k' b := rfl
theorem gcl_sel (G : Gt) (a i v b : Int) : gcl (sel G a i v) b = gcl G b := rfl
theorem gln_sel (G : Gt) (a i v b : Int) : gln (sel G a i v) b = gln G b := rfl
theorem gfd_sel (G : Gt) (a i v : Int) (c k : Nat) (b : Int) : gfd (sel G a i v) c k b = gfd G c k b := rfl
theorem gel_sel (G : Gt) (a i v b j : Int) : gel (sel G a i v) b j = if b = a ∧ j = i then v else gel G b j := rfl
theorem RP.upd {s : State} {G' : Gt} {H H1 : Heap} {locs locs1 : List Loc} {L : List Nat} (P : RP E s G H locs) (hw : wt E G') (hL : ∀ q : Nat, q ∈ L ↔ eb E ≤ q ∧ gcl G' q ≠ 0)
    (hP : va_P (eD E) myCl (va_pl L (entO E G')) H1) (hD : va_D (eA E) (va_pl L (entO E G'))) (hS : va_S (eA E) s.heap H1 locs1) (ho : ∀ q : Nat, q < eb E → gcl G' q = gcl G q ∧ entO E G' q = entO E G q ∧ gln G' q = gln G q ∧ ∀ j, gel G' q j = gel G q j) : RP E s G' H1 locs1 := by
  refine ⟨P.1, ⟨hw, ⟨L, hL, hP, hD⟩, fun q hq hg => ?_⟩, hS⟩
  obtain ⟨h1, h2, h3, h4⟩ := ho q hq
  have hA : ¬ eA E q := by unfold eA; omega
  have hlt : q < s.heap.size := Nat.lt_of_lt_of_le hq P.1
  exact (P.2.1.2.2 q hq (by rw [← h1]; exact hg)).same (by rw [hS.2.1 q hlt hA, P.2.2.2.1 q hlt hA]) h1 h3 h4
theorem toNat_ne {a : Int} {b : Nat} (h : b ≠ a.toNat) (h0 : 0 ≤ a) : (b : Int) ≠ a := by omega
theorem entO_sfd {G : Gt} {c k : Nat} {a v : Int} (ha : gcl G a = c + 1) (hc : c < 14) (hk : k < fN c) (h0 : 0 ≤ a) (b : Nat) : va_up (entO E G) a.toNat (.inr (c, (fsOf G c a).set k (encT (fty c k) v))) b = entO E (sfd G c k a v) b := by
  by_cases hb : b = a.toNat
  · subst hb
    rw [va_up_self, entO_obj (G := sfd G c k a v) (by rw [gcl_sfd]; exact ha) hc h0]
    congr 2
    apply List.ext_getElem?
    intro j
    by_cases hj : j < fN c
    · rw [fsOf_get hj, List.getElem?_set, fsOf_len, gfd_sfd]
      by_cases hkj : k = j
      · subst hkj
        rw [if_pos rfl, if_pos hj, if_pos ⟨rfl, rfl, rfl⟩]
      · rw [if_neg hkj, if_neg (fun q => hkj q.2.1.symm), fsOf_get hj]
    · rw [List.getElem?_eq_none (by rw [List.length_set, fsOf_len]; omega), List.getElem?_eq_none (by rw [fsOf_len]; omega)]
  · rw [va_up_ne _ _ hb]
    have hne := toNat_ne hb h0
    have : fsOf (sfd G c k a v) (gcl G b - 1) b = fsOf G (gcl G b - 1) b := by
      unfold fsOf
      refine List.map_congr_left fun j _ => ?_
      rw [gfd_sfd, if_neg (fun q => hne q.2.2)]
    unfold entO
    simp only [gcl_sfd, gln_sfd, gel_sfd, this]
theorem wt.sfd {c k : Nat} {a v : Int} (h : wt E G) (hv : sokT (fty c k) v) : wt E (sfd G c k a v) := by
  obtain ⟨h1, h2, h3, h4⟩ := h
  refine ⟨h1, h2, fun c' k' a' g1 g2 g3 => ?_, h4⟩
  rw [gfd_sfd]
  by_cases q : c' = c ∧ k' = k ∧ a' = a
  · rw [if_pos q, q.1, q.2.1]; exact hv
  · rw [if_neg q]; exact h3 c' k' a' g1 g2 g3
theorem fitT {ty : FieldType} (hty : okTy ty = true) {x : Int} (hx : sokT (rT ty) x) : narrow ty (encT (rT ty) x) = encT (rT ty) x ∧ fits ty (encT (rT ty) x) = true := by
  cases ty with
  | int => exact ⟨rfl, rfl⟩
  | long => exact ⟨rfl, rfl⟩
  | boolean => rcases hx with h | h <;> (rw [h]; exact ⟨rfl, rfl⟩)
  | object n =>
    show narrow _ (va_rf (o2 x)) = va_rf (o2 x) ∧ fits _ (va_rf (o2 x)) = true
    cases o2 x <;> exact ⟨rfl, rfl⟩
  | array n =>
    show narrow _ (va_rf (o2 x)) = va_rf (o2 x) ∧ fits _ (va_rf (o2 x)) = true
    cases o2 x <;> exact ⟨rfl, rfl⟩
  | _ => cases hty
theorem v_putT {idx c k t : Nat} {ref : String} {a v : Int} (d : decode (mb M) pc = .ok (.putfield idx, 3)) (lk : FL (mo M) idx ref c k t) (hfin : (cT c k).2.2.2 = false ∨ ((mY M).name = "<init>" ∧ (cT c k).1 = mo M)) (ha : gcl G a = c + 1) (hv : t = 3 → v = 0 ∨ v = 1) (kk : V E M (pc + 3) ls stk (sfd G c k a v) bc bs Q X) : V E M pc ls ((stT t, v) :: rv a :: stk) G bc bs Q X := by
  intro p e s m args below meth c0 R mc ms H locs cells slots lsA F B P O hl
  obtain ⟨hc, hk, hft, hw, -⟩ := id lk
  have O1 := okp O
  have O2 := okp O1.2
  obtain ⟨t1, t2⟩ := tyC1 c hc k hk
  have ht3 : t ≤ 3 := by
    rw [← hft, t1]; unfold rT; split <;> omega
  have hs : sokT t v := by
    by_cases h3 : t = 3
    · subst h3; exact hv rfl
    · have := O1.1
      unfold stT sok at this
      rw [if_neg h3] at this
      exact this
  have hs' : sokT (rT (cTy c k)) v := by rw [← t1, hft]; exact hs
  obtain ⟨n1, n2⟩ := fitT t2 hs'
  obtain ⟨hw9, ⟨L, hL, hP, hD⟩, ho⟩ := id P.2.1
  have h0 := (hw9.1 a (by omega)).1
  have hba : (eb E : Int) ≤ a := by
    rcases Int.lt_or_le a (eb E) with q | q
    · have := hw9.2.1 a q (by omega); omega
    · exact q
  have ha' : gcl G (a.toNat : Int) ≠ 0 := by rw [Int.toNat_of_nonneg h0]; omega
  obtain ⟨q0, hq⟩ := va_pl_get (X := []) (f := entO E G) ((hL a.toNat).mpr ⟨by omega, ha'⟩)
  have hq9 := hq
  rw [entO_obj ha hc h0] at hq
  rw [List.map_cons, List.map_cons, enc_ref h0, enc_st]
  rw [← hft, t1]
  have fin : ∀ (H1 : Heap) (locs1 : List Loc), va_P (eD E) myCl ((va_pl L (entO E G)).set q0 (a.toNat, .inr (c, (fsOf G c a).set k (encT (rT (cTy c k)) v)))) H1 → va_D (eA E) ((va_pl L (entO E G)).set q0 (a.toNat, .inr (c, (fsOf G c a).set k (encT (rT (cTy c k)) v)))) → va_S (eA E) s.heap H1 locs1 → W p (eL E) e R s m args below meth c0 H1 locs1 cells slots (vx_MQ below (QcR E M Q) (XcR E X) args s mc ms (eA E)) (F0 m (pc + 3) lsA (stk.map enc)) := by
    intro H1 locs1 hP1 hD1 hS1
    have es : (va_pl L (entO E G)).set q0 (a.toNat, .inr (c, (fsOf G c a).set k (encT (rT (cTy c k)) v))) = va_pl L (entO E (sfd G c k a v)) := by
      have := va_pl_set (X := []) (e := .inr (c, (fsOf G c a).set k (encT (rT (cTy c k)) v))) hD ((hL a.toNat).mpr ⟨by omega, ha'⟩) hq9
      refine this.trans (va_pl_congr fun b => ?_)
      rw [← t1]
      exact entO_sfd ha hc hk h0 b
    rw [es] at hP1 hD1
    refine kk F B (P.upd (hw9.sfd (by rw [hft]; exact hs)) hL hP1 hD1 hS1 (fun q hq5 => ⟨rfl, ?_, rfl, fun _ => rfl⟩)) O2.2 hl
    rw [← entO_sfd ha hc hk h0 q, va_up_ne _ _ (by omega)]
  cases hf : (cT c k).2.2.2 with
  | false => exact va_put (D := eD E) F.1 F.2.1 F.2.2.2.2.1 (wsC hc) (cTy c) (tyC0 c hc) (nmC hc) F.2.2.2.1 F.2.2.2.2.2.1 hP hD P.2.2 q0 hq (clC hc) k hk (F.2.2.2.2.1 _ hw) (lk.same F.2.2.2.2.1) hf (tyC0 c hc k hk) n1 n2 (by rw [fsOf_len]; exact hk) d fin
  | true =>
    rcases hfin with q | ⟨q1, q2⟩
    · rw [q] at hf; cases hf
    · exact va_putF (D := eD E) F.1 F.2.1 F.2.2.2.2.1 (wsC hc) (cTy c) (tyC0 c hc) (nmC hc) F.2.2.2.1 F.2.2.2.2.2.1 hP hD P.2.2 q0 hq (clC hc) k hk (F.2.2.2.2.1 _ hw) (lk.same F.2.2.2.2.1) hf (F.2.2.2.2.2.2.2.2.2.2.2.1.trans q1) q2 (tyC0 c hc k hk) n1 n2 (by rw [fsOf_len]; exact hk) d fin

theorem v_putI {idx c k : Nat} {ref : String} {a v : Int} (d : decode (mb M) pc = .ok (.putfield idx, 3)) (lk : FL (mo M) idx ref c k 0) (hfin : (cT c k).2.2.2 = false ∨ ((mY M).name = "<init>" ∧ (cT c k).1 = mo M)) (ha : gcl G a = c + 1) (kk : V E M (pc + 3) ls stk (sfd G c k a v) bc bs Q X) : V E M pc ls (iv v :: rv a :: stk) G bc bs Q X := v_putT d lk hfin ha (fun h => absurd h (by decide)) kk
theorem v_putJ {idx c k : Nat} {ref : String} {a v : Int} (d : decode (mb M) pc = .ok (.putfield idx, 3)) (lk : FL (mo M) idx ref c k 1) (hfin : (cT c k).2.2.2 = false ∨ ((mY M).name = "<init>" ∧ (cT c k).1 = mo M)) (ha : gcl G a = c + 1) (kk : V E M (pc + 3) ls stk (sfd G c k a v) bc bs Q X) : V E M pc ls (jv v :: rv a :: stk) G bc bs Q X := v_putT d lk hfin ha (fun h => absurd h (by decide)) kk
theorem v_putR {idx c k : Nat} {ref : String} {a v : Int} (d : decode (mb M) pc = .ok (.putfield idx, 3)) (lk : FL (mo M) idx ref c k 2) (hfin : (cT c k).2.2.2 = false ∨ ((mY M).name = "<init>" ∧ (cT c k).1 = mo M)) (ha : gcl G a = c + 1) (kk : V E M (pc + 3) ls stk (sfd G c k a v) bc bs Q X) : V E M pc ls (rv v :: rv a :: stk) G bc bs Q X := v_putT d lk hfin ha (fun h => absurd h (by decide)) kk
theorem v_putZ {idx c k : Nat} {ref : String} {a v : Int} (d : decode (mb M) pc = .ok (.putfield idx, 3)) (lk : FL (mo M) idx ref c k 3) (hfin : (cT c k).2.2.2 = false ∨ ((mY M).name = "<init>" ∧ (cT c k).1 = mo M)) (ha : gcl G a = c + 1) (hv : v = 0 ∨ v = 1) (kk : V E M (pc + 3) ls stk (sfd G c k a v) bc bs Q X) : V E M pc ls (iv v :: rv a :: stk) G bc bs Q X := v_putT d lk hfin ha (fun _ => hv) kk
end VH
