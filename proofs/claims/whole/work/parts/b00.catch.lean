/-! methods with a table of handlers: their contracts, calls in them, calls of them -/
section Sb00
variable {E : EE} {M : MD} {pc : Nat} {ls : List (Option SV)} {stk : List SV} {G : Gt} {bc bs : Nat} {Q X : Int → Gt → Prop}
def wsH (M : MD) : List Cond := .codeWith (mY M) (mb M) (mL M) (mret M) (mh M) :: WS
/-- the contract of a method with handlers -/
def OkH (E : EE) (M : MD) (svs : List SV) (G : Gt) (mc ms : Nat) (Q X : Int → Gt → Prop) : Prop :=
  vx_Met (eL E) (mY M) (wsH M) (rmM M mc ms) (va_Pc (svs.map enc) (BW E G svs)) (QcR E M Q) (XcR E X) mc ms (eA E)
theorem OkH.intro {svs : List SV} {mc ms k : Nat} (hy : plainName (mo M) = true) (hsz : scat svs ≤ mL M) (hls : ls = args0 svs ++ List.replicate k none) (hV : V E M 0 ls [] G mc ms Q X) : OkH E M svs G mc ms Q X := by
  refine vx_ofWH (cc := mb M) (maxL := mL M) (ret := mret M) (hh := mh M) hy rfl ?_
  intro p e s m args below meth c s₁ Bd hml hPc
  obtain ⟨rfl, hb, hG, hs, hK, hST, hfl⟩ := hPc
  rw [lg_entry_eq]
  have hent := lv_entry (svs.map enc) (n := mL M) (by rw [lgsl_len]; exact hsz)
  generalize (lg_sl (svs.map enc) ++ List.replicate (mL M - (lg_sl (svs.map enc)).length) Slot.unset).toArray = lsA at hent ⊢
  have hat : ∀ (j : Nat) (w : SV), ls[j]? = some (some w) → (args0 svs)[j]? = some (some w) := by
    intro j w hj
    rw [hls] at hj
    by_cases hlt : j < (args0 svs).length
    · rw [List.getElem?_append_left hlt] at hj; exact hj
    · rw [List.getElem?_append_right (by omega), List.getElem?_replicate] at hj
      split at hj <;> cases hj
  have hpre := atoms_spec (ws := wsH M) Bd.pre
  refine hV (cells := 0) (slots := 0) (mc := mc) (ms := ms) ⟨Bd.exec, Bd.bytes, hml, findClass_of_methodNamed Bd.named, fun w hw => hpre w (List.mem_cons_of_mem _ hw), hK, Bd.returns, Bd.notSynchronized, vx_table (x := mY M) Bd (hpre _ List.mem_cons_self), Nat.le_refl _, Nat.le_refl _, (name_of_methodNamed Bd.named Bd.method).1, hST, hfl⟩ ⟨by omega, by omega, Nat.le_refl _, Nat.le_refl _⟩ ⟨hb, hG, va_S.rf⟩ ⟨fun v hv => ?_, fun v hv => by cases hv⟩ ⟨hent.1, hent.2.1, fun j w hj => ?_⟩
  · obtain ⟨j, hj⟩ := List.getElem?_of_mem hv
    exact hs v (args0_sub v (List.mem_of_getElem? (hat j v hj)))
  · have := args0_mem 0 (hat j w hj)
    rw [Nat.zero_add] at this
    exact hent.2.2 _ this
/-- a row of the table takes what is thrown -/
def Hd (E : EE) (M : MD) (pc : Nat) (ls : List (Option SV)) (ex : Int) (G : Gt) (bc bs : Nat) (Q X : Int → Gt → Prop) : Prop :=
  ∃ (pre : List ExceptionTableEntry) (x : ExceptionTableEntry) (suf : List ExceptionTableEntry), tableOf (mh M) = pre ++ x :: suf ∧ (∀ z ∈ pre, covers z pc = false ∨ (z.catchType ≠ 0 ∧ ∃ n9 : String, Cond.classLink (mo M) z.catchType n9 ∈ WS ∧ (exN ex, n9) ∈ ncP)) ∧ covers x pc = true ∧ x.catchType ≠ 0 ∧
    Cond.classLink (mo M) x.catchType (exN ex) ∈ WS ∧ Cond.castable (exN ex) (exN ex) ∈ NS ∧ ∀ q : Int, 0 ≤ q → V E M x.handlerPc ls [rv q] G bc bs Q X
theorem callFinC {p : Program} {e : Env} {s : State} {m : MethodId} {args a : Array Value} {below : List Frame} {meth : Method} {c : Code} {R : Room} {mc ms mc' ms' : Nat} {H : Heap} {locs : List Loc} {cells slots : Nat} {lsA : Array Slot} {M' : MD} {Q' X' : Int → Gt → Prop} {st0 : List Value}
    (F : FX E M p s m args meth c R) (B : cells + bc ≤ mc ∧ slots + bs ≤ ms ∧ mc ≤ R.cells ∧ ms ≤ R.slots) (P : RP E s G H locs) (O : (∀ v, some v ∈ ls → sok v) ∧ ∀ v ∈ stk, sok v) (hl : lvh lsA (mL M) ls)
    (hr : vx_Run p (eL E) e R s m args below meth c H locs cells slots mc' ms' (F0 m pc lsA st0) (stk.map enc) (QcR E M' Q' a) (XcR E X') (eA E)) (hc : mc' ≤ bc) (hs : ms' ≤ bs)
    (kx : ∀ (e : Int) (G' : Gt), X' e G' → Hd E M pc ls e G' (bc - mc') (bs - ms') Q X) (kk : ∀ (r : Int) (G' : Gt), sokR (mret M') r → Q' r G' → V E M (pc + 3) ls (retS (mret M') r ++ stk) G' (bc - mc') (bs - ms') Q X) :
    W p (eL E) e R s m args below meth c H locs cells slots (vx_MQ below (QcR E M Q) (XcR E X) args s mc ms (eA E)) (F0 m pc lsA st0) := by
  intro T hT Y
  rcases hr T hT Y with ⟨v, st1, t, T', L, h0, Y', hL, e1, e2, ⟨r, G', hv, hr1, hq, hG, hF⟩, st⟩ | ⟨q, st1, t, T', L, En, ce, h0, Y', hL, e1, e2, ⟨ex, G', hE, hX, hG, hF⟩, hce, hcv, hcl, st⟩
  · cases hv
    have P' := P.call h0 hG hF hL
    have hk := kk r G' hr1 hq (e := e) (below := below) (mc := mc) (ms := ms) (cells := cells + mc') (slots := slots + ms') F (by omega) P' (sok_retS hr1 O) hl
    rw [List.map_append, ← encR_retS] at hk
    rw [← e1] at hk
    obtain ⟨t2, a1, b1⟩ := hk T' rfl Y'
    exact ⟨t2, st t2 a1, b1⟩
  · have P' := P.call h0 hG hF hL
    obtain ⟨pre, x, suf, hsplit, hpre, hcov, h09, hlk, hca, hV⟩ := kx ex G' hX
    have hS := F.2.2.2.2.2.2.2.2.2.2.2.2.1
    have hw := hV (q : Int) (Int.natCast_nonneg _) (e := e) (below := below) (mc := mc) (ms := ms) (cells := cells + mc') (slots := slots + ms') F (by omega) P' ⟨O.1, fun v hv => by rw [List.mem_singleton.mp hv]; show (-1 : Int) ≤ (q : Int); omega⟩ hl
    rw [List.map_cons, enc_rv, o2_nat] at hw
    subst hE
    have hk := vx_catch (p := p) (l := eL E) (e := e) (R := R) (args := args) (below := below) (meth := meth) (H := t.heap) (locs := locs ++ L) (cells := cells + mc') (slots := slots + ms') (pc := pc) (ls := lsA) (rest := stk.map enc) (own := mo M) (name := exN ex) F.2.2.2.1 pre x suf (by rw [F.2.2.2.2.2.2.2.2.1]; exact hsplit)
      (fun z hz => by
        rcases hpre z hz with h | ⟨h1, n9, h2, h3⟩
        · exact Or.inl h
        · exact Or.inr ⟨h1, n9, F.2.2.2.2.1 _ h2, hS.1.2.1 _ h3⟩) hcov h09 (F.2.2.2.2.1 _ hlk) (va_Nw.use rfl (hS.2.2.2.2.2.2.2 _ hca)) hce hcv hcl hw
    rw [← e1] at hk
    obtain ⟨t2, a1, b1⟩ := hk T' rfl Y'
    exact ⟨t2, st.trans a1, b1⟩
theorem v_cvC {idx n c mc' ms' : Nat} {M' : MD} {As : List SV} {b : Int} {Q' X' : Int → Gt → Prop} (d : decode (mb M) pc = .ok (.invokevirtual idx, 3)) (lk : LV (mo M) idx M' n) (hrm : rmOk M M' = true) (hn : As.length = n) (hsc : scat stk ≤ 8) (hcn : c < 14 ∧ cN c = mo M') (hb : gcl G b = c + 1) (hM : Ok E M' (rv b :: As) G mc' ms' Q' X') (hc : mc' ≤ bc) (hs : ms' ≤ bs)
    (kx : ∀ (e : Int) (G' : Gt), X' e G' → Hd E M pc ls e G' (bc - mc') (bs - ms') Q X) (kk : ∀ (r : Int) (G' : Gt), sokR (mret M') r → Q' r G' → V E M (pc + 3) ls (retS (mret M') r ++ stk) G' (bc - mc') (bs - ms') Q X) : V E M pc ls (As.reverse ++ rv b :: stk) G bc bs Q X := by
  intro p e s m args below meth c0 R mc ms H locs cells slots lsA F B P O hl
  obtain ⟨⟨w1, w2, w3, hd⟩, w4, w5⟩ := lk
  have Os : ∀ v ∈ As.reverse ++ rv b :: stk, sok v := O.2
  have O2 : (∀ v, some v ∈ ls → sok v) ∧ ∀ v ∈ stk, sok v := ⟨O.1, fun v hv => Os v (List.mem_append_right _ (List.mem_cons_of_mem _ hv))⟩
  have Oa : ∀ v ∈ rv b :: As, sok v := fun v hv => Os v ((List.mem_cons.mp hv).elim (fun q => List.mem_append_right _ (by rw [q]; exact List.mem_cons_self)) (fun q => List.mem_append_left _ (List.mem_reverse.mpr q)))
  have hb0 := (P.2.1.1.1 b (by omega)).1
  obtain ⟨ws, q0, hP, hq⟩ := P.2.1.read (a := b) (by omega)
  rw [entO_obj hb hcn.1 hb0] at hq
  obtain ⟨r, e1, cell, q1, q2, q3, -⟩ := hP q0 _ hq
  have hca := (F.2.2.2.2.2.1.1 c _ (clC hcn.1)).2
  have hb9 : enc (rv b) = .ref b.toNat := enc_ref hb0
  refine callFinC (M' := M') (a := (Value.ref b.toNat :: As.map enc).toArray) F B P O2 hl (vx_runV (As := As.map enc) (C := mo M') (ws := wsM M') (rm := rmM M' mc' ms') (Pc := va_Pc ((rv b :: As).map enc) (BW E G (rv b :: As))) ⟨F.1, F.2.1, F.2.2.1, F.2.2.2.1, F.2.2.2.2.1⟩ hM (cwV n F.2.2.2.2.1 (fun w hw => ?_) rfl rfl rfl ⟨rfl, hd⟩ (rmp hrm F.2.2.2.2.2.2.2.2.2.1 F.2.2.2.2.2.2.2.2.2.2.1)) ⟨fun a U g mk q => BW.blind a U g mk q, ⟨cell, q1, by rw [q3]; rfl, by rw [q2, ← hcn.2]; exact hca.1⟩, fun U hU hW => ?_⟩ rfl (enc_len hn) hl.1 (by show List.map enc _ = _; rw [List.map_append, List.map_reverse, List.map_cons, hb9]) (by show 2 * 0 + _ ≤ 8; rw [scat_eq]; omega) d (by omega)) hc hs kx kk
  · rcases List.mem_append.mp hw with h | h
    · rcases List.mem_cons.mp h with h | h
      · rw [h]; exact gw w1
      · rcases List.mem_cons.mp h with h | h
        · rw [h]; exact gw w4
        · rcases List.mem_cons.mp h with h | h
          · rw [h]; exact gw w5
          · rcases List.mem_cons.mp h with h | h
            · rw [h]; exact gw w3
            · cases h
    · exact gwM w2 w h
  · have := BW.at (svs := rv b :: As) F P Oa U hU hW
    rw [List.map_cons, hb9] at this ⊢
    exact this
/-- a call whose throws are taken -/
def CallC (E : EE) (M' : MD) (As : List SV) (G : Gt) (bc bs : Nat) (KX K : Int → Gt → Nat → Nat → Prop) : Prop :=
  ∃ (mc' ms' : Nat) (Q' X' : Int → Gt → Prop), Ok E M' As G mc' ms' Q' X' ∧ mc' ≤ bc ∧ ms' ≤ bs ∧ (∀ (e : Int) (G' : Gt), X' e G' → KX e G' (bc - mc') (bs - ms')) ∧ ∀ (r : Int) (G' : Gt), sokR (mret M') r → Q' r G' → K r G' (bc - mc') (bs - ms')
theorem v_cvCC {idx n c : Nat} {M' : MD} {As : List SV} {b : Int} {KX K : Int → Gt → Nat → Nat → Prop} (d : decode (mb M) pc = .ok (.invokevirtual idx, 3)) (lk : LV (mo M) idx M' n) (hrm : rmOk M M' = true) (hn : As.length = n) (hsc : scat stk ≤ 8) (hcn : c < 14 ∧ cN c = mo M') (hb : gcl G b = c + 1) (h : CallC E M' (rv b :: As) G bc bs KX K)
    (kx : ∀ ex G1 c1 s1, KX ex G1 c1 s1 → Hd E M pc ls ex G1 c1 s1 Q X) (kk : ∀ r G1 c1 s1, K r G1 c1 s1 → V E M (pc + 3) ls (retS (mret M') r ++ stk) G1 c1 s1 Q X) : V E M pc ls (As.reverse ++ rv b :: stk) G bc bs Q X := by
  obtain ⟨mc9, ms9, Q9, X9, hM, h1, h2, hx, hk⟩ := h
  exact v_cvC d lk hrm hn hsc hcn hb hM h1 h2 (fun e G1 hq => kx _ _ _ _ (hx e G1 hq)) (fun r G1 hs hq => kk _ _ _ _ (hk r G1 hs hq))
/-- the row at a place of the table -/
theorem Hd.at {ex : Int} (h1 : List (Nat × Nat × Nat × Nat)) (x : Nat × Nat × Nat × Nat) (h2 : List (Nat × Nat × Nat × Nat)) (hsplit : mh M = h1 ++ x :: h2) (hcov : covers ⟨x.1, x.2.1, x.2.2.1, x.2.2.2⟩ pc = true) (hpre : ∀ z ∈ h1, z.2.2.2 ≠ 0 ∧ ∃ n9 : String, Cond.classLink (mo M) z.2.2.2 n9 ∈ WS ∧ (exN ex, n9) ∈ ncP) (h0 : x.2.2.2 ≠ 0) (hl : Cond.classLink (mo M) x.2.2.2 (exN ex) ∈ WS) (hc : Cond.castable (exN ex) (exN ex) ∈ NS)
    (hV : ∀ q : Int, 0 ≤ q → V E M x.2.2.1 ls [rv q] G bc bs Q X) : Hd E M pc ls ex G bc bs Q X := by
  refine ⟨tableOf h1, ⟨x.1, x.2.1, x.2.2.1, x.2.2.2⟩, tableOf h2, ?_, fun z hz => ?_, hcov, h0, hl, hc, hV⟩
  · rw [hsplit]
    unfold tableOf
    rw [List.map_append, List.map_cons]
  · obtain ⟨y, hy, rfl⟩ := List.mem_map.mp hz
    obtain ⟨a1, a2⟩ := hpre y hy
    exact Or.inr ⟨a1, a2⟩
/-- a method with handlers, as the pool names it -/
def LStH (own : String) (idx : Nat) (M' : MD) (n : Nat) : Prop :=
  Cond.methodLink own idx (mY M') ∈ WS ∧ Cond.codeWith (mY M') (mb M') (mL M') (mret M') (mh M') ∈ WS ∧ Cond.initialized (mo M') ∈ WS ∧
  (mo M' ≠ "java/lang/invoke/MethodHandle" ∧ mo M' ≠ "java/lang/invoke/VarHandle" ∧ (parseMethodDescriptor (mY M').desc).map (fun d => d.parameters.length) = some n) ∧ Cond.static (mY M') ∈ WS
theorem v_csH {idx n mc' ms' : Nat} {M' : MD} {As : List SV} {Q' X' : Int → Gt → Prop} (d : decode (mb M) pc = .ok (.invokestatic idx, 3)) (lk : LStH (mo M) idx M' n) (hrm : rmOk M M' = true) (hn : As.length = n) (hsc : scat stk ≤ 8) (hh : mh M = []) (hM : OkH E M' As G mc' ms' Q' X') (hc : mc' ≤ bc) (hs : ms' ≤ bs)
    (kx : ∀ (e : Int) (G' : Gt), X' e G' → X e G') (kk : ∀ (r : Int) (G' : Gt), sokR (mret M') r → Q' r G' → V E M (pc + 3) ls (retS (mret M') r ++ stk) G' (bc - mc') (bs - ms') Q X) : V E M pc ls (As.reverse ++ stk) G bc bs Q X := by
  intro p e s m args below meth c0 R mc ms H locs cells slots lsA F B P O hl
  obtain ⟨w1, w2, w3, hd, w4⟩ := lk
  have Os : ∀ v ∈ As.reverse ++ stk, sok v := O.2
  have O2 : (∀ v, some v ∈ ls → sok v) ∧ ∀ v ∈ stk, sok v := ⟨O.1, fun v hv => Os v (List.mem_append_right _ hv)⟩
  have Oa : ∀ v ∈ As, sok v := fun v hv => Os v (List.mem_append_left _ (List.mem_reverse.mpr hv))
  refine callFin (M' := M') (a := (As.map enc).toArray) F B P O2 hl hh (vx_runSX (As := As.map enc) (ws := wsH M') (rm := rmM M' mc' ms') (Pc := va_Pc (As.map enc) (BW E G As)) (hh := mh M') ⟨F.1, F.2.1, F.2.2.1, F.2.2.2.1, F.2.2.2.2.1⟩ hM (vx_cwSW n F.2.2.2.2.1 (fun w hw => ?_) rfl rfl rfl hd (rmp hrm F.2.2.2.2.2.2.2.2.2.1 F.2.2.2.2.2.2.2.2.2.2.1)) ⟨fun a U g mk q => BW.blind a U g mk q, fun U hU hW => BW.at F P Oa U hU hW⟩ rfl (enc_len hn) hl.1 (by show List.map enc _ = _; rw [List.map_append, List.map_reverse]) (by show 2 * 0 + _ ≤ 8; rw [scat_eq]; omega) d (by omega)) hc hs kx kk
  unfold va_wsS at hw
  rcases List.mem_append.mp hw with h | h
  · rcases List.mem_cons.mp h with h | h
    · rw [h]; exact gw w1
    · rcases List.mem_cons.mp h with h | h
      · rw [h]; exact gw w4
      · rcases List.mem_cons.mp h with h | h
        · rw [h]; exact gw w3
        · cases h
  · rcases List.mem_cons.mp h with h | h
    · rw [h]; exact gw w2
    · exact gw h
/-- the script, where it is read -/
def SPin (E : EE) (G : Gt) : Prop := gcl G (eS E).1 = 19 → gln G (eS E).1 = (eS E).2.1 ∧ ∀ j : Nat, j < (eS E).2.1 → gel G (eS E).1 j = ((eS E).2.2 j).toInt
theorem RP.spin {p : Program} {s : State} {m : MethodId} {args : Array Value} {meth : Method} {c : Code} {R : Room} {H : Heap} {locs : List Loc} (F : FX E M p s m args meth c R) (P : RP E s G H locs) : SPin E G := by
  intro h19
  obtain ⟨h1, h2, cell, h3, h4, h5⟩ := F.2.2.2.2.2.2.2.2.2.2.2.2.1.1.2.2.1
  obtain ⟨c9, a1, -, -, -, a5, a6, a7, -⟩ := P.2.1.2.2 (eS E).1 h1 (by rw [h19]; decide)
  rw [P.old h1, h3] at a1
  cases Option.some.inj a1
  have hl := P.2.1.1.2.2.2.1 (eS E).1 (by rw [h19]; decide)
  rw [h4] at a5 a6
  have hln : gln G (eS E).1 = (eS E).2.1 := by
    have e1 : ((eS E).2.1.toInt32 : Int32).toInt = (eS E).2.1 := by
      show (Int32.ofNat (eS E).2.1).toInt = _
      rw [← Int32.ofInt_eq_ofNat, i32_toInt ⟨by omega, by omega⟩]
    have e2 := i32_toInt (x := gln G (eS E).1) ⟨by omega, hl.2⟩
    rw [← a6, e1] at e2
    omega
  refine ⟨hln, fun j hj => ?_⟩
  have h6 := (a7 h19).2 j (by omega)
  have h7 := P.2.1.1.2.2.2.2.1 (eS E).1 j (Or.inr h19)
  rw [h5 j hj] at h6
  have h8 : (eS E).2.2 j = Int32.ofInt (gel G (eS E).1 j) := by
    injection h6 with h6
    injection h6
  rw [h8, i32_toInt h7]
theorem V.scr (h : SPin E G → V E M pc ls stk G bc bs Q X) : V E M pc ls stk G bc bs Q X := by
  intro p e s m args below meth c R mc ms H locs cells slots lsA F B P O hl
  exact h (RP.spin F P) F B P O hl
/-- a call of a method with handlers -/
def CallH (E : EE) (M' : MD) (As : List SV) (G : Gt) (bc bs : Nat) (K : Int → Gt → Nat → Nat → Prop) : Prop :=
  ∃ (mc' ms' : Nat) (Q' : Int → Gt → Prop), OkH E M' As G mc' ms' Q' (fun _ _ => False) ∧ mc' ≤ bc ∧ ms' ≤ bs ∧ ∀ (r : Int) (G' : Gt), sokR (mret M') r → Q' r G' → SPin E G' → K r G' (bc - mc') (bs - ms')
theorem CallH.mono {M' : MD} {As : List SV} {K K' : Int → Gt → Nat → Nat → Prop} (h : CallH E M' As G bc bs K) (hk : ∀ r G1 c1 s1, K r G1 c1 s1 → K' r G1 c1 s1) : CallH E M' As G bc bs K' := by
  obtain ⟨mc9, ms9, Q9, hM, h1, h2, h⟩ := h
  exact ⟨mc9, ms9, Q9, hM, h1, h2, fun r G1 hs hq hp => hk _ _ _ _ (h r G1 hs hq hp)⟩
theorem CallH.to {M' : MD} {As : List SV} {mc' ms' : Nat} {Q' : Int → Gt → Prop} {K : Int → Gt → Nat → Nat → Prop} (h : OkH E M' As G mc' ms' Q' (fun _ _ => False)) (h1 : mc' ≤ bc) (h2 : ms' ≤ bs) (hk : ∀ (r : Int) (G' : Gt), Q' r G' → SPin E G' → K r G' (bc - mc') (bs - ms')) : CallH E M' As G bc bs K := ⟨mc', ms', Q', h, h1, h2, fun r G' _ hq hp => hk r G' hq hp⟩
theorem v_csHI {idx n : Nat} {M' : MD} {As : List SV} (d : decode (mb M) pc = .ok (.invokestatic idx, 3)) (lk : LStH (mo M) idx M' n) (hrm : rmOk M M' = true) (hn : As.length = n) (hsc : scat stk ≤ 8) (hh : mh M = []) (hret : (mret M').map rT = some 0) (h : CallH E M' As G bc bs (fun r G1 c1 s1 => V E M (pc + 3) ls (iv r :: stk) G1 c1 s1 Q X)) : V E M pc ls (As.reverse ++ stk) G bc bs Q X := by
  obtain ⟨mc9, ms9, Q9, hM, h1, h2, hk⟩ := h
  exact v_csH d lk hrm hn hsc hh hM h1 h2 (fun _ _ h9 => h9.elim) (fun r G1 hs hq => by rw [retS_eq hret]; exact V.scr (fun hp => hk r G1 hs hq hp))
end Sb00
