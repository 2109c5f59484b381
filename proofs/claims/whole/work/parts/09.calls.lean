section VC9
variable {E : EE} {M : MD} {pc : Nat} {ls : List (Option SV)} {stk : List SV} {G : Gt} {bc bs : Nat} {Q X : Int → Gt → Prop}
def retS (r : Option FieldType) (x : Int) : List SV := match r with
  | none => []
  | some t => [(stT (rT t), x)]
def scat (l : List SV) : Nat := match l with
  | [] => 0
  | v :: r => (if v.1 = 1 then 2 else 1) + scat r
theorem scat_eq (l : List SV) : ((l.map enc).map fun v => v.category).sum = scat l := by
  induction l with
  | nil => rfl
  | cons v r ih => rw [List.map_cons, List.map_cons, List.sum_cons, ih, enc_cat]; rfl
def rmOk (M M' : MD) : Bool := decide (mfr M' + 1 ≤ mfr M) && decide (8 + (mL M' + 11) + mlo M' ≤ mlo M)
theorem encR_retS {ret : Option FieldType} {r : Int} : (encR ret r).toList = (retS ret r).map enc := by
  cases ret with
  | none => rfl
  | some t => show [encT (rT t) r] = [enc (stT (rT t), r)]; rw [enc_st]
theorem rT_le (t : FieldType) : rT t ≤ 3 := by unfold rT; split <;> omega
theorem sok_retS {ret : Option FieldType} {r : Int} (h : sokR ret r) {stk : List SV} {ls : List (Option SV)} (O : (∀ v, some v ∈ ls → sok v) ∧ ∀ v ∈ stk, sok v) : (∀ v, some v ∈ ls → sok v) ∧ ∀ v ∈ retS ret r ++ stk, sok v := by
  cases ret with
  | none => exact O
  | some t => exact oks O (sok_st h (rT_le t))
theorem BW.blind {svs : List SV} (a : Array Value) (U : State) (g : JFrame) (mk : MethodId) (h : va_Pc (svs.map enc) (BW E G svs) a U) : va_Pc (svs.map enc) (BW E G svs) a (U.calling g mk a) := by
  obtain ⟨h0, h1, h2, h3, h4, h5, h6⟩ := h
  exact ⟨h0, h1, h2, h3, va_K.moved (u := U) (U := U.calling g mk a) (Vm.Alike.refl U.vm) h4, STF.same (s := U) (U := U.calling g mk a) rfl rfl h5, h6⟩
theorem BW.at {s : State} {m : MethodId} {p : Program} {args : Array Value} {meth : Method} {c : Code} {R : Room} {H : Heap} {locs : List Loc} {svs : List SV} (F : FX E M p s m args meth c R) (P : RP E s G H locs) (hs : ∀ v ∈ svs, sok v) (U : State) (hU : U.heap = H) (hW : s.WarmedH U.vm) : va_Pc (svs.map enc) (BW E G svs) (svs.map enc).toArray U := by
  refine ⟨rfl, by rw [hU]; exact Nat.le_trans P.1 P.2.2.1, by rw [hU]; exact P.2.1, hs, va_K.moved hW.alike F.2.2.2.2.2.1, STF.go F.2.2.2.2.2.2.2.2.2.2.2.2.1 P.1 hW (fun q hq => ?_), F.2.2.2.2.2.2.2.2.2.2.2.2.2⟩
  rw [hU]
  exact P.2.2.2.1 q (Nat.lt_of_lt_of_le hq P.1) (by unfold eA; omega)
theorem RP.call {s st0 t : State} {H : Heap} {locs L : List Loc} {G' : Gt} (P : RP E s G H locs) (h0 : st0.heap = H) (hG : RG E G' t.heap) (hF : va_F (eA E) st0 t) (hL : ∀ q ∈ L, eA E q.base) : RP E s G' t.heap (locs ++ L) := by
  obtain ⟨f1, f2⟩ := hF
  rw [h0] at f1 f2
  refine ⟨P.1, hG, Nat.le_trans P.2.2.1 f1, fun q h1 h2 => ?_, fun z hz => ?_⟩
  · rw [f2 q (Nat.lt_of_lt_of_le h1 P.2.2.1) h2]; exact P.2.2.2.1 q h1 h2
  · rcases List.mem_append.mp hz with h | h
    · exact P.2.2.2.2 z h
    · exact hL z h
theorem callFin {p : Program} {e : Env} {s : State} {m : MethodId} {args a : Array Value} {below : List Frame} {meth : Method} {c : Code} {R : Room} {mc ms mc' ms' : Nat} {H : Heap} {locs : List Loc} {cells slots : Nat} {lsA : Array Slot} {M' : MD} {Q' X' : Int → Gt → Prop} {st0 : List Value}
    (F : FX E M p s m args meth c R) (B : cells + bc ≤ mc ∧ slots + bs ≤ ms ∧ mc ≤ R.cells ∧ ms ≤ R.slots) (P : RP E s G H locs) (O : (∀ v, some v ∈ ls → sok v) ∧ ∀ v ∈ stk, sok v) (hl : lvh lsA (mL M) ls) (hh : mh M = [])
    (hr : vx_Run p (eL E) e R s m args below meth c H locs cells slots mc' ms' (F0 m pc lsA st0) (stk.map enc) (QcR E M' Q' a) (XcR E X') (eA E)) (hc : mc' ≤ bc) (hs : ms' ≤ bs)
    (kx : ∀ (e : Int) (G' : Gt), X' e G' → X e G') (kk : ∀ (r : Int) (G' : Gt), sokR (mret M') r → Q' r G' → V E M (pc + 3) ls (retS (mret M') r ++ stk) G' (bc - mc') (bs - ms') Q X) :
    W p (eL E) e R s m args below meth c H locs cells slots (vx_MQ below (QcR E M Q) (XcR E X) args s mc ms (eA E)) (F0 m pc lsA st0) := by
  intro T hT Y
  rcases hr T hT Y with ⟨v, st1, t, T', L, h0, Y', hL, e1, e2, ⟨r, G', hv, hr1, hq, hG, hF⟩, st⟩ | ⟨q, st1, t, T', L, En, ce, h0, Y', hL, e1, e2, ⟨ex, G', hE, hX, hG, hF⟩, hce, hcv, hcl, st⟩
  · cases hv
    have P' := P.call h0 hG hF hL
    have hk := kk r G' hr1 hq (e := e) (below := below) (mc := mc) (ms := ms) (cells := cells + mc') (slots := slots + ms') F (by omega) P' (sok_retS hr1 O) hl
    rw [List.map_append, ← encR_retS] at hk
    rw [← e1] at hk
    obtain ⟨t2, a1, b1⟩ := hk T' rfl Y'
    exact ⟨t2, st t2 a1, b1⟩
  · have P' := P.call h0 hG hF hL
    have hk := vx_out (p := p) (l := eL E) (e := e) (m := m) (R := R) (args := args) (below := below) (H := t.heap) (locs := locs ++ L) (cells := cells + mc') (slots := slots + ms') (Qc := QcR E M Q) (XC := XcR E X) (free := eA E) (mc := mc) (ms := ms) (pc := pc) (ls := lsA) (rest := stk.map enc) (by rw [F.2.2.2.2.2.2.2.2.1, hh]; intro x hx; cases hx) F.2.2.2.2.2.2.2.1 hce hcv hcl
      (fun t9 ht9 _ => ⟨ex, G', hE, kx ex G' hX, by rw [ht9]; exact hG, P'.2.2.F ht9⟩) P'.2.2.2.2 (by omega) (by omega)
    rw [← e1] at hk
    obtain ⟨t2, a1, b1⟩ := hk T' rfl Y'
    exact ⟨t2, st.trans a1, b1⟩
/-- a method, as the pool names it: n its arguments -/
def LC (own : String) (idx : Nat) (M' : MD) (n : Nat) : Prop :=
  Cond.methodLink own idx (mY M') ∈ WS ∧ Cond.code (mY M') (mb M') (mL M') (mret M') ∈ WS ∧ Cond.initialized (mo M') ∈ WS ∧
  (mo M' ≠ "java/lang/invoke/MethodHandle" ∧ mo M' ≠ "java/lang/invoke/VarHandle" ∧ (parseMethodDescriptor (mY M').desc).map (fun d => d.parameters.length) = some n)
def LV (own : String) (idx : Nat) (M' : MD) (n : Nat) : Prop := LC own idx M' n ∧ Cond.instanceMethod (mY M') ∈ WS ∧ Cond.selects (mo M') (mY M') (mY M') ∈ WS
def LSt (own : String) (idx : Nat) (M' : MD) (n : Nat) : Prop := LC own idx M' n ∧ Cond.static (mY M') ∈ WS
def LI (own : String) (idx : Nat) (M' : MD) (n : Nat) : Prop := LC own idx M' n ∧ Cond.instanceMethod (mY M') ∈ WS ∧ (mY M').name = "<init>" ∧ mret M' = none
def LN (own : String) (idx : Nat) (M' : MD) (n : Nat) : Prop :=
  Cond.methodLinkNest own idx (mY M') "Ticksilo" ∈ NS ∧ Cond.code (mY M') (mb M') (mL M') (mret M') ∈ WS ∧ Cond.initialized (mo M') ∈ WS ∧
  (mo M' ≠ "java/lang/invoke/MethodHandle" ∧ mo M' ≠ "java/lang/invoke/VarHandle" ∧ (parseMethodDescriptor (mY M').desc).map (fun d => d.parameters.length) = some n)
theorem gw {w : Cond} (h : w ∈ WS) : w ∈ WS ∧ ((w.onTables && w.keeps) = true ∨ ∃ ty, w = .arrayClass ty) := ⟨h, good_of_word (List.mem_filter.mp h).2⟩
theorem gws : GoodIn WS WS := fun w h => gw h
theorem gwM {M' : MD} (h : Cond.code (mY M') (mb M') (mL M') (mret M') ∈ WS) : GoodIn WS (wsM M') := fun w hw => (List.mem_cons.mp hw).elim (fun q => by rw [q]; exact gw h) (fun q => gw q)
theorem enc_len {As : List SV} {n : Nat} (h : As.length = n) : (As.map enc).length = n := by rw [List.length_map]; exact h
section Kinds
variable {idx n c mc' ms' : Nat} {M' : MD} {As : List SV} {b : Int} {Q' X' : Int → Gt → Prop}
theorem lsize {lsA : Array Slot} {nL : Nat} (hl : lvh lsA nL ls) : lsA.size = nL := hl.1
theorem rmp {R : Room} (h : rmOk M M' = true) (h1 : mfr M ≤ R.frames) (h2 : mlo M ≤ R.locals) : (rmM M' mc' ms').frames + 1 ≤ R.frames ∧ 8 + (mL M' + 11) + (rmM M' mc' ms').locals ≤ R.locals := by
  unfold rmOk at h
  simp only [Bool.and_eq_true, decide_eq_true_eq] at h
  show mfr M' + 1 ≤ R.frames ∧ 8 + (mL M' + 11) + mlo M' ≤ R.locals
  omega
theorem v_cv (d : decode (mb M) pc = .ok (.invokevirtual idx, 3)) (lk : LV (mo M) idx M' n) (hrm : rmOk M M' = true) (hn : As.length = n) (hsc : scat stk ≤ 8) (hh : mh M = []) (hcn : c < 14 ∧ cN c = mo M') (hb : gcl G b = c + 1) (hM : Ok E M' (rv b :: As) G mc' ms' Q' X') (hc : mc' ≤ bc) (hs : ms' ≤ bs)
    (kx : ∀ (e : Int) (G' : Gt), X' e G' → X e G') (kk : ∀ (r : Int) (G' : Gt), sokR (mret M') r → Q' r G' → V E M (pc + 3) ls (retS (mret M') r ++ stk) G' (bc - mc') (bs - ms') Q X) : V E M pc ls (As.reverse ++ rv b :: stk) G bc bs Q X := by
  intro p e s m args below meth c0 R mc ms H locs cells slots lsA F B P O hl
  obtain ⟨⟨w1, w2, w3, hd⟩, w4, w5⟩ := lk
  have Os : ∀ v ∈ As.reverse ++ rv b :: stk, sok v := O.2
  have O2 : (∀ v, some v ∈ ls → sok v) ∧ ∀ v ∈ stk, sok v := ⟨O.1, fun v hv => Os v (List.mem_append_right _ (List.mem_cons_of_mem _ hv))⟩
  have Oa : ∀ v ∈ rv b :: As, sok v := fun v hv => Os v ((List.mem_cons.mp hv).elim (fun q => List.mem_append_right _ (by rw [q]; exact List.mem_cons_self)) (fun q => List.mem_append_left _ (List.mem_reverse.mpr q)))
  have hb0 := (P.2.1.1.1 b (by omega)).1
  obtain ⟨ws, q0, hP, hq⟩ := P.2.1.read (a := b) (by omega)
  rw [entO_obj hb hcn.1 hb0] at hq
  obtain ⟨r, e1, cell, q1, q2, q3, -⟩ := hP q0 _ hq
  have hca := (F.2.2.2.2.2.1.1 c _ (clC hcn.1)).2
  have hb9 : enc (rv b) = .ref b.toNat := enc_ref hb0
  refine callFin (M' := M') (a := (Value.ref b.toNat :: As.map enc).toArray) F B P O2 hl hh (vx_runV (As := As.map enc) (C := mo M') (ws := wsM M') (rm := rmM M' mc' ms') (Pc := va_Pc ((rv b :: As).map enc) (BW E G (rv b :: As))) ⟨F.1, F.2.1, F.2.2.1, F.2.2.2.1, F.2.2.2.2.1⟩ hM (cwV n F.2.2.2.2.1 (fun w hw => ?_) rfl rfl rfl ⟨rfl, hd⟩ (rmp hrm F.2.2.2.2.2.2.2.2.2.1 F.2.2.2.2.2.2.2.2.2.2.1)) ⟨fun a U g mk q => BW.blind a U g mk q, ⟨cell, q1, by rw [q3]; rfl, by rw [q2, ← hcn.2]; exact hca.1⟩, fun U hU hW => ?_⟩ rfl (enc_len hn) hl.1 (by show List.map enc _ = _; rw [List.map_append, List.map_reverse, List.map_cons, hb9]) (by show 2 * 0 + _ ≤ 8; rw [scat_eq]; omega) d (by omega)) hc hs kx kk
  · rcases List.mem_append.mp hw with h | h
    · rcases List.mem_cons.mp h with h | h
      · rw [h]; exact gw w1
      · rcases List.mem_cons.mp h with h | h
        · rw [h]; exact gw w4
        · rcases List.mem_cons.mp h with h | h
          · rw [h]; exact gw w5
          · rcases List.mem_cons.mp h with h | h
            · rw [h]; exact gw w3
            · cases h
    · exact gwM w2 w h
  · have := BW.at (svs := rv b :: As) F P Oa U hU hW
    rw [List.map_cons, hb9] at this ⊢
    exact this
theorem v_cs (d : decode (mb M) pc = .ok (.invokestatic idx, 3)) (lk : LSt (mo M) idx M' n) (hrm : rmOk M M' = true) (hn : As.length = n) (hsc : scat stk ≤ 8) (hh : mh M = []) (hM : Ok E M' As G mc' ms' Q' X') (hc : mc' ≤ bc) (hs : ms' ≤ bs)
    (kx : ∀ (e : Int) (G' : Gt), X' e G' → X e G') (kk : ∀ (r : Int) (G' : Gt), sokR (mret M') r → Q' r G' → V E M (pc + 3) ls (retS (mret M') r ++ stk) G' (bc - mc') (bs - ms') Q X) : V E M pc ls (As.reverse ++ stk) G bc bs Q X := by
  intro p e s m args below meth c0 R mc ms H locs cells slots lsA F B P O hl
  obtain ⟨⟨w1, w2, w3, hd⟩, w4⟩ := lk
  have Os : ∀ v ∈ As.reverse ++ stk, sok v := O.2
  have O2 : (∀ v, some v ∈ ls → sok v) ∧ ∀ v ∈ stk, sok v := ⟨O.1, fun v hv => Os v (List.mem_append_right _ hv)⟩
  have Oa : ∀ v ∈ As, sok v := fun v hv => Os v (List.mem_append_left _ (List.mem_reverse.mpr hv))
  have hini := F.2.2.2.2.1 _ w3
  refine callFin (M' := M') (a := (As.map enc).toArray) F B P O2 hl hh (vx_runS (As := As.map enc) (ws := wsM M') (rm := rmM M' mc' ms') (Pc := va_Pc (As.map enc) (BW E G As)) ⟨F.1, F.2.1, F.2.2.1, F.2.2.2.1, F.2.2.2.2.1⟩ hM ⟨callB_of n F.2.2.2.2.1 (gwM w2) rfl rfl rfl hini (F.2.2.2.2.1 _ w1) hd (rmp hrm F.2.2.2.2.2.2.2.2.2.1 F.2.2.2.2.2.2.2.2.2.2.1), F.2.2.2.2.1 _ w4⟩ ⟨fun a U g mk q => BW.blind a U g mk q, fun U hU hW => BW.at F P Oa U hU hW⟩ rfl (enc_len hn) hl.1 (by show List.map enc _ = _; rw [List.map_append, List.map_reverse]) (by show 2 * 0 + _ ≤ 8; rw [scat_eq]; omega) d (by omega)) hc hs kx kk
theorem v_ci (d : decode (mb M) pc = .ok (.invokespecial idx, 3)) (lk : LI (mo M) idx M' n) (hrm : rmOk M M' = true) (hn : As.length = n) (hsc : scat stk ≤ 8) (hh : mh M = []) (hb0 : 0 ≤ b) (hM : Ok E M' (rv b :: As) G mc' ms' Q' X') (hc : mc' ≤ bc) (hs : ms' ≤ bs)
    (kx : ∀ (e : Int) (G' : Gt), X' e G' → X e G') (kk : ∀ (r : Int) (G' : Gt), Q' r G' → V E M (pc + 3) ls stk G' (bc - mc') (bs - ms') Q X) : V E M pc ls (As.reverse ++ rv b :: stk) G bc bs Q X := by
  intro p e s m args below meth c0 R mc ms H locs cells slots lsA F B P O hl
  obtain ⟨⟨w1, w2, w3, hd⟩, w4, w5, w6⟩ := lk
  have Os : ∀ v ∈ As.reverse ++ rv b :: stk, sok v := O.2
  have O2 : (∀ v, some v ∈ ls → sok v) ∧ ∀ v ∈ stk, sok v := ⟨O.1, fun v hv => Os v (List.mem_append_right _ (List.mem_cons_of_mem _ hv))⟩
  have Oa : ∀ v ∈ rv b :: As, sok v := fun v hv => Os v ((List.mem_cons.mp hv).elim (fun q => List.mem_append_right _ (by rw [q]; exact List.mem_cons_self)) (fun q => List.mem_append_left _ (List.mem_reverse.mpr q)))
  have hb9 : enc (rv b) = .ref b.toNat := enc_ref hb0
  refine callFin (M' := M') (a := (Value.ref b.toNat :: As.map enc).toArray) F B P O2 hl hh (vx_runI (As := As.map enc) (ws := wsM M') (rm := rmM M' mc' ms') (Pc := va_Pc ((rv b :: As).map enc) (BW E G (rv b :: As))) ⟨F.1, F.2.1, F.2.2.1, F.2.2.2.1, F.2.2.2.2.1⟩ hM (cwI n F.2.2.2.2.1 (gwM w2) (by show _ = Cond.code _ _ _ none :: WS; rw [← w6]; rfl) rfl rfl (F.2.2.2.2.1 _ w3) (F.2.2.2.2.1 _ w1) (F.2.2.2.2.1 _ w4) w5 hd (rmp hrm F.2.2.2.2.2.2.2.2.2.1 F.2.2.2.2.2.2.2.2.2.2.1)) ⟨fun a U g mk q => BW.blind a U g mk q, fun U hU hW => ?_⟩ rfl (enc_len hn) hl.1 (by show List.map enc _ = _; rw [List.map_append, List.map_reverse, List.map_cons, hb9]) (by show 2 * 0 + _ ≤ 8; rw [scat_eq]; omega) d (by omega)) hc hs kx (fun r G' _ hq => ?_)
  · have := BW.at (svs := rv b :: As) F P Oa U hU hW
    rw [List.map_cons, hb9] at this ⊢
    exact this
  · rw [w6]; exact kk r G' hq
theorem v_csN (d : decode (mb M) pc = .ok (.invokestatic idx, 3)) (lk : LN (mo M) idx M' n) (hst : Cond.static (mY M') ∈ WS) (hrm : rmOk M M' = true) (hn : As.length = n) (hsc : scat stk ≤ 8) (hh : mh M = []) (hM : Ok E M' As G mc' ms' Q' X') (hc : mc' ≤ bc) (hs : ms' ≤ bs)
    (kx : ∀ (e : Int) (G' : Gt), X' e G' → X e G') (kk : ∀ (r : Int) (G' : Gt), sokR (mret M') r → Q' r G' → V E M (pc + 3) ls (retS (mret M') r ++ stk) G' (bc - mc') (bs - ms') Q X) : V E M pc ls (As.reverse ++ stk) G bc bs Q X := by
  intro p e s m args below meth c0 R mc ms H locs cells slots lsA F B P O hl
  obtain ⟨w1, w2, w3, hd⟩ := lk
  have Os : ∀ v ∈ As.reverse ++ stk, sok v := O.2
  have O2 : (∀ v, some v ∈ ls → sok v) ∧ ∀ v ∈ stk, sok v := ⟨O.1, fun v hv => Os v (List.mem_append_right _ hv)⟩
  have Oa : ∀ v ∈ As, sok v := fun v hv => Os v (List.mem_append_left _ (List.mem_reverse.mpr hv))
  refine callFin (M' := M') (a := (As.map enc).toArray) F B P O2 hl hh (vx_runSN (As := As.map enc) (ws := wsM M') (rm := rmM M' mc' ms') (Pc := va_Pc (As.map enc) (BW E G As)) ⟨F.1, F.2.1, F.2.2.1, F.2.2.2.1, F.2.2.2.2.1⟩ hM ⟨va_cnB n F.2.2.2.2.1 (gwM w2) rfl rfl rfl (F.2.2.2.2.2.2.2.2.2.2.2.2.1.2.2.2.2.2.2.2 _ w1) (F.2.2.2.2.1 _ w3) hd (rmp hrm F.2.2.2.2.2.2.2.2.2.1 F.2.2.2.2.2.2.2.2.2.2.1), F.2.2.2.2.1 _ hst, trivial⟩ ⟨fun a U g mk q => BW.blind a U g mk q, fun U hU hW => BW.at F P Oa U hU hW⟩ rfl (enc_len hn) hl.1 (by show List.map enc _ = _; rw [List.map_append, List.map_reverse]) (by show 2 * 0 + _ ≤ 8; rw [scat_eq]; omega) d (by omega)) hc hs kx kk
theorem v_ciN (d : decode (mb M) pc = .ok (.invokespecial idx, 3)) (lk : LN (mo M) idx M' n) (hin : Cond.instanceMethod (mY M') ∈ WS ∧ (mY M').name = "<init>" ∧ mret M' = none) (hrm : rmOk M M' = true) (hn : As.length = n) (hsc : scat stk ≤ 8) (hh : mh M = []) (hb0 : 0 ≤ b) (hM : Ok E M' (rv b :: As) G mc' ms' Q' X') (hc : mc' ≤ bc) (hs : ms' ≤ bs)
    (kx : ∀ (e : Int) (G' : Gt), X' e G' → X e G') (kk : ∀ (r : Int) (G' : Gt), Q' r G' → V E M (pc + 3) ls stk G' (bc - mc') (bs - ms') Q X) : V E M pc ls (As.reverse ++ rv b :: stk) G bc bs Q X := by
  intro p e s m args below meth c0 R mc ms H locs cells slots lsA F B P O hl
  obtain ⟨w1, w2, w3, hd⟩ := lk
  obtain ⟨w4, w5, w6⟩ := hin
  have Os : ∀ v ∈ As.reverse ++ rv b :: stk, sok v := O.2
  have O2 : (∀ v, some v ∈ ls → sok v) ∧ ∀ v ∈ stk, sok v := ⟨O.1, fun v hv => Os v (List.mem_append_right _ (List.mem_cons_of_mem _ hv))⟩
  have Oa : ∀ v ∈ rv b :: As, sok v := fun v hv => Os v ((List.mem_cons.mp hv).elim (fun q => List.mem_append_right _ (by rw [q]; exact List.mem_cons_self)) (fun q => List.mem_append_left _ (List.mem_reverse.mpr q)))
  have hb9 : enc (rv b) = .ref b.toNat := enc_ref hb0
  refine callFin (M' := M') (a := (Value.ref b.toNat :: As.map enc).toArray) F B P O2 hl hh (vx_runIN (As := As.map enc) (ws := wsM M') (rm := rmM M' mc' ms') (Pc := va_Pc ((rv b :: As).map enc) (BW E G (rv b :: As))) ⟨F.1, F.2.1, F.2.2.1, F.2.2.2.1, F.2.2.2.2.1⟩ hM ⟨va_cnB n F.2.2.2.2.1 (gwM w2) (by show _ = Cond.code _ _ _ none :: WS; rw [← w6]; rfl) rfl rfl (F.2.2.2.2.2.2.2.2.2.2.2.2.1.2.2.2.2.2.2.2 _ w1) (F.2.2.2.2.1 _ w3) hd (rmp hrm F.2.2.2.2.2.2.2.2.2.1 F.2.2.2.2.2.2.2.2.2.2.1), w5, F.2.2.2.2.1 _ w4⟩ ⟨fun a U g mk q => BW.blind a U g mk q, fun U hU hW => ?_⟩ rfl (enc_len hn) hl.1 (by show List.map enc _ = _; rw [List.map_append, List.map_reverse, List.map_cons, hb9]) (by show 2 * 0 + _ ≤ 8; rw [scat_eq]; omega) d (by omega)) hc hs kx (fun r G' _ hq => ?_)
  · have := BW.at (svs := rv b :: As) F P Oa U hU hW
    rw [List.map_cons, hb9] at this ⊢
    exact this
  · rw [w6]; exact kk r G' hq
end Kinds
/-! a method from its body -/
theorem args0_mem {svs : List SV} {j : Nat} {w : SV} : ∀ (i : Nat), (args0 svs)[j]? = some (some w) → (i + j, enc w) ∈ lv_args i (svs.map enc) := by
  induction svs generalizing j with
  | nil => intro i h; simp [args0] at h
  | cons v r ih =>
    intro i h
    rw [List.map_cons]
    show _ ∈ (i, enc v) :: lv_args (if (enc v).category = 2 then i + 2 else i + 1) (r.map enc)
    rw [enc_cat]
    unfold args0 at h
    by_cases hv : v.1 = 1
    · rw [if_pos hv] at h
      simp only [hv, if_true]
      match j, h with
      | 0, h => cases h; exact List.mem_cons_self
      | 1, h => cases h
      | j + 2, h =>
        have := ih (i + 2) h
        rw [show i + 2 + j = i + (j + 2) by omega] at this
        exact List.mem_cons_of_mem _ this
    · rw [if_neg hv] at h
      simp only [hv, if_false]
      match j, h with
      | 0, h => cases h; exact List.mem_cons_self
      | j + 1, h =>
        have := ih (i + 1) h
        rw [show i + 1 + j = i + (j + 1) by omega] at this
        exact List.mem_cons_of_mem _ this
theorem args0_sub {svs : List SV} (w : SV) : some w ∈ args0 svs → w ∈ svs := by
  induction svs with
  | nil => intro h; cases h
  | cons v r ih =>
    intro h
    unfold args0 at h
    split at h
    · rcases List.mem_cons.mp h with h | h
      · cases h; exact List.mem_cons_self
      · rcases List.mem_cons.mp h with h | h
        · cases h
        · exact List.mem_cons_of_mem _ (ih h)
    · rcases List.mem_cons.mp h with h | h
      · cases h; exact List.mem_cons_self
      · exact List.mem_cons_of_mem _ (ih h)
theorem lgsl_len (svs : List SV) : (lg_sl (svs.map enc)).length = scat svs := by
  induction svs with
  | nil => rfl
  | cons v r ih =>
    rw [List.map_cons]
    show ((if (enc v).category = 2 then [Slot.val (enc v), Slot.second] else [Slot.val (enc v)]) ++ lg_sl (r.map enc)).length = _
    rw [List.length_append, ih, enc_cat]
    by_cases hv : v.1 = 1
    · simp [scat, hv]
    · simp [scat, hv]
theorem Ok.intro {svs : List SV} {mc ms k : Nat} {ls : List (Option SV)} (hy : plainName (mo M) = true) (hh : mh M = []) (hsz : scat svs ≤ mL M) (hls : ls = args0 svs ++ List.replicate k none) (hV : V E M 0 ls [] G mc ms Q X) : Ok E M svs G mc ms Q X := by
  refine vx_ofW (cc := mb M) (maxL := mL M) (ret := mret M) hy rfl ?_
  intro p e s m args below meth c s₁ Bd hml hex hPc
  obtain ⟨rfl, hb, hG, hs, hK, hST, hfl⟩ := hPc
  rw [lg_entry_eq]
  have hent := lv_entry (svs.map enc) (n := mL M) (by rw [lgsl_len]; exact hsz)
  generalize (lg_sl (svs.map enc) ++ List.replicate (mL M - (lg_sl (svs.map enc)).length) Slot.unset).toArray = lsA at hent ⊢
  have hat : ∀ (j : Nat) (w : SV), ls[j]? = some (some w) → (args0 svs)[j]? = some (some w) := by
    intro j w hj
    rw [hls] at hj
    by_cases hlt : j < (args0 svs).length
    · rw [List.getElem?_append_left hlt] at hj; exact hj
    · rw [List.getElem?_append_right (by omega), List.getElem?_replicate] at hj
      split at hj <;> cases hj
  have hpre := atoms_spec (ws := wsM M) Bd.pre
  refine hV (cells := 0) (slots := 0) (mc := mc) (ms := ms) ⟨Bd.exec, Bd.bytes, hml, findClass_of_methodNamed Bd.named, fun w hw => hpre w (List.mem_cons_of_mem _ hw), hK, Bd.returns, Bd.notSynchronized, ?_, Nat.le_refl _, Nat.le_refl _, (name_of_methodNamed Bd.named Bd.method).1, hST, hfl⟩ ⟨by omega, by omega, Nat.le_refl _, Nat.le_refl _⟩ ⟨hb, hG, va_S.rf⟩ ⟨fun v hv => ?_, fun v hv => by cases hv⟩ ⟨hent.1, hent.2.1, fun j w hj => ?_⟩
  · rw [hh]
    cases hx : c.exceptionTable.toList with
    | nil => rfl
    | cons a r => exact (hex a (by rw [hx]; exact List.mem_cons_self)).elim
  · obtain ⟨j, hj⟩ := List.getElem?_of_mem hv
    exact hs v (args0_sub v (List.mem_of_getElem? (hat j v hj)))
  · have := args0_mem 0 (hat j w hj)
    rw [Nat.zero_add] at this
    exact hent.2.2 _ this
end VC9
