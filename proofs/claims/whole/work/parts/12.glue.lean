theorem oiI : Cond.instanceMethod Lib.objectInit ∈ WS := wsm 104 (by decide +kernel)
theorem oiC : Cond.code Lib.objectInit ⟨#[0xb1]⟩ 1 none ∈ WS := wsm 105 (by decide +kernel)
section VG
variable {E : EE} {M : MD} {pc : Nat} {ls : List (Option SV)} {stk : List SV} {G : Gt} {bc bs : Nat} {Q X : Int → Gt → Prop}
theorem dk {M : MD} {tb : List (Nat × Instr × Nat)} (h : (tb.all fun q => decide (decode M.2.1 q.1 = .ok (q.2.1, q.2.2))) = true) (i : Nat) {pc : Nat} {ins : Instr} {len : Nat} (hi : tb[i]? = some (pc, ins, len)) : decode (mb M) pc = .ok (ins, len) := by
  have := List.all_eq_true.mp h _ (List.mem_of_getElem? hi)
  exact of_decide_eq_true this
/-- a call: some contract of the callee, paid out of the room that is left, and what follows from what it says -/
def Call (E : EE) (M' : MD) (As : List SV) (G : Gt) (bc bs : Nat) (X : Int → Gt → Prop) (K : Int → Gt → Nat → Nat → Prop) : Prop :=
  ∃ (mc' ms' : Nat) (Q' X' : Int → Gt → Prop), Ok E M' As G mc' ms' Q' X' ∧ mc' ≤ bc ∧ ms' ≤ bs ∧ (∀ (e : Int) (G' : Gt), X' e G' → X e G') ∧ ∀ (r : Int) (G' : Gt), sokR (mret M') r → Q' r G' → K r G' (bc - mc') (bs - ms')
theorem Call.of {M' : MD} {As : List SV} {mc' ms' : Nat} {Q' X' : Int → Gt → Prop} {K : Int → Gt → Nat → Nat → Prop} (h : Ok E M' As G mc' ms' Q' X') (h1 : mc' ≤ bc) (h2 : ms' ≤ bs) (hx : ∀ (e : Int) (G' : Gt), X' e G' → X e G') (hk : ∀ (r : Int) (G' : Gt), Q' r G' → K r G' (bc - mc') (bs - ms')) : Call E M' As G bc bs X K := ⟨mc', ms', Q', X', h, h1, h2, hx, fun r G' _ hq => hk r G' hq⟩
/-- a call that doesn't throw -/
theorem Call.to {M' : MD} {As : List SV} {mc' ms' : Nat} {Q' : Int → Gt → Prop} {K : Int → Gt → Nat → Nat → Prop} (h : Ok E M' As G mc' ms' Q' (fun _ _ => False)) (h1 : mc' ≤ bc) (h2 : ms' ≤ bs) (hk : ∀ (r : Int) (G' : Gt), Q' r G' → K r G' (bc - mc') (bs - ms')) : Call E M' As G bc bs X K := Call.of h h1 h2 (fun _ _ h => h.elim) hk
/-- a method that only answers v -/
def OkP (E : EE) (M' : MD) (As : List SV) (G : Gt) (v : Int) : Prop := Ok E M' As G 0 0 (fun r G' => r = v ∧ G' = G) (fun _ _ => False)
theorem Ok.mono {svs : List SV} {mc ms : Nat} {Q Q' X X' : Int → Gt → Prop} (h : Ok E M svs G mc ms Q X) (hq : ∀ r G', Q r G' → Q' r G') (hx : ∀ e G', X e G' → X' e G') : Ok E M svs G mc ms Q' X' := by
  intro p e h1 h2 h3 s m args below h4 h5 h6 h7
  obtain ⟨n, o, g1, g2, g3, g4⟩ := h p e h1 h2 h3 s m args below h4 h5 h6 h7
  refine ⟨n, o, g1, g2, g3, ?_⟩
  rcases g4 with ⟨⟨r, G', a1, a2, a3, a4⟩, a5⟩ | ⟨q, a1, En, ce, L, ⟨ex, G', b1, b2, b3⟩, a3⟩
  · exact Or.inl ⟨⟨r, G', a1, a2, hq r G' a3, a4⟩, a5⟩
  · exact Or.inr ⟨q, a1, En, ce, L, ⟨ex, G', b1, hx ex G' b2, b3⟩, a3⟩
theorem Call.pure {M' : MD} {As : List SV} {v : Int} {K : Int → Gt → Nat → Nat → Prop} (h : OkP E M' As G v) (hk : K v G bc bs) : Call E M' As G bc bs X K := Call.to h (Nat.zero_le _) (Nat.zero_le _) (fun r G' hq => by obtain ⟨rfl, rfl⟩ := hq; exact hk)
theorem retS_eq {ret : Option FieldType} {t : Nat} (h : ret.map rT = some t) (r : Int) (stk : List SV) : retS ret r ++ stk = (stT t, r) :: stk := by
  cases ret with
  | none => cases h
  | some ty =>
    have : rT ty = t := by simpa using h
    show [(stT (rT ty), r)] ++ stk = _
    rw [this]; rfl
theorem retS_none {ret : Option FieldType} (h : ret.map rT = none) (r : Int) (stk : List SV) : retS ret r ++ stk = stk := by
  cases ret with
  | none => rfl
  | some ty => cases h
section K
variable {idx n c : Nat} {M' : MD} {As : List SV} {b : Int} {v : Int}
theorem v_cvI (d : decode (mb M) pc = .ok (.invokevirtual idx, 3)) (lk : LV (mo M) idx M' n) (hrm : rmOk M M' = true) (hn : As.length = n) (hsc : scat stk ≤ 8) (hh : mh M = []) (hcn : c < 14 ∧ cN c = mo M') (hb : gcl G b = c + 1) (hret : (mret M').map rT = some 0) (h : Call E M' (rv b :: As) G bc bs X (fun r G1 c1 s1 => V E M (pc + 3) ls (iv r :: stk) G1 c1 s1 Q X)) : V E M pc ls (As.reverse ++ rv b :: stk) G bc bs Q X := by
  obtain ⟨mc9, ms9, Q9, X9, hM, h1, h2, hx, hk⟩ := h
  exact v_cv d lk hrm hn hsc hh hcn hb hM h1 h2 hx (fun r G1 hs hq => by rw [retS_eq hret]; exact hk r G1 hs hq)
theorem v_cvPI (d : decode (mb M) pc = .ok (.invokevirtual idx, 3)) (lk : LV (mo M) idx M' n) (hrm : rmOk M M' = true) (hn : As.length = n) (hsc : scat stk ≤ 8) (hh : mh M = []) (hcn : c < 14 ∧ cN c = mo M') (hb : gcl G b = c + 1) (hret : (mret M').map rT = some 0) (h : OkP E M' (rv b :: As) G v) (kk : V E M (pc + 3) ls (iv v :: stk) G bc bs Q X) : V E M pc ls (As.reverse ++ rv b :: stk) G bc bs Q X := v_cvI d lk hrm hn hsc hh hcn hb hret (Call.pure h kk)
theorem v_cvJ (d : decode (mb M) pc = .ok (.invokevirtual idx, 3)) (lk : LV (mo M) idx M' n) (hrm : rmOk M M' = true) (hn : As.length = n) (hsc : scat stk ≤ 8) (hh : mh M = []) (hcn : c < 14 ∧ cN c = mo M') (hb : gcl G b = c + 1) (hret : (mret M').map rT = some 1) (h : Call E M' (rv b :: As) G bc bs X (fun r G1 c1 s1 => V E M (pc + 3) ls (jv r :: stk) G1 c1 s1 Q X)) : V E M pc ls (As.reverse ++ rv b :: stk) G bc bs Q X := by
  obtain ⟨mc9, ms9, Q9, X9, hM, h1, h2, hx, hk⟩ := h
  exact v_cv d lk hrm hn hsc hh hcn hb hM h1 h2 hx (fun r G1 hs hq => by rw [retS_eq hret]; exact hk r G1 hs hq)
theorem v_cvPJ (d : decode (mb M) pc = .ok (.invokevirtual idx, 3)) (lk : LV (mo M) idx M' n) (hrm : rmOk M M' = true) (hn : As.length = n) (hsc : scat stk ≤ 8) (hh : mh M = []) (hcn : c < 14 ∧ cN c = mo M') (hb : gcl G b = c + 1) (hret : (mret M').map rT = some 1) (h : OkP E M' (rv b :: As) G v) (kk : V E M (pc + 3) ls (jv v :: stk) G bc bs Q X) : V E M pc ls (As.reverse ++ rv b :: stk) G bc bs Q X := v_cvJ d lk hrm hn hsc hh hcn hb hret (Call.pure h kk)
theorem v_cvR (d : decode (mb M) pc = .ok (.invokevirtual idx, 3)) (lk : LV (mo M) idx M' n) (hrm : rmOk M M' = true) (hn : As.length = n) (hsc : scat stk ≤ 8) (hh : mh M = []) (hcn : c < 14 ∧ cN c = mo M') (hb : gcl G b = c + 1) (hret : (mret M').map rT = some 2) (h : Call E M' (rv b :: As) G bc bs X (fun r G1 c1 s1 => V E M (pc + 3) ls (rv r :: stk) G1 c1 s1 Q X)) : V E M pc ls (As.reverse ++ rv b :: stk) G bc bs Q X := by
  obtain ⟨mc9, ms9, Q9, X9, hM, h1, h2, hx, hk⟩ := h
  exact v_cv d lk hrm hn hsc hh hcn hb hM h1 h2 hx (fun r G1 hs hq => by rw [retS_eq hret]; exact hk r G1 hs hq)
theorem v_cvPR (d : decode (mb M) pc = .ok (.invokevirtual idx, 3)) (lk : LV (mo M) idx M' n) (hrm : rmOk M M' = true) (hn : As.length = n) (hsc : scat stk ≤ 8) (hh : mh M = []) (hcn : c < 14 ∧ cN c = mo M') (hb : gcl G b = c + 1) (hret : (mret M').map rT = some 2) (h : OkP E M' (rv b :: As) G v) (kk : V E M (pc + 3) ls (rv v :: stk) G bc bs Q X) : V E M pc ls (As.reverse ++ rv b :: stk) G bc bs Q X := v_cvR d lk hrm hn hsc hh hcn hb hret (Call.pure h kk)
theorem v_cvZ (d : decode (mb M) pc = .ok (.invokevirtual idx, 3)) (lk : LV (mo M) idx M' n) (hrm : rmOk M M' = true) (hn : As.length = n) (hsc : scat stk ≤ 8) (hh : mh M = []) (hcn : c < 14 ∧ cN c = mo M') (hb : gcl G b = c + 1) (hret : (mret M').map rT = some 3) (h : Call E M' (rv b :: As) G bc bs X (fun r G1 c1 s1 => V E M (pc + 3) ls (iv r :: stk) G1 c1 s1 Q X)) : V E M pc ls (As.reverse ++ rv b :: stk) G bc bs Q X := by
  obtain ⟨mc9, ms9, Q9, X9, hM, h1, h2, hx, hk⟩ := h
  exact v_cv d lk hrm hn hsc hh hcn hb hM h1 h2 hx (fun r G1 hs hq => by rw [retS_eq hret]; exact hk r G1 hs hq)
theorem v_cvPZ (d : decode (mb M) pc = .ok (.invokevirtual idx, 3)) (lk : LV (mo M) idx M' n) (hrm : rmOk M M' = true) (hn : As.length = n) (hsc : scat stk ≤ 8) (hh : mh M = []) (hcn : c < 14 ∧ cN c = mo M') (hb : gcl G b = c + 1) (hret : (mret M').map rT = some 3) (h : OkP E M' (rv b :: As) G v) (kk : V E M (pc + 3) ls (iv v :: stk) G bc bs Q X) : V E M pc ls (As.reverse ++ rv b :: stk) G bc bs Q X := v_cvZ d lk hrm hn hsc hh hcn hb hret (Call.pure h kk)
theorem v_cvV (d : decode (mb M) pc = .ok (.invokevirtual idx, 3)) (lk : LV (mo M) idx M' n) (hrm : rmOk M M' = true) (hn : As.length = n) (hsc : scat stk ≤ 8) (hh : mh M = []) (hcn : c < 14 ∧ cN c = mo M') (hb : gcl G b = c + 1) (hret : (mret M').map rT = none) (h : Call E M' (rv b :: As) G bc bs X (fun r G1 c1 s1 => V E M (pc + 3) ls (stk) G1 c1 s1 Q X)) : V E M pc ls (As.reverse ++ rv b :: stk) G bc bs Q X := by
  obtain ⟨mc9, ms9, Q9, X9, hM, h1, h2, hx, hk⟩ := h
  exact v_cv d lk hrm hn hsc hh hcn hb hM h1 h2 hx (fun r G1 hs hq => by rw [retS_none hret]; exact hk r G1 hs hq)
theorem v_csI (d : decode (mb M) pc = .ok (.invokestatic idx, 3)) (lk : LSt (mo M) idx M' n) (hrm : rmOk M M' = true) (hn : As.length = n) (hsc : scat stk ≤ 8) (hh : mh M = []) (hret : (mret M').map rT = some 0) (h : Call E M' (As) G bc bs X (fun r G1 c1 s1 => V E M (pc + 3) ls (iv r :: stk) G1 c1 s1 Q X)) : V E M pc ls (As.reverse ++ stk) G bc bs Q X := by
  obtain ⟨mc9, ms9, Q9, X9, hM, h1, h2, hx, hk⟩ := h
  exact v_cs d lk hrm hn hsc hh hM h1 h2 hx (fun r G1 hs hq => by rw [retS_eq hret]; exact hk r G1 hs hq)
theorem v_csPI (d : decode (mb M) pc = .ok (.invokestatic idx, 3)) (lk : LSt (mo M) idx M' n) (hrm : rmOk M M' = true) (hn : As.length = n) (hsc : scat stk ≤ 8) (hh : mh M = []) (hret : (mret M').map rT = some 0) (h : OkP E M' (As) G v) (kk : V E M (pc + 3) ls (iv v :: stk) G bc bs Q X) : V E M pc ls (As.reverse ++ stk) G bc bs Q X := v_csI d lk hrm hn hsc hh hret (Call.pure h kk)
theorem v_csJ (d : decode (mb M) pc = .ok (.invokestatic idx, 3)) (lk : LSt (mo M) idx M' n) (hrm : rmOk M M' = true) (hn : As.length = n) (hsc : scat stk ≤ 8) (hh : mh M = []) (hret : (mret M').map rT = some 1) (h : Call E M' (As) G bc bs X (fun r G1 c1 s1 => V E M (pc + 3) ls (jv r :: stk) G1 c1 s1 Q X)) : V E M pc ls (As.reverse ++ stk) G bc bs Q X := by
  obtain ⟨mc9, ms9, Q9, X9, hM, h1, h2, hx, hk⟩ := h
  exact v_cs d lk hrm hn hsc hh hM h1 h2 hx (fun r G1 hs hq => by rw [retS_eq hret]; exact hk r G1 hs hq)
theorem v_csPJ (d : decode (mb M) pc = .ok (.invokestatic idx, 3)) (lk : LSt (mo M) idx M' n) (hrm : rmOk M M' = true) (hn : As.length = n) (hsc : scat stk ≤ 8) (hh : mh M = []) (hret : (mret M').map rT = some 1) (h : OkP E M' (As) G v) (kk : V E M (pc + 3) ls (jv v :: stk) G bc bs Q X) : V E M pc ls (As.reverse ++ stk) G bc bs Q X := v_csJ d lk hrm hn hsc hh hret (Call.pure h kk)
theorem v_csR (d : decode (mb M) pc = .ok (.invokestatic idx, 3)) (lk : LSt (mo M) idx M' n) (hrm : rmOk M M' = true) (hn : As.length = n) (hsc : scat stk ≤ 8) (hh : mh M = []) (hret : (mret M').map rT = some 2) (h : Call E M' (As) G bc bs X (fun r G1 c1 s1 => V E M (pc + 3) ls (rv r :: stk) G1 c1 s1 Q X)) : V E M pc ls (As.reverse ++ stk) G bc bs Q X := by
  obtain ⟨mc9, ms9, Q9, X9, hM, h1, h2, hx, hk⟩ := h
  exact v_cs d lk hrm hn hsc hh hM h1 h2 hx (fun r G1 hs hq => by rw [retS_eq hret]; exact hk r G1 hs hq)
theorem v_csPR (d : decode (mb M) pc = .ok (.invokestatic idx, 3)) (lk : LSt (mo M) idx M' n) (hrm : rmOk M M' = true) (hn : As.length = n) (hsc : scat stk ≤ 8) (hh : mh M = []) (hret : (mret M').map rT = some 2) (h : OkP E M' (As) G v) (kk : V E M (pc + 3) ls (rv v :: stk) G bc bs Q X) : V E M pc ls (As.reverse ++ stk) G bc bs Q X := v_csR d lk hrm hn hsc hh hret (Call.pure h kk)
theorem v_csZ (d : decode (mb M) pc = .ok (.invokestatic idx, 3)) (lk : LSt (mo M) idx M' n) (hrm : rmOk M M' = true) (hn : As.length = n) (hsc : scat stk ≤ 8) (hh : mh M = []) (hret : (mret M').map rT = some 3) (h : Call E M' (As) G bc bs X (fun r G1 c1 s1 => V E M (pc + 3) ls (iv r :: stk) G1 c1 s1 Q X)) : V E M pc ls (As.reverse ++ stk) G bc bs Q X := by
  obtain ⟨mc9, ms9, Q9, X9, hM, h1, h2, hx, hk⟩ := h
  exact v_cs d lk hrm hn hsc hh hM h1 h2 hx (fun r G1 hs hq => by rw [retS_eq hret]; exact hk r G1 hs hq)
theorem v_csPZ (d : decode (mb M) pc = .ok (.invokestatic idx, 3)) (lk : LSt (mo M) idx M' n) (hrm : rmOk M M' = true) (hn : As.length = n) (hsc : scat stk ≤ 8) (hh : mh M = []) (hret : (mret M').map rT = some 3) (h : OkP E M' (As) G v) (kk : V E M (pc + 3) ls (iv v :: stk) G bc bs Q X) : V E M pc ls (As.reverse ++ stk) G bc bs Q X := v_csZ d lk hrm hn hsc hh hret (Call.pure h kk)
theorem v_csV (d : decode (mb M) pc = .ok (.invokestatic idx, 3)) (lk : LSt (mo M) idx M' n) (hrm : rmOk M M' = true) (hn : As.length = n) (hsc : scat stk ≤ 8) (hh : mh M = []) (hret : (mret M').map rT = none) (h : Call E M' (As) G bc bs X (fun r G1 c1 s1 => V E M (pc + 3) ls (stk) G1 c1 s1 Q X)) : V E M pc ls (As.reverse ++ stk) G bc bs Q X := by
  obtain ⟨mc9, ms9, Q9, X9, hM, h1, h2, hx, hk⟩ := h
  exact v_cs d lk hrm hn hsc hh hM h1 h2 hx (fun r G1 hs hq => by rw [retS_none hret]; exact hk r G1 hs hq)
theorem v_csNI (d : decode (mb M) pc = .ok (.invokestatic idx, 3)) (lk : LN (mo M) idx M' n) (hst : Cond.static (mY M') ∈ WS) (hrm : rmOk M M' = true) (hn : As.length = n) (hsc : scat stk ≤ 8) (hh : mh M = []) (hret : (mret M').map rT = some 0) (h : Call E M' (As) G bc bs X (fun r G1 c1 s1 => V E M (pc + 3) ls (iv r :: stk) G1 c1 s1 Q X)) : V E M pc ls (As.reverse ++ stk) G bc bs Q X := by
  obtain ⟨mc9, ms9, Q9, X9, hM, h1, h2, hx, hk⟩ := h
  exact v_csN d lk hst hrm hn hsc hh hM h1 h2 hx (fun r G1 hs hq => by rw [retS_eq hret]; exact hk r G1 hs hq)
theorem v_csNPI (d : decode (mb M) pc = .ok (.invokestatic idx, 3)) (lk : LN (mo M) idx M' n) (hst : Cond.static (mY M') ∈ WS) (hrm : rmOk M M' = true) (hn : As.length = n) (hsc : scat stk ≤ 8) (hh : mh M = []) (hret : (mret M').map rT = some 0) (h : OkP E M' (As) G v) (kk : V E M (pc + 3) ls (iv v :: stk) G bc bs Q X) : V E M pc ls (As.reverse ++ stk) G bc bs Q X := v_csNI d lk hst hrm hn hsc hh hret (Call.pure h kk)
theorem v_csNJ (d : decode (mb M) pc = .ok (.invokestatic idx, 3)) (lk : LN (mo M) idx M' n) (hst : Cond.static (mY M') ∈ WS) (hrm : rmOk M M' = true) (hn : As.length = n) (hsc : scat stk ≤ 8) (hh : mh M = []) (hret : (mret M').map rT = some 1) (h : Call E M' (As) G bc bs X (fun r G1 c1 s1 => V E M (pc + 3) ls (jv r :: stk) G1 c1 s1 Q X)) : V E M pc ls (As.reverse ++ stk) G bc bs Q X := by
  obtain ⟨mc9, ms9, Q9, X9, hM, h1, h2, hx, hk⟩ := h
  exact v_csN d lk hst hrm hn hsc hh hM h1 h2 hx (fun r G1 hs hq => by rw [retS_eq hret]; exact hk r G1 hs hq)
theorem v_csNPJ (d : decode (mb M) pc = .ok (.invokestatic idx, 3)) (lk : LN (mo M) idx M' n) (hst : Cond.static (mY M') ∈ WS) (hrm : rmOk M M' = true) (hn : As.length = n) (hsc : scat stk ≤ 8) (hh : mh M = []) (hret : (mret M').map rT = some 1) (h : OkP E M' (As) G v) (kk : V E M (pc + 3) ls (jv v :: stk) G bc bs Q X) : V E M pc ls (As.reverse ++ stk) G bc bs Q X := v_csNJ d lk hst hrm hn hsc hh hret (Call.pure h kk)
theorem v_csNR (d : decode (mb M) pc = .ok (.invokestatic idx, 3)) (lk : LN (mo M) idx M' n) (hst : Cond.static (mY M') ∈ WS) (hrm : rmOk M M' = true) (hn : As.length = n) (hsc : scat stk ≤ 8) (hh : mh M = []) (hret : (mret M').map rT = some 2) (h : Call E M' (As) G bc bs X (fun r G1 c1 s1 => V E M (pc + 3) ls (rv r :: stk) G1 c1 s1 Q X)) : V E M pc ls (As.reverse ++ stk) G bc bs Q X := by
  obtain ⟨mc9, ms9, Q9, X9, hM, h1, h2, hx, hk⟩ := h
  exact v_csN d lk hst hrm hn hsc hh hM h1 h2 hx (fun r G1 hs hq => by rw [retS_eq hret]; exact hk r G1 hs hq)
theorem v_csNPR (d : decode (mb M) pc = .ok (.invokestatic idx, 3)) (lk : LN (mo M) idx M' n) (hst : Cond.static (mY M') ∈ WS) (hrm : rmOk M M' = true) (hn : As.length = n) (hsc : scat stk ≤ 8) (hh : mh M = []) (hret : (mret M').map rT = some 2) (h : OkP E M' (As) G v) (kk : V E M (pc + 3) ls (rv v :: stk) G bc bs Q X) : V E M pc ls (As.reverse ++ stk) G bc bs Q X := v_csNR d lk hst hrm hn hsc hh hret (Call.pure h kk)
theorem v_csNZ (d : decode (mb M) pc = .ok (.invokestatic idx, 3)) (lk : LN (mo M) idx M' n) (hst : Cond.static (mY M') ∈ WS) (hrm : rmOk M M' = true) (hn : As.length = n) (hsc : scat stk ≤ 8) (hh : mh M = []) (hret : (mret M').map rT = some 3) (h : Call E M' (As) G bc bs X (fun r G1 c1 s1 => V E M (pc + 3) ls (iv r :: stk) G1 c1 s1 Q X)) : V E M pc ls (As.reverse ++ stk) G bc bs Q X := by
  obtain ⟨mc9, ms9, Q9, X9, hM, h1, h2, hx, hk⟩ := h
  exact v_csN d lk hst hrm hn hsc hh hM h1 h2 hx (fun r G1 hs hq => by rw [retS_eq hret]; exact hk r G1 hs hq)
theorem v_csNPZ (d : decode (mb M) pc = .ok (.invokestatic idx, 3)) (lk : LN (mo M) idx M' n) (hst : Cond.static (mY M') ∈ WS) (hrm : rmOk M M' = true) (hn : As.length = n) (hsc : scat stk ≤ 8) (hh : mh M = []) (hret : (mret M').map rT = some 3) (h : OkP E M' (As) G v) (kk : V E M (pc + 3) ls (iv v :: stk) G bc bs Q X) : V E M pc ls (As.reverse ++ stk) G bc bs Q X := v_csNZ d lk hst hrm hn hsc hh hret (Call.pure h kk)
theorem v_csNV (d : decode (mb M) pc = .ok (.invokestatic idx, 3)) (lk : LN (mo M) idx M' n) (hst : Cond.static (mY M') ∈ WS) (hrm : rmOk M M' = true) (hn : As.length = n) (hsc : scat stk ≤ 8) (hh : mh M = []) (hret : (mret M').map rT = none) (h : Call E M' (As) G bc bs X (fun r G1 c1 s1 => V E M (pc + 3) ls (stk) G1 c1 s1 Q X)) : V E M pc ls (As.reverse ++ stk) G bc bs Q X := by
  obtain ⟨mc9, ms9, Q9, X9, hM, h1, h2, hx, hk⟩ := h
  exact v_csN d lk hst hrm hn hsc hh hM h1 h2 hx (fun r G1 hs hq => by rw [retS_none hret]; exact hk r G1 hs hq)
theorem v_ciV (d : decode (mb M) pc = .ok (.invokespecial idx, 3)) (lk : LI (mo M) idx M' n) (hrm : rmOk M M' = true) (hn : As.length = n) (hsc : scat stk ≤ 8) (hh : mh M = []) (hb0 : 0 ≤ b) (h : Call E M' (rv b :: As) G bc bs X (fun _ G1 c1 s1 => V E M (pc + 3) ls stk G1 c1 s1 Q X)) : V E M pc ls (As.reverse ++ rv b :: stk) G bc bs Q X := by
  obtain ⟨mc9, ms9, Q9, X9, hM, h1, h2, hx, hk⟩ := h
  exact v_ci d lk hrm hn hsc hh hb0 hM h1 h2 hx (fun r G1 hq => hk r G1 (by rw [lk.2.2.2]; trivial) hq)
theorem v_ciNV (d : decode (mb M) pc = .ok (.invokespecial idx, 3)) (lk : LN (mo M) idx M' n) (hin : Cond.instanceMethod (mY M') ∈ WS ∧ (mY M').name = "<init>" ∧ mret M' = none) (hrm : rmOk M M' = true) (hn : As.length = n) (hsc : scat stk ≤ 8) (hh : mh M = []) (hb0 : 0 ≤ b) (h : Call E M' (rv b :: As) G bc bs X (fun _ G1 c1 s1 => V E M (pc + 3) ls stk G1 c1 s1 Q X)) : V E M pc ls (As.reverse ++ rv b :: stk) G bc bs Q X := by
  obtain ⟨mc9, ms9, Q9, X9, hM, h1, h2, hx, hk⟩ := h
  exact v_ciN d lk hin hrm hn hsc hh hb0 hM h1 h2 hx (fun r G1 hq => hk r G1 (by rw [hin.2.2]; trivial) hq)
end K
theorem Call.mono {M' : MD} {As : List SV} {K K' : Int → Gt → Nat → Nat → Prop} (h : Call E M' As G bc bs X K) (hk : ∀ r G1 c1 s1, K r G1 c1 s1 → K' r G1 c1 s1) : Call E M' As G bc bs X K' := by
  obtain ⟨mc9, ms9, Q9, X9, hM, h1, h2, hx, h⟩ := h
  exact ⟨mc9, ms9, Q9, X9, hM, h1, h2, hx, fun r G1 hs hq => hk _ _ _ _ (h r G1 hs hq)⟩
theorem v_objInit {idx : Nat} {a : Int} (d : decode (mb M) pc = .ok (.invokespecial idx, 3)) (hw : Cond.methodLink (mo M) idx Lib.objectInit ∈ WS) (hfr : 1 ≤ mfr M) (hlo : 100 ≤ mlo M) (hsc : scat stk ≤ 8) (h0 : 0 ≤ a) (k : V E M (pc + 3) ls stk G bc bs Q X) : V E M pc ls (rv a :: stk) G bc bs Q X := by
  intro p e s m args below meth c R mc ms H locs cells slots lsA F B P O hl
  have hr1 : mfr M ≤ R.frames := F.2.2.2.2.2.2.2.2.2.1
  have hr2 : mlo M ≤ R.locals := F.2.2.2.2.2.2.2.2.2.2.1
  rw [List.map_cons, enc_ref h0]
  refine W.objInit F.1 F.2.1 F.2.2.2.1 (F.2.2.2.2.1 _ hw) (F.2.2.2.2.1 _ oiI) (F.2.2.2.2.1 _ oiC) rfl (hl.1.trans F.2.2.1.symm) rfl d (by omega) (by show 2 * 0 + _ + 12 ≤ _; rw [scat_eq]; omega) ?_
  exact k F B P (okp O).2 hl
theorem v_tsw2 {x dflt lo hi : Int} {offs : Array Int} {len : Nat} (tgs : List Nat) (td : Nat) (d : decode (mb M) pc = .ok (.tableswitch dflt lo hi offs, len)) (hd : (pc : Int) + dflt = (td : Int)) (hsz : (hi + 1 - lo).toNat = tgs.length ∧ offs.size = tgs.length) (hi0 : offs.toList.map (fun z => (pc : Int) + z) = tgs.map (fun z : Nat => (z : Int)))
    (kin : ∀ j : Nat, j < tgs.length → x = lo + j → V E M (tgs.getD j 0) ls stk G bc bs Q X) (kout : x < lo ∨ hi < x → V E M td ls stk G bc bs Q X) : V E M pc ls (iv x :: stk) G bc bs Q X := by
  refine v_tsw (fun z => tgs.getD (z - lo).toNat 0) td d hd (fun j hj => ?_) (fun h1 h2 => ?_) kout
  · have hj' : j < tgs.length := by omega
    have hjo : j < offs.size := by omega
    refine ⟨?_, hjo⟩
    have e1 := congrArg (fun l => l[j]?) hi0
    simp only [List.getElem?_map] at e1
    have e2 : offs.toList[j]? = some (offs.getD j 0) := by
      rw [Array.getElem?_toList, Array.getElem?_eq_getElem hjo]
      simp [Array.getD, hjo]
    have e3 : tgs[j]? = some (tgs.getD j 0) := by
      rw [List.getD_eq_getElem?_getD, List.getElem?_eq_getElem hj']; rfl
    rw [e2, e3] at e1
    have e4 : (pc : Int) + offs.getD j 0 = ((tgs.getD j 0 : Nat) : Int) := Option.some.inj e1
    rw [e4]
    congr 2
    omega
  · exact kin (x - lo).toNat (by omega) (by omega)
end VG
