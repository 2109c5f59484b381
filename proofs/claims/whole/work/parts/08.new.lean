section VC8
variable {E : EE} {M : MD} {pc : Nat} {ls : List (Option SV)} {stk : List SV} {G : Gt} {bc bs : Nat} {Q X : Int → Gt → Prop}
/-! new cells -/
def newo (G : Gt) (q : Int) (c : Nat) : Gt := (fun a => if a = q then c + 1 else G.1 a, fun c' k a => if a = q ∧ c' = c then (if fty c k = 2 then -1 else 0) else G.2.1 c' k a, G.2.2.1, G.2.2.2)
def newa (G : Gt) (q : Int) (t : Nat) (n : Int) : Gt := (fun a => if a = q then t else G.1 a, G.2.1, fun a => if a = q then n else G.2.2.1 a, fun a i => if a = q then (if t = 18 then -1 else 0) else G.2.2.2 a i)
theorem gcl_newo (G : Gt) (q : Int) (c : Nat) (a : Int) : gcl (newo G q c) a = if a = q then c + 1 else gcl G a := rfl
theorem gfd_newo (G : Gt) (q : Int) (c : Nat) (c' k : Nat) (a : Int) : gfd (newo G q c) c' k a = if a = q ∧ c' = c then (if fty c k = 2 then -1 else 0) else gfd G c' k a := rfl
theorem gln_newo (G : Gt) (q : Int) (c : Nat) (a : Int) : gln (newo G q c) a = gln G a := rfl
theorem gel_newo (G : Gt) (q : Int) (c : Nat) (a i : Int) : gel (newo G q c) a i = gel G a i := rfl
theorem gcl_newa (G : Gt) (q : Int) (t : Nat) (n a : Int) : gcl (newa G q t n) a = if a = q then t else gcl G a := rfl
theorem gfd_newa (G : Gt) (q : Int) (t : Nat) (n : Int) (c k : Nat) (a : Int) : gfd (newa G q t n) c k a = gfd G c k a := rfl
theorem gln_newa (G : Gt) (q : Int) (t : Nat) (n a : Int) : gln (newa G q t n) a = if a = q then n else gln G a := rfl
theorem gel_newa (G : Gt) (q : Int) (t : Nat) (n a i : Int) : gel (newa G q t n) a i = if a = q then (if t = 18 then -1 else 0) else gel G a i := rfl
theorem RP.push {s : State} {G' : Gt} {H H1 : Heap} {locs locs1 : List Loc} {L : List Nat} {q : Nat} {en : va_E} (P : RP E s G H locs) (hL : ∀ q : Nat, q ∈ L ↔ eb E ≤ q ∧ gcl G q ≠ 0)
    (hP : va_P (eD E) myCl (va_pl L (entO E G) ++ [(q, en)]) H1) (hD : va_D (eA E) (va_pl L (entO E G) ++ [(q, en)])) (hS : va_S (eA E) s.heap H1 locs1) :
    gcl G q = 0 ∧ eb E ≤ q ∧ (wt E G' → (∀ a : Int, a ≠ q → gcl G' a = gcl G a ∧ gln G' a = gln G a ∧ (∀ j, gel G' a j = gel G a j) ∧ ∀ c k, gfd G' c k a = gfd G c k a) → gcl G' q ≠ 0 → entO E G' q = en → RP E s G' H1 locs1) := by
  have hlen : (va_pl L (entO E G)).length = L.length := by simp [va_pl]
  have hq : (va_pl L (entO E G) ++ [(q, en)])[L.length]? = some (q, en) := by
    rw [List.getElem?_append_right (by rw [hlen]; exact Nat.le_refl _), hlen, Nat.sub_self]; rfl
  have hnot : q ∉ L := by
    intro h
    obtain ⟨i, hi⟩ := List.getElem?_of_mem h
    have hil := (List.getElem?_eq_some_iff.mp hi).1
    have h1 : (va_pl L (entO E G) ++ [(q, en)])[i]? = some (q, entO E G q) := by
      rw [List.getElem?_append_left (by rw [hlen]; exact hil)]
      simp [va_pl, hi]
    have := hD.1 i L.length _ _ h1 hq rfl
    omega
  have hA : eb E ≤ q := hD.2 _ _ hq
  have h0 : gcl G q = 0 := by
    rcases Nat.eq_zero_or_pos (gcl G q) with h | h
    · exact h
    · exact absurd ((hL q).mpr ⟨hA, by omega⟩) hnot
  refine ⟨h0, hA, fun hw hne hg he => ?_⟩
  have ent : ∀ b : Nat, va_up (entO E G) q en b = entO E G' b := by
    intro b
    by_cases hb : b = q
    · subst hb; rw [va_up_self, he]
    · rw [va_up_ne _ _ hb]
      obtain ⟨a1, a2, a3, a4⟩ := hne b (by omega)
      exact (entO_ne a1 a2 a3 a4).symm
  have es : va_pl L (entO E G) ++ [(q, en)] = va_pl (L ++ [q]) (entO E G') := (va_pl_push hnot).trans (va_pl_congr ent)
  rw [es] at hP hD
  refine P.upd hw (L := L ++ [q]) (fun b => ?_) hP hD hS (fun b hb => ?_)
  · rw [List.mem_append, hL b, List.mem_singleton]
    by_cases hb : b = q
    · subst hb; exact ⟨fun _ => ⟨hA, hg⟩, fun _ => Or.inr rfl⟩
    · rw [(hne b (by omega)).1]
      exact ⟨fun h => h.elim id (fun h => absurd h hb), fun h => Or.inl h⟩
  · obtain ⟨a1, a2, a3, a4⟩ := hne b (by omega)
    exact ⟨a1, entO_ne a1 a2 a3 a4, a2, a3⟩
def dfl (c : Nat) : List Value := (List.range (fN c)).map fun k => encT (fty c k) (if fty c k = 2 then -1 else 0)
theorem dfl_ok {c : Nat} (hc : c < 14) : ∀ j, j < fN c → defaultValue (cTy c j) = vp_V (dfl c) j := by
  intro j hj
  obtain ⟨t1, t2⟩ := tyC1 c hc j hj
  have : vp_V (dfl c) j = encT (fty c j) (if fty c j = 2 then -1 else 0) := by simp [vp_V, dfl, hj]
  rw [this, t1]
  cases h : cTy c j <;> rw [h] at t2 <;> first | rfl | cases t2
theorem wt_newo {q : Int} {c : Nat} (h : wt E G) (hc : c < 14) (hq : gcl G q = 0) (hb : (eb E : Int) ≤ q) : wt E (newo G q c) := by
  obtain ⟨g1, g2, g3, g4, g5, g6, g7, g8, g9, g10, g11⟩ := h
  have ne : ∀ {a : Int}, gcl G a ≠ 0 → a ≠ q := fun h e => h (e ▸ hq)
  refine ⟨fun a ha => ?_, fun a h1 ha => ?_, fun c' k a h1 h2 h3 => ?_, fun a ha => ?_, fun a i ha => ?_, fun a i ha => ?_, fun a i ha => ?_, fun a i ha => ?_, ?_, ?_, fun a ha => ?_⟩
  · rw [gcl_newo] at ha ⊢
    by_cases e : a = q
    · rw [if_pos e]; omega
    · rw [if_neg e] at ha ⊢; exact g1 a ha
  · rw [gcl_newo, if_neg (by omega)] at ha ⊢
    exact g2 a h1 ha
  · rw [gcl_newo] at h2
    rw [gfd_newo]
    by_cases e : a = q
    · rw [if_pos e] at h2
      have : c' = c := by omega
      subst this
      rw [if_pos ⟨e, rfl⟩]
      have hle : fty c' k ≤ 3 := by rw [(tyC1 c' h1 k h3).1]; unfold rT; split <;> omega
      rcases (show fty c' k = 0 ∨ fty c' k = 1 ∨ fty c' k = 2 ∨ fty c' k = 3 by omega) with e | e | e | e <;> rw [e]
      · exact ⟨by decide, by decide⟩
      · exact ⟨by decide, by decide⟩
      · exact (by decide : (-1 : Int) ≤ -1)
      · exact Or.inl rfl
    · rw [if_neg e] at h2
      rw [if_neg (fun z => e z.1)]
      exact g3 c' k a h1 h2 h3
  · rw [gcl_newo] at ha
    by_cases e : a = q
    · rw [if_pos e] at ha; omega
    · rw [if_neg e] at ha; exact g4 a ha
  · rw [gcl_newo] at ha
    by_cases e : a = q
    · rw [if_pos e] at ha; omega
    · rw [if_neg e] at ha; exact g5 a i ha
  · rw [gcl_newo] at ha
    by_cases e : a = q
    · rw [if_pos e] at ha; omega
    · rw [if_neg e] at ha; exact g6 a i ha
  · rw [gcl_newo] at ha
    by_cases e : a = q
    · rw [if_pos e] at ha; omega
    · rw [if_neg e] at ha; exact g7 a i ha
  · rw [gcl_newo] at ha
    by_cases e : a = q
    · rw [if_pos e] at ha; omega
    · rw [if_neg e] at ha
      rcases g8 a i ha with h | h
      · exact Or.inl h
      · refine Or.inr ?_
        show okE (gcl (newo G q c) (gel G a i))
        rw [gcl_newo, if_neg (ne (by unfold okE at h; omega))]
        exact h
  · rw [gcl_newo, if_neg (ne (by omega))]; exact g9
  · rw [gcl_newo, if_neg (ne (by omega))]; exact g10
  · rw [gcl_newo] at ha
    by_cases e : a = q
    · rw [if_pos e] at ha; omega
    · rw [if_neg e] at ha; exact g11 a ha
theorem wt_newa {q : Int} {t : Nat} {n : Int} (h : wt E G) (ht : 15 ≤ t ∧ t ≤ 18) (hn : 0 ≤ n ∧ n ≤ 2147483647) (hq : gcl G q = 0) (hb : (eb E : Int) ≤ q) : wt E (newa G q t n) := by
  obtain ⟨g1, g2, g3, g4, g5, g6, g7, g8, g9, g10, g11⟩ := h
  have ne : ∀ {a : Int}, gcl G a ≠ 0 → a ≠ q := fun h e => h (e ▸ hq)
  refine ⟨fun a ha => ?_, fun a h1 ha => ?_, fun c' k a h1 h2 h3 => ?_, fun a ha => ?_, fun a i ha => ?_, fun a i ha => ?_, fun a i ha => ?_, fun a i ha => ?_, ?_, ?_, fun a ha => ?_⟩
  · rw [gcl_newa] at ha ⊢
    by_cases e : a = q
    · rw [if_pos e]; omega
    · rw [if_neg e] at ha ⊢; exact g1 a ha
  · rw [gcl_newa, if_neg (by omega)] at ha ⊢
    rw [gln_newa, if_neg (by omega)]
    exact g2 a h1 ha
  · rw [gcl_newa] at h2
    by_cases e : a = q
    · rw [if_pos e] at h2; omega
    · rw [if_neg e] at h2; exact g3 c' k a h1 h2 h3
  · rw [gcl_newa] at ha
    rw [gln_newa]
    by_cases e : a = q
    · rw [if_pos e]; exact hn
    · rw [if_neg e] at ha ⊢; exact g4 a ha
  · rw [gcl_newa] at ha
    rw [gel_newa]
    by_cases e : a = q
    · rw [if_pos e]
      split <;> exact ⟨by decide, by decide⟩
    · rw [if_neg e] at ha ⊢; exact g5 a i ha
  · rw [gcl_newa] at ha
    rw [gel_newa]
    by_cases e : a = q
    · rw [if_pos e]
      split <;> exact ⟨by decide, by decide⟩
    · rw [if_neg e] at ha ⊢; exact g6 a i ha
  · rw [gcl_newa] at ha
    rw [gel_newa]
    by_cases e : a = q
    · rw [if_pos e] at ha ⊢
      rw [if_neg (by omega)]; exact Or.inl rfl
    · rw [if_neg e] at ha ⊢; exact g7 a i ha
  · rw [gcl_newa] at ha
    by_cases e : a = q
    · rw [if_pos e] at ha
      left
      rw [gel_newa, if_pos e, if_pos ha]
    · rw [if_neg e] at ha
      rw [gel_newa, if_neg e]
      rcases g8 a i ha with h | h
      · exact Or.inl h
      · refine Or.inr ?_
        rw [gcl_newa, if_neg (ne (by unfold okE at h; omega))]
        exact h
  · rw [gcl_newa, if_neg (ne (by omega)), gln_newa, if_neg (ne (by omega))]; exact g9
  · have e10 := ne (a := eB E) (by omega)
    simp only [gcl_newa, gln_newa, gel_newa, if_neg e10]; exact g10
  · rw [gcl_newa] at ha
    by_cases e : a = q
    · rw [if_pos e] at ha; omega
    · rw [if_neg e] at ha; exact g11 a ha
/-- a class that is made, as the pool names it -/
def NL (own : String) (idx c : Nat) : Prop := c < 14 ∧ Cond.classLink own idx (cN c) ∈ WS ∧ Cond.instantiable (cN c) (fN c) ∈ WS ∧ Cond.initialized (cN c) ∈ WS
theorem v_new {idx c : Nat} (d : decode (mb M) pc = .ok (.new idx, 3)) (lk : NL (mo M) idx c) (h1 : 1 ≤ bc) (h2 : fN c ≤ bs) (kk : ∀ q : Int, gcl G q = 0 → (eb E : Int) ≤ q → V E M (pc + 3) ls (rv q :: stk) (newo G q c) (bc - 1) (bs - fN c) Q X) : V E M pc ls stk G bc bs Q X := by
  intro p e s m args below meth c0 R mc ms H locs cells slots lsA F B P O hl
  obtain ⟨hc, w1, w2, w3⟩ := lk
  obtain ⟨hw9, ⟨L, hL, hP, hD⟩, ho⟩ := id P.2.1
  refine va_new (D := eD E) (cl := myCl) (tys := tys4 E) (ws := va_pl L (entO E G)) (A := eA E) F.1 F.2.1 F.2.2.2.2.1 (wsC hc) (cTy c) (tyC0 c hc) F.2.2.2.1 (F.2.2.2.2.1 _ w1) (F.2.2.2.2.1 _ w2) (F.2.2.2.2.1 _ w3) F.2.2.2.2.2.1 hP hD P.2.2 (fun q hq => Nat.le_trans P.1 hq) (clC hc) (dfl_ok hc) (by omega) (by omega) d (fun q H1 hP1 hD1 hS1 => ?_)
  obtain ⟨g1, g2, g3⟩ := P.push (G' := newo G q c) hL hP1 hD1 hS1
  have hb : (eb E : Int) ≤ (q : Int) := by omega
  have P' := g3 (wt_newo hw9 hc g1 hb) (fun a ha => ⟨by rw [gcl_newo, if_neg ha], rfl, fun _ => rfl, fun c' k => by rw [gfd_newo, if_neg (fun z => ha z.1)]⟩) (by rw [gcl_newo, if_pos rfl]; omega) (by
    have e1 := entO_obj (E := E) (G := newo G q c) (a := q) (c := c) (by rw [gcl_newo, if_pos rfl]) hc (by omega)
    rw [Int.toNat_natCast] at e1
    rw [e1]
    congr 2
    unfold fsOf dfl
    exact List.map_congr_left fun k _ => by rw [gfd_newo, if_pos ⟨rfl, rfl⟩])
  have hk := kk q g1 hb (e := e) (below := below) (mc := mc) (ms := ms) (cells := cells + 1) (slots := slots + fN c) F (by omega) P' (oks O (show sokT 2 (q : Int) from by show (-1 : Int) ≤ q; omega)) hl
  rw [List.map_cons, enc_rv, o2_nat] at hk
  exact hk
theorem v_newa {at_ : ArrayType} {t i : Nat} {ty : FieldType} {n : Int} (d : decode (mb M) pc = .ok (.newarray at_, 2)) (hw : Cond.arrayClass (newarray.typeOf at_) ∈ WS) (hty : newarray.typeOf at_ = ty)
    (hc : (t = 15 ∧ i = 0 ∧ ty = .int) ∨ (t = 16 ∧ i = 1 ∧ ty = .long) ∨ (t = 17 ∧ i = 2 ∧ ty = .boolean)) (hn0 : 0 ≤ n) (hn1 : n ≤ 60000000) (h1 : 1 ≤ bc) (h2 : n.toNat ≤ bs) (kk : ∀ q : Int, gcl G q = 0 → (eb E : Int) ≤ q → V E M (pc + 2) ls (rv q :: stk) (newa G q t n) (bc - 1) (bs - n.toNat) Q X) : V E M pc ls (iv n :: stk) G bc bs Q X := by
  intro p e s m args below meth c0 R mc ms H locs cells slots lsA F B P O hl
  have O1 := okp O
  have hi : i32 n := O1.1
  obtain ⟨hw9, ⟨L, hL, hP, hD⟩, ho⟩ := id P.2.1
  have fin : ∀ (q : Nat) (H1 : Heap) (en : va_E), va_P (eD E) myCl (va_pl L (entO E G) ++ [(q, en)]) H1 → va_D (eA E) (va_pl L (entO E G) ++ [(q, en)]) → va_S (eA E) s.heap H1 locs → entO E (newa G q t n) q = en → W p (eL E) e R s m args below meth c0 H1 locs (cells + 1) (slots + n.toNat) (vx_MQ below (QcR E M Q) (XcR E X) args s mc ms (eA E)) (F0 m (pc + 2) lsA (.ref q :: stk.map enc)) := by
    intro q H1 en hP1 hD1 hS1 he
    obtain ⟨g1, g2, g3⟩ := P.push (G' := newa G q t n) hL hP1 hD1 hS1
    have hb : (eb E : Int) ≤ (q : Int) := by omega
    have P' := g3 (wt_newa hw9 (by omega) (by omega) g1 hb) (fun a ha => ⟨by rw [gcl_newa, if_neg ha], by rw [gln_newa, if_neg ha], fun _ => by rw [gel_newa, if_neg ha], fun c' k => rfl⟩) (by rw [gcl_newa, if_pos rfl]; omega) he
    have hk := kk q g1 hb (e := e) (below := below) (mc := mc) (ms := ms) (cells := cells + 1) (slots := slots + n.toNat) F (by omega) P' (oks O1.2 (show sokT 2 (q : Int) from by show (-1 : Int) ≤ q; omega)) hl
    rw [List.map_cons, enc_rv, o2_nat] at hk
    exact hk
  have hK := F.2.2.2.2.2.1
  have hz : ¬ Int32.ofInt n < 0 := by rw [i32_lt0 hi]; omega
  rw [List.map_cons, enc_iv]
  have nat : ∀ q : Nat, (0 : Int) ≤ (q : Int) := fun q => by omega
  rcases hc with ⟨rfl, rfl, rfl⟩ | ⟨rfl, rfl, rfl⟩ | ⟨rfl, rfl, rfl⟩
  · refine va_newa (D := eD E) (cl := myCl) (a0 := (n.toNat, .inl (fun _ => 0))) F.1 F.2.1 (F.2.2.2.2.1 _ hw) hty hK hP hD P.2.2 (fun q hq => Nat.le_trans P.1 hq) (fun cA => rfl) hz (i32_toNat hi) (by show n.toNat * 4 ≤ _; omega) (by omega) (by omega) d (fun q cA H1 hK1 hP1 hD1 hS1 => ?_)
    have e1 : cA = eK E 0 := Option.some.inj ((hK1.2 4 _ rfl).2.symm.trans (hK.2 0 _ rfl).2)
    refine fin q H1 _ hP1 hD1 hS1 ?_
    have e2 := entO_I (E := E) (G := newa G q 15 n) (a := q) (Or.inl (by rw [gcl_newa, if_pos rfl])) (nat q)
    rw [Int.toNat_natCast, gln_newa, if_pos rfl] at e2
    rw [e2, e1]
    simp only [gel_newa, if_true]
    rfl
  · refine va_newa (D := eD E) (cl := myCl) (a0 := (n.toNat, .inr (.inl (fun _ => 0)))) F.1 F.2.1 (F.2.2.2.2.1 _ hw) hty hK hP hD P.2.2 (fun q hq => Nat.le_trans P.1 hq) (fun cA => rfl) hz (i32_toNat hi) (by show n.toNat * 8 ≤ _; omega) (by omega) (by omega) d (fun q cA H1 hK1 hP1 hD1 hS1 => ?_)
    have e1 : cA = eK E 1 := Option.some.inj ((hK1.2 4 _ rfl).2.symm.trans (hK.2 1 _ rfl).2)
    refine fin q H1 _ hP1 hD1 hS1 ?_
    have e2 := entO_J (E := E) (G := newa G q 16 n) (a := q) (by rw [gcl_newa, if_pos rfl]) (nat q)
    rw [Int.toNat_natCast, gln_newa, if_pos rfl] at e2
    rw [e2, e1]
    simp only [gel_newa, if_true]
    rfl
  · refine va_newa (D := eD E) (cl := myCl) (a0 := (n.toNat, .inl (fun _ => 0))) F.1 F.2.1 (F.2.2.2.2.1 _ hw) hty hK hP hD P.2.2 (fun q hq => Nat.le_trans P.1 hq) (fun cA => rfl) hz (i32_toNat hi) (by show n.toNat * 1 ≤ _; omega) (by omega) (by omega) d (fun q cA H1 hK1 hP1 hD1 hS1 => ?_)
    have e1 : cA = eK E 2 := Option.some.inj ((hK1.2 4 _ rfl).2.symm.trans (hK.2 2 _ rfl).2)
    refine fin q H1 _ hP1 hD1 hS1 ?_
    have e2 := entO_Z (E := E) (G := newa G q 17 n) (a := q) (by rw [gcl_newa, if_pos rfl]) (nat q)
    rw [Int.toNat_natCast, gln_newa, if_pos rfl] at e2
    rw [e2, e1]
    simp only [gel_newa, if_true]
    rfl
theorem v_anewa {idx : Nat} {n : Int} (d : decode (mb M) pc = .ok (.anewarray idx, 3)) (hw : Cond.classLink (mo M) idx "java/lang/Object" ∈ WS) (hn0 : 0 ≤ n) (hn1 : n ≤ 60000000) (h1 : 1 ≤ bc) (h2 : n.toNat ≤ bs) (kk : ∀ q : Int, gcl G q = 0 → (eb E : Int) ≤ q → V E M (pc + 3) ls (rv q :: stk) (newa G q 18 n) (bc - 1) (bs - n.toNat) Q X) : V E M pc ls (iv n :: stk) G bc bs Q X := by
  intro p e s m args below meth c0 R mc ms H locs cells slots lsA F B P O hl
  have O1 := okp O
  have hi : i32 n := O1.1
  obtain ⟨hw9, ⟨L, hL, hP, hD⟩, ho⟩ := id P.2.1
  have hK := F.2.2.2.2.2.1
  have hz : ¬ Int32.ofInt n < 0 := by rw [i32_lt0 hi]; omega
  rw [List.map_cons, enc_iv]
  refine va_newq (D := eD E) (cl := myCl) F.1 F.2.1 F.2.2.2.1 (F.2.2.2.2.1 _ hw) F.2.2.2.2.2.2.2.2.2.2.2.2.1.2.2.2.2.2.2.1 hK hP hD P.2.2 (fun q hq => Nat.le_trans P.1 hq) hz (i32_toNat hi) (by omega) (by omega) (by omega) d (fun q cA H1 hK1 hP1 hD1 hS1 => ?_)
  have e1 : cA = eK E 3 := by
    obtain ⟨_, _, _, _, _, z1⟩ := (hK1.2 4 _ rfl).2
    obtain ⟨_, _, _, _, _, z2⟩ := (hK.2 3 _ rfl).2
    exact Option.some.inj (z1.symm.trans z2)
  obtain ⟨g1, g2, g3⟩ := P.push (G' := newa G q 18 n) hL hP1 hD1 hS1
  have hb : (eb E : Int) ≤ (q : Int) := by omega
  have P' := g3 (wt_newa hw9 (by omega) (by omega) g1 hb) (fun a ha => ⟨by rw [gcl_newa, if_neg ha], by rw [gln_newa, if_neg ha], fun _ => by rw [gel_newa, if_neg ha], fun c' k => rfl⟩) (by rw [gcl_newa, if_pos rfl]; omega) (by
    have e2 := entO_O (E := E) (G := newa G q 18 n) (a := q) (by rw [gcl_newa, if_pos rfl]) (by omega)
    rw [Int.toNat_natCast, gln_newa, if_pos rfl] at e2
    rw [e2, e1]
    simp only [gel_newa, if_true]
    rfl)
  have hk := kk q g1 hb (e := e) (below := below) (mc := mc) (ms := ms) (cells := cells + 1) (slots := slots + n.toNat) F (by omega) P' (oks O1.2 (show sokT 2 (q : Int) from by show (-1 : Int) ≤ q; omega)) hl
  rw [List.map_cons, enc_rv, o2_nat] at hk
  exact hk
theorem v_cast {idx c : Nat} {x : Int} (d : decode (mb M) pc = .ok (.checkcast idx, 3)) (hc : c < 14) (hw : Cond.classLink (mo M) idx (cN c) ∈ WS) (hx : x = -1 ∨ gcl G x = c + 1) (kk : V E M (pc + 3) ls (rv x :: stk) G bc bs Q X) : V E M pc ls (rv x :: stk) G bc bs Q X := by
  intro p e s m args below meth c0 R mc ms H locs cells slots lsA F B P O hl
  have hk := kk (e := e) (below := below) F B P O hl
  rw [List.map_cons] at hk ⊢
  rcases hx with hx | hx
  · rw [enc_null hx] at hk ⊢
    exact lv_castN F.1 F.2.1 d hk
  · obtain ⟨ws, q0, hP, hq⟩ := P.2.1.read (a := x) (by omega)
    have hx0 := (P.2.1.1.1 x (by omega)).1
    rw [entO_obj hx hc hx0] at hq
    obtain ⟨r, e1, cell, q1, q2, q3, -⟩ := hP q0 _ hq
    have hca := (F.2.2.2.2.2.1.1 c _ (clC hc)).2
    rw [enc_ref hx0] at hk ⊢
    exact va_castS (cC := (eD E).1 c) F.1 F.2.1 F.2.2.2.1 (F.2.2.2.2.1 _ hw) hca ⟨cell, q1, by rw [q3]; rfl, by rw [q2]; exact hca.1⟩ d hk
theorem v_getsE {idx : Nat} (d : decode (mb M) pc = .ok (.getstatic idx, 3)) (hw : Cond.fieldLink (mo M) idx "java/util/ArrayList" "DEFAULTCAPACITY_EMPTY_ELEMENTDATA" "[Ljava/lang/Object;" ∈ WS) (kk : gcl G (eE E) = 18 → gln G (eE E) = 0 → V E M (pc + 3) ls (rv (eE E) :: stk) G bc bs Q X) : V E M pc ls stk G bc bs Q X := by
  intro p e s m args below meth c0 R mc ms H locs cells slots lsA F B P O hl
  have h9 := P.2.1.1.2.2.2.2.2.2.2.2.1
  have hk := kk h9.1 h9.2 (e := e) (below := below) F B P (oks O (show sokT 2 _ from by show (-1 : Int) ≤ (eE E : Int); omega)) hl
  rw [List.map_cons, enc_rv, o2_nat] at hk
  exact va_gets F.1 F.2.1 F.2.2.2.2.2.2.2.2.2.2.2.2.1.1.1 P.2.2 F.2.2.2.1 (F.2.2.2.2.1 _ hw) (fun _ h => h) d hk
theorem v_getsB {idx : Nat} (d : decode (mb M) pc = .ok (.getstatic idx, 3)) (hw : Cond.fieldLinkNest (mo M) idx "Ticksilo" "BOUNDS" "[I" "Ticksilo" ∈ NS) (kk : gcl G (eB E) = 19 → gln G (eB E) = 5 → gel G (eB E) 0 = 1000 ∧ gel G (eB E) 1 = 2000 ∧ gel G (eB E) 2 = 5000 ∧ gel G (eB E) 3 = 10000 ∧ gel G (eB E) 4 = 20000 → V E M (pc + 3) ls (rv (eB E) :: stk) G bc bs Q X) : V E M pc ls stk G bc bs Q X := by
  intro p e s m args below meth c0 R mc ms H locs cells slots lsA F B P O hl
  have h9 := P.2.1.1.2.2.2.2.2.2.2.2.2.1
  have hk := kk h9.1 h9.2.1 h9.2.2 (e := e) (below := below) F B P (oks O (show sokT 2 _ from by show (-1 : Int) ≤ (eB E : Int); omega)) hl
  rw [List.map_cons, enc_rv, o2_nat] at hk
  have hS := F.2.2.2.2.2.2.2.2.2.2.2.2.1
  exact va_getsN F.1 F.2.1 hS.2.1 P.2.2 F.2.2.2.1 (va_Nw.use rfl (hS.2.2.2.2.2.2.2 _ hw)) (fun _ h => h) d hk
/-! returns -/
theorem endQ {s : State} {H : Heap} {locs : List Loc} {r : Int} {G : Gt} (P : RP E s G H locs) (hr : sokR (mret M) r) (hq : Q r G) {t : State} (ht : t.heap = H) (a : Array Value) : QcR E M Q a s (.returned (encR (mret M) r)) t := ⟨r, G, rfl, hr, hq, by rw [ht]; exact P.2.1, P.2.2.F ht⟩
theorem v_iret {r : Int} (d : decode (mb M) pc = .ok (.ireturn, 1)) (hret : mret M = some .int) (hq : Q r G) : V E M pc ls [iv r] G bc bs Q X := by
  intro p e s m args below meth c R mc ms H locs cells slots lsA F B P O hl
  refine vx_ret (W.widen (k := mc) (n := ms) (by omega) (by omega) ?_)
  refine W.iret (v := Int32.ofInt r) F.1 F.2.1 (F.2.2.2.2.2.2.1.trans hret) (fun t ht hW => ?_) P.2.2.2.2 d F.2.2.2.2.2.2.2.1
  have := endQ (M := M) P (r := r) (by rw [hret]; exact (okp O).1) hq ht args
  rw [hret] at this
  exact this
theorem v_zret {r : Int} (d : decode (mb M) pc = .ok (.ireturn, 1)) (hret : mret M = some .boolean) (hz : r = 0 ∨ r = 1) (hq : Q r G) : V E M pc ls [iv r] G bc bs Q X := by
  intro p e s m args below meth c R mc ms H locs cells slots lsA F B P O hl
  refine vx_ret (W.widen (k := mc) (n := ms) (by omega) (by omega) ?_)
  refine W.zret (v := Int32.ofInt r) F.1 F.2.1 (F.2.2.2.2.2.2.1.trans hret) (by rcases hz with h | h <;> (rw [h]; decide +kernel)) (fun t ht hW => ?_) P.2.2.2.2 d F.2.2.2.2.2.2.2.1
  have := endQ (M := M) P (r := r) (by rw [hret]; exact hz) hq ht args
  rw [hret] at this
  exact this
theorem v_lret {r : Int} (d : decode (mb M) pc = .ok (.lreturn, 1)) (hret : mret M = some .long) (hq : Q r G) : V E M pc ls [jv r] G bc bs Q X := by
  intro p e s m args below meth c R mc ms H locs cells slots lsA F B P O hl
  refine vx_ret (W.widen (k := mc) (n := ms) (by omega) (by omega) ?_)
  refine W.lret (v := Int64.ofInt r) F.1 F.2.1 (F.2.2.2.2.2.2.1.trans hret) (fun t ht hW => ?_) P.2.2.2.2 d F.2.2.2.2.2.2.2.1
  have := endQ (M := M) P (r := r) (by rw [hret]; exact (okp O).1) hq ht args
  rw [hret] at this
  exact this
theorem v_aret {r : Int} {ty : FieldType} (d : decode (mb M) pc = .ok (.areturn, 1)) (hret : mret M = some ty) (hty : (∃ n, ty = .object n) ∨ ∃ t, ty = .array t) (hq : Q r G) : V E M pc ls [rv r] G bc bs Q X := by
  intro p e s m args below meth c R mc ms H locs cells slots lsA F B P O hl
  refine vx_ret (W.widen (k := mc) (n := ms) (by omega) (by omega) ?_)
  have hT : rT ty = 2 := by rcases hty with ⟨n, h⟩ | ⟨n, h⟩ <;> (rw [h]; rfl)
  refine W.aret (v := enc (rv r)) F.1 F.2.1 (F.2.2.2.2.2.2.1.trans hret) hty (enc_r.symm) (fun t ht hW => ?_) P.2.2.2.2 d F.2.2.2.2.2.2.2.1
  have := endQ (M := M) P (r := r) (by rw [hret]; show sokT (rT ty) r; rw [hT]; exact (okp O).1) hq ht args
  have h2 : encR (some ty) r = some (enc (rv r)) := by
    show some (encT (rT ty) r) = _
    rw [hT]
    rfl
  rw [hret, h2] at this
  exact this
theorem v_vret (d : decode (mb M) pc = .ok (.return_, 1)) (hret : mret M = none) (hq : Q 0 G) : V E M pc ls [] G bc bs Q X := by
  intro p e s m args below meth c R mc ms H locs cells slots lsA F B P O hl
  refine vx_ret (W.widen (k := mc) (n := ms) (by omega) (by omega) ?_)
  refine W.vret F.1 F.2.1 (F.2.2.2.2.2.2.1.trans hret) (fun t ht hW => ?_) P.2.2.2.2 d F.2.2.2.2.2.2.2.1
  have := endQ (M := M) P (r := 0) (by rw [hret]; trivial) hq ht args
  rw [hret] at this
  exact this
/-- fewer locals are known -/
theorem v_less {ls' : List (Option SV)} (h : ∀ (j : Nat) (w : SV), ls'[j]? = some (some w) → ls[j]? = some (some w)) (k : V E M pc ls' stk G bc bs Q X) : V E M pc ls stk G bc bs Q X := by
  intro p e s m args below meth c R mc ms H locs cells slots lsA F B P O hl
  refine k F B P ⟨fun v hv => ?_, O.2⟩ ⟨hl.1, hl.2.1, fun j w hj => hl.2.2 j w (h j w hj)⟩
  obtain ⟨j, hj⟩ := List.getElem?_of_mem hv
  exact O.1 v (List.mem_of_getElem? (h j v hj))
end VC8
