section VA7
variable {E : EE} {M : MD} {pc : Nat} {ls : List (Option SV)} {stk : List SV} {G : Gt} {bc bs : Nat} {Q X : Int → Gt → Prop}
theorem vin {i : Int} {n : Int} (hi : i32 i) (h0 : 0 ≤ i) (h1 : i < n) : vp_in (Int32.ofInt i) n.toNat := by
  unfold vp_in
  rw [i32_lt0 hi, i32_toNat hi]
  omega
theorem ld_row {i : Int} (hi : i32 i) (h0 : 0 ≤ i) (f : Int → Int) : f ((Int32.ofInt i).toNatClampNeg : Int) = f i := by
  rw [i32_toNat hi, Int.toNat_of_nonneg h0]
theorem oel {G : Gt} {a i : Int} (h : wt E G) (ha : gcl G a = 18) : -1 ≤ gel G a i := by
  have h8 := h.2.2.2.2.2.2.2.1 a i ha
  rcases h8 with h8 | h8
  · omega
  · have := (h.1 (gel G a i) (by unfold okE at h8; omega)).1
    omega

theorem v_iald {a i : Int} (d : decode (mb M) pc = .ok (.iaload, 1)) (ha : gcl G a = 15 ∨ gcl G a = 19) (h0 : 0 ≤ i) (h1 : i < gln G a) (kk : i32 (gel G a i) → V E M (pc + 1) ls (iv (gel G a i) :: stk) G bc bs Q X) : V E M pc ls (iv i :: rv a :: stk) G bc bs Q X := by
  intro p e s m args below meth c R mc ms H locs cells slots lsA F B P O hl
  have O1 := okp O
  have O2 := okp O1.2
  have hi : i32 i := O1.1
  have ha0 := (P.2.1.1.1 a (by omega)).1
  have hr := P.2.1.1.2.2.2.2.1 a i ha
  have hk2 := kk hr (e := e) (below := below) F B P (oks O2.2 hr) hl
  rw [List.map_cons, List.map_cons, enc_ref ha0, enc_iv]
  rw [List.map_cons] at hk2
  have e1 : ((Int32.ofInt i).toNatClampNeg : Int) = i := by rw [i32_toNat hi, Int.toNat_of_nonneg h0]
  rcases ha with ha | ha
  · obtain ⟨ws, q0, hP, hq⟩ := P.2.1.read (a := a) (by omega)
    rw [entO_I (Or.inl ha) ha0] at hq
    refine va_iald (D := eD E) F.1 F.2.1 F.2.2.2.2.2.1 hP q0 0 hq rfl (vin hi h0 h1) d ?_
    rw [e1]
    exact hk2
  · have hb := P.2.1.1.2.2.2.2.2.2.2.2.2.2 a ha
    have e9 : ((a.toNat : Nat) : Int) = a := Int.toNat_of_nonneg ha0
    have hA := P.2.1.2.2 a.toNat (by omega) (by rw [e9]; omega)
    have hS := F.2.2.2.2.2.2.2.2.2.2.2.2.1.1.2.2.2
    have h19 : gcl G (a.toNat : Int) = 19 := by rw [e9]; exact ha
    have hty : ArrOfT s (eK E (a.toNat + 4)) .int := by
      obtain ⟨_, -, -, -, -, -, -, a7, -⟩ := hA
      rcases (a7 h19).1 with h9 | h9
      · rw [h9]; exact hS.1
      · rw [h9]; exact hS.2.1
    have hln := P.2.1.1.2.2.2.1 a (by omega)
    have hT := hA.tab (f := fun j => .int (Int32.ofInt (gel G a j))) (by omega) (P.old (by omega)) hty (by rw [e9]; exact hln.1) (fun cell hc j hj => by
      obtain ⟨c9, a1, -, -, -, -, -, a7, -⟩ := hA
      cases Option.some.inj (a1.symm.trans hc)
      have := (a7 h19).2 j hj
      rw [e9] at this
      exact this)
    rw [e9] at hT
    refine va_ti F.1 F.2.1 hT P.2.2 (vin hi h0 h1) rfl d ?_
    rw [e1]
    exact hk2
theorem v_lald {a i : Int} (d : decode (mb M) pc = .ok (.laload, 1)) (ha : gcl G a = 16) (h0 : 0 ≤ i) (h1 : i < gln G a) (kk : i64 (gel G a i) → V E M (pc + 1) ls (jv (gel G a i) :: stk) G bc bs Q X) : V E M pc ls (iv i :: rv a :: stk) G bc bs Q X := by
  intro p e s m args below meth c R mc ms H locs cells slots lsA F B P O hl
  have O1 := okp O
  have O2 := okp O1.2
  have hi : i32 i := O1.1
  obtain ⟨ws, q0, hP, hq⟩ := P.2.1.read (a := a) (by omega)
  have ha0 := (P.2.1.1.1 a (by omega)).1
  have hr := P.2.1.1.2.2.2.2.2.1 a i ha
  have hk2 := kk hr (e := e) (below := below) F B P (oks O2.2 hr) hl
  rw [entO_J ha ha0] at hq
  rw [List.map_cons, List.map_cons, enc_ref ha0, enc_iv]
  rw [List.map_cons] at hk2
  refine va_lald (D := eD E) F.1 F.2.1 F.2.2.2.2.2.1 hP q0 1 hq rfl (vin hi h0 h1) d ?_
  have e1 : ((Int32.ofInt i).toNatClampNeg : Int) = i := by rw [i32_toNat hi, Int.toNat_of_nonneg h0]
  rw [e1]
  exact hk2
theorem v_zald {a i : Int} (d : decode (mb M) pc = .ok (.baload, 1)) (ha : gcl G a = 17) (h0 : 0 ≤ i) (h1 : i < gln G a) (kk : gel G a i = 0 ∨ gel G a i = 1 → V E M (pc + 1) ls (iv (gel G a i) :: stk) G bc bs Q X) : V E M pc ls (iv i :: rv a :: stk) G bc bs Q X := by
  intro p e s m args below meth c R mc ms H locs cells slots lsA F B P O hl
  have O1 := okp O
  have O2 := okp O1.2
  have hi : i32 i := O1.1
  obtain ⟨ws, q0, hP, hq⟩ := P.2.1.read (a := a) (by omega)
  have ha0 := (P.2.1.1.1 a (by omega)).1
  have hr := P.2.1.1.2.2.2.2.2.2.1 a i ha
  have hk2 := kk hr (e := e) (below := below) F B P (oks O2.2 (by rcases hr with h | h <;> (rw [h]; exact ⟨by decide, by decide⟩))) hl
  rw [entO_Z ha ha0] at hq
  rw [List.map_cons, List.map_cons, enc_ref ha0, enc_iv]
  rw [List.map_cons] at hk2
  refine va_zald (D := eD E) F.1 F.2.1 F.2.2.2.2.2.1 hP q0 2 hq rfl (vin hi h0 h1) d ?_
  have e1 : ((Int32.ofInt i).toNatClampNeg : Int) = i := by rw [i32_toNat hi, Int.toNat_of_nonneg h0]
  rw [e1]
  exact hk2
theorem v_aald {a i : Int} (d : decode (mb M) pc = .ok (.aaload, 1)) (ha : gcl G a = 18) (h0 : 0 ≤ i) (h1 : i < gln G a) (kk : gel G a i = -1 ∨ okE (gcl G (gel G a i)) → V E M (pc + 1) ls (rv (gel G a i) :: stk) G bc bs Q X) : V E M pc ls (iv i :: rv a :: stk) G bc bs Q X := by
  intro p e s m args below meth c R mc ms H locs cells slots lsA F B P O hl
  have O1 := okp O
  have O2 := okp O1.2
  have hi : i32 i := O1.1
  obtain ⟨ws, q0, hP, hq⟩ := P.2.1.read (a := a) (by omega)
  have ha0 := (P.2.1.1.1 a (by omega)).1
  have hr := P.2.1.1.2.2.2.2.2.2.2.1 a i ha
  have hk2 := kk hr (e := e) (below := below) F B P (oks O2.2 (show sokT 2 _ from oel P.2.1.1 ha)) hl
  rw [entO_O ha ha0] at hq
  rw [List.map_cons, List.map_cons, enc_ref ha0, enc_iv]
  rw [List.map_cons] at hk2
  refine va_aldq (D := eD E) F.1 F.2.1 F.2.2.2.2.2.1 hP q0 3 hq rfl (vin hi h0 h1) d ?_
  have e1 : ((Int32.ofInt i).toNatClampNeg : Int) = i := by rw [i32_toNat hi, Int.toNat_of_nonneg h0]
  rw [e1]
  exact hk2
theorem v_alen {a : Int} (d : decode (mb M) pc = .ok (.arraylength, 1)) (ha : 15 ≤ gcl G a) (kk : 0 ≤ gln G a → V E M (pc + 1) ls (iv (gln G a) :: stk) G bc bs Q X) : V E M pc ls (rv a :: stk) G bc bs Q X := by
  intro p e s m args below meth c R mc ms H locs cells slots lsA F B P O hl
  have ha0 := (P.2.1.1.1 a (by omega)).1
  have ha9 := (P.2.1.1.1 a (by omega)).2
  obtain ⟨n0, n1⟩ := P.2.1.1.2.2.2.1 a ha
  have hk2 := kk n0 (e := e) (below := below) F B P (oks (okp O).2 (show i32 (gln G a) from ⟨by omega, n1⟩)) hl
  rw [List.map_cons, enc_ref ha0]
  have hv : Int32.ofNat (gln G a).toNat = Int32.ofInt (gln G a) := by
    rw [← Int32.ofInt_eq_ofNat, Int.toNat_of_nonneg n0]
  have hc : (gcl G a = 15 ∨ gcl G a = 19) ∨ gcl G a = 16 ∨ gcl G a = 17 ∨ gcl G a = 18 := by omega
  have e9 : ((a.toNat : Nat) : Int) = a := Int.toNat_of_nonneg ha0
  have hS := F.2.2.2.2.2.2.2.2.2.2.2.2.1.1.2.2.2
  have old : ∀ {ty : FieldType}, a < eb E → ArrOfT s (eK E (a.toNat + 4)) ty → gln G a = 0 ∨ gcl G a = 19 → W p (eL E) e R s m args below meth c H locs cells slots (vx_MQ below (QcR E M Q) (XcR E X) args s mc ms (eA E)) (F0 m pc lsA (.ref a.toNat :: stk.map enc)) := fun {ty} hb hty hz => by
    have hA := P.2.1.2.2 a.toNat (by omega) (by rw [e9]; omega)
    have hT := hA.tab (f := fun j => .int (Int32.ofInt (gel G a j))) (by omega) (P.old (by omega)) hty (by rw [e9]; exact n0) (fun cell hc j hj => by
      rw [e9] at hj
      rcases hz with hz | hz
      · omega
      · obtain ⟨c9, a1, -, -, -, -, -, a7, -⟩ := hA
        cases Option.some.inj (a1.symm.trans hc)
        have := (a7 (by rw [e9]; exact hz)).2 j (by rw [e9]; exact hj)
        rw [e9] at this
        exact this)
    rw [e9] at hT
    exact va_tlen F.1 F.2.1 hT P.2.2 hv d hk2
  rcases hc with h | h | h | h
  · rcases h with h | h
    rotate_left
    · have hb := P.2.1.1.2.2.2.2.2.2.2.2.2.2 a h
      have hA := P.2.1.2.2 a.toNat (by omega) (by rw [e9]; omega)
      have hty : ArrOfT s (eK E (a.toNat + 4)) .int := by
        obtain ⟨_, -, -, -, -, -, -, a7, -⟩ := hA
        rcases (a7 (by rw [e9]; exact h)).1 with h9 | h9
        · rw [h9]; exact hS.1
        · rw [h9]; exact hS.2.1
      exact old hb hty (Or.inr h)
    obtain ⟨ws, q0, hP, hq⟩ := P.2.1.read (a := a) (by omega)
    rw [entO_I (Or.inl h) ha0] at hq
    exact va_alen (D := eD E) F.1 F.2.1 F.2.2.2.2.2.1 hP q0 0 hq rfl hv d hk2
  · obtain ⟨ws, q0, hP, hq⟩ := P.2.1.read (a := a) (by omega)
    rw [entO_J h ha0] at hq
    exact va_alen (D := eD E) F.1 F.2.1 F.2.2.2.2.2.1 hP q0 1 hq rfl hv d hk2
  · obtain ⟨ws, q0, hP, hq⟩ := P.2.1.read (a := a) (by omega)
    rw [entO_Z h ha0] at hq
    exact va_alen (D := eD E) F.1 F.2.1 F.2.2.2.2.2.1 hP q0 2 hq rfl hv d hk2
  · by_cases hb : a < (eb E : Int)
    · have hA := P.2.1.2.2 a.toNat (by omega) (by rw [e9]; omega)
      have hE : a.toNat = eE E := by
        obtain ⟨_, -, -, -, -, -, -, -, a8⟩ := hA
        exact (a8 (by rw [e9]; exact h)).1
      have hz : gln G a = 0 := by
        rcases P.2.1.1.2.1 a hb (by omega) with h9 | h9
        · omega
        · exact h9.2
      exact old hb (by rw [hE]; exact hS.2.2) (Or.inl hz)
    obtain ⟨ws, q0, hP, hq⟩ := P.2.1.readN (a := a) (by omega) (by omega)
    rw [entO_O h ha0] at hq
    exact va_alen (D := eD E) F.1 F.2.1 F.2.2.2.2.2.1 hP q0 3 hq rfl hv d hk2
theorem entO_ne {G G' : Gt} {b : Nat} (h1 : gcl G' b = gcl G b) (h2 : gln G' b = gln G b) (h3 : ∀ j, gel G' b j = gel G b j) (h4 : ∀ c k, gfd G' c k b = gfd G c k b) : entO E G' b = entO E G b := by
  have h5 : fsOf G' (gcl G b - 1) b = fsOf G (gcl G b - 1) b := by
    unfold fsOf
    exact List.map_congr_left fun j _ => by rw [h4]
  unfold entO
  simp only [h1, h2, h3, h5]
theorem wt_sel {a i v : Int} (h : wt E G) (ha : gcl G a ≠ 19) (h15 : gcl G a = 15 → i32 v) (h16 : gcl G a = 16 → i64 v) (h17 : gcl G a = 17 → v = 0 ∨ v = 1) (h18 : gcl G a = 18 → v = -1 ∨ okE (gcl G v)) : wt E (sel G a i v) := by
  obtain ⟨g1, g2, g3, g4, g5, g6, g7, g8, g9, g10, g11⟩ := h
  have key : ∀ (a' i' : Int) (P : Int → Prop), (a' = a → P v) → P (gel G a' i') → P (gel (sel G a i v) a' i') := by
    intro a' i' P hp hq
    show P (if a' = a ∧ i' = i then v else gel G a' i')
    by_cases q : a' = a ∧ i' = i
    · rw [if_pos q]; exact hp q.1
    · rw [if_neg q]; exact hq
  refine ⟨g1, g2, g3, g4, fun a' i' h => ?_, fun a' i' h => ?_, fun a' i' h => ?_, fun a' i' h => ?_, g9, ?_, g11⟩
  · exact key a' i' i32 (fun q => h15 (by rcases h with h | h; · rw [← q]; exact h
                                          · exact absurd (q ▸ h) ha)) (g5 a' i' h)
  · exact key a' i' i64 (fun q => h16 (q ▸ h)) (g6 a' i' h)
  · exact key a' i' (fun v => v = 0 ∨ v = 1) (fun q => h17 (q ▸ h)) (g7 a' i' h)
  · exact key a' i' (fun v => v = -1 ∨ okE (gcl G v)) (fun q => h18 (q ▸ h)) (g8 a' i' h)
  · have ne : (eB E : Int) ≠ a := fun q => ha (q ▸ g10.1)
    simp only [gcl_sel, gln_sel, gel_sel]
    rw [if_neg (fun q => ne q.1), if_neg (fun q => ne q.1), if_neg (fun q => ne q.1), if_neg (fun q => ne q.1), if_neg (fun q => ne q.1)]
    exact g10
theorem RG.live {H : Heap} (h : RG E G H) {a : Int} (ha : gcl G a ≠ 0) (hb : (eb E : Int) ≤ a) : ∃ (L : List Nat) (q0 : Nat), (∀ q : Nat, q ∈ L ↔ eb E ≤ q ∧ gcl G q ≠ 0) ∧ va_P (eD E) myCl (va_pl L (entO E G)) H ∧ va_D (eA E) (va_pl L (entO E G)) ∧ a.toNat ∈ L ∧ (va_pl L (entO E G))[q0]? = some (a.toNat, entO E G a.toNat) := by
  obtain ⟨hw, ⟨L, hL, hP, hD⟩, ho⟩ := h
  have h0 := (hw.1 a ha).1
  have ha' : gcl G (a.toNat : Int) ≠ 0 := by rw [Int.toNat_of_nonneg h0]; exact ha
  have hm := (hL a.toNat).mpr ⟨by omega, ha'⟩
  obtain ⟨k, hk⟩ := va_pl_get (X := []) (f := entO E G) hm
  exact ⟨L, k, hL, hP, hD, hm, hk⟩
theorem wt.base (h : wt E G) {a : Int} (ha : gcl G a ≠ 0) (h19 : gcl G a ≠ 19) (h18 : gcl G a = 18 → gln G a ≠ 0) : (eb E : Int) ≤ a := by
  rcases Int.lt_or_le a (eb E) with q | q
  · rcases h.2.1 a q ha with h | h
    · exact absurd h h19
    · exact absurd h.2 (h18 h.1)
  · exact q
theorem set_el {L : List Nat} {q0 : Nat} {a i v : Int} {en : va_E} (hD : va_D (eA E) (va_pl L (entO E G))) (hm : a.toNat ∈ L) (hk : (va_pl L (entO E G))[q0]? = some (a.toNat, entO E G a.toNat)) (h0 : 0 ≤ a) (he : en = entO E (sel G a i v) a.toNat) : (va_pl L (entO E G)).set q0 (a.toNat, en) = va_pl L (entO E (sel G a i v)) := by
  have := va_pl_set (X := []) (e := en) hD hm hk
  refine this.trans (va_pl_congr fun b => ?_)
  by_cases hb : b = a.toNat
  · subst hb
    rw [va_up_self, he]
  · rw [va_up_ne _ _ hb]
    have hne := toNat_ne hb h0
    exact (entO_ne (G := G) (G' := sel G a i v) (b := b) rfl rfl (fun j => by rw [gel_sel, if_neg (fun q => hne q.1)]) (fun _ _ => rfl)).symm
theorem old_el {a i v : Int} (hb : (eb E : Int) ≤ a) (q : Nat) (hq : q < eb E) : gcl (sel G a i v) q = gcl G q ∧ entO E (sel G a i v) q = entO E G q ∧ gln (sel G a i v) q = gln G q ∧ ∀ j, gel (sel G a i v) q j = gel G q j := ⟨rfl, entO_ne rfl rfl (fun j => by rw [gel_sel, if_neg (fun z => by omega)]) (fun _ _ => rfl), rfl, fun j => by rw [gel_sel, if_neg (fun z => by omega)]⟩
theorem upd_row {i v : Int} (hi : i32 i) (h0 : 0 ≤ i) (a : Int) : (fun j : Nat => Int32.ofInt (gel (sel G a i v) a j)) = upd (fun j : Nat => Int32.ofInt (gel G a j)) (Int32.ofInt i).toNatClampNeg (Int32.ofInt v) := by
  funext j
  rw [gel_sel, i32_toNat hi]
  unfold upd
  by_cases h : j = i.toNat
  · rw [if_pos ⟨rfl, by omega⟩, if_pos h]
  · rw [if_neg (fun q => h (by omega)), if_neg h]
theorem updL_row {i v : Int} (hi : i32 i) (h0 : 0 ≤ i) (a : Int) : (fun j : Nat => Int64.ofInt (gel (sel G a i v) a j)) = vp_updL (fun j : Nat => Int64.ofInt (gel G a j)) (Int32.ofInt i).toNatClampNeg (Int64.ofInt v) := by
  funext j
  rw [gel_sel, i32_toNat hi]
  unfold vp_updL
  by_cases h : j = i.toNat
  · rw [if_pos ⟨rfl, by omega⟩, if_pos h]
  · rw [if_neg (fun q => h (by omega)), if_neg h]
theorem updO_row {i v : Int} (hi : i32 i) (h0 : 0 ≤ i) (a : Int) : (fun j : Nat => o2 (gel (sel G a i v) a j)) = va_up (fun j : Nat => o2 (gel G a j)) (Int32.ofInt i).toNatClampNeg (o2 v) := by
  funext j
  rw [gel_sel, i32_toNat hi]
  unfold va_up
  by_cases h : j = i.toNat
  · rw [if_pos ⟨rfl, by omega⟩, if_pos h]
  · rw [if_neg (fun q => h (by omega)), if_neg h]
theorem nar_z {v : Int} (h : v = 0 ∨ v = 1) : vp_nar .boolean (Int32.ofInt v) = Int32.ofInt v := by
  rcases h with h | h <;> (rw [h]; decide +kernel)
theorem v_iast {a i v : Int} (d : decode (mb M) pc = .ok (.iastore, 1)) (ha : gcl G a = 15) (h0 : 0 ≤ i) (h1 : i < gln G a) (kk : V E M (pc + 1) ls stk (sel G a i v) bc bs Q X) : V E M pc ls (iv v :: iv i :: rv a :: stk) G bc bs Q X := by
  intro p e s m args below meth c R mc ms H locs cells slots lsA F B P O hl
  have O1 := okp O
  have O2 := okp O1.2
  have O3 := okp O2.2
  have hi : i32 i := O2.1
  have hw := P.2.1.1
  have hb := hw.base (a := a) (by omega) (by omega) (by omega)
  obtain ⟨L, q0, hL, hP, hD, hm, hq⟩ := P.2.1.live (a := a) (by omega) hb
  have ha0 := (P.2.1.1.1 a (by omega)).1
  have hq9 := hq
  rw [entO_I (Or.inl ha) ha0] at hq
  rw [List.map_cons, List.map_cons, List.map_cons, enc_ref ha0, enc_iv i, enc_iv v]
  refine va_iast (D := eD E) F.1 F.2.1 F.2.2.2.2.2.1 hP hD P.2.2 q0 0 hq rfl (vin hi h0 h1) d (fun H1 locs1 hP1 hD1 hS1 => ?_)
  have es := set_el (i := i) (v := v) hD hm hq9 ha0 rfl
  rw [entO_I (G := sel G a i v) (Or.inl ha) ha0, gln_sel, upd_row hi h0 a] at es
  skip
  rw [es] at hP1 hD1
  exact kk F B (P.upd (wt_sel hw (by omega) (fun _ => O1.1) (fun q => by omega) (fun q => by omega) (fun q => by omega)) hL hP1 hD1 hS1 (old_el hb)) O3.2 hl
theorem v_last {a i v : Int} (d : decode (mb M) pc = .ok (.lastore, 1)) (ha : gcl G a = 16) (h0 : 0 ≤ i) (h1 : i < gln G a) (kk : V E M (pc + 1) ls stk (sel G a i v) bc bs Q X) : V E M pc ls (jv v :: iv i :: rv a :: stk) G bc bs Q X := by
  intro p e s m args below meth c R mc ms H locs cells slots lsA F B P O hl
  have O1 := okp O
  have O2 := okp O1.2
  have O3 := okp O2.2
  have hi : i32 i := O2.1
  have hw := P.2.1.1
  have hb := hw.base (a := a) (by omega) (by omega) (by omega)
  obtain ⟨L, q0, hL, hP, hD, hm, hq⟩ := P.2.1.live (a := a) (by omega) hb
  have ha0 := (P.2.1.1.1 a (by omega)).1
  have hq9 := hq
  rw [entO_J ha ha0] at hq
  rw [List.map_cons, List.map_cons, List.map_cons, enc_ref ha0, enc_iv i, enc_jv v]
  refine va_last (D := eD E) F.1 F.2.1 F.2.2.2.2.2.1 hP hD P.2.2 q0 1 hq rfl (vin hi h0 h1) d (fun H1 locs1 hP1 hD1 hS1 => ?_)
  have es := set_el (i := i) (v := v) hD hm hq9 ha0 rfl
  rw [entO_J (G := sel G a i v) ha ha0, gln_sel, updL_row hi h0 a] at es
  skip
  rw [es] at hP1 hD1
  exact kk F B (P.upd (wt_sel hw (by omega) (fun q => by omega) (fun _ => O1.1) (fun q => by omega) (fun q => by omega)) hL hP1 hD1 hS1 (old_el hb)) O3.2 hl
theorem v_zast {a i v : Int} (d : decode (mb M) pc = .ok (.bastore, 1)) (ha : gcl G a = 17) (h0 : 0 ≤ i) (h1 : i < gln G a) (hv : v = 0 ∨ v = 1) (kk : V E M (pc + 1) ls stk (sel G a i v) bc bs Q X) : V E M pc ls (iv v :: iv i :: rv a :: stk) G bc bs Q X := by
  intro p e s m args below meth c R mc ms H locs cells slots lsA F B P O hl
  have O1 := okp O
  have O2 := okp O1.2
  have O3 := okp O2.2
  have hi : i32 i := O2.1
  have hw := P.2.1.1
  have hb := hw.base (a := a) (by omega) (by omega) (by omega)
  obtain ⟨L, q0, hL, hP, hD, hm, hq⟩ := P.2.1.live (a := a) (by omega) hb
  have ha0 := (P.2.1.1.1 a (by omega)).1
  have hq9 := hq
  rw [entO_Z ha ha0] at hq
  rw [List.map_cons, List.map_cons, List.map_cons, enc_ref ha0, enc_iv i, enc_iv v]
  refine va_zast (D := eD E) F.1 F.2.1 F.2.2.2.2.2.1 hP hD P.2.2 q0 2 hq rfl (vin hi h0 h1) d (fun H1 locs1 hP1 hD1 hS1 => ?_)
  have es := set_el (i := i) (v := v) hD hm hq9 ha0 rfl
  rw [entO_Z (G := sel G a i v) ha ha0, gln_sel, upd_row hi h0 a] at es
  rw [nar_z hv] at hP1 hD1
  rw [es] at hP1 hD1
  exact kk F B (P.upd (wt_sel hw (by omega) (fun q => by omega) (fun q => by omega) (fun _ => hv) (fun q => by omega)) hL hP1 hD1 hS1 (old_el hb)) O3.2 hl
theorem v_aast {a i v : Int} (d : decode (mb M) pc = .ok (.aastore, 1)) (ha : gcl G a = 18) (h0 : 0 ≤ i) (h1 : i < gln G a) (hv : v = -1 ∨ okE (gcl G v)) (kk : V E M (pc + 1) ls stk (sel G a i v) bc bs Q X) : V E M pc ls (rv v :: iv i :: rv a :: stk) G bc bs Q X := by
  intro p e s m args below meth c R mc ms H locs cells slots lsA F B P O hl
  have O1 := okp O
  have O2 := okp O1.2
  have O3 := okp O2.2
  have hi : i32 i := O2.1
  have hw := P.2.1.1
  have hb := hw.base (a := a) (by omega) (by omega) (by omega)
  obtain ⟨L, q0, hL, hP, hD, hm, hq⟩ := P.2.1.live (a := a) (by omega) hb
  have ha0 := (P.2.1.1.1 a (by omega)).1
  have hq9 := hq
  rw [entO_O ha ha0] at hq
  have es := set_el (i := i) (v := v) hD hm hq9 ha0 rfl
  rw [entO_O (G := sel G a i v) ha ha0, gln_sel, updO_row hi h0 a] at es
  have fin : ∀ (H1 : Heap) (locs1 : List Loc), va_P (eD E) myCl (va_pl L (entO E (sel G a i v))) H1 → va_D (eA E) (va_pl L (entO E (sel G a i v))) → va_S (eA E) s.heap H1 locs1 → _ := fun H1 locs1 hP1 hD1 hS1 => kk (e := e) (below := below) F B (P.upd (wt_sel hw (by omega) (fun q => by omega) (fun q => by omega) (fun q => by omega) (fun _ => hv)) hL hP1 hD1 hS1 (old_el hb)) O3.2 hl
  rw [List.map_cons, List.map_cons, List.map_cons, enc_ref ha0, enc_iv i]
  rcases hv with hv | hv
  · rw [enc_null hv]
    rw [hv, o2_null, ← hv] at es
    refine va_astqN (D := eD E) F.1 F.2.1 F.2.2.2.2.2.1 hP hD P.2.2 q0 3 hq rfl (vin hi h0 h1) d (fun H1 locs1 hP1 hD1 hS1 => ?_)
    rw [es] at hP1 hD1
    exact fin H1 locs1 hP1 hD1 hS1
  · obtain ⟨g1, g2⟩ := hv
    have hv0 := (hw.1 v (by omega)).1
    have hbv := hw.base (a := v) (by omega) (by omega) (by omega)
    obtain ⟨c9, hc9⟩ : ∃ c9 : Nat, gcl G v = c9 + 1 := ⟨gcl G v - 1, by omega⟩
    have hmv : v.toNat ∈ L := (hL v.toNat).mpr ⟨by omega, by rw [Int.toNat_of_nonneg hv0]; omega⟩
    obtain ⟨qk, hqk⟩ := va_pl_get (X := []) (f := entO E G) hmv
    rw [entO_obj hc9 (by omega) hv0] at hqk
    rw [enc_ref hv0]
    rw [o2_pos hv0] at es
    refine va_astqO (D := eD E) F.1 F.2.1 F.2.2.2.2.2.1 hP hD P.2.2 q0 3 qk c9 hq rfl (F.2.2.2.2.2.2.2.2.2.2.2.2.1.2.2.2.2.2.2.2 _ (caO (c := c9) (by omega))) hqk (clC (by omega)) (vin hi h0 h1) d (fun H1 locs1 hP1 hD1 hS1 => ?_)
    rw [es] at hP1 hD1
    exact fin H1 locs1 hP1 hD1 hS1
end VA7
