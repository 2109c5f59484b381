/-! calls that only tell -/
section S81
variable {E : EE} {G G' G2 : Gt} {c s : Nat} {Q X : Int → Gt → Prop} {a x i j k l u : Int} {d d' d2 : DS} {st : Int} {zs : List Zt} {ser : List Int} {smp : List (Sm4 × Int)} {rs : List Int} {dn wr cr : Int}
/-- what a call comes to: 0 or the exception, the answer, the state -/
abbrev Sp : Type := Int × Int × DS
def yes (v : Int) (d : DS) : Sp := (0, v, d)
def no (e : Int) (d : DS) : Sp := (e, 0, d)
def AN (G : Gt) (a : Int) : Prop := ∀ k ∈ mArr, ∀ y, gcl G y = 13 → gfd G 12 k y ≠ a
def W9 : Nat → Nat → Int → Prop := fun c _ _ => c ≠ 12
def L9 : Int → Prop := fun _ => True
/-- no old row of longs is owned anew -/
def NOW (G G' : Gt) : Prop := ∀ q, 0 ≤ q → gcl G q = 16 → noref G q → noref G' q
theorem OWG.now (h : OWG G G') : NOW G G' := fun q h0 hq hn => h.2 q h0 (by omega) hn
/-- the object in the next state, the model's part left alone -/
def CF (E : EE) (G G' : Gt) (x : Int) (d' : DS) : Prop := CH E G' x d' ∧ FR G G' W9 L9 (AN G) ∧ NOW G G'
theorem FR.an (h : FR G G' W9 L9 (AN G)) (h2 : FR G' G2 W9 L9 (AN G')) : FR G G2 W9 L9 (AN G) :=
  h.andThen h2 (fun _ _ _ _ w => w) (fun _ _ w => w) (fun y _ w k hk m hm e => w k hk m (by rw [h.1 m (by omega)]; exact hm) (by rw [h.2.1 12 k m (by decide) (by omega) (fun h9 => h9 rfl)]; exact e))
theorem CF.trans (h : CF E G G' x d) (h2 : CF E G' G2 x d2) : CF E G G2 x d2 := ⟨h2.1, h.2.1.an h2.2.1, fun q h0 hq hn => h2.2.2 q h0 (by rw [h.2.1.1 q (by omega)]; exact hq) (h.2.2 q h0 hq hn)⟩
theorem CF.refl (h : CH E G x d) : CF E G G x d := ⟨h, FR.refl G, fun _ _ _ h9 => h9⟩
def RQ (E : EE) (G : Gt) (x : Int) (p : Sp) : Int → Gt → Prop := fun r G' => p.1 = 0 ∧ r = p.2.1 ∧ CF E G G' x p.2.2
def RX (G : Gt) (p : Sp) : Int → Gt → Prop := fun e G' => p.1 = e ∧ e ≠ 0 ∧ G' = G
theorem RQ.y {v : Int} (h : CF E G G' x d') : RQ E G x (yes v d') v G' := ⟨rfl, rfl, h⟩
theorem RX.n {e : Int} (h : e ≠ 0 := by decide) : RX G (no e d') e G := ⟨rfl, h, rfl⟩
abbrev inS (d : DS) (i : Int) : Prop := 0 ≤ i ∧ i < (dSer d).length
def serC (d : DS) (i : Int) : Int := (dSer d).getD i.toNat 0
def bkV (u : Int) : List (Int × Int) → Int
  | [] => -1
  | p :: L => if p.1 = u then p.2 else bkV u L
def cSeries (d : DS) : Sp := yes (dSer d).length d
def cLabels (d : DS) (i : Int) : Sp := if inS d i then yes (serC d i) d else no 3 d
def cSamples (d : DS) (i : Int) : Sp := if inS d i then yes (((dSmp d).map (·.1)).countP (own (serC d i))) d else no 3 d
def cLog (d : DS) : Sp := yes (dRec d).length d
def cBehind (d : DS) : Sp := yes ((dSmp d).countP unc) d
def cBits (d : DS) (i u : Int) : Sp := if inS d i then (if bkV u (dBk d (serC d i)) = -1 then no 3 d else yes (bkV u (dBk d (serC d i))) d) else no 3 d
abbrev inA (d : DS) (i : Int) : Prop := 0 ≤ i ∧ i < (dAns d).length
def cValue (d : DS) (i : Int) : Sp := if inA d i then yes ((dAns d).getD i.toNat (0, 0)).2 d else no 3 d
def cLabelsOf (d : DS) (i : Int) : Sp := if inA d i then yes ((dAns d).getD i.toNat (0, 0)).1 d else no 3 d
def cNotices (d : DS) : Sp := yes (dN d 3) d
def cSuits (d : DS) (l t w : Int) : Sp := if (l = 10 ∨ l = 100) ∧ (0 ≤ t ∧ t ≤ 100000) ∧ (1 ≤ w ∧ w ≤ 1000) then yes (if Int.emod (t + 1) l = 0 then (if Int.emod w l = 0 then 1 else 0) else 0) d else no 1 d
theorem ok_series (h : CH E G x d) (hi : DI d) : Ok E M_X11_series [rv x] G c s (RQ E G x (cSeries d)) (RX G (cSeries d)) := by
  obtain ⟨h9, hN, hl, hm, hz, h12⟩ := h.num hi
  refine i_X11_series ⟨h.1, h9, hN.2.1, okp_size hN.2.1, ?_⟩
  rw [hz]
  exact RQ.y (CF.refl h)
theorem ok_labels (h : CH E G x d) (hi : DI d) (hc : 1 ≤ c) (hs : 6 ≤ s) : Ok E M_X11_labels [rv x, iv i] G c s (RQ E G x (cLabels d i)) (RX G (cLabels d i)) := by
  obtain ⟨h9, hN, hl, hm, hz, h12⟩ := h.num hi
  refine i_X11_labels ⟨h.1, ?_⟩
  by_cases hr : inS d i
  · refine Call.to (mc' := 0) (ms' := 0) (ok_seriesOf (Q := fun r G1 => r = (numL G (gfd G 11 0 x)).getD i.toNat 0 ∧ G1 = G) h hi (fun _ => ⟨rfl, rfl⟩) (fun h8 => absurd hr h8)) (Nat.zero_le _) (Nat.zero_le _) fun r G1 ⟨e1, e2⟩ => ?_
    rw [e1, e2]
    have := hm i.toNat (by omega)
    refine ⟨(hN.2.2.2.2.1 _ this.1).1.1, ?_⟩
    have e : gfd G 7 0 ((numL G (gfd G 11 0 x)).getD i.toNat 0) = serC d i := this.2
    rw [e, cLabels, if_pos hr]
    exact RQ.y (CF.refl h)
  · refine Call.of (mc' := 1) (ms' := 6) (Q' := fun _ _ => False) (X' := fun e G1 => e = 3 ∧ G1 = G) (ok_seriesOf h hi (fun h8 => absurd h8 hr) (fun _ => ⟨Nat.le_refl _, Nat.le_refl _, rfl, rfl⟩)) hc hs (fun e G1 ⟨e1, e2⟩ => ?_) (fun _ _ h8 => h8.elim)
    rw [e1, e2]
    rw [cLabels, if_neg hr]
    exact RX.n
theorem StH.len (h : StH G st zs ser smp rs dn wr cr) (hL : LW E G) {b : Int} (hb : b ∈ numL G st) : gcl G (gfd G 7 1 b) = 14 ∧ gfd G 13 2 (gfd G 7 1 b) = ((smp.map (·.1)).countP (own (sLab G b)) : Nat) := by
  have hS := h.2.2.2.2.1 b hb
  refine ⟨hS.2.1.1, ?_⟩
  rw [hL.size hS.2.1.1 hS.2.1.2, ← zs_map h.2.2.2.2.2.1, ← zO_len, ← hS.2.2.1.length_eq]
  rfl
theorem ok_samples (h : CH E G x d) (hi : DI d) (hc : 1 ≤ c) (hs : 6 ≤ s) : Ok E M_X11_samples [rv x, iv i] G c s (RQ E G x (cSamples d i)) (RX G (cSamples d i)) := by
  obtain ⟨h9, hN, hl, hm, hz, h12⟩ := h.num hi
  refine i_X11_samples ⟨h.1, ?_⟩
  by_cases hr : inS d i
  · refine Call.to (mc' := 0) (ms' := 0) (ok_seriesOf (Q := fun r G1 => r = (numL G (gfd G 11 0 x)).getD i.toNat 0 ∧ G1 = G) h hi (fun _ => ⟨rfl, rfl⟩) (fun h8 => absurd hr h8)) (Nat.zero_le _) (Nat.zero_le _) fun r G1 ⟨e1, e2⟩ => ?_
    rw [e1, e2]
    have hb := hm i.toNat (by omega)
    obtain ⟨zs, hS⟩ := h.2.2.2.1
    have hs := hS.len h.2.1 hb.1
    refine ⟨(hN.2.2.2.2.1 _ hb.1).1.1, hs.1, okp_size hs.1, ?_⟩
    rw [hs.2, hb.2, cSamples, if_pos hr]
    exact RQ.y (CF.refl h)
  · refine Call.of (mc' := 1) (ms' := 6) (Q' := fun _ _ => False) (X' := fun e G1 => e = 3 ∧ G1 = G) (ok_seriesOf h hi (fun h8 => absurd h8 hr) (fun _ => ⟨Nat.le_refl _, Nat.le_refl _, rfl, rfl⟩)) hc hs (fun e G1 ⟨e1, e2⟩ => ?_) (fun _ _ h8 => h8.elim)
    rw [e1, e2]
    rw [cSamples, if_neg hr]
    exact RX.n
theorem ok_log (h : CH E G x d) : Ok E M_X11_log [rv x] G c s (RQ E G x (cLog d)) (RX G (cLog d)) := by
  obtain ⟨zs, hS⟩ := h.2.2.2.1
  have hr := hS.2.2.1
  refine i_X11_log ⟨h.1, hS.1, hr.1, okp_size hr.1, ?_⟩
  have e := RecR.len hS.2.2.2.2.2.2.2.2.2.2.2.2.2
  rw [List.length_reverse] at e
  rw [h.2.1.size hr.1 hr.2, e]
  exact RQ.y (CF.refl h)
theorem ok_behind (h : CH E G x d) (hi : DI d) : Ok E M_X11_behind [rv x] G c s (RQ E G x (cBehind d)) (RX G (cBehind d)) := by
  obtain ⟨h9, hN, -⟩ := h.num hi
  obtain ⟨zs, hS⟩ := h.2.2.2.1
  refine i_X11_behind ⟨h.1, h9, Call.pure (okp_countNotCopied h.2.1 hN) ?_⟩
  rw [hS.behind hi.1]
  exact RQ.y (CF.refl h)
theorem bbV_eq (h0 : 0 ≤ gfd G 7 4 a) : ∀ j, j ≤ (gfd G 7 4 a).toNat → bbV G a u j = bkV u ((blkL G a).drop ((gfd G 7 4 a).toNat - j))
  | 0, _ => by
    rw [List.drop_eq_nil_of_le (by rw [blkL_len]; omega)]
    rfl
  | j + 1, hj => by
    have hlt : (gfd G 7 4 a).toNat - (j + 1) < (blkL G a).length := by rw [blkL_len]; omega
    have e1 := blkL_at (G := G) (a := a) (i := (gfd G 7 4 a).toNat - (j + 1)) (by omega)
    rw [List.getElem?_eq_getElem hlt] at e1
    have e2 := Option.some.inj e1
    have e3 : (((gfd G 7 4 a).toNat - (j + 1) : Nat) : Int) = gfd G 7 4 a - ((j + 1 : Nat) : Int) := by omega
    rw [List.drop_eq_getElem_cons hlt, e2, e3, show (gfd G 7 4 a).toNat - (j + 1) + 1 = (gfd G 7 4 a).toNat - j from by omega]
    show (if gel G (gfd G 7 2 a) (gfd G 7 4 a - ((j + 1 : Nat) : Int)) = u then gel G (gfd G 7 3 a) (gfd G 7 4 a - ((j + 1 : Nat) : Int)) else bbV G a u j) = (if gel G (gfd G 7 2 a) (gfd G 7 4 a - ((j + 1 : Nat) : Int)) = u then gel G (gfd G 7 3 a) (gfd G 7 4 a - ((j + 1 : Nat) : Int)) else bkV u ((blkL G a).drop ((gfd G 7 4 a).toNat - j)))
    rw [bbV_eq h0 j (by omega)]
theorem ok_bits (h : CH E G x d) (hi : DI d) (hc : 1 ≤ c) (hs : 6 ≤ s) : Ok E M_X11_bits [rv x, iv i, iv u] G c s (RQ E G x (cBits d i u)) (RX G (cBits d i u)) := by
  obtain ⟨h9, hN, hl, hm, hz, h12⟩ := h.num hi
  refine i_X11_bits ⟨h.1, ?_⟩
  by_cases hr : inS d i
  · refine Call.to (mc' := 0) (ms' := 0) (ok_seriesOf (Q := fun r G1 => r = (numL G (gfd G 11 0 x)).getD i.toNat 0 ∧ G1 = G) h hi (fun _ => ⟨rfl, rfl⟩) (fun h8 => absurd hr h8)) (Nat.zero_le _) (Nat.zero_le _) fun r G1 ⟨e1, e2⟩ => ?_
    rw [e1, e2]
    have hb := hm i.toNat (by omega)
    obtain ⟨zs, hS⟩ := h.2.2.2.1
    have hB := (hS.2.2.2.2.1 _ hb.1).2.2.2.2.1
    have e : bbV G ((numL G (gfd G 11 0 x)).getD i.toNat 0) u (gfd G 7 4 ((numL G (gfd G 11 0 x)).getD i.toNat 0)).toNat = bkV u (dBk d (serC d i)) := by
      rw [bbV_eq hB.2.2.2.1 _ (Nat.le_refl _), Nat.sub_self, List.drop_zero, h.2.2.2.2.1 _ hb.1, hb.2]
      rfl
    refine ⟨hB.1, Call.pure (okp_bitsOfBlock hB) ⟨fun h5 => ?_, fun h5 => ⟨by omega, by omega, ?_⟩⟩⟩
    · rw [e] at h5 ⊢
      rw [cBits, if_pos hr, if_neg h5]
      exact RQ.y (CF.refl h)
    · rw [e] at h5
      rw [cBits, if_pos hr, if_pos h5]
      exact RX.n
  · refine Call.of (mc' := 1) (ms' := 6) (Q' := fun _ _ => False) (X' := fun e G1 => e = 3 ∧ G1 = G) (ok_seriesOf h hi (fun h8 => absurd h8 hr) (fun _ => ⟨Nat.le_refl _, Nat.le_refl _, rfl, rfl⟩)) hc hs (fun e G1 ⟨e1, e2⟩ => ?_) (fun _ _ h8 => h8.elim)
    rw [e1, e2]
    rw [cBits, if_neg hr]
    exact RX.n
theorem CH.asked (h : CH E G x d) : (∃ n, RowH G (gfd G 11 2 x) n (dAns d)) ∧ gcl G (gfd G 11 2 x) = 4 ∧ gcl G (gfd G 3 0 (gfd G 11 2 x)) = 15 ∧ gcl G (gfd G 3 1 (gfd G 11 2 x)) = 16 ∧ gfd G 3 2 (gfd G 11 2 x) = (dAns d).length ∧ (dAns d).length ≤ 12 := by
  obtain ⟨-, -, -, -, -, -, ⟨n, hA⟩, -⟩ := h
  have hs := hA.1
  have hn := hs.2.2.2.1
  have hl := hA.len
  unfold rN at hl hn
  exact ⟨⟨n, hA⟩, hs.1, hs.2.1.1, hs.2.2.1.1, by omega, by omega⟩
theorem ok_value (h : CH E G x d) (hc : 1 ≤ c) (hs : 6 ≤ s) : Ok E M_X11_value [rv x, iv i] G c s (RQ E G x (cValue d i)) (RX G (cValue d i)) := by
  obtain ⟨⟨n, hA⟩, h4, h15, h16, hz, h12⟩ := h.asked
  refine i_X11_value ⟨h.1, h4, i32s (by omega), okp_isWithin, fun hw => ?_, fun hw => ⟨hc, hs, ?_⟩⟩
  · have hw' := wInY hw
    obtain ⟨m, rfl⟩ := Int.eq_ofNat_of_zero_le hw'.1
    have e := hA.elt (i := m) (by omega)
    refine ⟨h.1, h4, h16, hw'.1, e.2.2.2.2, ?_⟩
    rw [e.2.1, cValue, if_pos ⟨hw'.1, by omega⟩]
    exact RQ.y (CF.refl h)
  · have := wIn0.mp hw
    rw [cValue, if_neg (fun h9 => by have h1 := h9.1; have h2 := h9.2; omega)]
    exact RX.n
theorem ok_labelsOf (h : CH E G x d) (hc : 1 ≤ c) (hs : 6 ≤ s) : Ok E M_X11_labelsOf [rv x, iv i] G c s (RQ E G x (cLabelsOf d i)) (RX G (cLabelsOf d i)) := by
  obtain ⟨⟨n, hA⟩, h4, h15, h16, hz, h12⟩ := h.asked
  refine i_X11_labelsOf ⟨h.1, h4, i32s (by omega), okp_isWithin, fun hw => ?_, fun hw => ⟨hc, hs, ?_⟩⟩
  · have hw' := wInY hw
    obtain ⟨m, rfl⟩ := Int.eq_ofNat_of_zero_le hw'.1
    have e := hA.elt (i := m) (by omega)
    refine ⟨h.1, h4, h15, hw'.1, e.2.2.2.1, ?_⟩
    rw [e.1, cLabelsOf, if_pos ⟨hw'.1, by omega⟩]
    exact RQ.y (CF.refl h)
  · have := wIn0.mp hw
    rw [cLabelsOf, if_neg (fun h9 => by have h1 := h9.1; have h2 := h9.2; omega)]
    exact RX.n
theorem CH.nums (h : CH E G x d) : gfd G 11 11 x = dN d 3 ∧ gfd G 11 12 x = dN d 0 ∧ gfd G 11 13 x = dN d 1 := by
  obtain ⟨-, -, -, -, -, -, -, -, -, -, -, -, -, -, h1, h2, h3⟩ := h
  exact ⟨h1, h2, h3⟩
theorem ok_notices (h : CH E G x d) : Ok E M_X11_notices [rv x] G c s (RQ E G x (cNotices d)) (RX G (cNotices d)) := by
  refine i_X11_notices ⟨h.1, ?_⟩
  rw [h.nums.1]
  exact RQ.y (CF.refl h)
theorem ok_suits {t w : Int} (h : CH E G x d) (hc : 1 ≤ c) (hs : 6 ≤ s) : Ok E M_X11_suits [rv x, iv l, iv t, iv w] G c s (RQ E G x (cSuits d l t w)) (RX G (cSuits d l t w)) := by
  have hno : ¬ ((l = 10 ∨ l = 100) ∧ (0 ≤ t ∧ t ≤ 100000) ∧ (1 ≤ w ∧ w ≤ 1000)) → 1 ≤ c ∧ 6 ≤ s ∧ RX G (cSuits d l t w) 1 G := fun h9 => ⟨hc, hs, by rw [cSuits, if_neg h9]; exact RX.n⟩
  have hlv : wLevel l ≠ 0 → l = 10 ∨ l = 100 := fun h9 => by
    unfold wLevel at h9
    by_cases h8 : l = 10 ∨ l = 100
    · exact h8
    · rw [if_neg h8] at h9
      exact absurd rfl h9
  refine i_X11_suits ⟨okp_isLevel, fun h0 => hno fun h9 => ?_, fun h0 => ⟨okp_isWithin, fun h1 => hno fun h9 => ?_, fun h1 => ⟨okp_isWithin, fun h2 => ?_, fun h2 => hno fun h9 => ?_⟩⟩⟩
  · unfold wLevel at h0
    rw [if_pos h9.1] at h0
    exact absurd h0 (by decide)
  · exact wIn0.mp h1 h9.2.1
  · have hl := hlv h0
    have h1' := wInY h1
    have h2' := wInY h2
    refine ⟨i32s (by omega), okp_floorMod (by omega) (by omega), fun _ => okp_floorMod (by omega) (by omega), ?_, ?_⟩
    · split
      · split
        · exact Or.inr rfl
        · exact Or.inl rfl
      · exact Or.inl rfl
    · rw [cSuits, if_pos ⟨hl, h1', h2'⟩]
      exact RQ.y (CF.refl h)
  · exact wIn0.mp h2 h9.2.2
end S81
