/-! the law's own things: what they leave of the class's and of the model's -/
section Sc00
variable {E : EE} {G G' G1 G2 : Gt} {c s bc bs : Nat} {Q X : Int → Gt → Prop} {a b i v q m x o r ml mr u : Int} {k j : Nat} {d d' : DS} {z : Mz} {p : Sp}
/-- the class's object is left where only the model's fields and rows of nobody's change -/
theorem CH.frA {A : Int → Prop} (h : CH E G x d) (hi : DI d) (kf : FR G G' (fun c _ _ => c = 12) noA A) (hA9 : ∀ (c k : Nat) (y : Int), gcl G y = c + 1 → gfd G c k y ≠ -1 → c ≠ 12 → (c, k) ∈ oF → ¬ A (gfd G c k y)) (k2 : LW E G') (k3 : OWG G G') : CH E G' x d := by
  obtain ⟨hx, hL, hO, ⟨zs, hS⟩, hB, ⟨rows, sp, K, wn, hP, hK⟩, ⟨n, hA⟩, h10, hE, hSl, hR, hSi, hN, hD, e3, e0, e1⟩ := h
  have w : ∀ (c j : Nat) (y : Int), c ≠ 12 → ¬ c = 12 := fun c j y h9 h8 => h9 h8
  have na : ∀ {y : Int}, gcl G y = 15 ∨ gcl G y = 16 → y ≠ -1 := fun hy => hO.nn (by omega) (by omega)
  have no : ∀ {y : Int} (c k : Nat), gcl G y = c + 1 → gfd G c k y ≠ -1 → c ≠ 12 → (c, k) ∈ oF → ¬ A (gfd G c k y) := fun {y} c k hy hn hc hp => hA9 c k y hy hn hc hp
  have e11 : ∀ j, gfd G' 11 j x = gfd G 11 j x := fun j => kf.2.1 11 j x (by decide) (by omega) (w 11 j x (by decide))
  have hS' := hS.fr hi.1.sc kf (fun c j y h9 => w c j y (by omega)) (fun h9 => h9) (fun h9 => h9) (fun b hb h9 => h9)
  have hrow : ∀ {r n R}, RowH G r n R → RowH G' r n R := fun {r n R} hr => hr.fr kf (fun j => w 3 j r (by decide)) (no 3 0 hr.1.1 (na (Or.inl hr.1.2.1.1)) (by decide) (by decide)) (no 3 1 hr.1.1 (na (Or.inr hr.1.2.2.1.1)) (by decide) (by decide))
  have hx' : gcl G x = 11 + 1 := hx
  refine ⟨by rw [kf.1 x (by omega)]; exact hx, k2, k3.1, ⟨zs, by rw [e11]; exact hS'.1⟩, ?_, ⟨rows, sp, K, wn, ?_, by rw [e11]; exact hK⟩, ⟨n, by rw [e11]; exact hrow hA⟩, by rw [e11, kf.1 _ (by omega)]; exact h10, by rw [e11, kf.1 _ (by omega)]; exact hE, ?_, ?_, ?_, ?_, ?_, by rw [e11]; exact e3, by rw [e11]; exact e0, by rw [e11]; exact e1⟩
  · rw [e11]
    refine hB.fr hS kf (fun j y => w 7 j y (by decide)) hS'.2 (fun b hb => ?_)
    have hb9 := (hS.2.2.2.2.1 b hb)
    have hbs := hb9.2.2.2.2.1
    exact ⟨no 7 2 hb9.1 (na (Or.inl hbs.2.1.1)) (by decide) (by decide), no 7 3 hb9.1 (na (Or.inl hbs.2.2.1.1)) (by decide) (by decide)⟩
  · rw [e11]
    refine hP.fr kf (fun j => w 2 j x (by decide)) (fun r _ j => w 3 j r (by decide)) (fun h9 => h9) (fun r hr => ?_)
    obtain ⟨n', R', h9⟩ := hP.2.2.2.2.2.2.2.2.2.1 r hr
    exact ⟨no 3 0 h9.1.1 (na (Or.inl h9.1.2.1.1)) (by decide) (by decide), no 3 1 h9.1.1 (na (Or.inr h9.1.2.2.1.1)) (by decide) (by decide)⟩
  · rw [e11]; exact (hSl.fr kf (fun j y => w 6 j y (by decide)) (fun h9 => h9)).1
  · rw [e11]; exact (hR.fr kf (fun j y => w 4 j y (by decide)) (fun j y => w 10 j y (by decide)) (fun j y => w 6 j y (by decide)) (fun j y => w 0 j y (by decide)) (fun h9 => h9) (fun ru _ => ⟨fun h9 => h9, fun h9 => h9⟩)).1
  · have a8 := kf.2.2.2 (gfd G 11 8 x) (by have := hSi.2.1; omega) (by have := hSi.2.1; omega)
    refine ⟨by rw [e11]; exact (hSi.1.fr kf (fun j y => w 6 j y (by decide)) (fun h9 => h9)).1, by rw [e11, kf.1 _ (by rw [hSi.2.1]; decide)]; exact hSi.2.1, by rw [e11, a8.1]; exact hSi.2.2.1, fun i hi9 => ?_⟩
    rw [e11, a8.2 (no 11 8 hx' (na (Or.inl hSi.2.1)) (by decide) (by decide))]
    exact hSi.2.2.2 i hi9
  · have a9 := kf.2.2.2 (gfd G 11 9 x) (by have := hN.1; omega) (by have := hN.1; omega)
    have a9' := a9.2 (no 11 9 hx' (na (Or.inl hN.1)) (by decide) (by decide))
    refine ⟨by rw [e11, kf.1 _ (by rw [hN.1]; decide)]; exact hN.1, by rw [e11, a9.1]; exact hN.2.1, fun i hi9 => ?_⟩
    rw [e11, a9', a9', a9']
    exact hN.2.2 i hi9
  · rw [e11]
    exact ⟨(hD.1.fr kf (fun j y => w 10 j y (by decide)) (fun j y => w 6 j y (by decide)) (fun h9 => h9)).1, k3.2 _ hD.2.2 (by rw [hD.1.1]; decide) hD.2.1, hD.2.2⟩
/-- where the law stands: script, class, model, answer -/
def LIM (E : EE) (G : Gt) (b x m o : Int) (d' d : DS) (z : Mz) : Prop := gcl G b = 19 ∧ CH E G x d' ∧ MH E G m d z.1 z.2 ∧ gcl G o = 16 ∧ gln G o = 1 ∧ noref G o ∧ 0 ≤ o
theorem mArr_in {k : Nat} (h : k ∈ mArr) : (12, k) ∈ oF := List.mem_append_right _ (List.mem_map.mpr ⟨k, h, rfl⟩)
theorem LIM.cls (h : LIM E G b x m o d d z) (k : CF E G G1 x d') : LIM E G1 b x m o d' d z := by
  obtain ⟨hb, hc, hm, h16, hl, hn, h0⟩ := h
  refine ⟨by rw [k.2.1.1 b (by omega)]; exact hb, k.1, hm.fr9 k.2.1 k.1.2.1 k.1.2.2.1, by rw [k.2.1.1 o (by omega)]; exact h16, by rw [(k.2.1.2.2.2 o (by omega) (by omega)).1]; exact hl, k.2.2 o h0 h16 hn, h0⟩
theorem LIM.ans {r : Int} (h : LIM E G b x m o d' d z) (hi : DI d') : LIM E (sel G o 0 r) b x m o d' d z ∧ gel (sel G o 0 r) o 0 = r := by
  obtain ⟨hb, hc, hm, h16, hl, hn, h0⟩ := h
  have kf : FR G (sel G o 0 r) noW noA (fun y => y = o) := FR.mSel hc.2.1 (by omega)
  have kL : LW E (sel G o 0 r) := hc.2.1.sel
  have kO : OWG G (sel G o 0 r) := (ONW.mSel).owg hc.2.2.1
  refine ⟨⟨hb, ?_, ?_, h16, hl, kO.2 o h0 (by omega) hn, h0⟩, by rw [gel_sel, if_pos ⟨rfl, rfl⟩]⟩
  · exact hc.frA (A := fun y => y = o) hi (kf.mono (fun _ _ _ h9 => h9.elim) (fun _ h9 => h9) (fun _ h9 => h9)) (fun c k y hy _ _ hp => hn (c, k) hp y hy) kL kO
  · exact hm.fr9 (kf.mono (fun _ _ _ h9 => h9.elim) (fun _ _ => trivial) (fun y h9 k hk w hw => by rw [h9]; exact hn (12, k) (mArr_in hk) w hw)) kL kO.1
theorem LIM.mdl {l r : Int} (h : LIM E G b x m o d' d z) (hi : DI d') (k : MF E G G1 m d' l r) : LIM E G1 b x m o d' d' (l, r) ∧ gel G1 o 0 = gel G o 0 := by
  obtain ⟨hb, hc, hm, h16, hl, hn, h0⟩ := h
  have kf := k.2.2.2.2.1
  have ho := kf.2.2.2 o (by omega) (by omega)
  refine ⟨⟨by rw [kf.1 b (by omega)]; exact hb, hc.mu hi hm.1.1.1 hm.1.1 k.2, k.1, by rw [kf.1 o (by omega)]; exact h16, by rw [ho.1]; exact hl, k.2.2.2.1.2 o h0 (by omega) hn, h0⟩, ho.2 (fun h9 => ?_) 0⟩
  obtain ⟨k, hk, e⟩ := h9
  exact hn (12, k) (mArr_in hk) m hm.1.1.1 e.symm
/-- the script, read at a place of a call -/
def kS (E : EE) (t : Int) : Int := ((eS E).2.2 t.toNat).toInt
def SCB (E : EE) (G : Gt) (b i : Int) : Prop := (b = (eS E).1 ∧ gcl G b = 19 ∧ SPin E G) ∧ 0 ≤ i ∧ i + 6 ≤ (eS E).2.1 ∧ (eS E).2.1 ≤ 2000000000
theorem SCB.ln (h : SCB E G b i) : gln G b = (eS E).2.1 := by
  obtain ⟨⟨rfl, h1, h2⟩, h3⟩ := h
  exact (h2 h1).1
theorem SCB.gel {j : Int} (h : SCB E G b i) (hj : 0 ≤ j ∧ j ≤ 5) : gel G b (i + j) = kS E (i + j) := by
  obtain ⟨⟨rfl, h1, h2⟩, h3, h4, h5⟩ := h
  have := (h2 h1).2 (i + j).toNat (by omega)
  rw [Int.toNat_of_nonneg (by omega)] at this
  exact this
theorem SCB.at (h : SCB E G b i) (hb : gcl G1 b = 19) (hp : SPin E G1) : SCB E G1 b i := ⟨⟨h.1.1, hb, hp⟩, h.2⟩
theorem opn {P : Prop} {j : Int} (h : SCB E G b i) (hj : 0 ≤ j ∧ j ≤ 5) (hp : P) : i32 (i + j) ∧ (gcl G b = 15 ∨ gcl G b = 19) ∧ 0 ≤ (i + j) ∧ (i + j) < gln G b ∧ P := by
  have := h.ln
  obtain ⟨⟨_, h1, _⟩, h3, h4, h5⟩ := h
  exact ⟨⟨by omega, by omega⟩, Or.inr h1, by omega, by omega, hp⟩
/-- what a wrapper comes to -/
def WQ (E : EE) (G : Gt) (x o : Int) (tc : Int → Int) (p : Sp) : Int → Gt → Prop := fun r G2 => (p.1 = 0 ∧ r = 0 ∧ ∃ G1, CF E G G1 x p.2.2 ∧ G2 = sel G1 o 0 p.2.1) ∨ (p.1 ≠ 0 ∧ r = tc p.1 ∧ G2 = G)
theorem CallC.mono {M' : MD} {As : List SV} {KX K KX' K' : Int → Gt → Nat → Nat → Prop} (h : CallC E M' As G bc bs KX K) (hx : ∀ e G1 c1 s1, KX e G1 c1 s1 → KX' e G1 c1 s1) (hk : ∀ r G1 c1 s1, K r G1 c1 s1 → K' r G1 c1 s1) : CallC E M' As G bc bs KX' K' := by
  obtain ⟨mc9, ms9, Q9, X9, hM, h1, h2, h3, h4⟩ := h
  exact ⟨mc9, ms9, Q9, X9, hM, h1, h2, fun e G1 hq => hx _ _ _ _ (h3 e G1 hq), fun r G1 hs hq => hk _ _ _ _ (h4 r G1 hs hq)⟩
def wX (G : Gt) (p : Sp) : Int → Gt → Nat → Nat → Prop := fun ex G1 _ _ => ex = p.1 ∧ p.1 ≠ 0 ∧ G1 = G
def wI (E : EE) (G : Gt) (x : Int) (p : Sp) : Int → Gt → Nat → Nat → Prop := fun r G1 _ _ => p.1 = 0 ∧ r = p.2.1 ∧ CF E G G1 x p.2.2
theorem cC {MX : MD} {As : List SV} {C1 S1 : Nat} (hok : Ok E MX As G C1 S1 (RQ E G x p) (RX G p)) : CallC E MX As G C1 S1 (wX G p) (wI E G x p) :=
  ⟨C1, S1, _, _, hok, Nat.le_refl _, Nat.le_refl _, fun e G1 h9 => ⟨h9.1.symm, by rw [h9.1]; exact h9.2.1, h9.2.2⟩, fun r G1 _ h9 => h9⟩
theorem LIM.wi {r : Int} {tc : Int → Int} {c1 s1 : Nat} (h : LIM E G b x m o d d z) (k : wI E G x p r G1 c1 s1) : gcl G1 o = 16 ∧ 0 < gln G1 o ∧ WQ E G x o tc p 0 (sel G1 o 0 r) := by
  have h2 := h.cls k.2.2
  exact ⟨h2.2.2.2.1, by have := h2.2.2.2.2.1; omega, Or.inl ⟨k.1, rfl, G1, k.2.2, by rw [k.2.1]⟩⟩
theorem kx_1 {e : Int} {c1 s1 : Nat} (hp : p.1 ≠ 0 → p.1 = 1) (h : wX G p e G1 c1 s1) : e = 1 ∧ WQ E G x o tA p 1 G1 := by
  obtain ⟨h1, h2, h3⟩ := h
  exact ⟨h1.trans (hp h2), Or.inr ⟨h2, by rw [hp h2]; rfl, h3⟩⟩
theorem kx_3 {e : Int} {c1 s1 : Nat} (hp : p.1 ≠ 0 → p.1 = 3) (h : wX G p e G1 c1 s1) : e = 3 ∧ WQ E G x o tB p 1 G1 := by
  obtain ⟨h1, h2, h3⟩ := h
  exact ⟨h1.trans (hp h2), Or.inr ⟨h2, by rw [hp h2]; rfl, h3⟩⟩
theorem kx_31 {e : Int} {c1 s1 : Nat} (hp : p.1 ≠ 0 → p.1 = 3 ∨ p.1 = 1) (h : wX G p e G1 c1 s1) : (e = 3 ∧ WQ E G x o tB p 1 G1) ∨ (e = 1 ∧ WQ E G x o tB p 2 G1) := by
  obtain ⟨h1, h2, h3⟩ := h
  rcases hp h2 with h4 | h4
  · exact Or.inl ⟨h1.trans h4, Or.inr ⟨h2, by rw [h4]; rfl, h3⟩⟩
  · exact Or.inr ⟨h1.trans h4, Or.inr ⟨h2, by rw [h4]; rfl, h3⟩⟩
theorem kx_12 {e : Int} {c1 s1 : Nat} (hp : p.1 ≠ 0 → p.1 = 1 ∨ p.1 = 2) (h : wX G p e G1 c1 s1) : (e = 1 ∧ WQ E G x o tA p 1 G1) ∨ (e = 2 ∧ WQ E G x o tA p 2 G1) := by
  obtain ⟨h1, h2, h3⟩ := h
  rcases hp h2 with h4 | h4
  · exact Or.inl ⟨h1.trans h4, Or.inr ⟨h2, by rw [h4]; rfl, h3⟩⟩
  · exact Or.inr ⟨h1.trans h4, Or.inr ⟨h2, by rw [h4]; rfl, h3⟩⟩
theorem kx_312 {e : Int} {c1 s1 : Nat} (hp : p.1 ≠ 0 → p.1 = 3 ∨ p.1 = 1 ∨ p.1 = 2) (h : wX G p e G1 c1 s1) : (e = 3 ∧ WQ E G x o tB p 1 G1) ∨ (e = 1 ∧ WQ E G x o tB p 2 G1) ∨ (e = 2 ∧ WQ E G x o tB p 3 G1) := by
  obtain ⟨h1, h2, h3⟩ := h
  rcases hp h2 with h4 | h4 | h4
  · exact Or.inl ⟨h1.trans h4, Or.inr ⟨h2, by rw [h4]; rfl, h3⟩⟩
  · exact Or.inr (Or.inl ⟨h1.trans h4, Or.inr ⟨h2, by rw [h4]; rfl, h3⟩⟩)
  · exact Or.inr (Or.inr ⟨h1.trans h4, Or.inr ⟨h2, by rw [h4]; rfl, h3⟩⟩)
/-- a wrapper's end: the class's part of the next state -/
theorem LIM.wq {tc : Int → Int} (h : LIM E G b x m o d d z) (hd : p.1 ≠ 0 → p.2.2 = d) (hi : DI p.2.2) (h0 : tc 0 = 0) (k : WQ E G x o tc p r G2) : LIM E G2 b x m o p.2.2 d z ∧ r = tc p.1 ∧ (p.1 = 0 → gel G2 o 0 = p.2.1) := by
  rcases k with ⟨h1, h2, G1, hc, rfl⟩ | ⟨h1, h2, rfl⟩
  · obtain ⟨a1, a2⟩ := (h.cls hc).ans (r := p.2.1) hi
    exact ⟨a1, by rw [h1, h0]; exact h2, fun _ => a2⟩
  · exact ⟨by rw [hd h1]; exact h, h2, fun h9 => absurd h9 h1⟩
/-- the end of a case -/
theorem tailT {tc : Int → Int} {r21 r46 l r : Int} (h : LIM E G b x m o p.2.2 d z) (hi : DI p.2.2) (h0 : tc 0 = 0) (hn : p.1 ≠ 0 → tc p.1 ≠ 0) (e1 : r21 = tc p.1) (e2 : p.1 = 0 → gel G o 0 = p.2.1) (hm : MqR E G m p tc l r r46 G1) {V9 : Gt → Nat → Nat → Prop} (K : ∀ G', LIM E G' b x m o p.2.2 p.2.2 (l, r) → V9 G' c s) :
    gcl G1 m = 13 ∧ Call E M_X12_thrown [rv m] G1 c s X (fun r51 G52 c53 s54 => ((r51 = r21 → ((r21 ≠ 0 → V9 G52 c53 s54) ∧ (r21 = 0 → (gcl G52 o = 16 ∧ 0 < gln G52 o ∧ (((gel G52 o 0) = r46 → V9 G52 c53 s54) ∧ ((gel G52 o 0) ≠ r46 → Q 0 G52)))))) ∧ (r51 ≠ r21 → Q 0 G52))) := by
  obtain ⟨m1, m2, m3⟩ := hm
  obtain ⟨k1, k2⟩ := h.mdl hi m3
  refine ⟨m3.1.1.1.1, Call.to (mc' := 0) (ms' := 0) (i_X12_thrown (Q := fun y G' => y = tc p.1 ∧ G' = G1) ⟨m3.1.1.1.1, m1, rfl⟩) (Nat.zero_le _) (Nat.zero_le _) (fun r51 G52 h9 => ?_)⟩
  obtain ⟨rfl, rfl⟩ := h9
  refine ⟨fun _ => ⟨fun _ => K _ k1, fun h9 => ?_⟩, fun h9 => absurd e1.symm h9⟩
  have hp0 : p.1 = 0 := Classical.byContradiction fun h8 => hn h8 (e1.symm.trans h9)
  refine ⟨k1.2.2.2.1, by have := k1.2.2.2.2.1; omega, fun _ => K _ k1, fun h8 => ?_⟩
  exact absurd (by rw [k2, e2 hp0, m2 hp0]) h8
end Sc00
