/-! what leaves all but the pile and the last answer alone -/
section S95
variable {E : EE} {G G' G2 : Gt} {c s bc bs : Nat} {Q X : Int → Gt → Prop} {a x i j l u t v z o w m q : Int} {d d' d2 : DS} {W : Nat → Nat → Int → Prop} {L A : Int → Prop} {R : List (Int × Int)}
def ansD (d : DS) (R : List (Int × Int)) : DS := (dN d, dSer d, dSmp d, dRec d, dBk d, dSel d, dDr d, dRl d, R, dSil d, dNt d)
def W95 (W : Nat → Nat → Int → Prop) : Prop := ∀ c j y, W c j y → c = 2 ∨ c = 3 ∨ c = 9
def L95 (G : Gt) (L : Int → Prop) : Prop := ∀ y, L y → ∃ p, gcl G p = 3 ∧ y = gfd G 2 0 p
def A95 (G : Gt) (A : Int → Prop) : Prop := ∀ y, A y → y ≠ -1 ∧ ∃ r, gcl G r = 4 ∧ (y = gfd G 3 0 r ∨ y = gfd G 3 1 r)
theorem L95.no (hl : L95 G L) (hO : OW G) {y : Int} (c k : Nat) (hy : gcl G y = c + 1) (hn : gfd G c k y ≠ -1) (hc : c ≠ 2) (hp : (c, k) ∈ oF := by decide) : ¬ L (gfd G c k y) := fun h9 => by
  obtain ⟨p, h3, e⟩ := hl _ h9
  exact absurd e (hO.ne c k 2 0 hy h3 hn (fun h7 => hc h7.1) hp)
theorem A95.no (ha : A95 G A) (hO : OW G) {y : Int} (c k : Nat) (hy : gcl G y = c + 1) (hn : gfd G c k y ≠ -1) (hc : c ≠ 3) (hp : (c, k) ∈ oF := by decide) : ¬ A (gfd G c k y) := fun h9 => by
  obtain ⟨-, r, h4, e | e⟩ := ha _ h9
  · exact absurd e (hO.ne c k 3 0 hy h4 hn (fun h7 => hc h7.1) hp)
  · exact absurd e (hO.ne c k 3 1 hy h4 hn (fun h7 => hc h7.1) hp)
theorem A95.an (ha : A95 G A) (hO : OW G) {y : Int} (hy : A y) : AN G y := by
  intro k hk m hm e
  have hp : (12, k) ∈ oF := List.mem_append_right _ (List.mem_map.mpr ⟨k, hk, rfl⟩)
  obtain ⟨hn, r, h4, h8 | h8⟩ := ha y hy
  · exact absurd (e.trans h8) (hO.ne 12 k 3 0 hm h4 (by rw [e]; exact hn) (fun h7 => absurd h7.1 (by decide)) hp)
  · exact absurd (e.trans h8) (hO.ne 12 k 3 1 hm h4 (by rw [e]; exact hn) (fun h7 => absurd h7.1 (by decide)) hp)
theorem CH.pile (h : CH E G x d) (hi : DI d) (hL' : LW E G') (hO' : OWG G G') (k : FR G G' W L A) (hw : W95 W) (hl : L95 G L) (ha : A95 G A)
    (hP' : ∃ rows sp K wn, PlS G' (gfd G 11 1 x) wn rows sp K [] ∧ gfd G 11 2 x ∉ K) (hA' : ∃ n, RowH G' (gfd G 11 2 x) n R) : CF E G G' x (ansD d R) := by
  have h0 := h
  obtain ⟨hx, hL, hO, ⟨zs, hS⟩, hB, hP, hA, h10, hE, hSl, hR, hSi, hN, hD, e3, e0, e1⟩ := h
  have w : ∀ c j y, c ≠ 2 → c ≠ 3 → c ≠ 9 → ¬ W c j y := fun c j y b1 b2 b3 h9 => by
    have := hw c j y h9
    omega
  have e11 : ∀ j, gfd G' 11 j x = gfd G 11 j x := fun j => k.2.1 11 j x (by decide) (by omega) (w 11 j x (by decide) (by decide) (by decide))
  have nl : ∀ y, gcl G y = 14 → y ≠ -1 := fun y hy => hO.nn (by omega) (by omega)
  have na : ∀ y, gcl G y = 15 ∨ gcl G y = 16 → y ≠ -1 := fun y hy => hO.nn (by omega) (by omega)
  have ww : ∀ c j y, c = 1 ∨ c = 5 ∨ c = 7 ∨ c = 8 → ¬ W c j y := fun c j y hc => w c j y (by omega) (by omega) (by omega)
  have w6 : ∀ j y, ¬ W 6 j y := fun j y => w 6 j y (by decide) (by decide) (by decide)
  have wr : ∀ c j y, c = 4 ∨ c = 10 ∨ c = 6 ∨ c = 0 → ¬ W c j y := fun c j y hc => w c j y (by omega) (by omega) (by omega)
  have w11 : ∀ j, ¬ W 11 j x := fun j => w 11 j x (by decide) (by decide) (by decide)
  have h9 := hS.1
  have h80 := hS.2.1.1
  have h81 := hS.2.2.1.1
  have fS := hS.fr hi.1.sc k ww (hl.no hO 8 0 h9 (nl _ h80) (by decide)) (hl.no hO 8 1 h9 (nl _ h81) (by decide)) (fun b hb => by
    have hb8 := hS.2.2.2.2.1 b hb
    exact hl.no hO 7 1 hb8.1 (nl _ hb8.2.1.1) (by decide))
  have fB := hB.fr hS k (fun j y => ww 7 j y (by decide)) fS.2 (fun b hb => by
    have hb8 := (hS.2.2.2.2.1 b hb).2.2.2.2.1
    exact ⟨ha.no hO 7 2 hb8.1 (na _ (Or.inl hb8.2.1.1)) (by decide), ha.no hO 7 3 hb8.1 (na _ (Or.inl hb8.2.2.1.1)) (by decide)⟩)
  have hdL : ¬ L (gfd G 11 10 x) := fun h9 => by
    obtain ⟨p, h3, e⟩ := hl _ h9
    exact hD.2.1 (2, 0) (by decide) p h3 e.symm
  refine ⟨⟨by rw [k.1 x (by omega)]; exact hx, hL', hO'.1, ⟨zs, ?_⟩, ?_, ?_, ?_, ?_, ?_, ?_, ?_, ?_, ?_, ?_, ?_⟩, k.mono (fun c j y h9 h8 => w c j y (by omega) (by omega) (by omega) h9) (fun _ _ => True.intro) (fun y hy => ha.an hO hy), hO'.now⟩
  · rw [e11]; exact fS.1
  · rw [e11]; exact fB
  · rw [e11, e11]; exact hP'
  · rw [e11]; exact hA'
  · rw [e11, k.1 _ (by omega)]; exact h10
  · rw [e11, k.1 _ (by omega)]; exact hE
  · exact h0.k5 k w6 (w11 5) (hl.no hO 11 5 hx (nl _ hSl.1) (by decide))
  · exact h0.k6 k wr (w11 6) (hl.no hO 11 6 hx (nl _ hR.1) (by decide)) (fun ru h5 hn => hl.no hO 4 0 h5 hn (by decide)) (fun ru h5 hn => hl.no hO 4 4 h5 hn (by decide))
  · exact h0.k7 k w6 ⟨w11 7, w11 8⟩ (hl.no hO 11 7 hx (nl _ hSi.1.1) (by decide)) (ha.no hO 11 8 hx (na _ (Or.inl hSi.2.1)) (by decide))
  · exact h0.k9 k (w11 9) (ha.no hO 11 9 hx (na _ (Or.inl hN.1)) (by decide))
  · exact h0.k10 k (fun c j y hc => wr c j y (by omega)) (w11 10) hdL hO'
  · rw [e11, e11, e11]; exact ⟨e3, e0, e1⟩
theorem DI.ans (h : DI d) (hR : ∃ n, RV n R) : DI (ansD d R) := by
  obtain ⟨a1, a2, a3, a4, a5, a6, a7, a8, a9, a10, a11, a12, a13, a14⟩ := h
  exact ⟨a1, a2, a3, a4, a5, a6, a7, a8, a9, a10, hR, a12, a13, a14⟩
end S95
