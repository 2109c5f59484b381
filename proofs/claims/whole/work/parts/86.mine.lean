/-! what leaves the store, the pile and the last answer alone -/
section S86
variable {E : EE} {G G' G2 : Gt} {c s : Nat} {Q X : Int → Gt → Prop} {a x i j k l u t v z o w m : Int} {d d' d2 : DS} {W : Nat → Nat → Int → Prop} {L A : Int → Prop} {nn : Nat → Int} {sl nt : List (Int × Int × Int)} {dr : List Wd} {rl : List Rl} {si : List ((Int × Int × Int) × Int)}
def ownD (d : DS) (nn : Nat → Int) (sl : List (Int × Int × Int)) (dr : List Wd) (rl : List Rl) (si : List ((Int × Int × Int) × Int)) (nt : List (Int × Int × Int)) : DS := (nn, dSer d, dSmp d, dRec d, dBk d, sl, dr, rl, dAns d, si, nt)
def W86 (W : Nat → Nat → Int → Prop) : Prop := ∀ c j y, W c j y → c = 9 ∨ c = 0 ∨ c = 4 ∨ (c = 11 ∧ 10 ≤ j)
def L86 (G : Gt) (x : Int) (L : Int → Prop) : Prop := ∀ y, L y → y = gfd G 11 5 x ∨ y = gfd G 11 6 x ∨ y = gfd G 11 7 x ∨ y = gfd G 11 10 x ∨ ∃ ru, gcl G ru = 5 ∧ y = gfd G 4 4 ru
def A86 (G : Gt) (x : Int) (A : Int → Prop) : Prop := ∀ y, A y → y ≠ -1 ∧ (y = gfd G 11 8 x ∨ y = gfd G 11 9 x)
theorem L86.no (hl : L86 G x L) (hO : OW G) (hx : gcl G x = 12) (hd : noref G (gfd G 11 10 x)) {y : Int} (c k : Nat) (hy : gcl G y = c + 1) (hn : gfd G c k y ≠ -1) (hc : c ≠ 11 ∧ ¬ (c = 4 ∧ k = 4)) (hp : (c, k) ∈ oF := by decide) : ¬ L (gfd G c k y) := fun h9 => by
  rcases hl _ h9 with e | e | e | e | ⟨ru, h5, e⟩
  · exact absurd e (hO.ne c k 11 5 hy hx hn (fun h7 => hc.1 h7.1) hp)
  · exact absurd e (hO.ne c k 11 6 hy hx hn (fun h7 => hc.1 h7.1) hp)
  · exact absurd e (hO.ne c k 11 7 hy hx hn (fun h7 => hc.1 h7.1) hp)
  · exact hd (c, k) hp y hy e
  · exact absurd e (hO.ne c k 4 4 hy h5 hn (fun h7 => hc.2 ⟨h7.1, h7.2.1⟩) hp)
theorem A86.no (ha : A86 G x A) (hO : OW G) (hx : gcl G x = 12) {y : Int} (c k : Nat) (hy : gcl G y = c + 1) (hn : gfd G c k y ≠ -1) (hc : c ≠ 11) (hp : (c, k) ∈ oF := by decide) : ¬ A (gfd G c k y) := fun h9 => by
  rcases (ha _ h9).2 with e | e
  · exact absurd e (hO.ne c k 11 8 hy hx hn (fun h7 => hc h7.1) hp)
  · exact absurd e (hO.ne c k 11 9 hy hx hn (fun h7 => hc h7.1) hp)
theorem A86.an (ha : A86 G x A) (hO : OW G) (hx : gcl G x = 12) {y : Int} (hy : A y) : AN G y := by
  intro k hk m hm e
  have hp : (12, k) ∈ oF := List.mem_append_right _ (List.mem_map.mpr ⟨k, hk, rfl⟩)
  obtain ⟨hn, h8⟩ := ha y hy
  rcases h8 with h8 | h8
  · exact absurd (e.trans h8) (hO.ne 12 k 11 8 hm hx (by rw [e]; exact hn) (fun h7 => absurd h7.1 (by decide)) hp)
  · exact absurd (e.trans h8) (hO.ne 12 k 11 9 hm hx (by rw [e]; exact hn) (fun h7 => absurd h7.1 (by decide)) hp)
theorem CH.mine (h : CH E G x d) (hi : DI d) (hL' : LW E G') (hO' : OW G') (hw9 : NOW G G') (k : FR G G' W L A) (hw : W86 W) (hl : L86 G x L) (ha : A86 G x A) (hn : nn 4 = dN d 4 ∧ nn 5 = dN d 5 ∧ nn 6 = dN d 6)
    (p5 : SlL G' (gfd G' 11 5 x) sl) (p6 : RuL G' (gfd G' 11 6 x) rl) (p7 : SiH G' x si) (p9 : NtH G' x nt) (p10 : WlH G' (gfd G' 11 10 x) dr ∧ noref G' (gfd G' 11 10 x) ∧ 0 ≤ gfd G' 11 10 x) (pn : gfd G' 11 11 x = nn 3 ∧ gfd G' 11 12 x = nn 0 ∧ gfd G' 11 13 x = nn 1) : CF E G G' x (ownD d nn sl dr rl si nt) := by
  obtain ⟨hx, hL, hO, ⟨zs, hS⟩, hB, ⟨rows, sp, K, wn, hP, hK⟩, ⟨n, hA⟩, h10, hE, hSl, hR, hSi, hN, hD, e3, e0, e1⟩ := h
  have w : ∀ c j y, c = 1 ∨ c = 2 ∨ c = 3 ∨ c = 5 ∨ c = 7 ∨ c = 8 ∨ c = 12 → ¬ W c j y := fun c j y hc h9 => by
    have := hw c j y h9
    omega
  have e11 : ∀ j, j < 10 → gfd G' 11 j x = gfd G 11 j x := fun j hj => k.2.1 11 j x (by decide) (by omega) (fun h9 => by have := hw 11 j x h9; omega)
  have nl : ∀ y, gcl G y = 14 → y ≠ -1 := fun y hy => hO.nn (by omega) (by omega)
  have na : ∀ y, gcl G y = 15 ∨ gcl G y = 16 → y ≠ -1 := fun y hy => hO.nn (by omega) (by omega)
  have hno := hD.2.1
  have ar : ∀ r n R, RowH G r n R → ¬ A (gfd G 3 0 r) ∧ ¬ A (gfd G 3 1 r) := fun r n R hr => ⟨ha.no hO hx 3 0 hr.1.1 (na _ (Or.inl hr.1.2.1.1)) (by decide), ha.no hO hx 3 1 hr.1.1 (na _ (Or.inr hr.1.2.2.1.1)) (by decide)⟩
  have h9 := hS.1
  have h80 := hS.2.1.1
  have h81 := hS.2.2.1.1
  have fS := hS.fr hi.1.sc k (fun c j y hc => w c j y (by omega)) (hl.no hO hx hno 8 0 h9 (nl _ h80) (by decide)) (hl.no hO hx hno 8 1 h9 (nl _ h81) (by decide)) (fun b hb => by
    have hb8 := hS.2.2.2.2.1 b hb
    exact hl.no hO hx hno 7 1 hb8.1 (nl _ hb8.2.1.1) (by decide))
  have fB := hB.fr hS k (fun j y => w 7 j y (by decide)) fS.2 (fun b hb => by
    have hb8 := (hS.2.2.2.2.1 b hb).2.2.2.2.1
    exact ⟨ha.no hO hx 7 2 hb8.1 (na _ (Or.inl hb8.2.1.1)) (by decide), ha.no hO hx 7 3 hb8.1 (na _ (Or.inl hb8.2.2.1.1)) (by decide)⟩)
  refine ⟨⟨by rw [k.1 x (by omega)]; exact hx, hL', hO', ⟨zs, ?_⟩, ?_, ⟨rows, sp, K, wn, ?_, ?_⟩, ⟨n, ?_⟩, ?_, ?_, p5, p6, p7, p9, p10, pn⟩, k.mono (fun c j y h9 h8 => w c j y (by omega) h9) (fun _ _ => True.intro) (fun y hy => ha.an hO hx hy), hw9⟩
  · rw [e11 0 (by decide)]
    show StH G' (gfd G 11 0 x) zs (dSer d) (dSmp d) (dRec d) (nn 4) (nn 5) (nn 6)
    rw [hn.1, hn.2.1, hn.2.2]
    exact fS.1
  · rw [e11 0 (by decide)]; exact fB
  · rw [e11 1 (by decide)]
    exact hP.fr k (fun j => w 2 j _ (by decide)) (fun r _ j => w 3 j r (by decide)) (hl.no hO hx hno 2 0 hP.1 (nl _ hP.2.1.1) (by decide)) (fun r hr => by
      obtain ⟨n', R', h9⟩ := hP.2.2.2.2.2.2.2.2.2.1 r hr
      exact ar r n' R' h9)
  · rw [e11 2 (by decide)]; exact hK
  · rw [e11 2 (by decide)]
    exact hA.fr k (fun j => w 3 j _ (by decide)) (ar _ _ _ hA).1 (ar _ _ _ hA).2
  · rw [e11 3 (by decide), k.1 _ (by omega)]; exact h10
  · rw [e11 4 (by decide), k.1 _ (by omega)]; exact hE
/-- the parts that may stay -/
theorem CH.k5 (h : CH E G x d) (k : FR G G' W L A) (w6 : ∀ j y, ¬ W 6 j y) (e : ¬ W 11 5 x) (hl : ¬ L (gfd G 11 5 x)) : SlL G' (gfd G' 11 5 x) (dSel d) := by
  obtain ⟨hx, hL, hO, hS, hB, hP, hA, h10, hE, hSl, hR, hSi, hN, hD, e3, e0, e1⟩ := h
  rw [k.2.1 11 5 x (by decide) (by omega) e]
  exact (hSl.fr k w6 hl).1
theorem CH.k6 (h : CH E G x d) (k : FR G G' W L A) (w : ∀ c j y, c = 4 ∨ c = 10 ∨ c = 6 ∨ c = 0 → ¬ W c j y) (e : ¬ W 11 6 x) (hl : ¬ L (gfd G 11 6 x)) (hl2 : ∀ ru, gcl G ru = 5 → gfd G 4 0 ru ≠ -1 → ¬ L (gfd G 4 0 ru)) (hl3 : ∀ ru, gcl G ru = 5 → gfd G 4 4 ru ≠ -1 → ¬ L (gfd G 4 4 ru)) : RuL G' (gfd G' 11 6 x) (dRl d) := by
  obtain ⟨hx, hL, hO, hS, hB, hP, hA, h10, hE, hSl, hR, hSi, hN, hD, e3, e0, e1⟩ := h
  rw [k.2.1 11 6 x (by decide) (by omega) e]
  refine (hR.fr k (fun j y => w 4 j y (by decide)) (fun j y => w 10 j y (by decide)) (fun j y => w 6 j y (by decide)) (fun j y => w 0 j y (by decide)) hl (fun r hr => ?_)).1
  obtain ⟨i, hi, rfl⟩ := List.getElem_of_mem hr
  have hl := hR.2.2.1
  have h5 := hR.2.2.2.2.1 i (by omega)
  rw [List.getD_eq_getElem?_getD, List.getElem?_eq_getElem hi] at h5
  have hq : RuH G (lst G (gfd G 11 6 x))[i] _ := h5
  exact ⟨hl2 _ hq.1 (hO.nn (by rw [hq.2.2.1.1]; decide) (by rw [hq.2.2.1.1]; decide)), hl3 _ hq.1 (hO.nn (by rw [hq.2.2.2.1.1]; decide) (by rw [hq.2.2.2.1.1]; decide))⟩
theorem CH.k7 (h : CH E G x d) (k : FR G G' W L A) (w6 : ∀ j y, ¬ W 6 j y) (e : ¬ W 11 7 x ∧ ¬ W 11 8 x) (hl : ¬ L (gfd G 11 7 x)) (ha : ¬ A (gfd G 11 8 x)) : SiH G' x (dSil d) := by
  obtain ⟨hx, hL, hO, hS, hB, hP, hA, h10, hE, hSl, hR, hSi, hN, hD, e3, e0, e1⟩ := h
  have e7 := k.2.1 11 7 x (by decide) (by omega) e.1
  have e8 := k.2.1 11 8 x (by decide) (by omega) e.2
  have h15 := hSi.2.1
  have g := k.2.2.2 (gfd G 11 8 x) (by omega) (by omega)
  refine ⟨by rw [e7]; exact (hSi.1.fr k w6 hl).1, by rw [e8, k.1 _ (by omega)]; exact h15, by rw [e8, g.1]; exact hSi.2.2.1, fun i hi => ?_⟩
  rw [e8, g.2 ha]
  exact hSi.2.2.2 i hi
theorem CH.k9 (h : CH E G x d) (k : FR G G' W L A) (e : ¬ W 11 9 x) (ha : ¬ A (gfd G 11 9 x)) : NtH G' x (dNt d) := by
  obtain ⟨hx, hL, hO, hS, hB, hP, hA, h10, hE, hSl, hR, hSi, hN, hD, e3, e0, e1⟩ := h
  have e9 := k.2.1 11 9 x (by decide) (by omega) e
  have h15 := hN.1
  have g := k.2.2.2 (gfd G 11 9 x) (by omega) (by omega)
  refine ⟨by rw [e9, k.1 _ (by omega)]; exact h15, by rw [e9, g.1]; exact hN.2.1, fun i hi => ?_⟩
  rw [e9, g.2 ha, g.2 ha, g.2 ha]
  exact hN.2.2 i hi
theorem CH.k10 (h : CH E G x d) (k : FR G G' W L A) (w : ∀ c j y, c = 10 ∨ c = 6 → ¬ W c j y) (e : ¬ W 11 10 x) (hl : ¬ L (gfd G 11 10 x)) (hO' : OWG G G') : WlH G' (gfd G' 11 10 x) (dDr d) ∧ noref G' (gfd G' 11 10 x) ∧ 0 ≤ gfd G' 11 10 x := by
  obtain ⟨hx, hL, hO, hS, hB, hP, hA, h10, hE, hSl, hR, hSi, hN, hD, e3, e0, e1⟩ := h
  rw [k.2.1 11 10 x (by decide) (by omega) e]
  have h14 := hD.1.1
  exact ⟨(hD.1.fr k (fun j y => w 10 j y (by decide)) (fun j y => w 6 j y (by decide)) hl).1, hO'.2 _ hD.2.2 (by omega) hD.2.1, hD.2.2⟩
end S86
