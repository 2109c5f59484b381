/-! frames: what a piece of work leaves as it was; what owns what -/
section F40
variable {E : EE} {G G' G2 : Gt} {W W' : Nat → Nat → Int → Prop} {L L' A A' : Int → Prop}
/-- the heap but for fields W, lists L, arrays A, and what is new -/
def FR (G G' : Gt) (W : Nat → Nat → Int → Prop) (L A : Int → Prop) : Prop :=
  (∀ y, gcl G y ≠ 0 → gcl G' y = gcl G y) ∧
  (∀ c k y, c ≠ 13 → gcl G y ≠ 0 → ¬ W c k y → gfd G' c k y = gfd G c k y) ∧
  (∀ y, gcl G y = 14 → gfd G 13 1 y ≠ -1 → gfd G' 13 1 y ≠ -1 ∧ (¬ L y → lst G' y = lst G y ∧ capOf G' y = capOf G y)) ∧
  (∀ y, 15 ≤ gcl G y → gcl G y ≠ 18 → gln G' y = gln G y ∧ (¬ A y → ∀ i, gel G' y i = gel G y i))
def noW : Nat → Nat → Int → Prop := fun _ _ _ => False
def noA : Int → Prop := fun _ => False
theorem FR.refl (G : Gt) : FR G G W L A := ⟨fun _ _ => rfl, fun _ _ _ _ _ _ => rfl, fun _ _ h => ⟨h, fun _ => ⟨rfl, rfl⟩⟩, fun _ _ _ => ⟨rfl, fun _ _ => rfl⟩⟩
theorem FR.trans (h : FR G G' W L A) (h2 : FR G' G2 W L A) : FR G G2 W L A := by
  refine ⟨fun y hy => ?_, fun c k y hc hy hw => ?_, fun y hy hr => ?_, fun y hy h8 => ?_⟩
  · have e := h.1 y hy
    rw [h2.1 y (by rw [e]; exact hy), e]
  · rw [h2.2.1 c k y hc (by rw [h.1 y hy]; exact hy) hw, h.2.1 c k y hc hy hw]
  · have e := h.1 y (by omega)
    have a1 := h.2.2.1 y hy hr
    have a2 := h2.2.2.1 y (by rw [e]; exact hy) a1.1
    exact ⟨a2.1, fun hl => ⟨(a2.2 hl).1.trans (a1.2 hl).1, (a2.2 hl).2.trans (a1.2 hl).2⟩⟩
  · have e := h.1 y (by omega)
    have a1 := h.2.2.2 y hy h8
    have a2 := h2.2.2.2 y (by rw [e]; exact hy) (by rw [e]; exact h8)
    exact ⟨a2.1.trans a1.1, fun ha i => (a2.2 ha i).trans (a1.2 ha i)⟩
theorem FR.mono (h : FR G G' W L A) (hw : ∀ c k y, W c k y → W' c k y) (hl : ∀ y, L y → L' y) (ha : ∀ y, A y → A' y) : FR G G' W' L' A' :=
  ⟨h.1, fun c k y hc hy hn => h.2.1 c k y hc hy (fun h9 => hn (hw _ _ _ h9)), fun y hy hr => ⟨(h.2.2.1 y hy hr).1, fun hn => (h.2.2.1 y hy hr).2 (fun h9 => hn (hl _ h9))⟩, fun y hy h8 => ⟨(h.2.2.2 y hy h8).1, fun hn => (h.2.2.2 y hy h8).2 (fun h9 => hn (ha _ h9))⟩⟩
/-- work on a later heap, seen from an earlier one: what is new there doesn't count -/
theorem FR.andThen {W2 : Nat → Nat → Int → Prop} {L2 A2 : Int → Prop} (h : FR G G' W L A) (h2 : FR G' G2 W2 L2 A2) (hw : ∀ c k y, gcl G y ≠ 0 → W2 c k y → W c k y) (hl : ∀ y, gcl G y ≠ 0 → L2 y → L y) (ha : ∀ y, gcl G y ≠ 0 → A2 y → A y) : FR G G2 W L A := by
  refine ⟨fun y hy => ?_, fun c k y hc hy hn => ?_, fun y hy hr => ?_, fun y hy h8 => ?_⟩
  · have e := h.1 y hy
    rw [h2.1 y (by rw [e]; exact hy), e]
  · rw [h2.2.1 c k y hc (by rw [h.1 y hy]; exact hy) (fun h9 => hn (hw _ _ _ hy h9)), h.2.1 c k y hc hy hn]
  · have e := h.1 y (by omega)
    have a1 := h.2.2.1 y hy hr
    have a2 := h2.2.2.1 y (by rw [e]; exact hy) a1.1
    exact ⟨a2.1, fun hn => ⟨(a2.2 (fun h9 => hn (hl y (by omega) h9))).1.trans (a1.2 hn).1, (a2.2 (fun h9 => hn (hl y (by omega) h9))).2.trans (a1.2 hn).2⟩⟩
  · have e := h.1 y (by omega)
    have a1 := h.2.2.2 y hy h8
    have a2 := h2.2.2.2 y (by rw [e]; exact hy) (by rw [e]; exact h8)
    exact ⟨a2.1.trans a1.1, fun hn i => (a2.2 (fun h9 => hn (ha y (by omega) h9)) i).trans (a1.2 hn i)⟩
theorem LU.fr {a C : Int} {l : List Int} (h : LU E G G' a l C) : FR G G' noW (fun y => y = a) noA := by
  refine ⟨fun y hy => ?_, fun c k y hc _ _ => h.2.2.1 c k y hc, fun y hy hr => ?_, fun y hy h8 => ?_⟩
  · rcases h.2.1 y with h9 | h9 <;> omega
  · by_cases e : y = a
    · rw [e]; exact ⟨h.2.2.2.2.2.2.2, fun hn => (hn rfl).elim⟩
    · have := h.2.2.2.2.1 y hy e hr
      exact ⟨this.2.2, fun _ => ⟨this.1, this.2.1⟩⟩
  · have := h.2.2.2.1 y (by omega) h8
    exact ⟨this.1, fun _ => this.2⟩
theorem FR.mSfd {c k : Nat} {b v : Int} (hc : c ≠ 13) : FR G (sfd G c k b v) (fun c' k' y => c' = c ∧ k' = k ∧ y = b) noA noA :=
  ⟨fun _ _ => rfl, fun c' k' y _ _ hn => by rw [gfd_sfd, if_neg hn], fun y _ hr => ⟨by rw [gfd_sfd, if_neg (fun h9 => hc h9.1.symm)]; exact hr, fun _ => ⟨lst_sfd hc, capOf_sfd hc⟩⟩, fun y _ _ => ⟨rfl, fun _ _ => rfl⟩⟩
theorem FR.mSel {b i v : Int} (h : LW E G) (hb : gcl G b ≠ 18) : FR G (sel G b i v) noW noA (fun y => y = b) :=
  ⟨fun _ _ => rfl, fun _ _ _ _ _ _ => rfl, fun y hy hr => ⟨hr, fun _ => ⟨lst_sel h hy hr hb, rfl⟩⟩, fun y _ _ => ⟨rfl, fun hn j => by rw [gel_sel, if_neg (fun h9 => hn h9.1)]⟩⟩
theorem FR.mNewo {q : Int} {c : Nat} (hq : gcl G q = 0) : FR G (newo G q c) noW noA noA := by
  have hne : ∀ y, gcl G y ≠ 0 → y ≠ q := fun y hy h9 => hy (by rw [h9]; exact hq)
  refine ⟨fun y hy => by rw [gcl_newo, if_neg (hne y hy)], fun c' k y _ hy _ => by rw [gfd_newo, if_neg (fun h9 => hne y hy h9.1)], fun y hy hr => ?_, fun y _ _ => ⟨rfl, fun _ _ => rfl⟩⟩
  have h1 := hne y (by omega)
  have e : ∀ k, gfd (newo G q c) 13 k y = gfd G 13 k y := fun k => by rw [gfd_newo, if_neg (fun h9 => h1 h9.1)]
  exact ⟨by rw [e]; exact hr, fun _ => ⟨lst_newo h1, by show gln G (gfd (newo G q c) 13 1 y) = gln G (gfd G 13 1 y); rw [e]⟩⟩
theorem FR.mNewa {q n : Int} {t : Nat} (h : LW E G) (hq : gcl G q = 0) : FR G (newa G q t n) noW noA noA := by
  have hne : ∀ y, gcl G y ≠ 0 → y ≠ q := fun y hy h9 => hy (by rw [h9]; exact hq)
  refine ⟨fun y hy => by rw [gcl_newa, if_neg (hne y hy)], fun c' k y _ hy _ => rfl, fun y hy hr => ⟨hr, fun _ => ⟨lst_newa h hy hr hq, ?_⟩⟩, fun y hy h8 => ?_⟩
  · have := h.arr hy hr
    show gln (newa G q t n) (gfd G 13 1 y) = gln G (gfd G 13 1 y)
    rw [gln_newa, if_neg (hne _ (by omega))]
  · have h1 := hne y (by omega)
    exact ⟨by rw [gln_newa, if_neg h1], fun _ i => by rw [gel_newa, if_neg h1]⟩
theorem WU.fr {w : Int} {V : Nat → Int} (h : WU G G' w V) : FR G G' (fun c _ y => c = 9 ∧ y = w) noA noA := by
  refine ⟨fun y _ => h.1 y, fun c k y _ _ hn => h.2.1 c k y hn, fun y _ hr => ⟨by rw [h.f (by decide)]; exact hr, fun _ => ⟨h.lst y, ?_⟩⟩, fun y _ _ => ⟨h.2.2.1 y, fun _ => h.2.2.2.1 y⟩⟩
  show gln G' (gfd G' 13 1 y) = gln G (gfd G 13 1 y)
  rw [h.f (by decide), h.2.2.1]
theorem RU.fr {r : Int} (hL : LW E G) (h : RU G G' r) (h0 : gcl G (gfd G 3 0 r) ≠ 18) (h1 : gcl G (gfd G 3 1 r) ≠ 18) : FR G G' (fun c k y => c = 3 ∧ 2 ≤ k ∧ y = r) noA (fun y => y = gfd G 3 0 r ∨ y = gfd G 3 1 r) := by
  have e : ∀ k y, gfd G' 13 k y = gfd G 13 k y := fun k y => h.2.1 13 k y (by omega)
  refine ⟨fun y _ => h.1 y, fun c k y _ _ hn => h.2.1 c k y hn, fun y hy hr => ⟨by rw [e]; exact hr, fun _ => ⟨lst_congr (e 2 y) (e 1 y) (fun i => ?_), ?_⟩⟩, fun y _ _ => ⟨h.2.2.1 y, fun hn i => h.2.2.2 y i (fun h9 => hn (Or.inl h9)) (fun h9 => hn (Or.inr h9))⟩⟩
  · have := hL.arr hy hr
    exact h.2.2.2 _ i (fun h9 => h0 (by rw [← h9]; exact this)) (fun h9 => h1 (by rw [← h9]; exact this))
  · show gln G' (gfd G' 13 1 y) = gln G (gfd G 13 1 y)
    rw [e, h.2.2.1]
theorem RU.lw {r : Int} (hL : LW E G) (h : RU G G' r) : LW E G' :=
  hL.congr (fun x hx _ => ⟨by rw [← h.1]; exact hx, h.2.1 13 1 x (by omega), h.2.1 13 2 x (by omega)⟩) (fun x hx => ⟨by rw [h.1]; exact hx, h.2.2.1 x⟩)
/-- the fields that own an array or a list -/
def oF : List (Nat × Nat) := [(2, 0), (3, 0), (3, 1), (4, 0), (4, 4), (7, 1), (7, 2), (7, 3), (8, 0), (8, 1), (11, 5), (11, 6), (11, 7), (11, 8), (11, 9)] ++ mArr.map (fun k => (12, k))
def OW (G : Gt) : Prop :=
  (∀ p ∈ oF, ∀ p' ∈ oF, ∀ y y', gcl G y = p.1 + 1 → gcl G y' = p'.1 + 1 → gfd G p.1 p.2 y = gfd G p'.1 p'.2 y' → gfd G p.1 p.2 y ≠ -1 → p = p' ∧ y = y') ∧
  (∀ p ∈ oF, ∀ y, gcl G y = p.1 + 1 → gfd G p.1 p.2 y ≠ -1 → gcl G (gfd G p.1 p.2 y) ≠ 0) ∧ (gcl G (-1) = 0 ∨ gcl G (-1) = 18)
theorem OW.nn {y : Int} (h : OW G) (h1 : gcl G y ≠ 0) (h2 : gcl G y ≠ 18) : y ≠ -1 := fun h9 => by rw [h9] at h1 h2; rcases h.2.2 with h8 | h8 <;> omega
/-- nothing owns it -/
def noref (G : Gt) (q : Int) : Prop := ∀ p ∈ oF, ∀ y, gcl G y = p.1 + 1 → gfd G p.1 p.2 y ≠ q
theorem OW.fresh {q : Int} (h : OW G) (hq : gcl G q = 0) (h0 : 0 ≤ q) : noref G q := fun p hp y hy h9 => h.2.1 p hp y hy (by omega) (by rw [h9]; exact hq)
theorem oF_fty : ∀ p ∈ oF, p.1 < 13 ∧ fty p.1 p.2 = 2 := by decide
/-- what writes no owning field -/
def ONW (G G' : Gt) : Prop := (∀ p ∈ oF, ∀ y, gcl G' y = p.1 + 1 → (gcl G y = p.1 + 1 ∧ gfd G' p.1 p.2 y = gfd G p.1 p.2 y) ∨ gfd G' p.1 p.2 y = -1) ∧ (∀ y, gcl G y ≠ 0 → gcl G' y ≠ 0) ∧ (gcl G (-1) = 0 ∨ gcl G (-1) = 18 → gcl G' (-1) = 0 ∨ gcl G' (-1) = 18)
theorem OW.go (h : OW G) (k : ONW G G') : OW G' := by
  refine ⟨fun p hp p' hp' y y' hy hy' he hn => ?_, fun p hp y hy hn => ?_, k.2.2 h.2.2⟩
  · rcases k.1 p hp y hy with a1 | a1
    · rcases k.1 p' hp' y' hy' with a2 | a2
      · rw [a1.2, a2.2] at he
        rw [a1.2] at hn
        exact h.1 p hp p' hp' y y' a1.1 a2.1 he hn
      · rw [he] at hn; exact (hn a2).elim
    · exact (hn a1).elim
  · rcases k.1 p hp y hy with a1 | a1
    · rw [a1.2] at hn ⊢
      exact k.2.1 _ (h.2.1 p hp y a1.1 hn)
    · exact (hn a1).elim
theorem noref.go {q : Int} (h : noref G q) (k : ONW G G') (h0 : 0 ≤ q) : noref G' q := by
  intro p hp y hy h9
  rcases k.1 p hp y hy with a1 | a1
  · rw [a1.2] at h9; exact h p hp y a1.1 h9
  · omega
theorem ONW.refl (G : Gt) : ONW G G := ⟨fun _ _ _ hy => Or.inl ⟨hy, rfl⟩, fun _ h => h, id⟩
theorem ONW.trans (h : ONW G G') (h2 : ONW G' G2) : ONW G G2 := by
  refine ⟨fun p hp y hy => ?_, fun y hy => h2.2.1 y (h.2.1 y hy), fun h9 => h2.2.2 (h.2.2 h9)⟩
  rcases h2.1 p hp y hy with a1 | a1
  · rcases h.1 p hp y a1.1 with a2 | a2
    · exact Or.inl ⟨a2.1, a1.2.trans a2.2⟩
    · exact Or.inr (a1.2.trans a2)
  · exact Or.inr a1
theorem ONW.mSfd {c k : Nat} {b v : Int} (hc : (c, k) ∉ oF) : ONW G (sfd G c k b v) := by
  refine ⟨fun p hp y hy => Or.inl ⟨hy, ?_⟩, fun _ h => h, id⟩
  rw [gfd_sfd, if_neg]
  rintro ⟨h1, h2, -⟩
  exact hc (by rw [← h1, ← h2]; exact hp)
theorem ONW.mSel {b i v : Int} : ONW G (sel G b i v) := ⟨fun _ _ _ hy => Or.inl ⟨hy, rfl⟩, fun _ h => h, id⟩
theorem ONW.mNewa {q n : Int} {t : Nat} (hq : gcl G q = 0) (ht : 15 ≤ t) (h0 : 0 ≤ q := by omega) : ONW G (newa G q t n) := by
  refine ⟨fun p hp y hy => Or.inl ⟨?_, rfl⟩, fun y hy => ?_, fun h9 => by rw [gcl_newa, if_neg (by omega)]; exact h9⟩
  · rw [gcl_newa] at hy
    split at hy
    · have := (oF_fty p hp).1; omega
    · exact hy
  · rw [gcl_newa]; split <;> omega
theorem ONW.mNewo {q : Int} {c : Nat} (hq : gcl G q = 0) (h0 : 0 ≤ q := by omega) : ONW G (newo G q c) := by
  refine ⟨fun p hp y hy => ?_, fun y hy => ?_, fun h9 => by rw [gcl_newo, if_neg (by omega)]; exact h9⟩
  · rw [gcl_newo] at hy
    by_cases e : y = q
    · rw [if_pos e] at hy
      refine Or.inr ?_
      rw [gfd_newo, if_pos ⟨e, by omega⟩]
      have : p.1 = c := by omega
      rw [← this, (oF_fty p hp).2]; rfl
    · rw [if_neg e] at hy
      exact Or.inl ⟨hy, by rw [gfd_newo, if_neg (fun h9 => e h9.1)]⟩
  · rw [gcl_newo]; split <;> omega
theorem LU.onw {a C : Int} {l : List Int} (h : LU E G G' a l C) : ONW G G' := by
  refine ⟨fun p hp y hy => Or.inl ⟨?_, h.2.2.1 _ _ _ (by have := (oF_fty p hp).1; omega)⟩, fun y hy => ?_, fun h9 => by rcases h.2.1 (-1) with h8 | h8 <;> omega⟩
  · have := (oF_fty p hp).1
    rcases h.2.1 y with h9 | h9 <;> omega
  · rcases h.2.1 y with h9 | h9 <;> omega
theorem WU.onw {w : Int} {V : Nat → Int} (h : WU G G' w V) : ONW G G' := by
  refine ⟨fun p hp y hy => Or.inl ⟨by rw [← h.1]; exact hy, h.2.1 _ _ _ ?_⟩, fun y hy => by rw [h.1]; exact hy, fun h9 => by rw [h.1]; exact h9⟩
  rintro ⟨h1, -⟩
  revert h1
  exact (by decide : ∀ p ∈ oF, p.1 ≠ 9) p hp
theorem RU.onw {r : Int} (h : RU G G' r) : ONW G G' := by
  refine ⟨fun p hp y hy => Or.inl ⟨by rw [← h.1]; exact hy, h.2.1 _ _ _ ?_⟩, fun y hy => by rw [h.1]; exact hy, fun h9 => by rw [h.1]; exact h9⟩
  rintro ⟨h1, h2, -⟩
  exact (by decide : ∀ p ∈ oF, ¬ (p.1 = 3 ∧ 2 ≤ p.2)) p hp ⟨h1, h2⟩
theorem OW.put {c k : Nat} {y q : Int} (h : OW G) (hn : noref G q) (hq : gcl G q ≠ 0) : OW (sfd G c k y q) := by
  refine ⟨fun p hp p' hp' x x' hx hx' he hne => ?_, fun p hp x hx hne => ?_, h.2.2⟩
  · rw [gfd_sfd] at he hne
    rw [gfd_sfd] at he
    by_cases e1 : p.1 = c ∧ p.2 = k ∧ x = y
    · rw [if_pos e1] at he
      by_cases e2 : p'.1 = c ∧ p'.2 = k ∧ x' = y
      · refine ⟨Prod.ext (e1.1.trans e2.1.symm) (e1.2.1.trans e2.2.1.symm), e1.2.2.trans e2.2.2.symm⟩
      · rw [if_neg e2] at he
        exact (hn p' hp' x' hx' he.symm).elim
    · rw [if_neg e1] at he hne
      by_cases e2 : p'.1 = c ∧ p'.2 = k ∧ x' = y
      · rw [if_pos e2] at he
        exact (hn p hp x hx he).elim
      · rw [if_neg e2] at he
        exact h.1 p hp p' hp' x x' hx hx' he hne
  · rw [gfd_sfd] at hne ⊢
    by_cases e1 : p.1 = c ∧ p.2 = k ∧ x = y
    · rw [if_pos e1]; exact hq
    · rw [if_neg e1] at hne ⊢
      exact h.2.1 p hp x hx hne
theorem OW.ne (h : OW G) {y y' : Int} (c k c' k' : Nat) (hy : gcl G y = c + 1) (hy' : gcl G y' = c' + 1) (hn : gfd G c k y ≠ -1) (hd : ¬ (c = c' ∧ k = k' ∧ y = y')) (hp : (c, k) ∈ oF := by decide) (hp' : (c', k') ∈ oF := by decide) : gfd G c k y ≠ gfd G c' k' y' := by
  intro h9
  have := h.1 (c, k) hp (c', k') hp' y y' hy hy' h9 hn
  exact hd ⟨congrArg Prod.fst this.1, congrArg Prod.snd this.1, this.2⟩
end F40
