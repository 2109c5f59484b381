/-! keeping a notice -/
section S99
variable {E : EE} {G G' G2 : Gt} {c s bc bs : Nat} {Q X : Int → Gt → Prop} {a x i j l u t v z o w m q r n fl en : Int} {d d' d2 : DS} {es : List En}
def ntD (d : DS) (n l : Int) : DS := ownD d (fun j => if j = 3 then dN d 3 + 1 else dN d j) (dSel d) (dDr d) (dRl d) (dSil d) (if (dNt d).length < 60 then dNt d ++ [(n, l, dN d 0)] else dNt d)
theorem i32s' {x : Int} (h : -2000000000 ≤ x ∧ x ≤ 2000000000) : i32 x := ⟨by omega, by omega⟩
theorem DI.nt (h : DI d) (hb : dN d 3 < 100000000) : DI (ntD d n l) := by
  obtain ⟨a1, a2, a3, a4, a5, a6, a7, a8, a9, a10, a11, a12, a13, a14⟩ := id h
  refine h.own ⟨rfl, rfl, rfl⟩ a3 a4 (by show 0 ≤ dN d 3 + 1 ∧ dN d 3 + 1 ≤ 100000000; omega) a6 a7 a8 a9 ?_
  show (if (dNt d).length < 60 then dNt d ++ [(n, l, dN d 0)] else dNt d).length = min (dN d 3 + 1).toNat 60
  have e : (dN d 3 + 1).toNat = (dN d 3).toNat + 1 := by omega
  rw [e]
  by_cases h9 : (dNt d).length < 60
  · rw [if_pos h9, List.length_append]
    show (dNt d).length + 1 = _
    omega
  · rw [if_neg h9]
    omega
theorem ok_keepNotice (h : CH E G x d) (hi : DI d) (hb : dN d 3 < 100000000) : Ok E M_X11_keepNotice [rv x, iv n, iv l] G 0 0 (fun _ G' => CF E G G' x (ntD d n l) ∧ FR G G' (fun c' k' y => c' = 11 ∧ k' = 11 ∧ y = x) noA (fun y => y = gfd G 11 9 x)) (fun _ _ => False) := by
  have hN := h.ntcs
  have hx := h.1
  have hL := h.2.1
  have hO := h.2.2.1
  obtain ⟨e3, e0', e1'⟩ := h.nums
  have hl := hi.2.2.2.2.2.2.2.2.2.1
  have h3 := hi.2.2.2.2.2.2.2.2.2.2.2.1
  have h180 := hN.2.1
  have h15 := hN.1
  obtain ⟨⟨a5, a6, a7, a10⟩, ⟨n56, n57, n67⟩, hdr, n89, n8, n9⟩ := h.apart
  have fin : ∀ G9, (∃ G6, G6 = sfd G 11 11 x (gfd G 11 11 x + 1) ∧ (G9 = G6 ∧ ¬ (dNt d).length < 60 ∨ (dNt d).length < 60 ∧ G9 = sel (sel (sel G6 (gfd G 11 9 x) (gfd G 11 11 x * 3) n) (gfd G 11 9 x) (gfd G 11 11 x * 3 + 1) l) (gfd G 11 9 x) (gfd G 11 11 x * 3 + 2) (dN d 0))) → CF E G G9 x (ntD d n l) ∧ FR G G9 (fun c' k' y => c' = 11 ∧ k' = 11 ∧ y = x) noA (fun y => y = gfd G 11 9 x) := by
    intro G9 ⟨G6, e6, hG⟩
    have k6 : FR G G6 (fun c' k' y => c' = 11 ∧ k' = 11 ∧ y = x) noA (fun y => y = gfd G 11 9 x) := by rw [e6]; exact (FR.mSfd (by decide)).mono (fun _ _ _ h9 => h9) (fun _ h9 => h9.elim) (fun _ h9 => h9.elim)
    have o6 : ONW G G6 := by rw [e6]; exact ONW.mSfd (by decide)
    have l6 : LW E G6 := by rw [e6]; exact hL.sfd (by decide)
    have c6 : gcl G6 (gfd G 11 9 x) = 15 := by rw [e6]; exact h15
    have all : FR G G9 (fun c' k' y => c' = 11 ∧ k' = 11 ∧ y = x) noA (fun y => y = gfd G 11 9 x) ∧ ONW G G9 ∧ LW E G9 := by
      rcases hG with ⟨hG, -⟩ | ⟨-, hG⟩
      · rw [hG]; exact ⟨k6, o6, l6⟩
      · rw [hG]
        have step : ∀ (G8 : Gt) (i v : Int), FR G G8 (fun c' k' y => c' = 11 ∧ k' = 11 ∧ y = x) noA (fun y => y = gfd G 11 9 x) ∧ ONW G G8 ∧ LW E G8 → FR G (sel G8 (gfd G 11 9 x) i v) (fun c' k' y => c' = 11 ∧ k' = 11 ∧ y = x) noA (fun y => y = gfd G 11 9 x) ∧ ONW G (sel G8 (gfd G 11 9 x) i v) ∧ LW E (sel G8 (gfd G 11 9 x) i v) := fun G8 i v ⟨b1, b2, b3⟩ =>
          ⟨b1.andThen (FR.mSel b3 (by rw [b1.1 _ (by omega)]; omega)) (fun _ _ _ _ h9 => h9.elim) (fun _ _ h9 => h9) (fun _ _ h9 => h9), b2.trans ONW.mSel, b3.sel⟩
        exact step _ _ _ (step _ _ _ (step _ _ _ ⟨k6, o6, l6⟩))
    obtain ⟨k, o9, l9⟩ := all
    have hO9 := o9.owg hO
    have w : ∀ c' k' y, c' ≠ 11 ∨ k' ≠ 11 → ¬ (c' = 11 ∧ k' = 11 ∧ y = x) := fun c' k' y h8 h9 => by omega
    have f9 : ∀ c' j y, gfd G9 c' j y = gfd G6 c' j y := fun c' j y => by
      rcases hG with ⟨hG, -⟩ | ⟨-, hG⟩
      · rw [hG]
      · rw [hG]; rfl
    have e11 : ∀ j, j ≠ 11 → gfd G9 11 j x = gfd G 11 j x := fun j hj => by rw [f9, e6, gfd_sfd, if_neg (by omega)]
    have hNt : NtH G9 x (if (dNt d).length < 60 then dNt d ++ [(n, l, dN d 0)] else dNt d) := by
      refine ⟨by rw [e11 9 (by decide), k.1 _ (by omega)]; exact h15, by rw [e11 9 (by decide), (k.2.2.2 _ (by omega) (by omega)).1]; exact h180, fun j hj => ?_⟩
      rw [e11 9 (by decide)]
      have g6 : ∀ i, gel G6 (gfd G 11 9 x) i = gel G (gfd G 11 9 x) i := fun i => by rw [e6]; rfl
      rcases hG with ⟨hG, h60⟩ | ⟨h60, hG⟩
      · rw [if_neg h60] at hj ⊢
        rw [hG, g6, g6, g6]
        exact hN.2.2 j hj
      · rw [if_pos h60, List.length_append] at hj
        have hj' : j < (dNt d).length + 1 := hj
        rw [if_pos h60, appD hj', hG]
        have e3' : gfd G 11 11 x = (dNt d).length := by omega
        by_cases hji : j < (dNt d).length
        · rw [if_pos hji, e3']
          have g := hN.2.2 j hji
          rw [gel_sel, if_neg (by omega), gel_sel, if_neg (by omega), gel_sel, if_neg (by omega), g6, gel_sel, if_neg (by omega), gel_sel, if_neg (by omega), gel_sel, if_neg (by omega), g6, gel_sel, if_neg (by omega), gel_sel, if_neg (by omega), gel_sel, if_neg (by omega), g6]
          exact g
        · rw [if_neg hji, e3', show (j : Int) = (dNt d).length by omega]
          refine ⟨?_, ?_, ?_⟩
          · rw [gel_sel, if_neg (by omega), gel_sel, if_neg (by omega), gel_sel, if_pos (by omega)]
          · rw [gel_sel, if_neg (by omega), gel_sel, if_pos (by omega)]
          · rw [gel_sel, if_pos (by omega)]
    refine ⟨h.mine hi l9 hO9.1 hO9.now k (fun c' k' y h9 => Or.inr (Or.inr (Or.inr ⟨h9.1, by omega⟩))) (fun y h9 => h9.elim) (fun y h9 => ⟨by rw [h9]; exact n9, Or.inr h9⟩) ⟨rfl, rfl, rfl⟩
      (h.k5 k (fun j y => w _ _ _ (Or.inl (by decide))) (w _ _ _ (Or.inr (by decide))) (fun h9 => h9)) (h.k6 k (fun c j y hc => w _ _ _ (Or.inl (by omega))) (w _ _ _ (Or.inr (by decide))) (fun h9 => h9) (fun _ _ _ h9 => h9) (fun _ _ _ h9 => h9))
      (h.k7 k (fun j y => w _ _ _ (Or.inl (by decide))) ⟨w _ _ _ (Or.inr (by decide)), w _ _ _ (Or.inr (by decide))⟩ (fun h9 => h9) n89) hNt
      (h.k10 k (fun c j y hc => w _ _ _ (Or.inl (by omega))) (w _ _ _ (Or.inr (by decide))) (fun h9 => h9) hO9)
      (by rw [e11 12 (by decide), e11 13 (by decide)]; exact ⟨by rw [f9, e6, gfd_sfd, if_pos ⟨rfl, rfl, rfl⟩, e3]; rfl, e0', e1'⟩), k⟩
  refine i_X11_keepNotice ⟨hx, i32s' (by omega), hx, i32s' (by omega), hx, fun G6 e6 => ?_⟩
  have e69 : gfd G6 11 9 x = gfd G 11 9 x := by rw [e6, gfd_sfd, if_neg (by omega)]
  have c6 : ∀ y, gcl G6 y = gcl G y := fun y => by rw [e6]; rfl
  have n6 : gln G6 (gfd G 11 9 x) = 180 := by rw [e6]; exact h180
  rw [e69, n6]
  have e12 : gfd G6 11 12 x = gfd G 11 12 x := by rw [e6, gfd_sfd, if_neg (by omega)]
  refine ⟨by rw [c6]; exact hx, by rw [c6]; omega, i32s (by omega), okp_isWithin, fun h1 => fin G6 ⟨G6, e6, Or.inl ⟨rfl, fun h9 => wIn0.mp h1 (by omega)⟩⟩, fun h1 => ?_⟩
  have h1' := wInY h1
  refine ⟨by rw [c6]; exact hx, by rw [c6]; exact h15, by omega, by omega, fun G16 e16 => ?_⟩
  have s16 : gfd G16 11 9 x = gfd G 11 9 x := by rw [e16]; exact e69
  rw [s16]
  refine ⟨by rw [e16]; exact (c6 x).trans hx, i32s' (by omega), by rw [e16]; exact (c6 _).trans h15, by omega, by rw [e16]; show _ < gln G6 _; omega, fun G22 e22 => ?_⟩
  have s22 : gfd G22 11 9 x = gfd G 11 9 x := by rw [e22, e16]; exact e69
  rw [s22]
  refine ⟨by rw [e22, e16]; exact (c6 x).trans hx, i32s' (by omega), by rw [e22, e16]; exact (c6 x).trans hx, by rw [e22, e16]; exact (c6 _).trans h15, by omega, by rw [e22, e16]; show _ < gln G6 _; omega, fun G29 e29 => fin G29 ⟨G6, e6, Or.inr ⟨by omega, ?_⟩⟩⟩
  rw [e29, e22, e16]
  have e : gfd (sel (sel G6 (gfd G 11 9 x) (gfd G 11 11 x * 3) n) (gfd G 11 9 x) (gfd G 11 11 x * 3 + 1) l) 11 12 x = dN d 0 := e12.trans e0'
  rw [e]
end S99
