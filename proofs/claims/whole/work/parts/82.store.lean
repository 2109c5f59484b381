/-! what the store's methods leave of an object of the class -/
section S82
variable {E : EE} {G G' G2 : Gt} {c s : Nat} {Q X : Int → Gt → Prop} {a x i j k l u t v : Int} {d d' d2 : DS} {st : Int} {zs : List Zt} {ser : List Int} {smp : List (Sm4 × Int)} {rs : List Int} {bk : Int → List (Int × Int)} {nn : Nat → Int}
def Wst : Nat → Nat → Int → Prop := fun c _ _ => c = 1 ∨ c = 5 ∨ c = 7 ∨ c = 8
def Lst (G : Gt) (y : Int) : Prop := ∃ o, (gcl G o = 9 ∧ (y = gfd G 8 0 o ∨ y = gfd G 8 1 o)) ∨ (gcl G o = 8 ∧ y = gfd G 7 1 o)
def Ast (G : Gt) (y : Int) : Prop := y ≠ -1 ∧ ∃ o, gcl G o = 8 ∧ (y = gfd G 7 2 o ∨ y = gfd G 7 3 o)
def stD (d : DS) (nn : Nat → Int) (ser : List Int) (smp : List (Sm4 × Int)) (rs : List Int) (bk : Int → List (Int × Int)) : DS := (nn, ser, smp, rs, bk, d.2.2.2.2.2)
theorem OW.lst (h : OW G) {y : Int} (c k : Nat) (hy : gcl G y = c + 1) (hn : gfd G c k y ≠ -1) (hd : ¬ (c = 8 ∧ k = 0) ∧ ¬ (c = 8 ∧ k = 1) ∧ ¬ (c = 7 ∧ k = 1)) (hp : (c, k) ∈ oF := by decide) : ¬ Lst G (gfd G c k y) := by
  rintro ⟨o, ⟨h9, h8 | h8⟩ | ⟨h9, h8⟩⟩
  · exact absurd h8 (h.ne c k 8 0 hy h9 hn (fun h7 => hd.1 ⟨h7.1, h7.2.1⟩) hp)
  · exact absurd h8 (h.ne c k 8 1 hy h9 hn (fun h7 => hd.2.1 ⟨h7.1, h7.2.1⟩) hp)
  · exact absurd h8 (h.ne c k 7 1 hy h9 hn (fun h7 => hd.2.2 ⟨h7.1, h7.2.1⟩) hp)
theorem OW.ast (h : OW G) {y : Int} (c k : Nat) (hy : gcl G y = c + 1) (hn : gfd G c k y ≠ -1) (hd : c ≠ 7) (hp : (c, k) ∈ oF := by decide) : ¬ Ast G (gfd G c k y) := by
  rintro ⟨-, o, h9, h8 | h8⟩
  · exact absurd h8 (h.ne c k 7 2 hy h9 hn (fun h7 => hd h7.1) hp)
  · exact absurd h8 (h.ne c k 7 3 hy h9 hn (fun h7 => hd h7.1) hp)
theorem noref.lst {q : Int} (h : noref G q) : ¬ Lst G q := by
  rintro ⟨o, ⟨h9, h8 | h8⟩ | ⟨h9, h8⟩⟩
  · exact h (8, 0) (by decide) o h9 h8.symm
  · exact h (8, 1) (by decide) o h9 h8.symm
  · exact h (7, 1) (by decide) o h9 h8.symm
theorem Ast.an (h : OW G) {y : Int} (hy : Ast G y) : AN G y := by
  intro k hk m hm e
  have hp : (12, k) ∈ oF := List.mem_append_right _ (List.mem_map.mpr ⟨k, hk, rfl⟩)
  obtain ⟨hn, o, h9, h8 | h8⟩ := hy
  · exact absurd (e.trans h8) (h.ne 12 k 7 2 hm h9 (by rw [e]; exact hn) (fun h7 => absurd h7.1 (by decide)) hp)
  · exact absurd (e.trans h8) (h.ne 12 k 7 3 hm h9 (by rw [e]; exact hn) (fun h7 => absurd h7.1 (by decide)) hp)
theorem CH.store (h : CH E G x d) (hL' : LW E G') (hO' : OWG G G') (k : FR G G' Wst (Lst G) (Ast G)) (hn : nn 0 = dN d 0 ∧ nn 1 = dN d 1 ∧ nn 3 = dN d 3)
    (hs : ∃ zs, StH G' (gfd G 11 0 x) zs ser smp rs (nn 4) (nn 5) (nn 6)) (hb : BkH G' (gfd G 11 0 x) bk) : CF E G G' x (stD d nn ser smp rs bk) := by
  obtain ⟨hx, hL, hO, hS, hB, ⟨rows, sp, K, wn, hP, hK⟩, ⟨n, hA⟩, h10, hE, hSl, hR, hSi, hN, hD, e3, e0, e1⟩ := h
  have w : ∀ c j y, c ≠ 1 → c ≠ 5 → c ≠ 7 → c ≠ 8 → ¬ Wst c j y := fun c j y a1 a2 a3 a4 h9 => by unfold Wst at h9; omega
  have e11 : ∀ j, gfd G' 11 j x = gfd G 11 j x := fun j => k.2.1 11 j x (by decide) (by omega) (w 11 j x (by decide) (by decide) (by decide) (by decide))
  have nl : ∀ y, gcl G y = 14 → y ≠ -1 := fun y hy => hO.nn (by omega) (by omega)
  have na : ∀ y, gcl G y = 15 ∨ gcl G y = 16 → y ≠ -1 := fun y hy => hO.nn (by omega) (by omega)
  have own : ∀ j, gcl G (gfd G 11 j x) = 14 → (11, j) ∈ oF → ¬ Lst G (gfd G 11 j x) := fun j hj hp => hO.lst 11 j hx (nl _ hj) ⟨fun h9 => absurd h9.1 (by decide), fun h9 => absurd h9.1 (by decide), fun h9 => absurd h9.1 (by decide)⟩ hp
  have ar : ∀ r n R, RowH G r n R → ¬ Ast G (gfd G 3 0 r) ∧ ¬ Ast G (gfd G 3 1 r) := fun r n R hr => ⟨hO.ast 3 0 hr.1.1 (na _ (Or.inl hr.1.2.1.1)) (by decide), hO.ast 3 1 hr.1.1 (na _ (Or.inr hr.1.2.2.1.1)) (by decide)⟩
  have f5 := hSl.fr k (fun j y => w 6 j y (by decide) (by decide) (by decide) (by decide)) (own 5 hSl.1 (by decide))
  have f7 := hSi.1.fr k (fun j y => w 6 j y (by decide) (by decide) (by decide) (by decide)) (own 7 hSi.1.1 (by decide))
  have ww : ∀ c, c = 10 ∨ c = 6 ∨ c = 4 ∨ c = 0 ∨ c = 2 ∨ c = 3 → ∀ j y, ¬ Wst c j y := fun c hc j y => w c j y (by omega) (by omega) (by omega) (by omega)
  have ru : ∀ r ∈ lst G (gfd G 11 6 x), ¬ Lst G (gfd G 4 0 r) ∧ ¬ Lst G (gfd G 4 4 r) := fun r hr => by
    obtain ⟨i, hi, rfl⟩ := List.getElem_of_mem hr
    have hl := hR.2.2.1
    have h5 := hR.2.2.2.2.1 i (by omega)
    rw [List.getD_eq_getElem?_getD, List.getElem?_eq_getElem hi] at h5
    have hq : RuH G (lst G (gfd G 11 6 x))[i] _ := h5
    exact ⟨hO.lst 4 0 hq.1 (nl _ hq.2.2.1.1) ⟨fun h9 => absurd h9.1 (by decide), fun h9 => absurd h9.1 (by decide), fun h9 => absurd h9.1 (by decide)⟩, hO.lst 4 4 hq.1 (nl _ hq.2.2.2.1.1) ⟨fun h9 => absurd h9.1 (by decide), fun h9 => absurd h9.1 (by decide), fun h9 => absurd h9.1 (by decide)⟩⟩
  have f6 := hR.fr k (ww 4 (by decide)) (ww 10 (by decide)) (ww 6 (by decide)) (ww 0 (by decide)) (own 6 hR.1 (by decide)) ru
  have f10 := hD.1.fr k (ww 10 (by decide)) (ww 6 (by decide)) hD.2.1.lst
  refine ⟨⟨by rw [k.1 x (by omega)]; exact hx, hL', hO'.1, ?_, ?_, ⟨rows, sp, K, wn, ?_, ?_⟩, ⟨n, ?_⟩, ?_, ?_, ?_, ?_, ?_, ?_, ?_, ?_, ?_, ?_⟩, k.mono (fun c j y h9 h8 => by rw [h8] at h9; unfold Wst at h9; omega) (fun _ _ => True.intro) (fun y hy => hy.an hO), hO'.now⟩
  · rw [e11]; exact hs
  · rw [e11]; exact hb
  · rw [e11]
    exact hP.fr k (fun j => ww 2 (by decide) j _) (fun r _ j => ww 3 (by decide) j r) (hO.lst 2 0 hP.1 (nl _ hP.2.1.1) ⟨fun h9 => absurd h9.1 (by decide), fun h9 => absurd h9.1 (by decide), fun h9 => absurd h9.1 (by decide)⟩) (fun r hr => by
      obtain ⟨n', R', h9⟩ := hP.2.2.2.2.2.2.2.2.2.1 r hr
      exact ar r n' R' h9)
  · rw [e11]; exact hK
  · rw [e11]
    exact hA.fr k (fun j => ww 3 (by decide) j _) (ar _ _ _ hA).1 (ar _ _ _ hA).2
  · rw [e11, k.1 _ (by omega)]; exact h10
  · rw [e11, k.1 _ (by omega)]; exact hE
  · rw [e11]; exact f5.1
  · rw [e11]; exact f6.1
  · have h15 := hSi.2.1
    have g := k.2.2.2 (gfd G 11 8 x) (by omega) (by omega)
    have ga := g.2 (hO.ast 11 8 hx (na _ (Or.inl h15)) (by decide))
    refine ⟨by rw [e11]; exact f7.1, by rw [e11, k.1 _ (by omega)]; exact h15, by rw [e11, g.1]; exact hSi.2.2.1, fun i hi => ?_⟩
    rw [e11, ga]
    exact hSi.2.2.2 i hi
  · have h15 := hN.1
    have g := k.2.2.2 (gfd G 11 9 x) (by omega) (by omega)
    have ga := g.2 (hO.ast 11 9 hx (na _ (Or.inl h15)) (by decide))
    refine ⟨by rw [e11, k.1 _ (by omega)]; exact h15, by rw [e11, g.1]; exact hN.2.1, fun i hi => ?_⟩
    rw [e11, ga, ga, ga]
    exact hN.2.2 i hi
  · rw [e11]
    have hl := hD.1.1
    exact ⟨f10.1, hO'.2 _ hD.2.2 (by omega) hD.2.1, hD.2.2⟩
  · rw [e11]; exact e3.trans hn.2.2.symm
  · rw [e11]; exact e0.trans hn.1.symm
  · rw [e11]; exact e1.trans hn.2.1.symm
end S82
