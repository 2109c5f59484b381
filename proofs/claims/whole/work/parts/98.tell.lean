/-! what hinders a telling -/
section S98
variable {E : EE} {G G' G2 : Gt} {c s bc bs : Nat} {Q X : Int → Gt → Prop} {a x i j l u t v z o w m q r n fl en : Int} {d d' d2 : DS} {es : List En}
/-- a firing entry of the inhibitor is like this one -/
def inhB (es : List En) (l : Int) : Bool := es.any fun e => decide (e.2.1 ≠ 0 ∧ Int.tdiv e.1 100 = Int.tdiv l 100)
def silB (d : DS) (l : Int) : Bool := (dSil d).any fun t => decide (dN d 0 ≤ t.2) && slT t.1 l
theorem v_isInhibited (hL : LW E G) (h : FnH G fl es) (h12 : es.length ≤ 12) (hen : gcl G en = 1 ∧ gfd G 0 0 en = l) : ∀ (n j : Nat), j + n = es.length → Q (if inhB (es.drop j) l = true then 1 else 0) G → V E M_X11_isInhibited 34 [none, none, some (rv en), some (rv fl), some (iv (j : Int)), none] [] G c s Q X := by
  have hz : gfd G 13 2 fl = es.length := by rw [hL.size h.1 h.2.1, h.2.2.1]
  intro n
  induction n with
  | zero =>
    intro j hj hq
    rw [List.drop_eq_nil_of_le (by omega)] at hq
    exact b_X11_isInhibited_34 ⟨h.1, okp_size h.1, fun _ => hq, fun h9 => absurd h9 (by omega)⟩
  | succ n ih =>
    intro j hj hq
    have hlt : j < es.length := by omega
    obtain ⟨g1, g2, g3, g4⟩ := h.get hL hlt
    have eD : es.drop j = es.getD j e0 :: es.drop (j + 1) := by
      rw [List.getD_eq_getElem?_getD, List.getElem?_eq_getElem hlt, List.drop_eq_getElem_cons hlt]; rfl
    have eB : inhB (es.drop j) l = (decide ((es.getD j e0).2.1 ≠ 0 ∧ Int.tdiv (es.getD j e0).1 100 = Int.tdiv l 100) || inhB (es.drop (j + 1)) l) := by
      rw [eD]; rfl
    have skip : ¬ ((es.getD j e0).2.1 ≠ 0 ∧ Int.tdiv (es.getD j e0).1 100 = Int.tdiv l 100) → V E M_X11_isInhibited 34 [none, none, some (rv en), some (rv fl), some (iv ((j : Int) + 1)), none] [] G c s Q X := fun h9 => by
      rw [eB, decide_eq_false h9, Bool.false_or] at hq
      exact ih (j + 1) (by omega) hq
    refine b_X11_isInhibited_34 ⟨h.1, okp_size h.1, fun h9 => absurd h9 (by omega), fun _ => ⟨h.1, g1, Or.inr g2.1, g2.1, fun h1 => ⟨i32s (by omega), skip fun h9 => h9.1 (by rw [← g2.2.2.1]; exact h1)⟩, fun h1 => ⟨g2.1, hen.1, fun h2 => ⟨i32s (by omega), skip fun h9 => h2 (by rw [g2.2.1, hen.2]; exact h9.2)⟩, fun h2 => ?_⟩⟩⟩
    rw [g2.2.1, hen.2] at h2
    rw [g2.2.2.1] at h1
    rw [eB, decide_eq_true ⟨h1, h2⟩, Bool.true_or, if_pos rfl] at hq
    exact hq
/-- whether the alert's inhibitor keeps this entry back -/
def inhD2 (d : DS) (ih l : Int) : Bool := decide (isA d ih) && inhB (enT d ih) l
theorem okp_isInhibited {ru ih : Int} (h : CH E G x d) (hi : DI d) (hru : gcl G ru = 5 ∧ gfd G 4 5 ru = ih) (hen : gcl G en = 1 ∧ gfd G 0 0 en = l) : OkP E M_X11_isInhibited [rv x, rv ru, rv en] G (if inhD2 d ih l = true then 1 else 0) := by
  obtain ⟨hR, hz, -⟩ := h.rul hi
  refine i_X11_isInhibited ⟨hru.1, h.1, ?_⟩
  rw [hru.2]
  refine Call.pure (okp_isAlert h hi) ⟨fun h1 => ?_, fun h1 => ?_⟩
  · have ha : isA d ih := by
      by_cases h9 : isA d ih
      · exact h9
      · rw [if_neg h9] at h1
        exact absurd rfl h1
    obtain ⟨g1, g2, g3⟩ := h.rule hi ha.1 ha.2.1
    obtain ⟨hRu, hk⟩ := h.alert hi ha
    refine ⟨h.1, hru.1, hR.1, by rw [hru.2]; exact g1, Or.inr (by rw [hru.2, g2]; exact g3.1), by rw [hru.2, g2]; exact g3.1, ?_⟩
    rw [hru.2, g2]
    refine v_isInhibited h.2.1 hRu.2.2.2.1 hk.2.2.2.2 hen _ 0 (Nat.zero_add _) ⟨?_, rfl⟩
    unfold inhD2
    rw [decide_eq_true ha, Bool.true_and, List.drop_zero]
    rfl
  · have ha : ¬ isA d ih := fun h9 => by
      rw [if_pos h9] at h1
      exact absurd h1 (by decide)
    unfold inhD2
    rw [decide_eq_false ha]
    exact ⟨rfl, rfl⟩
theorem v_isSilenced (h : CH E G x d) (hi : DI d) (hen : gcl G en = 1 ∧ gfd G 0 0 en = l) : ∀ (n j : Nat), j + n = (dSil d).length → Q (if ((dSil d).drop j).any (fun t => decide (dN d 0 ≤ t.2) && slT t.1 l) = true then 1 else 0) G → V E M_X11_isSilenced 2 [some (rv x), some (rv en), some (iv (j : Int))] [] G c s Q X := by
  have hSi := h.sils
  have hL := h.2.1
  have hz : gfd G 13 2 (gfd G 11 7 x) = (dSil d).length := by rw [hL.size hSi.1.1 hSi.1.2.1, hSi.1.2.2.1, List.length_map]
  have h10 := hSi.2.2.1
  have h15 := hSi.2.1
  have e0' := h.nums.2.1
  have hl10 := hi.2.2.2.2.2.2.2.2.1.1
  have hll := hSi.1.2.2.1
  rw [List.length_map] at hll
  intro n
  induction n with
  | zero =>
    intro j hj hq
    rw [List.drop_eq_nil_of_le (by omega)] at hq
    exact b_X11_isSilenced_2 ⟨h.1, hSi.1.1, okp_size hSi.1.1, fun _ => hq, fun h9 => absurd h9 (by omega)⟩
  | succ n ih =>
    intro j hj hq
    have hlt : j < (dSil d).length := by omega
    have eD : (dSil d).drop j = (dSil d).getD j ((0, 0, 0), 0) :: (dSil d).drop (j + 1) := by
      rw [List.getD_eq_getElem?_getD, List.getElem?_eq_getElem hlt, List.drop_eq_getElem_cons hlt]; rfl
    have eB : ((dSil d).drop j).any (fun t => decide (dN d 0 ≤ t.2) && slT t.1 l) = ((decide (dN d 0 ≤ ((dSil d).getD j ((0, 0, 0), 0)).2) && slT ((dSil d).getD j ((0, 0, 0), 0)).1 l) || ((dSil d).drop (j + 1)).any (fun t => decide (dN d 0 ≤ t.2) && slT t.1 l)) := by
      rw [eD]; rfl
    have eU := hSi.2.2.2 j hlt
    have g := lget (i := (j : Int)) hL hSi.1.1 hSi.1.2.1 (by omega) (by omega)
    have g2 : alAt G (gfd G 11 7 x) (j : Int) = (lst G (gfd G 11 7 x)).getD j 0 := g.2
    have hS := hSi.1.2.2.2 j (by rw [List.length_map]; exact hlt)
    have eM : ((dSil d).map (·.1)).getD j (0, 0, 0) = ((dSil d).getD j ((0, 0, 0), 0)).1 := by
      rw [List.getD_eq_getElem?_getD, List.getD_eq_getElem?_getD, List.getElem?_map, List.getElem?_eq_getElem hlt]; rfl
    rw [eM, ← g2] at hS
    have eS : slT ((dSil d).getD j ((0, 0, 0), 0)).1 l = decide (slS G (alAt G (gfd G 11 7 x) (j : Int)) l ≠ 0) := by
      have := congrFun (selP_slT hS) l
      exact this.symm
    have skip : (decide (dN d 0 ≤ ((dSil d).getD j ((0, 0, 0), 0)).2) && slT ((dSil d).getD j ((0, 0, 0), 0)).1 l) = false → V E M_X11_isSilenced 2 [some (rv x), some (rv en), some (iv ((j : Int) + 1))] [] G c s Q X := fun h9 => by
      rw [eB, h9, Bool.false_or] at hq
      exact ih (j + 1) (by omega) hq
    refine b_X11_isSilenced_2 ⟨h.1, hSi.1.1, okp_size hSi.1.1, fun h9 => absurd h9 (by omega), fun _ => ⟨h.1, by omega, fun h9 => absurd h9 (by omega), fun _ => ⟨h.1, h.1, h15, by omega, by omega, fun h1 => ⟨i32s (by omega), skip ?_⟩, fun h1 => ⟨h.1, hSi.1.1, g.1, Or.inr hS.1, hen.1, hS.1, okp_selects hS.1, fun h2 => ⟨i32s (by omega), skip ?_⟩, fun h2 => ?_⟩⟩⟩⟩
    · rw [eU, e0'] at h1
      rw [decide_eq_false (by omega), Bool.false_and]
    · rw [hen.2] at h2
      rw [eS, decide_eq_false (p := slS G (alAt G (gfd G 11 7 x) (j : Int)) l ≠ 0) (fun h9 => h9 h2), Bool.and_false]
    · rw [hen.2] at h2
      rw [eU, e0'] at h1
      rw [eB, eS, decide_eq_true h2, decide_eq_true h1, Bool.true_and, Bool.true_or, if_pos rfl] at hq
      exact hq
theorem okp_isSilenced (h : CH E G x d) (hi : DI d) (hen : gcl G en = 1 ∧ gfd G 0 0 en = l) : OkP E M_X11_isSilenced [rv x, rv en] G (if silB d l = true then 1 else 0) := by
  refine i_X11_isSilenced (v_isSilenced h hi hen _ 0 (Nat.zero_add _) ⟨?_, rfl⟩)
  rw [List.drop_zero]
  rfl
end S98
