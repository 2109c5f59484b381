/-! the entries of one rule change -/
section S100
variable {E : EE} {G G' G2 : Gt} {c s bc bs : Nat} {Q X : Int → Gt → Prop} {a x i j l u t v z o w m q r n fl en ru : Int} {d d' d2 : DS} {es : List En} {qs : List Rl}
def setE (qs : List Rl) (n : Nat) (es : List En) : List Rl := qs.set n ((qs.getD n r0).1, (qs.getD n r0).2.1, es)
def entD (d : DS) (n : Nat) (es : List En) : DS := ownD d (dN d) (dSel d) (dDr d) (setE (dRl d) n es) (dSil d) (dNt d)
theorem FnH.mem {y : Int} (h : FnH G fl es) (hy : y ∈ lst G fl) : gcl G y = 1 := by
  obtain ⟨j, hj, rfl⟩ := List.getElem_of_mem hy
  have := (h.2.2.2.2 j (by rw [← h.2.2.1]; exact hj)).1
  rw [List.getD_eq_getElem?_getD, List.getElem?_eq_getElem hj] at this
  exact this
theorem RuL.at (h : RuL G l qs) {b : Int} (hb : b ∈ lst G l) : ∃ q, RuH G b q := by
  obtain ⟨j, hj, rfl⟩ := List.getElem_of_mem hb
  have := h.2.2.2.2.1 j (by rw [← h.2.2.1]; exact hj)
  rw [List.getD_eq_getElem?_getD, List.getElem?_eq_getElem hj] at this
  exact ⟨_, this⟩
theorem RuL.ent (hO : OW G) (h : RuL G l qs) {n : Nat} (hn : n < qs.length) (hru : ru = (lst G l).getD n 0) (hfl : fl = gfd G 4 4 ru) (hll : l ≠ fl) (k : FR G G' (fun c _ y => c = 0 ∧ y ∈ lst G fl) (fun y => y = fl) noA) (hF : FnH G' fl es) (hc : capF (capOf G' fl)) (hnew : ∀ y ∈ lst G' fl, y ∈ lst G fl ∨ gcl G y = 0) : RuL G' l (setE qs n es) := by
  have h0 := h
  obtain ⟨h1, h2, h3, h4, h5, h6⟩ := h
  have ll := k.2.2.1 l h1 h2
  have e := (ll.2 hll).1
  have nn : ∀ y, gcl G y = 14 → y ≠ -1 := fun y hy => hO.nn (by omega) (by omega)
  have hmem : ru ∈ lst G l := by
    rw [hru, List.getD_eq_getElem?_getD, List.getElem?_eq_getElem (by omega)]
    exact List.getElem_mem _
  obtain ⟨qr, hqr⟩ := h0.at hmem
  have e44 : ∀ b ∈ lst G l, gfd G' 4 4 b = gfd G 4 4 b := fun b hb => by
    obtain ⟨q, hq⟩ := h0.at hb
    exact k.2.1 4 4 b (by decide) (by rw [hq.1]; decide) (fun h9 => absurd h9.1 (by decide))
  have hne : ∀ b ∈ lst G l, b ≠ ru → gfd G 4 4 b ≠ fl := fun b hb hbr => by
    obtain ⟨q, hq⟩ := h0.at hb
    rw [hfl]
    exact hO.ne 4 4 4 4 hq.1 hqr.1 (nn _ hq.2.2.2.1.1) (fun h9 => hbr h9.2.2)
  have hn0 : ∀ b ∈ lst G l, gfd G 4 0 b ≠ fl := fun b hb => by
    obtain ⟨q, hq⟩ := h0.at hb
    rw [hfl]
    exact hO.ne 4 0 4 4 hq.1 hqr.1 (nn _ hq.2.2.1.1) (fun h9 => absurd h9.2.1 (by decide))
  have eL : ∀ b ∈ lst G l, b ≠ ru → lst G' (gfd G 4 4 b) = lst G (gfd G 4 4 b) := fun b hb hbr => by
    obtain ⟨q, hq⟩ := h0.at hb
    exact ((k.2.2.1 _ hq.2.2.2.1.1 hq.2.2.2.1.2.1).2 (hne b hb hbr)).1
  refine ⟨by rw [k.1 l (by omega)]; exact h1, ll.1, by rw [e, setE, List.length_set]; exact h3, by rw [e]; exact h4, fun j hj => ?_, ?_⟩
  · rw [setE, List.length_set] at hj
    have hq := h5 j hj
    rw [e]
    show RuH _ _ ((setE qs n es).getD j r0)
    rw [setE, setDT hn]
    have hjm : (lst G l).getD j 0 ∈ lst G l := by
      rw [List.getD_eq_getElem?_getD, List.getElem?_eq_getElem (by omega)]
      exact List.getElem_mem _
    by_cases hjn : j = n
    · rw [if_pos hjn, hjn]
      have hq : RuH G ((lst G l).getD n 0) (qs.getD n r0) := h5 n hn
      rw [← hru] at hq ⊢
      obtain ⟨a1, a2, a3, a4, a5⟩ := hq
      have e4 : ∀ j, gfd G' 4 j ru = gfd G 4 j ru := fun j => k.2.1 4 j ru (by decide) (by omega) (fun h9 => absurd h9.1 (by decide))
      refine ⟨by rw [k.1 ru (by omega)]; exact a1, by rw [e4, e4, e4, e4]; exact a2, ?_, by rw [e4, ← hfl]; exact hF, by rw [e4, ← hfl]; exact hc⟩
      rw [e4]
      exact (a3.fr k (fun j y h9 => absurd h9.1 (by decide)) (fun j y h9 => absurd h9.1 (by decide)) (hn0 ru hmem)).1
    · rw [if_neg hjn]
      have hner : (lst G l).getD j 0 ≠ ru := fun h9 => hjn (by
        rw [hru] at h9
        exact (List.getD_inj (by omega) (by omega) h4).mp h9)
      refine (hq.fr k (fun j h9 => absurd h9.1 (by decide)) (fun j y h9 => absurd h9.1 (by decide)) (fun j y h9 => absurd h9.1 (by decide)) (fun y hy j h9 => ?_) (hn0 _ hjm) (hne _ hjm hner)).1
      exact hner (h6 _ hjm _ hmem y hy (by rw [← hfl]; exact h9.2))
  · rw [e]
    intro a ha b hb y hya hyb
    rw [e44 a ha] at hya
    rw [e44 b hb] at hyb
    have split : ∀ a ∈ lst G l, y ∈ lst G' (gfd G 4 4 a) → y ∈ lst G (gfd G 4 4 a) ∨ (a = ru ∧ gcl G y = 0) := fun a ha hy => by
      by_cases har : a = ru
      · rw [har, ← hfl] at hy ⊢
        rcases hnew y hy with h9 | h9
        · exact Or.inl h9
        · exact Or.inr ⟨rfl, h9⟩
      · rw [eL a ha har] at hy
        exact Or.inl hy
    have gc : ∀ a ∈ lst G l, y ∈ lst G (gfd G 4 4 a) → gcl G y = 1 := fun a ha hy => by
      obtain ⟨q, hq⟩ := h0.at ha
      exact hq.2.2.2.1.mem hy
    rcases split a ha hya with h9 | h9
    · rcases split b hb hyb with h8 | h8
      · exact h6 a ha b hb y h9 h8
      · have := gc a ha h9; omega
    · rcases split b hb hyb with h8 | h8
      · have := gc b hb h8; omega
      · rw [h9.1, h8.1]
theorem CH.ent (h : CH E G x d) (hi : DI d) {n : Nat} (hn : n < (dRl d).length) (hru : ru = (lst G (gfd G 11 6 x)).getD n 0) (hfl : fl = gfd G 4 4 ru) (hL' : LW E G') (hO' : OWG G G') (k : FR G G' (fun c _ y => c = 0 ∧ y ∈ lst G fl) (fun y => y = fl) noA) (hF : FnH G' fl es) (hc : capF (capOf G' fl)) (hnew : ∀ y ∈ lst G' fl, y ∈ lst G fl ∨ gcl G y = 0) : CF E G G' x (entD d n es) := by
  have hx := h.1
  have hO := h.2.2.1
  have hR := (h.rul hi).1
  have hq : RuH G ru ((dRl d).getD n r0) := by rw [hru]; exact hR.2.2.2.2.1 n hn
  have hn1 : gfd G 4 4 ru ≠ -1 := hO.nn (by rw [hq.2.2.2.1.1]; decide) (by rw [hq.2.2.2.1.1]; decide)
  have rl : ∀ {y : Int}, y = gfd G 11 5 x ∨ y = gfd G 11 7 x ∨ y = gfd G 11 6 x → ¬ (y = fl) := fun {y} hy h9 => (h.ruleL hy ru hq.1).2 hn1 (by rw [h9, hfl])
  have e11 : ∀ j, gfd G' 11 j x = gfd G 11 j x := fun j => k.2.1 11 j x (by decide) (by omega) (fun h9 => absurd h9.1 (by decide))
  have w : ∀ c' (k' : Nat) y, c' ≠ 0 → ¬ (c' = 0 ∧ y ∈ lst G fl) := fun c' k' y h8 h9 => h8 h9.1
  have h10 : ¬ (gfd G 11 10 x = fl) := fun h9 => h.apart.2.2.1 (4, 4) (by decide) ru hq.1 (by show gfd G 4 4 ru = _; rw [h9, hfl])
  exact h.mine hi hL' hO'.1 hO'.now k (fun c' k' y h9 => Or.inr (Or.inl h9.1)) (fun y h9 => Or.inr (Or.inr (Or.inr (Or.inr ⟨ru, hq.1, by rw [h9, hfl]⟩)))) (fun y h9 => h9.elim) ⟨rfl, rfl, rfl⟩
    (h.k5 k (fun j y => w 6 j y (by decide)) (w 11 5 x (by decide)) (rl (Or.inl rfl))) (by rw [e11]; exact hR.ent hO hn hru hfl (rl (Or.inr (Or.inr rfl))) k hF hc hnew)
    (h.k7 k (fun j y => w 6 j y (by decide)) ⟨w 11 7 x (by decide), w 11 8 x (by decide)⟩ (rl (Or.inr (Or.inl rfl))) (fun h9 => h9)) (h.k9 k (w 11 9 x (by decide)) (fun h9 => h9))
    (h.k10 k (fun c j y hc => w c j y (by omega)) (w 11 10 x (by decide)) h10 hO') (by rw [e11, e11, e11]; exact h.nums)
theorem DI.ent (h : DI d) {n : Nat} (hn : n < (dRl d).length) (h1 : ∀ e ∈ es, enOk e) (h2 : ascE es) (h3 : es.length ≤ 12) : DI (entD d n es) := by
  obtain ⟨a1, a2, a3, a4, a5, a6, a7, a8, a9, a10, a11, a12, a13, a14⟩ := id h
  refine h.own ⟨rfl, rfl, rfl⟩ a3 a4 a12 a6 a7 ⟨by rw [setE, List.length_set]; exact a8.1, fun q hq => ?_⟩ a9 a10
  rcases List.mem_or_eq_of_mem_set hq with h9 | h9
  · exact a8.2 _ h9
  · have hm : (dRl d).getD n r0 ∈ dRl d := by
      rw [List.getD_eq_getElem?_getD, List.getElem?_eq_getElem hn]
      exact List.getElem_mem hn
    have hk := a8.2 _ hm
    rw [h9]
    exact ⟨hk.1, hk.2.1, h1, h2, h3⟩
end S100
