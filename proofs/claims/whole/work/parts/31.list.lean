/-! lists: what a list holds -/
section L31
variable {E : EE} {G G' G2 : Gt} {a : Int} {bc bs : Nat} {Q X : Int → Gt → Prop}
/-- what the list holds -/
def lst (G : Gt) (a : Int) : List Int := (List.range (gfd G 13 2 a).toNat).map fun i : Nat => alAt G a (i : Int)
def capOf (G : Gt) (a : Int) : Int := gln G (gfd G 13 1 a)
def ncap (c : Int) : Int := if c = 0 then 10 else c + c / 2
/-- the lists of a heap are in order: none, one with the shared empty array, or one with an array of its own -/
def LW (E : EE) (G : Gt) : Prop :=
  (∀ a, gcl G a = 14 → gfd G 13 1 a ≠ -1 → 0 ≤ gfd G 13 2 a ∧ ((gfd G 13 1 a = eE E ∧ gfd G 13 2 a = 0 ∧ gln G (eE E) = 0 ∧ gcl G (eE E) = 18) ∨
    ((eb E : Int) ≤ gfd G 13 1 a ∧ gfd G 13 1 a ≠ eE E ∧ gcl G (gfd G 13 1 a) = 18 ∧ gfd G 13 2 a ≤ capOf G a ∧ 10 ≤ capOf G a ∧ capOf G a ≤ 30000000))) ∧
  (∀ a b, gcl G a = 14 → gcl G b = 14 → gfd G 13 1 a = gfd G 13 1 b → gfd G 13 1 a ≠ -1 → gfd G 13 1 a ≠ eE E → a = b) ∧ gcl G (eE E) = 18 ∧ gln G (eE E) = 0
/-- the heap but for one list, which now holds L -/
def LU (E : EE) (G G' : Gt) (a : Int) (L : List Int) (C : Int) : Prop :=
  LW E G' ∧ (∀ x, gcl G' x = gcl G x ∨ (gcl G x = 0 ∧ gcl G' x = 18)) ∧ (∀ c k x, c ≠ 13 → gfd G' c k x = gfd G c k x) ∧
  (∀ x, gcl G x ≠ 0 → gcl G x ≠ 18 → gln G' x = gln G x ∧ ∀ i, gel G' x i = gel G x i) ∧
  (∀ x, gcl G x = 14 → x ≠ a → gfd G 13 1 x ≠ -1 → lst G' x = lst G x ∧ capOf G' x = capOf G x ∧ gfd G' 13 1 x ≠ -1) ∧
  lst G' a = L ∧ capOf G' a = C ∧ gfd G' 13 1 a ≠ -1
theorem lst_len : (lst G a).length = (gfd G 13 2 a).toNat := by unfold lst; rw [List.length_map, List.length_range]
theorem lst_at {a : Int} {i : Nat} (h : i < (gfd G 13 2 a).toNat) : (lst G a)[i]? = some (alAt G a i) := by
  unfold lst
  rw [List.getElem?_map, List.getElem?_range h]; rfl
theorem lst_ext {a b : Int} (h1 : gfd G' 13 2 b = gfd G 13 2 a) (h2 : ∀ i : Int, 0 ≤ i → i < gfd G 13 2 a → alAt G' b i = alAt G a i) : lst G' b = lst G a := by
  unfold lst
  rw [h1]
  refine List.map_congr_left fun i hi => h2 i (by omega) ?_
  have := List.mem_range.mp hi
  omega
theorem lst_of {a : Int} {L : List Int} (h1 : gfd G 13 2 a = L.length) (h2 : ∀ i : Nat, i < L.length → alAt G a i = L.getD i 0) : lst G a = L := by
  apply List.ext_getElem?
  intro i
  by_cases hi : i < L.length
  · rw [lst_at (by omega), h2 i hi, List.getD_eq_getElem?_getD, List.getElem?_eq_getElem hi]; rfl
  · rw [List.getElem?_eq_none (by rw [lst_len]; omega), List.getElem?_eq_none (by omega)]
theorem LW.size (h : LW E G) {a : Int} (ha : gcl G a = 14) (hr : gfd G 13 1 a ≠ -1) : gfd G 13 2 a = (lst G a).length := by
  rw [lst_len]
  have := (h.1 a ha hr).1
  omega
theorem LW.at (h : LW E G) {a : Int} (ha : gcl G a = 14) (hr : gfd G 13 1 a ≠ -1) {i : Int} (h0 : 0 ≤ i) : alAt G a i = (lst G a).getD i.toNat (alAt G a i) := by
  by_cases hi : i.toNat < (gfd G 13 2 a).toNat
  · rw [List.getD_eq_getElem?_getD, lst_at hi, show ((i.toNat : Nat) : Int) = i by omega]; rfl
  · rw [List.getD_eq_getElem?_getD, List.getElem?_eq_none (by rw [lst_len]; omega)]; rfl
/-- growing: the same list in a longer array -/
def GR (E : EE) (G G' : Gt) (a q : Int) : Prop :=
  gcl G q = 0 ∧ (eb E : Int) ≤ q ∧ (∀ x, gcl G' x = if x = q then 18 else gcl G x) ∧ (∀ c k x, gfd G' c k x = if c = 13 ∧ k = 1 ∧ x = a then q else gfd G c k x) ∧
  (∀ x, gln G' x = if x = q then ncap (capOf G a) else gln G x) ∧ (∀ x i, x ≠ q → gel G' x i = gel G x i) ∧ ∀ i, 0 ≤ i → i < gfd G 13 2 a → gel G' q i = alAt G a i
end L31
section C31
variable {E : EE} {G G' G2 : Gt} {bc bs : Nat} {Q X : Int → Gt → Prop} {a : Int}
theorem okp_size (ha : gcl G a = 14) : OkP E M_A_size [rv a] G (gfd G 13 2 a) := i_A_size ⟨ha, rfl, rfl⟩
theorem okp_isEmpty (ha : gcl G a = 14) : OkP E M_A_isEmpty [rv a] G (if gfd G 13 2 a = 0 then 1 else 0) := i_A_isEmpty ⟨ha, by split <;> simp, rfl, rfl⟩
theorem LW.own (h : LW E G) (ha : gcl G a = 14) (hr : gfd G 13 1 a ≠ -1) {i : Int} (h0 : 0 ≤ i) (h1 : i < gfd G 13 2 a) : (eb E : Int) ≤ gfd G 13 1 a ∧ gfd G 13 1 a ≠ eE E ∧ gcl G (gfd G 13 1 a) = 18 ∧ gfd G 13 2 a ≤ gln G (gfd G 13 1 a) ∧ 10 ≤ gln G (gfd G 13 1 a) ∧ gln G (gfd G 13 1 a) ≤ 30000000 := by
  rcases (h.1 a ha hr).2 with h2 | h2
  · omega
  · exact h2
theorem okp_get (h : LW E G) (ha : gcl G a = 14) (hr : gfd G 13 1 a ≠ -1) {i : Int} (h0 : 0 ≤ i) (h1 : i < gfd G 13 2 a) : OkP E M_A_get [rv a, iv i] G (alAt G a i) := by
  have ho := h.own ha hr h0 h1
  exact i_A_get ⟨ha, okp_O_checkIndex h0 h1, ha, i_A_elementData ⟨ha, ho.2.2.1, h0, by omega, rfl, rfl⟩, rfl, rfl⟩
theorem okp_newLength {o g p : Int} (h0 : 0 ≤ o) (h1 : o ≤ 100000000) (hg : 0 ≤ g) (hg1 : g ≤ 100000000) (hp : 0 ≤ p) (hp1 : p ≤ 100000000) (hs : 0 < o + max g p) : OkP E M_S_newLength [iv o, iv g, iv p] G (o + max g p) := by
  refine i_S_newLength ⟨⟨by omega, by omega⟩, fun h => ?_, fun h => ⟨fun h => ?_, fun h => ⟨rfl, rfl⟩⟩⟩ <;> omega
theorem ok_copyOf2 {e n : Int} (he : gcl G e = 18) (hb : (eb E : Int) ≤ e) (h0 : 0 ≤ n) (h1 : n ≤ 60000000) (hl : 0 ≤ gln G e) (hn : gln G e ≤ n) (hc : 1 ≤ bc) (hs : n.toNat ≤ bs) :
    Ok E M_R_copyOf2 [rv e, iv n] G bc bs (fun r G' => gcl G r = 0 ∧ (eb E : Int) ≤ r ∧ G' = cpy (newa G r 18 n) e r 0 0 (gln G e)) (fun _ _ => False) := by
  refine i_R_copyOf2 ⟨he, Call.to (mc' := bc) (ms' := bs) (Q' := fun r G' => gcl G r = 0 ∧ (eb E : Int) ≤ r ∧ G' = cpy (newa G r 18 n) e r 0 0 (gln G e)) (i_R_copyOf3 ⟨fun h => (h rfl).elim, fun _ => ⟨h0, h1, hc, hs, fun q hq hq1 G1 e1 => ?_⟩⟩) (Nat.le_refl _) (Nat.le_refl _) (fun r G1 h => h)⟩
  have hne : e ≠ q := by intro h9; rw [h9] at he; omega
  have e2 : gln G1 e = gln G e := by rw [e1, gln_newa, if_neg hne]
  have e3 : gln G1 q = n := by rw [e1, gln_newa, if_pos rfl]
  have e4 : gcl G1 e = 18 := by rw [e1, gcl_newa, if_neg hne]; exact he
  have e5 : gcl G1 q = 18 := by rw [e1, gcl_newa, if_pos rfl]
  have e6 : min (gln G1 e) n = gln G e := by rw [e2]; omega
  rw [e6, e4, e5, e2, e3]
  exact ⟨by omega, Or.inr (Or.inr rfl), rfl, hb, hq1, hl, by omega, by omega, fun G2 e7 => ⟨hq, hq1, by rw [e7, e1]⟩⟩
theorem ok_grow1 (h : LW E G) (ha : gcl G a = 14) (hr : gfd G 13 1 a ≠ -1) (hf : gfd G 13 2 a = capOf G a) (hsz : gfd G 13 2 a < 20000000) (hc : 1 ≤ bc) (hs : (ncap (capOf G a)).toNat ≤ bs) :
    Ok E M_A_grow1 [rv a, iv (gfd G 13 2 a + 1)] G bc bs (fun r G' => GR E G G' a r) (fun _ _ => False) := by
  refine i_A_grow1 ⟨ha, ?_, fun J hJ => ⟨fun h1 => hJ ?_, fun h1 => ⟨ha, fun h2 => ?_, fun h2 => hJ ?_⟩⟩⟩
  · rcases (h.1 a ha hr).2 with h2 | h2
    · rw [h2.1, h2.2.2.2]; omega
    · rw [h2.2.2.1]; omega
  · rcases (h.1 a ha hr).2 with h2 | h2
    · unfold capOf at hf; omega
    · have hf' := hf
      unfold capOf at hf hs h2
      have e1 : gfd G 13 2 a + 1 - gln G (gfd G 13 1 a) = 1 := by omega
      have e2 : max 1 (gln G (gfd G 13 1 a) / 2) = gln G (gfd G 13 1 a) / 2 := by omega
      have e3 : ncap (gln G (gfd G 13 1 a)) = gln G (gfd G 13 1 a) + gln G (gfd G 13 1 a) / 2 := by unfold ncap; rw [if_neg (by omega)]
      rw [e3] at hs
      rw [e1, shr1 (by omega) (by omega)]
      refine ⟨⟨by omega, by omega⟩, Call.pure (v := gln G (gfd G 13 1 a) + gln G (gfd G 13 1 a) / 2) ?_ ⟨ha, Call.to (ok_copyOf2 h2.2.2.1 h2.1 (by omega) (by omega) (by omega) (by omega) hc hs) (Nat.le_refl _) (Nat.le_refl _) fun q G1 hq => ?_⟩⟩
      · have := okp_newLength (E := E) (G := G) (o := gln G (gfd G 13 1 a)) (g := 1) (p := gln G (gfd G 13 1 a) / 2) (by omega) (by omega) (by omega) (by omega) (by omega) (by omega) (by omega)
        rw [e2] at this; exact this
      · obtain ⟨hq, hb, e4⟩ := hq
        have hne : a ≠ q := by intro h9; rw [h9] at ha; omega
        have hne2 : gfd G 13 1 a ≠ q := by intro h9; rw [h9] at h2; omega
        subst e4
        refine ⟨by simp only [gcl_sfd, gln_sfd, gel_sfd, gfd_sfd, gcl_sel, gln_sel, gfd_sel, gel_sel, gcl_newo, gfd_newo, gln_newo, gel_newo, gcl_newa, gfd_newa, gln_newa, gel_newa, gcl_cpy, gln_cpy, gfd_cpy, gel_cpy]; rw [if_neg hne]; exact ha, fun G3 e5 => ?_⟩
        subst e5
        refine ⟨hq, hb, fun x => by simp only [gcl_sfd, gln_sfd, gel_sfd, gfd_sfd, gcl_sel, gln_sel, gfd_sel, gel_sel, gcl_newo, gfd_newo, gln_newo, gel_newo, gcl_newa, gfd_newa, gln_newa, gel_newa, gcl_cpy, gln_cpy, gfd_cpy, gel_cpy], fun c k x => by simp only [gcl_sfd, gln_sfd, gel_sfd, gfd_sfd, gcl_sel, gln_sel, gfd_sel, gel_sel, gcl_newo, gfd_newo, gln_newo, gel_newo, gcl_newa, gfd_newa, gln_newa, gel_newa, gcl_cpy, gln_cpy, gfd_cpy, gel_cpy], fun x => by simp only [gcl_sfd, gln_sfd, gel_sfd, gfd_sfd, gcl_sel, gln_sel, gfd_sel, gel_sel, gcl_newo, gfd_newo, gln_newo, gel_newo, gcl_newa, gfd_newa, gln_newa, gel_newa, gcl_cpy, gln_cpy, gfd_cpy, gel_cpy]; unfold capOf; rw [e3], fun x i hx => ?_, fun i h3 h4 => ?_⟩
        · simp only [gcl_sfd, gln_sfd, gel_sfd, gfd_sfd, gcl_sel, gln_sel, gfd_sel, gel_sel, gcl_newo, gfd_newo, gln_newo, gel_newo, gcl_newa, gfd_newa, gln_newa, gel_newa, gcl_cpy, gln_cpy, gfd_cpy, gel_cpy]
          rw [if_neg (fun h9 => hx h9.1), if_neg hx]
        · simp only [gcl_sfd, gln_sfd, gel_sfd, gfd_sfd, gcl_sel, gln_sel, gfd_sel, gel_sel, gcl_newo, gfd_newo, gln_newo, gel_newo, gcl_newa, gfd_newa, gln_newa, gel_newa, gcl_cpy, gln_cpy, gfd_cpy, gel_cpy]
          rw [if_pos ⟨trivial, h3, by omega⟩, if_neg hne2]
          unfold alAt
          rw [show (0 : Int) + (i - 0) = i by omega]
  · unfold capOf at hf hs
    have e0 : gln G (gfd G 13 1 a) = 0 := by
      have := (h.1 a ha hr).1
      omega
    have e1 : max 10 (gfd G 13 2 a + 1) = 10 := by omega
    rw [e1]
    have e2 : ncap (gln G (gfd G 13 1 a)) = 10 := by unfold ncap; rw [if_pos e0]
    rw [e2] at hs
    refine ⟨by omega, by omega, hc, by omega, fun q hq hb G1 e3 => ?_⟩
    have hne : a ≠ q := by intro h9; rw [h9] at ha; omega
    refine ⟨by rw [e3, gcl_newa, if_neg hne]; exact ha, fun G3 e4 => ?_⟩
    subst e3 e4
    refine ⟨hq, hb, fun x => by simp only [gcl_sfd, gln_sfd, gel_sfd, gfd_sfd, gcl_sel, gln_sel, gfd_sel, gel_sel, gcl_newo, gfd_newo, gln_newo, gel_newo, gcl_newa, gfd_newa, gln_newa, gel_newa, gcl_cpy, gln_cpy, gfd_cpy, gel_cpy], fun c k x => by simp only [gcl_sfd, gln_sfd, gel_sfd, gfd_sfd, gcl_sel, gln_sel, gfd_sel, gel_sel, gcl_newo, gfd_newo, gln_newo, gel_newo, gcl_newa, gfd_newa, gln_newa, gel_newa, gcl_cpy, gln_cpy, gfd_cpy, gel_cpy], fun x => by simp only [gcl_sfd, gln_sfd, gel_sfd, gfd_sfd, gcl_sel, gln_sel, gfd_sel, gel_sel, gcl_newo, gfd_newo, gln_newo, gel_newo, gcl_newa, gfd_newa, gln_newa, gel_newa, gcl_cpy, gln_cpy, gfd_cpy, gel_cpy]; unfold capOf; rw [e2], fun x i hx => by simp only [gcl_sfd, gln_sfd, gel_sfd, gfd_sfd, gcl_sel, gln_sel, gfd_sel, gel_sel, gcl_newo, gfd_newo, gln_newo, gel_newo, gcl_newa, gfd_newa, gln_newa, gel_newa, gcl_cpy, gln_cpy, gfd_cpy, gel_cpy]; rw [if_neg hx], fun i h3 h4 => by omega⟩
  · rcases (h.1 a ha hr).2 with h3 | h3
    · exact (h2 h3.1).elim
    · unfold capOf at *; omega
/-- what an update of one list leaves -/
theorem LU.of (h : LW E G) (ha : gcl G a = 14) (hr : gfd G 13 1 a ≠ -1) (hg : ∀ x, gcl G' x = gcl G x ∨ (gcl G x = 0 ∧ gcl G' x = 18)) (hf : ∀ c k x, ¬ (c = 13 ∧ x = a) → gfd G' c k x = gfd G c k x)
    (hn : ∀ x, gcl G x ≠ 0 → x ≠ gfd G 13 1 a → gln G' x = gln G x ∧ ∀ i, gel G' x i = gel G x i) (hE : gln G' (eE E) = gln G (eE E))
    (h0 : 0 ≤ gfd G' 13 2 a) (he : gfd G' 13 1 a = gfd G 13 1 a ∨ gcl G (gfd G' 13 1 a) = 0)
    (ho : (gfd G' 13 1 a = eE E ∧ gfd G 13 1 a = eE E ∧ gfd G' 13 2 a = 0) ∨ ((eb E : Int) ≤ gfd G' 13 1 a ∧ gfd G' 13 1 a ≠ eE E ∧ gcl G' (gfd G' 13 1 a) = 18 ∧ gfd G' 13 2 a ≤ capOf G' a ∧ 10 ≤ capOf G' a ∧ capOf G' a ≤ 30000000)) {L : List Int} {C : Int} (hL : lst G' a = L) (hC : capOf G' a = C) : LU E G G' a L C := by
  have g1 : ∀ x, gcl G' x = 14 → gcl G x = 14 := fun x hx => by rcases hg x with h9 | h9 <;> omega
  have g2 : ∀ x, gcl G x ≠ 0 → gcl G' x = gcl G x := fun x hx => by rcases hg x with h9 | h9 <;> omega
  have fo : ∀ x, x ≠ a → ∀ k, gfd G' 13 k x = gfd G 13 k x := fun x hx k => hf 13 k x (fun h9 => hx h9.2)
  have arr : ∀ x, gcl G x = 14 → gfd G 13 1 x ≠ -1 → gcl G (gfd G 13 1 x) = 18 := fun x hx hy => by
    rcases (h.1 x hx hy).2 with h9 | h9
    · rw [h9.1]; exact h9.2.2.2
    · exact h9.2.2.1
  have eEs : ∀ x, gcl G x = 14 → gfd G 13 1 x ≠ -1 → gfd G 13 1 x = eE E → gln G (eE E) = 0 ∧ gcl G (eE E) = 18 ∧ gfd G 13 2 x = 0 := fun x hx hy hz => by
    rcases (h.1 x hx hy).2 with h9 | h9
    · exact ⟨h9.2.2.1, h9.2.2.2, h9.2.1⟩
    · exact (h9.2.1 hz).elim
  have sep : ∀ x, gcl G x = 14 → x ≠ a → gfd G 13 1 x ≠ -1 → gfd G 13 1 x ≠ eE E → gfd G 13 1 x ≠ gfd G 13 1 a := fun x hx hxa hy hz h9 => hxa (h.2.1 x a hx ha h9 hy hz)
  refine ⟨⟨fun x hx hy => ?_, fun x y hx hy hxy hz hw => ?_, by rw [g2 (eE E) (by have := h.2.2.1; omega)]; exact h.2.2.1, by rw [hE]; exact h.2.2.2⟩, hg, fun c k x hc => hf c k x (fun h9 => hc h9.1), fun x hx hx8 => hn x hx (fun h9 => hx8 (by rw [h9]; exact arr a ha hr)), fun x hx hxa hxr => ?_, hL, hC, ?_⟩
  · by_cases hxa : x = a
    · subst hxa
      refine ⟨h0, ?_⟩
      rcases ho with h9 | h9
      · have := eEs x ha hr h9.2.1
        exact Or.inl ⟨h9.1, h9.2.2, by rw [hE]; exact this.1, by rw [g2 _ (by omega)]; exact this.2.1⟩
      · exact Or.inr h9
    · rw [fo x hxa] at hy
      rw [fo x hxa, fo x hxa]
      have h1 := h.1 x (g1 x hx) hy
      refine ⟨h1.1, ?_⟩
      rcases h1.2 with h9 | h9
      · exact Or.inl ⟨h9.1, h9.2.1, by rw [hE]; exact h9.2.2.1, by rw [g2 _ (by omega)]; exact h9.2.2.2⟩
      · have e1 : capOf G' x = capOf G x := by
          unfold capOf
          rw [fo x hxa]
          exact (hn _ (by omega) (sep x (g1 x hx) hxa hy h9.2.1)).1
        rw [e1, g2 (gfd G 13 1 x) (by omega)]
        exact Or.inr h9
  · by_cases hxa : x = a
    · by_cases hya : y = a
      · rw [hxa, hya]
      · subst hxa
        rw [fo y hya] at hxy
        exfalso
        rcases he with h9 | h9
        · rw [h9] at hxy hz hw
          exact hya (h.2.1 x y (g1 x hx) (g1 y hy) hxy hz hw).symm
        · have := arr y (g1 y hy) (by rw [← hxy]; exact hz)
          rw [← hxy] at this; omega
    · by_cases hya : y = a
      · subst hya
        rw [fo x hxa] at hxy hz hw
        exfalso
        rcases he with h9 | h9
        · rw [h9] at hxy
          exact hxa (h.2.1 x y (g1 x hx) (g1 y hy) hxy hz hw)
        · have := arr x (g1 x hx) hz
          rw [hxy] at this; omega
      · rw [fo x hxa] at hxy hz hw
        rw [fo y hya] at hxy
        exact h.2.1 x y (g1 x hx) (g1 y hy) hxy hz hw
  · have e0 : ∀ k, gfd G' 13 k x = gfd G 13 k x := fo x hxa
    have a8 := arr x hx hxr
    by_cases hy : gfd G 13 1 x = gfd G 13 1 a
    · by_cases hz : gfd G 13 1 x = eE E
      · have := eEs x hx hxr hz
        refine ⟨by unfold lst; rw [e0, this.2.2]; rfl, ?_, by rw [e0]; exact hxr⟩
        unfold capOf
        rw [e0, hz]; exact hE
      · exact (hxa (h.2.1 x a hx ha hy hxr hz)).elim
    · refine ⟨lst_ext (e0 2) fun i h1 h2 => ?_, ?_, by rw [e0]; exact hxr⟩
      · unfold alAt
        rw [e0]
        exact (hn _ (by omega) hy).2 i
      · unfold capOf
        rw [e0]
        exact (hn _ (by omega) hy).1
  · rcases ho with h9 | h9
    · rw [h9.1, ← h9.2.1]; exact hr
    · omega
theorem LW.s0 {w : Int} (h : LW E G) : LW E (sfd G 13 0 a w) := h
theorem LU.s0 {w b C : Int} {L : List Int} (h : LU E (sfd G 13 0 a w) G' b L C) : LU E G G' b L C :=
  ⟨h.1, h.2.1, fun c k x hc => (h.2.2.1 c k x hc).trans (by simp only [gcl_sfd, gln_sfd, gel_sfd, gfd_sfd, gcl_sel, gln_sel, gfd_sel, gel_sel, gcl_newo, gfd_newo, gln_newo, gel_newo, gcl_newa, gfd_newa, gln_newa, gel_newa, gcl_cpy, gln_cpy, gfd_cpy, gel_cpy]; rw [if_neg (fun h9 => hc h9.1)]), h.2.2.2.1, h.2.2.2.2.1, h.2.2.2.2.2⟩
theorem LU.trans {C C2 : Int} {L L2 : List Int} (ha : gcl G a = 14) (h : LU E G G' a L C) (h2 : LU E G' G2 a L2 C2) : LU E G G2 a L2 C2 := by
  have k1 : ∀ x, gcl G x ≠ 0 → gcl G' x = gcl G x := fun x hx => by rcases h.2.1 x with h9 | h9 <;> omega
  refine ⟨h2.1, fun x => ?_, fun c k x hc => (h2.2.2.1 c k x hc).trans (h.2.2.1 c k x hc), fun x hx hx8 => ?_, fun x hx hxa hr => ?_, h2.2.2.2.2.2⟩
  · rcases h2.2.1 x with h9 | h9 <;> rcases h.2.1 x with h8 | h8 <;> omega
  · have e1 := h.2.2.2.1 x hx hx8
    have e2 := h2.2.2.2.1 x (by rw [k1 x hx]; exact hx) (by rw [k1 x hx]; exact hx8)
    exact ⟨e2.1.trans e1.1, fun i => (e2.2 i).trans (e1.2 i)⟩
  · have e1 := h.2.2.2.2.1 x hx hxa hr
    have e2 := h2.2.2.2.2.1 x (by rw [k1 x (by omega)]; exact hx) hxa e1.2.2
    exact ⟨e2.1.trans e1.1, e2.2.1.trans e1.2.1, e2.2.2⟩
theorem alAt_get (h : LW E G) (ha : gcl G a = 14) (hr : gfd G 13 1 a ≠ -1) {i : Nat} (hi : i < (lst G a).length) : alAt G a i = (lst G a).getD i 0 := by
  rw [List.getD_eq_getElem?_getD, lst_at (by rw [lst_len] at hi; exact hi)]; rfl
theorem GR.lu {q : Int} (h : LW E G) (ha : gcl G a = 14) (hr : gfd G 13 1 a ≠ -1) (hf : gfd G 13 2 a = capOf G a) (hsz : gfd G 13 2 a < 20000000) (g : GR E G G' a q) : LU E G G' a (lst G a) (ncap (capOf G a)) ∧ gfd G' 13 1 a = q ∧ gfd G' 13 2 a = gfd G 13 2 a ∧ gcl G' a = 14 := by
  obtain ⟨g1, g2, g3, g4, g5, g6, g7⟩ := g
  have hsz0 := (h.1 a ha hr).1
  have e1 : gfd G' 13 1 a = q := by rw [g4, if_pos ⟨rfl, rfl, rfl⟩]
  have e2 : gfd G' 13 2 a = gfd G 13 2 a := by rw [g4, if_neg (by omega)]
  have e3 : capOf G' a = ncap (capOf G a) := by show gln G' (gfd G' 13 1 a) = _; rw [e1, g5, if_pos rfl]
  have e4 : ∀ x, gcl G x ≠ 0 → x ≠ q := fun x hx h9 => hx (by rw [h9]; exact g1)
  have e5 : ncap (capOf G a) ≤ 30000000 ∧ 10 ≤ ncap (capOf G a) ∧ gfd G 13 2 a ≤ ncap (capOf G a) := by
    rcases (h.1 a ha hr).2 with h2 | h2 <;> unfold ncap <;> split <;> omega
  refine ⟨LU.of h ha hr (fun x => ?_) (fun c k x hx => ?_) (fun x hx _ => ⟨?_, fun i => g6 x i (e4 x hx)⟩) ?_ ?_ (Or.inr (by rw [e1]; exact g1)) (Or.inr ⟨?_, ?_, ?_, ?_, ?_⟩) ?_ e3, e1, e2, ?_⟩
  · rw [g3]; split
    · rename_i h9; rw [h9]; exact Or.inr ⟨g1, rfl⟩
    · exact Or.inl rfl
  · rw [g4, if_neg (fun h9 => hx ⟨h9.1, h9.2.2⟩)]
  · rw [g5, if_neg (e4 x hx)]
  · rw [g5, if_neg (e4 _ (by have := h.2.2.1; omega))]
  · rw [e2]; exact hsz0
  · rw [e1]; exact g2
  · rw [e1]; intro h9; have := h.2.2.1; rw [← h9] at this; omega
  · rw [e1, g3, if_pos rfl]
  · rw [e2, e3]; exact e5.2.2
  · rw [e3]; exact ⟨e5.2.1, e5.1⟩
  · refine lst_ext e2 fun i h1 h2 => ?_
    show gel G' (gfd G' 13 1 a) i = _
    rw [e1]; exact g7 i h1 h2
  · rw [g3, if_neg (e4 a (by omega))]; exact ha
theorem put_lu {v : Int} (h : LW E G) (ha : gcl G a = 14) (hr : gfd G 13 1 a ≠ -1) (hf : gfd G 13 2 a < capOf G a) : LU E G (sfd (sel G (gfd G 13 1 a) (gfd G 13 2 a) v) 13 2 a (gfd G 13 2 a + 1)) a (lst G a ++ [v]) (capOf G a) := by
  have hsz0 := (h.1 a ha hr).1
  have hcap : capOf G a = gln G (gfd G 13 1 a) := rfl
  rcases (h.1 a ha hr).2 with h2 | h2
  · rw [h2.1] at hcap; omega
  · refine LU.of (G' := sfd (sel G (gfd G 13 1 a) (gfd G 13 2 a) v) 13 2 a (gfd G 13 2 a + 1)) h ha hr (fun x => Or.inl rfl) (fun c k x hx => ?_) (fun x hx hx1 => ⟨rfl, fun i => ?_⟩) rfl ?_ (Or.inl rfl) (Or.inr ⟨h2.1, h2.2.1, h2.2.2.1, ?_, h2.2.2.2.2⟩) ?_ rfl
    · simp only [gcl_sfd, gln_sfd, gel_sfd, gfd_sfd, gcl_sel, gln_sel, gfd_sel, gel_sel, gcl_newo, gfd_newo, gln_newo, gel_newo, gcl_newa, gfd_newa, gln_newa, gel_newa, gcl_cpy, gln_cpy, gfd_cpy, gel_cpy]; rw [if_neg (fun h9 => hx ⟨h9.1, h9.2.2⟩)]
    · simp only [gcl_sfd, gln_sfd, gel_sfd, gfd_sfd, gcl_sel, gln_sel, gfd_sel, gel_sel, gcl_newo, gfd_newo, gln_newo, gel_newo, gcl_newa, gfd_newa, gln_newa, gel_newa, gcl_cpy, gln_cpy, gfd_cpy, gel_cpy]; rw [if_neg (fun h9 => hx1 h9.1)]
    · simp only [gcl_sfd, gln_sfd, gel_sfd, gfd_sfd, gcl_sel, gln_sel, gfd_sel, gel_sel, gcl_newo, gfd_newo, gln_newo, gel_newo, gcl_newa, gfd_newa, gln_newa, gel_newa, gcl_cpy, gln_cpy, gfd_cpy, gel_cpy]; rw [if_pos ⟨trivial, trivial, trivial⟩]; omega
    · simp only [gcl_sfd, gln_sfd, gel_sfd, gfd_sfd, gcl_sel, gln_sel, gfd_sel, gel_sel, gcl_newo, gfd_newo, gln_newo, gel_newo, gcl_newa, gfd_newa, gln_newa, gel_newa, gcl_cpy, gln_cpy, gfd_cpy, gel_cpy]; rw [if_pos ⟨trivial, trivial, trivial⟩]
      show _ ≤ capOf G a
      omega
    · refine lst_of ?_ fun i hi => ?_
      · simp only [gcl_sfd, gln_sfd, gel_sfd, gfd_sfd, gcl_sel, gln_sel, gfd_sel, gel_sel, gcl_newo, gfd_newo, gln_newo, gel_newo, gcl_newa, gfd_newa, gln_newa, gel_newa, gcl_cpy, gln_cpy, gfd_cpy, gel_cpy]; rw [if_pos ⟨trivial, trivial, trivial⟩, List.length_append, lst_len]
        simp; omega
      · show gel (sel G (gfd G 13 1 a) (gfd G 13 2 a) v) (gfd G 13 1 a) i = _
        rw [gel_sel]
        rw [List.length_append, lst_len] at hi
        simp at hi
        by_cases h9 : (i : Int) = gfd G 13 2 a
        · rw [if_pos ⟨rfl, h9⟩, List.getD_eq_getElem?_getD, List.getElem?_append_right (by rw [lst_len]; omega), lst_len, show i - (gfd G 13 2 a).toNat = 0 by omega]; rfl
        · rw [if_neg (fun h8 => h9 h8.2), List.getD_eq_getElem?_getD, List.getElem?_append_left (by rw [lst_len]; omega), lst_at (by omega)]; rfl
def addRoom (G : Gt) (a : Int) (bc bs : Nat) : Prop := gfd G 13 2 a = capOf G a → 1 ≤ bc ∧ (ncap (capOf G a)).toNat ≤ bs
def addCap (G : Gt) (a : Int) : Int := if gfd G 13 2 a = capOf G a then ncap (capOf G a) else capOf G a
theorem ok_add3 {v : Int} (h : LW E G) (ha : gcl G a = 14) (hr : gfd G 13 1 a ≠ -1) (hv : v = -1 ∨ okE (gcl G v)) (hsz : gfd G 13 2 a < 20000000) (hroom : addRoom G a bc bs) :
    Ok E M_A_add3 [rv a, rv v, rv (gfd G 13 1 a), iv (gfd G 13 2 a)] G bc bs (fun _ G' => LU E G G' a (lst G a ++ [v]) (addCap G a)) (fun _ _ => False) := by
  have hsz0 := (h.1 a ha hr).1
  have hcap : capOf G a = gln G (gfd G 13 1 a) := rfl
  refine i_A_add3 ⟨?_, fun J hJ => ⟨fun h1 => hJ _ _ _ _ ?_, fun h1 => ⟨ha, Call.to (mc' := bc) (ms' := bs) (Q' := fun r G' => GR E G G' a r) ?_ (Nat.le_refl _) (Nat.le_refl _) fun q G1 hq => hJ _ _ _ _ ?_⟩⟩⟩
  · rcases (h.1 a ha hr).2 with h2 | h2
    · rw [h2.1, h2.2.2.2]; omega
    · rw [h2.2.2.1]; omega
  · rcases (h.1 a ha hr).2 with h2 | h2
    · rw [h2.1] at h1; omega
    · refine ⟨h2.2.2.1, hsz0, by omega, hv, fun G3 e3 => ⟨⟨by omega, by omega⟩, by rw [e3]; exact ha, fun G4 e4 => ?_⟩⟩
      subst e3 e4
      unfold addCap
      rw [if_neg (by omega)]
      exact put_lu h ha hr (by omega)
  · exact i_A_grow0 ⟨ha, ⟨by omega, by omega⟩, ha, Call.to (ok_grow1 h ha hr (by omega) hsz (hroom (by omega)).1 (hroom (by omega)).2) (Nat.le_refl _) (Nat.le_refl _) (fun r G1 h9 => h9)⟩
  · obtain ⟨l1, l2, l3, l4⟩ := hq.lu h ha hr (by omega) hsz
    have k1 := l1.2.2.2.2.2.2.1
    have l5 : gcl G1 q = 18 := by rw [hq.2.2.1, if_pos rfl]
    have e5 : gfd G 13 2 a < ncap (capOf G a) := by
      rcases (h.1 a ha hr).2 with h2 | h2 <;> unfold ncap <;> split <;> omega
    have e6 : gln G1 q = ncap (capOf G a) := by rw [hq.2.2.2.2.1, if_pos rfl]
    refine ⟨l5, hsz0, by omega, ?_, fun G3 e3 => ⟨⟨by omega, by omega⟩, by rw [e3]; exact l4, fun G4 e4 => ?_⟩⟩
    · rcases hv with h9 | h9
      · exact Or.inl h9
      · refine Or.inr ?_
        rcases l1.2.1 v with h8 | h8
        · rw [h8]; exact h9
        · unfold okE at h9; omega
    · subst e3 e4
      have := put_lu (v := v) l1.1 l4 l1.2.2.2.2.2.2.2 (by rw [k1, l3]; exact e5)
      rw [l2, l3, k1, l1.2.2.2.2.2.1] at this
      unfold addCap
      rw [if_pos (by omega)]
      exact l1.trans ha this
theorem ok_add {v : Int} (h : LW E G) (ha : gcl G a = 14) (hr : gfd G 13 1 a ≠ -1) (hv : v = -1 ∨ okE (gcl G v)) (hsz : gfd G 13 2 a < 20000000) (hroom : addRoom G a bc bs) :
    Ok E M_A_add [rv a, rv v] G bc bs (fun r G' => r = 1 ∧ LU E G G' a (lst G a ++ [v]) (addCap G a)) (fun _ _ => False) := by
  refine i_A_add ⟨ha, fun w hw => ⟨ha, fun G1 e1 => ?_⟩⟩
  subst e1
  exact ⟨ha, ha, ha, Call.to (ok_add3 (G := sfd G 13 0 a w) h ha hr hv hsz hroom) (Nat.le_refl _) (Nat.le_refl _) fun r G2 h9 => ⟨rfl, LU.s0 h9⟩⟩
theorem own_lu {L : List Int} (h : LW E G) (ha : gcl G a = 14) (hr : gfd G 13 1 a ≠ -1) (hne : gfd G 13 1 a ≠ eE E) (g1 : ∀ x, gcl G' x = gcl G x) (g2 : ∀ c k x, ¬ (c = 13 ∧ x = a) → gfd G' c k x = gfd G c k x) (g5 : gfd G' 13 1 a = gfd G 13 1 a)
    (g3 : ∀ x, gln G' x = gln G x) (g4 : ∀ x i, x ≠ gfd G 13 1 a → gel G' x i = gel G x i) (h5 : gfd G' 13 2 a = L.length) (h6 : (L.length : Int) ≤ capOf G a) (h7 : ∀ i : Nat, i < L.length → gel G' (gfd G 13 1 a) i = L.getD i 0) : LU E G G' a L (capOf G a) := by
  rcases (h.1 a ha hr).2 with h2 | h2
  · exact (hne h2.1).elim
  · have e1 : capOf G' a = capOf G a := by show gln G' (gfd G' 13 1 a) = _; rw [g5, g3]; rfl
    refine LU.of h ha hr (fun x => Or.inl (g1 x)) g2 (fun x _ hx1 => ⟨g3 x, fun i => g4 x i hx1⟩) (g3 _) (by omega) (Or.inl g5) (Or.inr ⟨by rw [g5]; exact h2.1, by rw [g5]; exact h2.2.1, by rw [g5, g1]; exact h2.2.2.1, by rw [e1, h5]; exact h6, by rw [e1]; exact h2.2.2.2.2⟩) (lst_of h5 fun i hi => ?_) e1
    show gel G' (gfd G' 13 1 a) i = _
    rw [g5]; exact h7 i hi
theorem LW.ownE (h : LW E G) (ha : gcl G a = 14) (hr : gfd G 13 1 a ≠ -1) (hn : 0 < gfd G 13 2 a ∨ 0 < capOf G a) : (eb E : Int) ≤ gfd G 13 1 a ∧ gfd G 13 1 a ≠ eE E ∧ gcl G (gfd G 13 1 a) = 18 ∧ gfd G 13 2 a ≤ gln G (gfd G 13 1 a) := by
  rcases (h.1 a ha hr).2 with h2 | h2
  · have : capOf G a = gln G (gfd G 13 1 a) := rfl
    rw [h2.1] at this; omega
  · exact ⟨h2.1, h2.2.1, h2.2.2.1, h2.2.2.2.1⟩
def insL (L : List Int) (i : Nat) (v : Int) : List Int := L.take i ++ v :: L.drop i
theorem insL_len {L : List Int} {i : Nat} {v : Int} (hi : i ≤ L.length) : (insL L i v).length = L.length + 1 := by unfold insL; simp; omega
theorem insL_get {L : List Int} {i j : Nat} {v : Int} (hi : i ≤ L.length) : (insL L i v).getD j 0 = if j < i then L.getD j 0 else if j = i then v else L.getD (j - 1) 0 := by
  unfold insL
  rw [List.getD_eq_getElem?_getD, List.getElem?_append]
  have e : (L.take i).length = i := by simp; omega
  rw [e]
  by_cases h1 : j < i
  · rw [if_pos h1, if_pos h1, List.getElem?_take, if_pos h1, List.getD_eq_getElem?_getD]
  · rw [if_neg h1, if_neg h1]
    by_cases h2 : j = i
    · rw [if_pos h2, show j - i = 0 by omega]; rfl
    · rw [if_neg h2, show j - i = (j - 1 - i) + 1 by omega, List.getElem?_cons_succ, List.getElem?_drop, List.getD_eq_getElem?_getD, show i + (j - 1 - i) = j - 1 by omega]
theorem lstD (h : LW E G) (ha : gcl G a = 14) (hr : gfd G 13 1 a ≠ -1) {i : Int} (h0 : 0 ≤ i) (h1 : i < gfd G 13 2 a) : gel G (gfd G 13 1 a) i = (lst G a).getD i.toNat 0 := by
  have := alAt_get h ha hr (i := i.toNat) (by rw [lst_len]; omega)
  rw [← this, show ((i.toNat : Nat) : Int) = i by omega]; rfl
theorem ins_lu {v i : Int} (h : LW E G) (ha : gcl G a = 14) (hr : gfd G 13 1 a ≠ -1) (hf : gfd G 13 2 a < capOf G a) (h0 : 0 ≤ i) (h1 : i ≤ gfd G 13 2 a) :
    LU E G (sfd (sel (cpy G (gfd G 13 1 a) (gfd G 13 1 a) i (i + 1) (gfd G 13 2 a - i)) (gfd G 13 1 a) i v) 13 2 a (gfd G 13 2 a + 1)) a (insL (lst G a) i.toNat v) (capOf G a) := by
  have hl : ((lst G a).length : Int) = gfd G 13 2 a := (h.size ha hr).symm
  have hil := insL_len (L := lst G a) (i := i.toNat) (v := v) (by omega)
  refine own_lu h ha hr (h.ownE ha hr (Or.inr (by omega))).2.1 (fun x => rfl) (fun c k x hx => ?_) ?_ (fun x => rfl) (fun x j hx => ?_) ?_ (by omega) (fun j hj => ?_)
  · simp only [gcl_sfd, gln_sfd, gel_sfd, gfd_sfd, gcl_sel, gln_sel, gfd_sel, gel_sel, gcl_newo, gfd_newo, gln_newo, gel_newo, gcl_newa, gfd_newa, gln_newa, gel_newa, gcl_cpy, gln_cpy, gfd_cpy, gel_cpy]; rw [if_neg (fun h9 => hx ⟨h9.1, h9.2.2⟩)]
  · rfl
  · simp only [gcl_sfd, gln_sfd, gel_sfd, gfd_sfd, gcl_sel, gln_sel, gfd_sel, gel_sel, gcl_newo, gfd_newo, gln_newo, gel_newo, gcl_newa, gfd_newa, gln_newa, gel_newa, gcl_cpy, gln_cpy, gfd_cpy, gel_cpy]; rw [if_neg (fun h9 => hx h9.1), if_neg (fun h9 => hx h9.1)]
  · simp only [gcl_sfd, gln_sfd, gel_sfd, gfd_sfd, gcl_sel, gln_sel, gfd_sel, gel_sel, gcl_newo, gfd_newo, gln_newo, gel_newo, gcl_newa, gfd_newa, gln_newa, gel_newa, gcl_cpy, gln_cpy, gfd_cpy, gel_cpy]; rw [if_pos ⟨trivial, trivial, trivial⟩]; omega
  · simp only [gcl_sfd, gln_sfd, gel_sfd, gfd_sfd, gcl_sel, gln_sel, gfd_sel, gel_sel, gcl_newo, gfd_newo, gln_newo, gel_newo, gcl_newa, gfd_newa, gln_newa, gel_newa, gcl_cpy, gln_cpy, gfd_cpy, gel_cpy]
    rw [insL_get (by omega)]
    by_cases h2 : (j : Int) = i
    · rw [if_pos ⟨trivial, h2⟩, if_neg (by omega), if_pos (by omega)]
    · rw [if_neg (fun h9 => h2 h9.2)]
      by_cases h3 : (j : Int) < i
      · rw [if_neg (by omega), if_pos (by omega), lstD h ha hr (by omega) (by omega)]; rfl
      · rw [if_pos ⟨trivial, by omega, by omega⟩, if_neg (by omega), if_neg (by omega), lstD h ha hr (by omega) (by omega)]
        congr 1
        omega
theorem ok_rangeCheck {i : Int} (ha : gcl G a = 14) (h0 : 0 ≤ i) (h1 : i ≤ gfd G 13 2 a) : Ok E M_A_rangeCheck [rv a, iv i] G 0 0 (fun _ G' => G' = G) (fun _ _ => False) := by
  refine i_A_rangeCheck ⟨ha, fun h => ?_, fun _ => ⟨fun _ => rfl, fun h => ?_⟩⟩ <;> omega
theorem ok_addAt {v i : Int} (h : LW E G) (ha : gcl G a = 14) (hr : gfd G 13 1 a ≠ -1) (hv : v = -1 ∨ okE (gcl G v)) (hsz : gfd G 13 2 a < 20000000) (h0 : 0 ≤ i) (h1 : i ≤ gfd G 13 2 a) (hroom : addRoom G a bc bs) :
    Ok E M_A_addAt [rv a, iv i, rv v] G bc bs (fun _ G' => LU E G G' a (insL (lst G a) i.toNat v) (addCap G a)) (fun _ _ => False) := by
  have hcap : capOf G a = gln G (gfd G 13 1 a) := rfl
  refine i_A_addAt ⟨ha, Call.to (ok_rangeCheck ha h0 h1) (Nat.zero_le _) (Nat.zero_le _) fun r2 G3 e3 => ?_⟩
  subst e3
  refine ⟨ha, fun w hw => ⟨ha, fun G9 e9 => ?_⟩⟩
  subst e9
  have hs2 := (h.1 a ha hr).2
  refine ⟨ha, ha, ?_, fun J hJ => ⟨fun h2 => hJ _ _ _ _ ?_, fun h2 => ⟨ha, Call.to (mc' := bc) (ms' := bs) (Q' := fun r G' => GR E (sfd G3 13 0 a w) G' a r) ?_ (Nat.le_refl _) (Nat.le_refl _) fun q G1 hq => hJ _ _ _ _ ?_⟩⟩⟩
  · show 15 ≤ gcl G3 (gfd G3 13 1 a)
    rcases hs2 with h2 | h2
    · rw [h2.1, h2.2.2.2]; omega
    · rw [h2.2.2.1]; omega
  · have h2' : gfd G3 13 2 a ≠ gln G3 (gfd G3 13 1 a) := h2
    rcases hs2 with h3 | h3
    · rw [h3.1] at h2'; omega
    · rw [hcap] at h3
      refine ⟨⟨by omega, by omega⟩, ⟨by show _ ≤ gfd G3 13 2 a - i; omega, by show gfd G3 13 2 a - i ≤ _; omega⟩, Or.inr (Or.inr h3.2.2.1), rfl, h3.1, h3.1, h0, by omega, by show 0 ≤ gfd G3 13 2 a - i; omega, by show i + (gfd G3 13 2 a - i) ≤ gln G3 (gfd G3 13 1 a); omega, by show (i + 1) + (gfd G3 13 2 a - i) ≤ gln G3 (gfd G3 13 1 a); omega, fun G4 e4 => ⟨?_, h0, ?_, ?_, fun G5 e5 => ⟨⟨by show _ ≤ gfd G3 13 2 a + 1; omega, by show gfd G3 13 2 a + 1 ≤ _; omega⟩, ?_, fun G6 e6 => ?_⟩⟩⟩
      · rw [e4]; exact h3.2.2.1
      · rw [e4]; show i < gln G3 (gfd G3 13 1 a); omega
      · rw [e4]; exact hv
      · rw [e5, e4]; exact ha
      · subst e4 e5 e6
        unfold addCap
        rw [if_neg (by omega)]
        exact LU.s0 (w := w) (ins_lu (G := sfd G3 13 0 a w) h ha hr (by show gfd G3 13 2 a < capOf G3 a; omega) h0 h1)
  · have h2' : gfd G3 13 2 a = capOf G3 a := h2
    exact i_A_grow0 ⟨ha, ⟨by show _ ≤ gfd G3 13 2 a + 1; omega, by show gfd G3 13 2 a + 1 ≤ _; omega⟩, ha, Call.to (ok_grow1 (G := sfd G3 13 0 a w) h ha hr h2 hsz (hroom h2').1 (hroom h2').2) (Nat.le_refl _) (Nat.le_refl _) (fun r G1 h9 => h9)⟩
  · have h2' : gfd G3 13 2 a = capOf G3 a := h2
    obtain ⟨l1, l2, l3, l4⟩ := GR.lu (G := sfd G3 13 0 a w) h ha hr h2 hsz hq
    have k1 := l1.2.2.2.2.2.2.1
    have l5 : gcl G1 q = 18 := by rw [hq.2.2.1, if_pos rfl]
    have l3' : gfd G1 13 2 a = gfd G3 13 2 a := l3
    have e5 : gfd G3 13 2 a < ncap (capOf G3 a) := by
      rcases hs2 with h2 | h2 <;> unfold ncap <;> split <;> omega
    have e6 : gln G1 q = ncap (capOf G3 a) := by rw [hq.2.2.2.2.1, if_pos rfl]; rfl
    have e7 : (eb E : Int) ≤ q := hq.2.1
    refine ⟨⟨by omega, by omega⟩, ⟨by show _ ≤ gfd G3 13 2 a - i; omega, by show gfd G3 13 2 a - i ≤ _; omega⟩, Or.inr (Or.inr l5), rfl, e7, e7, h0, by omega, by show 0 ≤ gfd G3 13 2 a - i; omega, by show i + (gfd G3 13 2 a - i) ≤ gln G1 q; omega, by show (i + 1) + (gfd G3 13 2 a - i) ≤ gln G1 q; omega, fun G4 e4 => ⟨?_, h0, ?_, ?_, fun G5 e8 => ⟨⟨by show _ ≤ gfd G3 13 2 a + 1; omega, by show gfd G3 13 2 a + 1 ≤ _; omega⟩, ?_, fun G6 e9 => ?_⟩⟩⟩
    · rw [e4]; exact l5
    · rw [e4]; show i < gln G1 q; omega
    · rw [e4]
      rcases hv with h9 | h9
      · exact Or.inl h9
      · refine Or.inr ?_
        show okE (gcl G1 v)
        rcases l1.2.1 v with h8 | h8
        · rw [h8]; exact h9
        · have h8' : gcl G3 v = 0 := h8.1
          unfold okE at h9; omega
    · rw [e8, e4]; exact l4
    · subst e4 e8 e9
      have := ins_lu (v := v) (i := i) l1.1 l4 l1.2.2.2.2.2.2.2 (by rw [k1, l3]; exact e5) h0 (by rw [l3]; exact h1)
      rw [l2, l3, k1, l1.2.2.2.2.2.1] at this
      unfold addCap
      rw [if_pos (by omega)]
      exact LU.s0 (w := w) (LU.trans (G := sfd G3 13 0 a w) ha l1 this)
theorem setD {L : List Int} {i j : Nat} {v : Int} (hi : i < L.length) : (L.set i v).getD j 0 = if j = i then v else L.getD j 0 := by
  rw [List.getD_eq_getElem?_getD, List.getElem?_set]
  by_cases h : i = j
  · rw [if_pos h, if_pos hi, if_pos h.symm]; rfl
  · rw [if_neg h, if_neg (fun h9 => h h9.symm), List.getD_eq_getElem?_getD]
theorem eraseD {L : List Int} {i j : Nat} : (L.eraseIdx i).getD j 0 = if j < i then L.getD j 0 else L.getD (j + 1) 0 := by
  rw [List.getD_eq_getElem?_getD, List.getElem?_eraseIdx]
  split <;> rw [List.getD_eq_getElem?_getD]
theorem ok_set {v i : Int} (h : LW E G) (ha : gcl G a = 14) (hr : gfd G 13 1 a ≠ -1) (hv : v = -1 ∨ okE (gcl G v)) (h0 : 0 ≤ i) (h1 : i < gfd G 13 2 a) :
    Ok E M_A_set [rv a, iv i, rv v] G 0 0 (fun r G' => r = alAt G a i ∧ LU E G G' a ((lst G a).set i.toNat v) (capOf G a)) (fun _ _ => False) := by
  have hl : ((lst G a).length : Int) = gfd G 13 2 a := (h.size ha hr).symm
  have ho := h.own ha hr h0 h1
  have hcap : capOf G a = gln G (gfd G 13 1 a) := rfl
  refine i_A_set ⟨ha, okp_O_checkIndex h0 h1, ha, i_A_elementData ⟨ha, ho.2.2.1, h0, by omega, rfl, rfl⟩, ha, ho.2.2.1, h0, by omega, hv, fun G1 e1 => ⟨rfl, ?_⟩⟩
  subst e1
  refine own_lu h ha hr ho.2.1 (fun x => rfl) (fun c k x hx => rfl) rfl (fun x => rfl) (fun x j hx => ?_) ?_ ?_ (fun j hj => ?_)
  · simp only [gcl_sfd, gln_sfd, gel_sfd, gfd_sfd, gcl_sel, gln_sel, gfd_sel, gel_sel, gcl_newo, gfd_newo, gln_newo, gel_newo, gcl_newa, gfd_newa, gln_newa, gel_newa, gcl_cpy, gln_cpy, gfd_cpy, gel_cpy]; rw [if_neg (fun h9 => hx h9.1)]
  · rw [List.length_set]; exact hl.symm
  · rw [List.length_set]; omega
  · rw [List.length_set] at hj
    rw [setD (by omega)]
    simp only [gcl_sfd, gln_sfd, gel_sfd, gfd_sfd, gcl_sel, gln_sel, gfd_sel, gel_sel, gcl_newo, gfd_newo, gln_newo, gel_newo, gcl_newa, gfd_newa, gln_newa, gel_newa, gcl_cpy, gln_cpy, gfd_cpy, gel_cpy]
    by_cases h2 : (j : Int) = i
    · rw [if_pos ⟨trivial, h2⟩, if_pos (by omega)]
    · rw [if_neg (fun h9 => h2 h9.2), if_neg (by omega), lstD h ha hr (by omega) (by omega)]; rfl
theorem ok_remove {i : Int} (h : LW E G) (ha : gcl G a = 14) (hr : gfd G 13 1 a ≠ -1) (h0 : 0 ≤ i) (h1 : i < gfd G 13 2 a) :
    Ok E M_A_remove [rv a, iv i] G 0 0 (fun r G' => r = alAt G a i ∧ LU E G G' a ((lst G a).eraseIdx i.toNat) (capOf G a)) (fun _ _ => False) := by
  have hl : ((lst G a).length : Int) = gfd G 13 2 a := (h.size ha hr).symm
  have ho := h.own ha hr h0 h1
  have hcap : capOf G a = gln G (gfd G 13 1 a) := rfl
  refine i_A_remove ⟨ha, okp_O_checkIndex h0 h1, ha, ho.2.2.1, h0, by omega, ha, Call.to (mc' := 0) (ms' := 0) (Q' := fun _ G' => LU E G G' a ((lst G a).eraseIdx i.toNat) (capOf G a)) ?_ (Nat.le_refl _) (Nat.le_refl _) fun r G1 hq => ⟨rfl, hq⟩⟩
  have hel : ((lst G a).eraseIdx i.toNat).length = (lst G a).length - 1 := by rw [List.length_eraseIdx, if_pos (by omega)]
  refine i_A_fastRemove ⟨ha, fun w hw => ⟨ha, fun G1 e1 => ?_⟩⟩
  subst e1
  refine ⟨ha, ⟨by show _ ≤ gfd G 13 2 a - 1; omega, by show gfd G 13 2 a - 1 ≤ _; omega⟩, fun h2 => ⟨ha, fun G2 e2 => ⟨by rw [e2]; exact ho.2.2.1, by show 0 ≤ gfd G 13 2 a - 1; omega, by rw [e2]; show gfd G 13 2 a - 1 < gln G (gfd G 13 1 a); omega, fun G3 e3 => ?_⟩⟩, fun h2 => ?_⟩
  · subst e2 e3
    have h2' : gfd G 13 2 a - 1 ≤ i := h2
    refine LU.s0 (w := w) (own_lu (G := sfd G 13 0 a w) h ha hr ho.2.1 (fun x => rfl) (fun c k x hx => ?_) rfl (fun x => rfl) (fun x j hx => ?_) ?_ (by show _ ≤ capOf G a; omega) (fun j hj => ?_))
    · simp only [gcl_sfd, gln_sfd, gel_sfd, gfd_sfd, gcl_sel, gln_sel, gfd_sel, gel_sel, gcl_newo, gfd_newo, gln_newo, gel_newo, gcl_newa, gfd_newa, gln_newa, gel_newa, gcl_cpy, gln_cpy, gfd_cpy, gel_cpy]; rw [if_neg (fun h9 => hx ⟨h9.1, h9.2.2⟩)]
    · have hx' : x ≠ gfd G 13 1 a := hx
      simp only [gcl_sfd, gln_sfd, gel_sfd, gfd_sfd, gcl_sel, gln_sel, gfd_sel, gel_sel, gcl_newo, gfd_newo, gln_newo, gel_newo, gcl_newa, gfd_newa, gln_newa, gel_newa, gcl_cpy, gln_cpy, gfd_cpy, gel_cpy]; rw [if_neg (fun h9 => hx' h9.1)]
    · show gfd (sfd _ 13 2 a (gfd G 13 2 a - 1)) 13 2 a = _
      rw [gfd_sfd, if_pos ⟨rfl, rfl, rfl⟩, hel]; omega
    · show gel (sel _ (gfd G 13 1 a) (gfd G 13 2 a - 1) (-1)) (gfd G 13 1 a) j = _
      rw [gel_sel, if_neg (fun h9 => by omega), eraseD, if_pos (by omega)]
      exact lstD h ha hr (by omega) (by omega)
  · have h2' : i < gfd G 13 2 a - 1 := h2
    refine ⟨⟨by omega, by omega⟩, ⟨by show _ ≤ gfd G 13 2 a - 1 - i; omega, by show gfd G 13 2 a - 1 - i ≤ _; omega⟩, Or.inr (Or.inr ho.2.2.1), rfl, ho.1, ho.1, by omega, h0, by show 0 ≤ gfd G 13 2 a - 1 - i; omega, by show i + 1 + (gfd G 13 2 a - 1 - i) ≤ gln G (gfd G 13 1 a); omega, by show i + (gfd G 13 2 a - 1 - i) ≤ gln G (gfd G 13 1 a); omega, fun G2 e2 => ⟨by rw [e2]; exact ha, fun G3 e3 => ⟨by rw [e3, e2]; exact ho.2.2.1, by show 0 ≤ gfd G 13 2 a - 1; omega, by rw [e3, e2]; show gfd G 13 2 a - 1 < gln G (gfd G 13 1 a); omega, fun G4 e4 => ?_⟩⟩⟩
    subst e2 e3 e4
    refine LU.s0 (w := w) (own_lu (G := sfd G 13 0 a w) h ha hr ho.2.1 (fun x => rfl) (fun c k x hx => ?_) rfl (fun x => rfl) (fun x j hx => ?_) ?_ (by show _ ≤ capOf G a; omega) (fun j hj => ?_))
    · simp only [gcl_sfd, gln_sfd, gel_sfd, gfd_sfd, gcl_sel, gln_sel, gfd_sel, gel_sel, gcl_newo, gfd_newo, gln_newo, gel_newo, gcl_newa, gfd_newa, gln_newa, gel_newa, gcl_cpy, gln_cpy, gfd_cpy, gel_cpy]; rw [if_neg (fun h9 => hx ⟨h9.1, h9.2.2⟩)]
    · have hx' : x ≠ gfd G 13 1 a := hx
      simp only [gcl_sfd, gln_sfd, gel_sfd, gfd_sfd, gcl_sel, gln_sel, gfd_sel, gel_sel, gcl_newo, gfd_newo, gln_newo, gel_newo, gcl_newa, gfd_newa, gln_newa, gel_newa, gcl_cpy, gln_cpy, gfd_cpy, gel_cpy]; rw [if_neg (fun h9 => hx' h9.1), if_neg (fun h9 => hx' h9.1)]
    · show gfd (sfd _ 13 2 a (gfd G 13 2 a - 1)) 13 2 a = _
      rw [gfd_sfd, if_pos ⟨rfl, rfl, rfl⟩, hel]; omega
    · show gel (sel (sfd (cpy (sfd G 13 0 a w) (gfd G 13 1 a) (gfd G 13 1 a) (i + 1) i (gfd G 13 2 a - 1 - i)) 13 2 a (gfd G 13 2 a - 1)) (gfd G 13 1 a) (gfd G 13 2 a - 1) (-1)) (gfd G 13 1 a) j = _
      rw [gel_sel, if_neg (fun h9 => by omega), gel_sfd, gel_cpy, gel_sfd, gel_sfd, eraseD]
      show _ = if j < i.toNat then (lst G a).getD j 0 else (lst G a).getD (j + 1) 0
      by_cases h3 : (j : Int) < i
      · rw [if_neg (by omega), if_pos (by omega), lstD h ha hr (by omega) (by omega)]; rfl
      · rw [if_pos ⟨rfl, by omega, by omega⟩, if_neg (by omega), lstD h ha hr (by omega) (by omega)]
        congr 1
        omega
theorem v_clear_loop {e n : Int} {c s : Nat} (k : Nat) : ∀ {G : Gt} {i : Int}, 0 ≤ i → (n - i).toNat ≤ k → n ≤ 30000000 → (0 < n → gcl G e = 18 ∧ n ≤ gln G e) →
    (∀ G', (∀ x, gcl G' x = gcl G x) → (∀ c k x, gfd G' c k x = gfd G c k x) → (∀ x, gln G' x = gln G x) → (∀ x j, (x ≠ e ∨ n ≤ 0) → gel G' x j = gel G x j) → Q 0 G') → V E M_A_clear 27 [none, some (rv e), some (iv n), some (iv i)] [] G c s Q X := by
  induction k with
  | zero =>
    intro G i h0 hk hn he hQ
    exact b_A_clear_27 ⟨fun _ => hQ G (fun _ => rfl) (fun _ _ _ => rfl) (fun _ => rfl) (fun _ _ _ => rfl), fun h => by omega⟩
  | succ k ih =>
    intro G i h0 hk hn he hQ
    refine b_A_clear_27 ⟨fun _ => hQ G (fun _ => rfl) (fun _ _ _ => rfl) (fun _ => rfl) (fun _ _ _ => rfl), fun h => ?_⟩
    have h9 := he (by omega)
    refine ⟨h9.1, h0, by omega, fun G1 e1 => ⟨⟨by omega, by omega⟩, ih (by omega) (by omega) hn (fun _ => by rw [e1]; exact h9) fun G2 q1 q2 q3 q4 => hQ G2 (fun x => (q1 x).trans (by rw [e1]; rfl)) (fun c k x => (q2 c k x).trans (by rw [e1]; rfl)) (fun x => (q3 x).trans (by rw [e1]; rfl)) fun x j hx => (q4 x j hx).trans ?_⟩⟩
    rw [e1, gel_sel, if_neg]
    intro h8
    rcases hx with h7 | h7
    · exact h7 h8.1
    · omega
theorem ok_clear (h : LW E G) (ha : gcl G a = 14) (hr : gfd G 13 1 a ≠ -1) :
    Ok E M_A_clear [rv a] G 0 0 (fun _ G' => LU E G G' a [] (capOf G a)) (fun _ _ => False) := by
  have h0 := (h.1 a ha hr).1
  refine i_A_clear ⟨ha, fun w hw => ⟨ha, fun G1 e1 => ⟨by rw [e1]; exact ha, by rw [e1]; exact ha, by rw [e1]; exact ha, fun G2 e2 => ?_⟩⟩⟩
  subst e1 e2
  refine v_clear_loop (gfd G 13 2 a).toNat (Int.le_refl 0) ?_ ?_ ?_ fun G' q1 q2 q3 q4 => ?_
  · show (gfd G 13 2 a - 0).toNat ≤ _; omega
  · show gfd G 13 2 a ≤ _
    rcases (h.1 a ha hr).2 with h2 | h2 <;> omega
  · intro h9
    have h9' : 0 < gfd G 13 2 a := h9
    have := h.ownE ha hr (Or.inl h9')
    exact ⟨this.2.2.1, this.2.2.2⟩
  · have q5 : gfd G' 13 1 a = gfd G 13 1 a := by rw [q2]; rfl
    have q6 : gfd G' 13 2 a = 0 := by rw [q2, gfd_sfd, if_pos ⟨rfl, rfl, rfl⟩]
    have q7 : capOf G' a = capOf G a := by show gln G' (gfd G' 13 1 a) = _; rw [q5, q3]; rfl
    refine LU.of h ha hr (fun x => Or.inl (q1 x)) (fun c k x hx => ?_) (fun x _ hx => ⟨q3 x, fun i => q4 x i (Or.inl hx)⟩) (q3 _) (by omega) (Or.inl q5) ?_ ?_ q7
    · rw [q2]; simp only [gcl_sfd, gln_sfd, gel_sfd, gfd_sfd, gcl_sel, gln_sel, gfd_sel, gel_sel, gcl_newo, gfd_newo, gln_newo, gel_newo, gcl_newa, gfd_newa, gln_newa, gel_newa, gcl_cpy, gln_cpy, gfd_cpy, gel_cpy]; rw [if_neg (fun h9 => hx ⟨h9.1, h9.2.2⟩), if_neg (fun h9 => hx ⟨h9.1, h9.2.2⟩)]
    · rw [q5, q6, q7]
      rcases (h.1 a ha hr).2 with h2 | h2
      · exact Or.inl ⟨h2.1, h2.1, rfl⟩
      · exact Or.inr ⟨h2.1, h2.2.1, by rw [q1]; exact h2.2.2.1, by omega, h2.2.2.2.2⟩
    · unfold lst; rw [q6]; rfl
theorem ok_init (h : LW E G) (ha : gcl G a = 14) (ha0 : 0 ≤ a) (hr : gfd G 13 1 a = -1) (hz : gfd G 13 2 a = 0) :
    Ok E M_A_init [rv a] G 0 0 (fun _ G' => LU E G G' a [] 0) (fun _ _ => False) := by
  refine i_A_init ⟨ha0, Call.to (mc' := 0) (ms' := 0) (Q' := fun _ G' => G' = sfd G 13 0 a 0) (i_B_init ⟨ha0, Call.to (mc' := 0) (ms' := 0) (Q' := fun _ G' => G' = G) (i_C_init ⟨ha0, rfl⟩) (Nat.le_refl _) (Nat.le_refl _) fun r G1 e1 => ⟨by rw [e1]; exact ha, fun G2 e2 => by rw [e2, e1]⟩⟩) (Nat.le_refl _) (Nat.le_refl _) fun r G1 e1 => ⟨by rw [e1]; exact ha, fun G2 e2 => ?_⟩⟩
  subst e1 e2
  have f1 : ∀ x, x ≠ a → ∀ k, gfd (sfd (sfd G 13 0 a 0) 13 1 a (eE E)) 13 k x = gfd G 13 k x := fun x hx k => by simp only [gcl_sfd, gln_sfd, gel_sfd, gfd_sfd, gcl_sel, gln_sel, gfd_sel, gel_sel, gcl_newo, gfd_newo, gln_newo, gel_newo, gcl_newa, gfd_newa, gln_newa, gel_newa, gcl_cpy, gln_cpy, gfd_cpy, gel_cpy]; rw [if_neg (fun h9 => hx h9.2.2), if_neg (fun h9 => hx h9.2.2)]
  have f2 : gfd (sfd (sfd G 13 0 a 0) 13 1 a (eE E)) 13 1 a = eE E := by rw [gfd_sfd, if_pos ⟨rfl, rfl, rfl⟩]
  have f3 : gfd (sfd (sfd G 13 0 a 0) 13 1 a (eE E)) 13 2 a = 0 := hz
  have f4 : capOf (sfd (sfd G 13 0 a 0) 13 1 a (eE E)) a = 0 := by unfold capOf; rw [f2]; exact h.2.2.2
  refine ⟨⟨fun x hx hy => ?_, fun x y hx hy hxy hz hw => ?_, h.2.2⟩, fun x => Or.inl rfl, fun c k x hc => ?_, fun x _ _ => ⟨rfl, fun _ => rfl⟩, fun x hx hxa hxr => ⟨lst_ext (f1 x hxa 2) fun i _ _ => ?_, ?_, by rw [f1 x hxa]; exact hxr⟩, ?_, f4, by rw [f2]; omega⟩
  · by_cases hxa : x = a
    · subst hxa
      rw [f2, f3]
      exact ⟨Int.le_refl 0, Or.inl ⟨rfl, rfl, h.2.2.2, h.2.2.1⟩⟩
    · unfold capOf
      rw [f1 x hxa] at hy ⊢
      rw [f1 x hxa]
      exact h.1 x hx hy
  · by_cases hxa : x = a
    · subst hxa; exact (hw f2).elim
    · by_cases hya : y = a
      · subst hya; rw [f2] at hxy; exact (hw hxy).elim
      · rw [f1 x hxa] at hxy hz hw
        rw [f1 y hya] at hxy
        exact h.2.1 x y hx hy hxy hz hw
  · simp only [gcl_sfd, gln_sfd, gel_sfd, gfd_sfd, gcl_sel, gln_sel, gfd_sel, gel_sel, gcl_newo, gfd_newo, gln_newo, gel_newo, gcl_newa, gfd_newa, gln_newa, gel_newa, gcl_cpy, gln_cpy, gfd_cpy, gel_cpy]; rw [if_neg (fun h9 => hc h9.1), if_neg (fun h9 => hc h9.1)]
  · unfold alAt; rw [f1 x hxa]; rfl
  · unfold capOf; rw [f1 x hxa]; rfl
  · unfold lst; rw [f3]; rfl
/-! what other writes leave of the lists -/
theorem lst_congr {x : Int} (h2 : gfd G' 13 2 x = gfd G 13 2 x) (h1 : gfd G' 13 1 x = gfd G 13 1 x) (h3 : ∀ i, gel G' (gfd G 13 1 x) i = gel G (gfd G 13 1 x) i) : lst G' x = lst G x := by
  refine lst_ext h2 fun i _ _ => ?_
  unfold alAt
  rw [h1]; exact h3 i
theorem LW.congr (h : LW E G) (g : ∀ x, gcl G' x = 14 → gfd G' 13 1 x ≠ -1 → gcl G x = 14 ∧ gfd G' 13 1 x = gfd G 13 1 x ∧ gfd G' 13 2 x = gfd G 13 2 x) (k : ∀ x, gcl G x = 18 → gcl G' x = 18 ∧ gln G' x = gln G x) : LW E G' := by
  have ke := k _ h.2.2.1
  refine ⟨fun x hx hy => ?_, fun x y hx hy hxy hz hw => ?_, ke.1, by rw [ke.2]; exact h.2.2.2⟩
  · obtain ⟨g1, g2, g3⟩ := g x hx hy
    rw [g2] at hy
    have h1 := h.1 x g1 hy
    rw [g2, g3]
    refine ⟨h1.1, ?_⟩
    rcases h1.2 with h9 | h9
    · exact Or.inl ⟨h9.1, h9.2.1, by rw [ke.2]; exact h9.2.2.1, ke.1⟩
    · have kx := k _ h9.2.2.1
      have e1 : capOf G' x = capOf G x := by show gln G' (gfd G' 13 1 x) = _; rw [g2, kx.2]; rfl
      rw [e1]
      exact Or.inr ⟨h9.1, h9.2.1, kx.1, h9.2.2.2⟩
  · obtain ⟨g1, g2, g3⟩ := g x hx hz
    obtain ⟨l1, l2, l3⟩ := g y hy (by rw [← hxy]; exact hz)
    rw [g2] at hxy hz hw
    rw [l2] at hxy
    exact h.2.1 x y g1 l1 hxy hz hw
theorem LW.sfd {c k : Nat} {b v : Int} (hc : c ≠ 13) (h : LW E G) : LW E (sfd G c k b v) :=
  h.congr (fun x hx hy => ⟨hx, by rw [gfd_sfd, if_neg (fun h9 => hc h9.1.symm)], by rw [gfd_sfd, if_neg (fun h9 => hc h9.1.symm)]⟩) (fun x hx => ⟨hx, rfl⟩)
theorem lst_sfd {c k : Nat} {b v x : Int} (hc : c ≠ 13) : lst (sfd G c k b v) x = lst G x :=
  lst_congr (by rw [gfd_sfd, if_neg (fun h9 => hc h9.1.symm)]) (by rw [gfd_sfd, if_neg (fun h9 => hc h9.1.symm)]) (fun _ => rfl)
theorem capOf_sfd {c k : Nat} {b v x : Int} (hc : c ≠ 13) : capOf (sfd G c k b v) x = capOf G x := by
  unfold capOf; rw [gfd_sfd, if_neg (fun h9 => hc h9.1.symm)]; rfl
theorem LW.sel {b i v : Int} (h : LW E G) : LW E (sel G b i v) := h.congr (fun x hx hy => ⟨hx, rfl, rfl⟩) (fun x hx => ⟨hx, rfl⟩)
theorem LW.arr {x : Int} (h : LW E G) (hx : gcl G x = 14) (hr : gfd G 13 1 x ≠ -1) : gcl G (gfd G 13 1 x) = 18 := by
  rcases (h.1 x hx hr).2 with h2 | h2
  · rw [h2.1]; exact h2.2.2.2
  · exact h2.2.2.1
theorem lst_sel {b i v x : Int} (h : LW E G) (hx : gcl G x = 14) (hr : gfd G 13 1 x ≠ -1) (hb : gcl G b ≠ 18) : lst (sel G b i v) x = lst G x :=
  lst_congr rfl rfl fun j => by rw [gel_sel, if_neg]; intro h9; rw [← h9.1] at hb; exact hb (h.arr hx hr)
theorem LW.newo {q : Int} {c : Nat} (h : LW E G) (hq : gcl G q = 0) : LW E (newo G q c) := by
  refine h.congr (fun x hx hy => ?_) (fun x hx => ⟨?_, rfl⟩)
  · by_cases hxq : x = q
    · subst hxq
      have hc : c = 13 := by
        by_cases h13 : c = 13
        · exact h13
        · rw [gcl_newo, if_pos rfl] at hx; omega
      subst hc
      rw [gfd_newo, if_pos ⟨rfl, rfl⟩] at hy
      exact (hy rfl).elim
    · rw [gcl_newo, if_neg hxq] at hx
      rw [gfd_newo, if_neg (fun h9 => hxq h9.1), gfd_newo, if_neg (fun h9 => hxq h9.1)]
      exact ⟨hx, rfl, rfl⟩
  · rw [gcl_newo, if_neg]
    · exact hx
    · intro h9; rw [h9] at hx; omega
theorem lst_newo {q x : Int} {c : Nat} (hx : x ≠ q) : lst (newo G q c) x = lst G x :=
  lst_congr (by rw [gfd_newo, if_neg (fun h9 => hx h9.1)]) (by rw [gfd_newo, if_neg (fun h9 => hx h9.1)]) (fun _ => rfl)
theorem LW.newa {q n : Int} {t : Nat} (h : LW E G) (hq : gcl G q = 0) (ht : t ≠ 14) : LW E (newa G q t n) := by
  have hne : ∀ x, gcl G x = 18 → x ≠ q := fun x hx h9 => by rw [h9] at hx; omega
  refine h.congr (fun x hx hy => ⟨?_, rfl, rfl⟩) (fun x hx => ⟨by rw [gcl_newa, if_neg (hne x hx)]; exact hx, by rw [gln_newa, if_neg (hne x hx)]⟩)
  rw [gcl_newa] at hx
  by_cases hxq : x = q
  · rw [if_pos hxq] at hx; exact (ht hx).elim
  · rw [if_neg hxq] at hx; exact hx
theorem lst_newa {q x n : Int} {t : Nat} (h : LW E G) (hx : gcl G x = 14) (hr : gfd G 13 1 x ≠ -1) (hq : gcl G q = 0) : lst (newa G q t n) x = lst G x :=
  lst_congr rfl rfl fun j => by rw [gel_newa, if_neg]; intro h9; have := h.arr hx hr; rw [h9] at this; omega
end C31
