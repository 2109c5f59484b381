/-! lists: what a list holds -/
section L31
variable {E : EE} {G G' G2 : Gt} {a : Int} {bc bs : Nat} {Q X : Int → Gt → Prop}
/-- what the list holds -/
def lst (G : Gt) (a : Int) : List Int := (List.range (gfd G 13 2 a).toNat).map fun i : Nat => alAt G a (i : Int)
def capOf (G : Gt) (a : Int) : Int := gln G (gfd G 13 1 a)
def ncap (c : Int) : Int := if c = 0 then 10 else c + c / 2
/-- the lists of a heap are in order: none, one with the shared empty array, or one with an array of its own -/
def LW (E : EE) (G : Gt) : Prop :=
  (∀ a, gcl G a = 14 → gfd G 13 1 a ≠ -1 → 0 ≤ gfd G 13 2 a ∧ ((gfd G 13 1 a = eE E ∧ gfd G 13 2 a = 0 ∧ gln G (eE E) = 0 ∧ gcl G (eE E) = 18) ∨
    ((eb E : Int) ≤ gfd G 13 1 a ∧ gfd G 13 1 a ≠ eE E ∧ gcl G (gfd G 13 1 a) = 18 ∧ gfd G 13 2 a ≤ capOf G a ∧ 10 ≤ capOf G a ∧ capOf G a ≤ 30000000))) ∧
  (∀ a b, gcl G a = 14 → gcl G b = 14 → gfd G 13 1 a = gfd G 13 1 b → gfd G 13 1 a ≠ -1 → gfd G 13 1 a ≠ eE E → a = b)
/-- the heap but for one list, which now holds L -/
def LU (E : EE) (G G' : Gt) (a : Int) (L : List Int) (C : Int) : Prop :=
  LW E G' ∧ (∀ x, gcl G' x = gcl G x ∨ (gcl G x = 0 ∧ gcl G' x = 18)) ∧ (∀ c k x, c ≠ 13 → gfd G' c k x = gfd G c k x) ∧
  (∀ x, gcl G x ≠ 0 → gcl G x ≠ 18 → gln G' x = gln G x ∧ ∀ i, gel G' x i = gel G x i) ∧
  (∀ x, gcl G x = 14 → x ≠ a → gfd G 13 1 x ≠ -1 → lst G' x = lst G x ∧ capOf G' x = capOf G x ∧ gfd G' 13 1 x ≠ -1) ∧
  lst G' a = L ∧ capOf G' a = C ∧ gfd G' 13 1 a ≠ -1
theorem lst_len : (lst G a).length = (gfd G 13 2 a).toNat := by unfold lst; rw [List.length_map, List.length_range]
theorem lst_at {a : Int} {i : Nat} (h : i < (gfd G 13 2 a).toNat) : (lst G a)[i]? = some (alAt G a i) := by
  unfold lst
  rw [List.getElem?_map, List.getElem?_range h]; rfl
theorem lst_ext {a b : Int} (h1 : gfd G' 13 2 b = gfd G 13 2 a) (h2 : ∀ i : Int, 0 ≤ i → i < gfd G 13 2 a → alAt G' b i = alAt G a i) : lst G' b = lst G a := by
  unfold lst
  rw [h1]
  refine List.map_congr_left fun i hi => h2 i (by omega) ?_
  have := List.mem_range.mp hi
  omega
theorem lst_of {a : Int} {L : List Int} (h1 : gfd G 13 2 a = L.length) (h2 : ∀ i : Nat, i < L.length → alAt G a i = L.getD i 0) : lst G a = L := by
  apply List.ext_getElem?
  intro i
  by_cases hi : i < L.length
  · rw [lst_at (by omega), h2 i hi, List.getD_eq_getElem?_getD, List.getElem?_eq_getElem hi]; rfl
  · rw [List.getElem?_eq_none (by rw [lst_len]; omega), List.getElem?_eq_none (by omega)]
theorem LW.size (h : LW E G) {a : Int} (ha : gcl G a = 14) (hr : gfd G 13 1 a ≠ -1) : gfd G 13 2 a = (lst G a).length := by
  rw [lst_len]
  have := (h.1 a ha hr).1
  omega
theorem LW.at (h : LW E G) {a : Int} (ha : gcl G a = 14) (hr : gfd G 13 1 a ≠ -1) {i : Int} (h0 : 0 ≤ i) : alAt G a i = (lst G a).getD i.toNat (alAt G a i) := by
  by_cases hi : i.toNat < (gfd G 13 2 a).toNat
  · rw [List.getD_eq_getElem?_getD, lst_at hi, show ((i.toNat : Nat) : Int) = i by omega]; rfl
  · rw [List.getD_eq_getElem?_getD, List.getElem?_eq_none (by rw [lst_len]; omega)]; rfl
/-- growing: the same list in a longer array -/
def GR (E : EE) (G G' : Gt) (a q : Int) : Prop :=
  gcl G q = 0 ∧ (eb E : Int) ≤ q ∧ (∀ x, gcl G' x = if x = q then 18 else gcl G x) ∧ (∀ c k x, gfd G' c k x = if c = 13 ∧ k = 1 ∧ x = a then q else gfd G c k x) ∧
  (∀ x, gln G' x = if x = q then ncap (capOf G a) else gln G x) ∧ (∀ x i, x ≠ q → gel G' x i = gel G x i) ∧ ∀ i, 0 ≤ i → i < gfd G 13 2 a → gel G' q i = alAt G a i
end L31
section C31
variable {E : EE} {G G' G2 : Gt} {bc bs : Nat} {Q X : Int → Gt → Prop} {a : Int}
theorem okp_size (ha : gcl G a = 14) : OkP E M_A_size [rv a] G (gfd G 13 2 a) := i_A_size ⟨ha, rfl, rfl⟩
theorem okp_isEmpty (ha : gcl G a = 14) : OkP E M_A_isEmpty [rv a] G (if gfd G 13 2 a = 0 then 1 else 0) := i_A_isEmpty ⟨ha, by split <;> simp, rfl, rfl⟩
theorem LW.own (h : LW E G) (ha : gcl G a = 14) (hr : gfd G 13 1 a ≠ -1) {i : Int} (h0 : 0 ≤ i) (h1 : i < gfd G 13 2 a) : (eb E : Int) ≤ gfd G 13 1 a ∧ gfd G 13 1 a ≠ eE E ∧ gcl G (gfd G 13 1 a) = 18 ∧ gfd G 13 2 a ≤ gln G (gfd G 13 1 a) ∧ 10 ≤ gln G (gfd G 13 1 a) ∧ gln G (gfd G 13 1 a) ≤ 30000000 := by
  rcases (h.1 a ha hr).2 with h2 | h2
  · omega
  · exact h2
theorem okp_get (h : LW E G) (ha : gcl G a = 14) (hr : gfd G 13 1 a ≠ -1) {i : Int} (h0 : 0 ≤ i) (h1 : i < gfd G 13 2 a) : OkP E M_A_get [rv a, iv i] G (alAt G a i) := by
  have ho := h.own ha hr h0 h1
  exact i_A_get ⟨ha, okp_O_checkIndex h0 h1, ha, i_A_elementData ⟨ha, ho.2.2.1, h0, by omega, rfl, rfl⟩, rfl, rfl⟩
theorem okp_newLength {o g p : Int} (h0 : 0 ≤ o) (h1 : o ≤ 100000000) (hg : 0 ≤ g) (hg1 : g ≤ 100000000) (hp : 0 ≤ p) (hp1 : p ≤ 100000000) (hs : 0 < o + max g p) : OkP E M_S_newLength [iv o, iv g, iv p] G (o + max g p) := by
  refine i_S_newLength ⟨⟨by omega, by omega⟩, fun h => ?_, fun h => ⟨fun h => ?_, fun h => ⟨rfl, rfl⟩⟩⟩ <;> omega
theorem ok_copyOf2 {e n : Int} (he : gcl G e = 18) (hb : (eb E : Int) ≤ e) (h0 : 0 ≤ n) (h1 : n ≤ 60000000) (hl : 0 ≤ gln G e) (hn : gln G e ≤ n) (hc : 1 ≤ bc) (hs : n.toNat ≤ bs) :
    Ok E M_R_copyOf2 [rv e, iv n] G bc bs (fun r G' => gcl G r = 0 ∧ (eb E : Int) ≤ r ∧ G' = cpy (newa G r 18 n) e r 0 0 (gln G e)) (fun _ _ => False) := by
  refine i_R_copyOf2 ⟨he, Call.to (mc' := bc) (ms' := bs) (Q' := fun r G' => gcl G r = 0 ∧ (eb E : Int) ≤ r ∧ G' = cpy (newa G r 18 n) e r 0 0 (gln G e)) (i_R_copyOf3 ⟨fun h => (h rfl).elim, fun _ => ⟨h0, h1, hc, hs, fun q hq hq1 G1 e1 => ?_⟩⟩) (Nat.le_refl _) (Nat.le_refl _) (fun r G1 h => h)⟩
  have hne : e ≠ q := by intro h9; rw [h9] at he; omega
  have e2 : gln G1 e = gln G e := by rw [e1, gln_newa, if_neg hne]
  have e3 : gln G1 q = n := by rw [e1, gln_newa, if_pos rfl]
  have e4 : gcl G1 e = 18 := by rw [e1, gcl_newa, if_neg hne]; exact he
  have e5 : gcl G1 q = 18 := by rw [e1, gcl_newa, if_pos rfl]
  have e6 : min (gln G1 e) n = gln G e := by rw [e2]; omega
  rw [e6, e4, e5, e2, e3]
  exact ⟨by omega, Or.inr (Or.inr rfl), rfl, hb, hq1, hl, by omega, by omega, fun G2 e7 => ⟨hq, hq1, by rw [e7, e1]⟩⟩
theorem ok_grow1 (h : LW E G) (ha : gcl G a = 14) (hr : gfd G 13 1 a ≠ -1) (hf : gfd G 13 2 a = capOf G a) (hsz : gfd G 13 2 a < 20000000) (hc : 1 ≤ bc) (hs : (ncap (capOf G a)).toNat ≤ bs) :
    Ok E M_A_grow1 [rv a, iv (gfd G 13 2 a + 1)] G bc bs (fun r G' => GR E G G' a r) (fun _ _ => False) := by
  refine i_A_grow1 ⟨ha, ?_, fun J hJ => ⟨fun h1 => hJ ?_, fun h1 => ⟨ha, fun h2 => ?_, fun h2 => hJ ?_⟩⟩⟩
  · rcases (h.1 a ha hr).2 with h2 | h2
    · rw [h2.1, h2.2.2.2]; omega
    · rw [h2.2.2.1]; omega
  · rcases (h.1 a ha hr).2 with h2 | h2
    · unfold capOf at hf; omega
    · have hf' := hf
      unfold capOf at hf hs h2
      have e1 : gfd G 13 2 a + 1 - gln G (gfd G 13 1 a) = 1 := by omega
      have e2 : max 1 (gln G (gfd G 13 1 a) / 2) = gln G (gfd G 13 1 a) / 2 := by omega
      have e3 : ncap (gln G (gfd G 13 1 a)) = gln G (gfd G 13 1 a) + gln G (gfd G 13 1 a) / 2 := by unfold ncap; rw [if_neg (by omega)]
      rw [e3] at hs
      rw [e1, shr1 (by omega) (by omega)]
      refine ⟨⟨by omega, by omega⟩, Call.pure (v := gln G (gfd G 13 1 a) + gln G (gfd G 13 1 a) / 2) ?_ ⟨ha, Call.to (ok_copyOf2 h2.2.2.1 h2.1 (by omega) (by omega) (by omega) (by omega) hc hs) (Nat.le_refl _) (Nat.le_refl _) fun q G1 hq => ?_⟩⟩
      · have := okp_newLength (E := E) (G := G) (o := gln G (gfd G 13 1 a)) (g := 1) (p := gln G (gfd G 13 1 a) / 2) (by omega) (by omega) (by omega) (by omega) (by omega) (by omega) (by omega)
        rw [e2] at this; exact this
      · obtain ⟨hq, hb, e4⟩ := hq
        have hne : a ≠ q := by intro h9; rw [h9] at ha; omega
        have hne2 : gfd G 13 1 a ≠ q := by intro h9; rw [h9] at h2; omega
        subst e4
        refine ⟨by simp only [gcl_sfd, gln_sfd, gel_sfd, gfd_sfd, gcl_sel, gln_sel, gfd_sel, gel_sel, gcl_newo, gfd_newo, gln_newo, gel_newo, gcl_newa, gfd_newa, gln_newa, gel_newa, gcl_cpy, gln_cpy, gfd_cpy, gel_cpy]; rw [if_neg hne]; exact ha, fun G3 e5 => ?_⟩
        subst e5
        refine ⟨hq, hb, fun x => by simp only [gcl_sfd, gln_sfd, gel_sfd, gfd_sfd, gcl_sel, gln_sel, gfd_sel, gel_sel, gcl_newo, gfd_newo, gln_newo, gel_newo, gcl_newa, gfd_newa, gln_newa, gel_newa, gcl_cpy, gln_cpy, gfd_cpy, gel_cpy], fun c k x => by simp only [gcl_sfd, gln_sfd, gel_sfd, gfd_sfd, gcl_sel, gln_sel, gfd_sel, gel_sel, gcl_newo, gfd_newo, gln_newo, gel_newo, gcl_newa, gfd_newa, gln_newa, gel_newa, gcl_cpy, gln_cpy, gfd_cpy, gel_cpy], fun x => by simp only [gcl_sfd, gln_sfd, gel_sfd, gfd_sfd, gcl_sel, gln_sel, gfd_sel, gel_sel, gcl_newo, gfd_newo, gln_newo, gel_newo, gcl_newa, gfd_newa, gln_newa, gel_newa, gcl_cpy, gln_cpy, gfd_cpy, gel_cpy]; unfold capOf; rw [e3], fun x i hx => ?_, fun i h3 h4 => ?_⟩
        · simp only [gcl_sfd, gln_sfd, gel_sfd, gfd_sfd, gcl_sel, gln_sel, gfd_sel, gel_sel, gcl_newo, gfd_newo, gln_newo, gel_newo, gcl_newa, gfd_newa, gln_newa, gel_newa, gcl_cpy, gln_cpy, gfd_cpy, gel_cpy]
          rw [if_neg (fun h9 => hx h9.1), if_neg hx]
        · simp only [gcl_sfd, gln_sfd, gel_sfd, gfd_sfd, gcl_sel, gln_sel, gfd_sel, gel_sel, gcl_newo, gfd_newo, gln_newo, gel_newo, gcl_newa, gfd_newa, gln_newa, gel_newa, gcl_cpy, gln_cpy, gfd_cpy, gel_cpy]
          rw [if_pos ⟨trivial, h3, by omega⟩, if_neg hne2]
          unfold alAt
          rw [show (0 : Int) + (i - 0) = i by omega]
  · unfold capOf at hf hs
    have e0 : gln G (gfd G 13 1 a) = 0 := by
      have := (h.1 a ha hr).1
      omega
    have e1 : max 10 (gfd G 13 2 a + 1) = 10 := by omega
    rw [e1]
    have e2 : ncap (gln G (gfd G 13 1 a)) = 10 := by unfold ncap; rw [if_pos e0]
    rw [e2] at hs
    refine ⟨by omega, by omega, hc, by omega, fun q hq hb G1 e3 => ?_⟩
    have hne : a ≠ q := by intro h9; rw [h9] at ha; omega
    refine ⟨by rw [e3, gcl_newa, if_neg hne]; exact ha, fun G3 e4 => ?_⟩
    subst e3 e4
    refine ⟨hq, hb, fun x => by simp only [gcl_sfd, gln_sfd, gel_sfd, gfd_sfd, gcl_sel, gln_sel, gfd_sel, gel_sel, gcl_newo, gfd_newo, gln_newo, gel_newo, gcl_newa, gfd_newa, gln_newa, gel_newa, gcl_cpy, gln_cpy, gfd_cpy, gel_cpy], fun c k x => by simp only [gcl_sfd, gln_sfd, gel_sfd, gfd_sfd, gcl_sel, gln_sel, gfd_sel, gel_sel, gcl_newo, gfd_newo, gln_newo, gel_newo, gcl_newa, gfd_newa, gln_newa, gel_newa, gcl_cpy, gln_cpy, gfd_cpy, gel_cpy], fun x => by simp only [gcl_sfd, gln_sfd, gel_sfd, gfd_sfd, gcl_sel, gln_sel, gfd_sel, gel_sel, gcl_newo, gfd_newo, gln_newo, gel_newo, gcl_newa, gfd_newa, gln_newa, gel_newa, gcl_cpy, gln_cpy, gfd_cpy, gel_cpy]; unfold capOf; rw [e2], fun x i hx => by simp only [gcl_sfd, gln_sfd, gel_sfd, gfd_sfd, gcl_sel, gln_sel, gfd_sel, gel_sel, gcl_newo, gfd_newo, gln_newo, gel_newo, gcl_newa, gfd_newa, gln_newa, gel_newa, gcl_cpy, gln_cpy, gfd_cpy, gel_cpy]; rw [if_neg hx], fun i h3 h4 => by omega⟩
  · rcases (h.1 a ha hr).2 with h3 | h3
    · exact (h2 h3.1).elim
    · unfold capOf at *; omega
/-- what an update of one list leaves -/
theorem LU.of (h : LW E G) (ha : gcl G a = 14) (hr : gfd G 13 1 a ≠ -1) (hg : ∀ x, gcl G' x = gcl G x ∨ (gcl G x = 0 ∧ gcl G' x = 18)) (hf : ∀ c k x, ¬ (c = 13 ∧ x = a) → gfd G' c k x = gfd G c k x)
    (hn : ∀ x, gcl G x ≠ 0 → x ≠ gfd G 13 1 a → gln G' x = gln G x ∧ ∀ i, gel G' x i = gel G x i) (hE : gln G' (eE E) = gln G (eE E))
    (h0 : 0 ≤ gfd G' 13 2 a) (he : gfd G' 13 1 a = gfd G 13 1 a ∨ gcl G (gfd G' 13 1 a) = 0)
    (ho : (gfd G' 13 1 a = eE E ∧ gfd G 13 1 a = eE E ∧ gfd G' 13 2 a = 0) ∨ ((eb E : Int) ≤ gfd G' 13 1 a ∧ gfd G' 13 1 a ≠ eE E ∧ gcl G' (gfd G' 13 1 a) = 18 ∧ gfd G' 13 2 a ≤ capOf G' a ∧ 10 ≤ capOf G' a ∧ capOf G' a ≤ 30000000)) {L : List Int} (hL : lst G' a = L) : LU E G G' a L (capOf G' a) := by
  have g1 : ∀ x, gcl G' x = 14 → gcl G x = 14 := fun x hx => by rcases hg x with h9 | h9 <;> omega
  have g2 : ∀ x, gcl G x ≠ 0 → gcl G' x = gcl G x := fun x hx => by rcases hg x with h9 | h9 <;> omega
  have fo : ∀ x, x ≠ a → ∀ k, gfd G' 13 k x = gfd G 13 k x := fun x hx k => hf 13 k x (fun h9 => hx h9.2)
  have arr : ∀ x, gcl G x = 14 → gfd G 13 1 x ≠ -1 → gcl G (gfd G 13 1 x) = 18 := fun x hx hy => by
    rcases (h.1 x hx hy).2 with h9 | h9
    · rw [h9.1]; exact h9.2.2.2
    · exact h9.2.2.1
  have eEs : ∀ x, gcl G x = 14 → gfd G 13 1 x ≠ -1 → gfd G 13 1 x = eE E → gln G (eE E) = 0 ∧ gcl G (eE E) = 18 ∧ gfd G 13 2 x = 0 := fun x hx hy hz => by
    rcases (h.1 x hx hy).2 with h9 | h9
    · exact ⟨h9.2.2.1, h9.2.2.2, h9.2.1⟩
    · exact (h9.2.1 hz).elim
  have sep : ∀ x, gcl G x = 14 → x ≠ a → gfd G 13 1 x ≠ -1 → gfd G 13 1 x ≠ eE E → gfd G 13 1 x ≠ gfd G 13 1 a := fun x hx hxa hy hz h9 => hxa (h.2 x a hx ha h9 hy hz)
  refine ⟨⟨fun x hx hy => ?_, fun x y hx hy hxy hz hw => ?_⟩, hg, fun c k x hc => hf c k x (fun h9 => hc h9.1), fun x hx hx8 => hn x hx (fun h9 => hx8 (by rw [h9]; exact arr a ha hr)), fun x hx hxa hxr => ?_, hL, rfl, ?_⟩
  · by_cases hxa : x = a
    · subst hxa
      refine ⟨h0, ?_⟩
      rcases ho with h9 | h9
      · have := eEs x ha hr h9.2.1
        exact Or.inl ⟨h9.1, h9.2.2, by rw [hE]; exact this.1, by rw [g2 _ (by omega)]; exact this.2.1⟩
      · exact Or.inr h9
    · rw [fo x hxa] at hy
      rw [fo x hxa, fo x hxa]
      have h1 := h.1 x (g1 x hx) hy
      refine ⟨h1.1, ?_⟩
      rcases h1.2 with h9 | h9
      · exact Or.inl ⟨h9.1, h9.2.1, by rw [hE]; exact h9.2.2.1, by rw [g2 _ (by omega)]; exact h9.2.2.2⟩
      · have e1 : capOf G' x = capOf G x := by
          unfold capOf
          rw [fo x hxa]
          exact (hn _ (by omega) (sep x (g1 x hx) hxa hy h9.2.1)).1
        rw [e1, g2 (gfd G 13 1 x) (by omega)]
        exact Or.inr h9
  · by_cases hxa : x = a
    · by_cases hya : y = a
      · rw [hxa, hya]
      · subst hxa
        rw [fo y hya] at hxy
        exfalso
        rcases he with h9 | h9
        · rw [h9] at hxy hz hw
          exact hya (h.2 x y (g1 x hx) (g1 y hy) hxy hz hw).symm
        · have := arr y (g1 y hy) (by rw [← hxy]; exact hz)
          rw [← hxy] at this; omega
    · by_cases hya : y = a
      · subst hya
        rw [fo x hxa] at hxy hz hw
        exfalso
        rcases he with h9 | h9
        · rw [h9] at hxy
          exact hxa (h.2 x y (g1 x hx) (g1 y hy) hxy hz hw)
        · have := arr x (g1 x hx) hz
          rw [hxy] at this; omega
      · rw [fo x hxa] at hxy hz hw
        rw [fo y hya] at hxy
        exact h.2 x y (g1 x hx) (g1 y hy) hxy hz hw
  · have e0 : ∀ k, gfd G' 13 k x = gfd G 13 k x := fo x hxa
    have a8 := arr x hx hxr
    by_cases hy : gfd G 13 1 x = gfd G 13 1 a
    · by_cases hz : gfd G 13 1 x = eE E
      · have := eEs x hx hxr hz
        refine ⟨by unfold lst; rw [e0, this.2.2]; rfl, ?_, by rw [e0]; exact hxr⟩
        unfold capOf
        rw [e0, hz]; exact hE
      · exact (hxa (h.2 x a hx ha hy hxr hz)).elim
    · refine ⟨lst_ext (e0 2) fun i h1 h2 => ?_, ?_, by rw [e0]; exact hxr⟩
      · unfold alAt
        rw [e0]
        exact (hn _ (by omega) hy).2 i
      · unfold capOf
        rw [e0]
        exact (hn _ (by omega) hy).1
  · rcases ho with h9 | h9
    · rw [h9.1, ← h9.2.1]; exact hr
    · omega
end C31
