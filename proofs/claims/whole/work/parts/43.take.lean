/-! the store takes a sample -/
section S43
variable {E : EE} {G G' G2 : Gt} {c s : Nat} {Q X : Int → Gt → Prop} {a st x q : Int} {zs : List Zt} {W : Nat → Nat → Int → Prop} {L A : Int → Prop}
theorem FR.sfdNew {k' c' : Nat} {b v : Int} (h : FR G G' W L A) (hb : gcl G b = 0) (hc : c' ≠ 13) : FR G (sfd G' c' k' b v) W L A :=
  h.andThen (FR.mSfd hc) (fun _ _ y hy h9 => (hy (by rw [h9.2.2]; exact hb)).elim) (fun _ _ h9 => h9.elim) (fun _ _ h9 => h9.elim)
theorem FR.sfdIn {k' c' : Nat} {b v : Int} (h : FR G G' W L A) (hb : W c' k' b) (hc : c' ≠ 13) : FR G (sfd G' c' k' b v) W L A :=
  h.andThen (FR.mSfd hc) (fun _ _ y hy h9 => by rw [h9.1, h9.2.1, h9.2.2]; exact hb) (fun _ _ h9 => h9.elim) (fun _ _ h9 => h9.elim)
theorem FR.luIn {l C : Int} {K : List Int} (h : FR G G' W L A) (hl : LU E G' G2 l K C) (hb : L l) : FR G G2 W L A :=
  h.andThen hl.fr (fun _ _ _ _ h9 => h9.elim) (fun _ _ h9 => by rw [h9]; exact hb) (fun _ _ h9 => h9.elim)
theorem FR.luNew {l C : Int} {K : List Int} (h : FR G G' W L A) (hl : LU E G' G2 l K C) (hb : gcl G l = 0) : FR G G2 W L A :=
  h.andThen hl.fr (fun _ _ _ _ h9 => h9.elim) (fun y hy h9 => (hy (by rw [h9]; exact hb)).elim) (fun _ _ h9 => h9.elim)
theorem FR.newoIn {q' : Int} {c' : Nat} (h : FR G G' W L A) (hq : gcl G' q' = 0) : FR G (newo G' q' c') W L A :=
  h.andThen (FR.mNewo hq) (fun _ _ _ _ h9 => h9.elim) (fun _ _ h9 => h9.elim) (fun _ _ h9 => h9.elim)
theorem FR.newaIn {q' n : Int} {t : Nat} (h : FR G G' W L A) (hL : LW E G') (hq : gcl G' q' = 0) : FR G (newa G' q' t n) W L A :=
  h.andThen (FR.mNewa hL hq) (fun _ _ _ _ h9 => h9.elim) (fun _ _ h9 => h9.elim) (fun _ _ h9 => h9.elim)
theorem FR.old {y : Int} (h : FR G G' W L A) (hy : gcl G' y = 0) : gcl G y = 0 := by
  by_cases h9 : gcl G y = 0
  · exact h9
  · rw [h.1 y h9] at hy; exact hy
theorem ONW.sfdT {k' c' : Nat} {b v : Int} (h : ONW G G') (hc : (c', k') ∉ oF) : ONW G (sfd G' c' k' b v) := h.trans (ONW.mSfd hc)
theorem ONW.newoT {q' : Int} {c' : Nat} (h : ONW G G') (hq : gcl G' q' = 0) (h0 : 0 ≤ q' := by omega) : ONW G (newo G' q' c') := h.trans (ONW.mNewo hq h0)
theorem ONW.luT {l C : Int} {K : List Int} (h : ONW G G') (hl : LU E G' G2 l K C) : ONW G G2 := h.trans hl.onw
def gC (G : Gt) (l : Int) : Nat := if gfd G 13 2 l = capOf G l then 1 else 0
def gS (G : Gt) (l : Int) : Nat := if gfd G 13 2 l = capOf G l then (ncap (capOf G l)).toNat else 0
theorem gRoom {l : Int} {bc bs : Nat} (h1 : gC G l ≤ bc) (h2 : gS G l ≤ bs) : addRoom G l bc bs := by
  intro h
  unfold gC at h1
  unfold gS at h2
  rw [if_pos h] at h1 h2
  exact ⟨h1, h2⟩
/-- nothing is owned anew that was there before -/
def OWG (G G' : Gt) : Prop := OW G' ∧ ∀ q, 0 ≤ q → gcl G q ≠ 0 → noref G q → noref G' q
theorem ONW.owg (h : ONW G G') (ho : OW G) : OWG G G' := ⟨ho.go h, fun _ h0 _ hn => hn.go h h0⟩
theorem OWG.trans (h : OWG G G') (h2 : OWG G' G2) (k : ∀ y, gcl G y ≠ 0 → gcl G' y ≠ 0) : OWG G G2 := ⟨h2.1, fun q h0 hq hn => h2.2 q h0 (k q hq) (h.2 q h0 hq hn)⟩
theorem chn.fr : ∀ {ks : List Int} {p : Int}, chn G p ks → (∀ k ∈ ks, gfd G' 5 5 k = gfd G 5 5 k) → chn G' p ks
  | [], _, h, _ => h
  | k :: ks, p, h, e => ⟨h.1, by rw [e k List.mem_cons_self]; exact chn.fr h.2 (fun y hy => e y (List.mem_cons_of_mem _ hy))⟩
theorem zHid_mem {r y : Int} : y ∈ zHid r zs ↔ ∃ z ∈ zs, z.1 = y ∧ qH z.2.1 = r := by
  unfold zHid
  rw [List.mem_map]
  constructor
  · rintro ⟨z, hz, rfl⟩
    have := List.mem_filter.mp hz
    exact ⟨z, this.1, rfl, of_decide_eq_true this.2⟩
  · rintro ⟨z, hz, rfl, h1⟩
    exact ⟨z, List.mem_filter.mpr ⟨hz, decide_eq_true h1⟩, rfl⟩
theorem zU_hid {r : Int} {z : Zt} (hz : z ∈ zU r zs) (h : qH z.2.1 ≠ 0) : ∃ y ∈ zs, y.1 = z.1 ∧ qH y.2.1 ≠ 0 := by
  unfold zU at hz
  by_cases e : r = 0
  · rw [if_pos e] at hz
    exact ⟨z, List.dropLast_subset _ hz, rfl, h⟩
  · rw [if_neg e] at hz
    obtain ⟨y, hy, rfl⟩ := List.mem_map.mp hz
    refine ⟨y, hy, rfl, fun h9 => h ?_⟩
    show (if qH y.2.1 = r then 0 else qH y.2.1) = 0
    rw [h9]; split <;> rfl
theorem RecR.fr : ∀ {gs rs : List Int} {zs : List Zt}, RecR G zs gs rs → (∀ g ∈ gs, gcl G g = 2 → gcl G' g = 2 ∧ gfd G' 1 0 g = gfd G 1 0 g ∧ gfd G' 1 1 g = gfd G 1 1 g) → (∀ z ∈ zs, qH z.2.1 ≠ 0 → gfd G' 5 5 z.1 = gfd G 5 5 z.1) → RecR G' zs gs rs
  | [], [], _, _, _, _ => trivial
  | g :: gs, r :: rs, zs, h, hg, hz => by
    obtain ⟨h1, h2, h3, h4⟩ := h
    obtain ⟨g1, g2, g3⟩ := hg g List.mem_cons_self h1
    refine ⟨g1, fun e => ?_, fun e => ?_, RecR.fr h4 (fun y hy => hg y (List.mem_cons_of_mem _ hy)) (fun z hz1 hz2 => ?_)⟩
    · rw [g2, g3]; exact h2 e
    · obtain ⟨k1, ks, k2, k3⟩ := h3 e
      refine ⟨by rw [g3]; exact k1, ks, k2, ?_⟩
      rw [g2]
      refine k3.fr fun k hk => ?_
      obtain ⟨z, z1, rfl, z3⟩ := zHid_mem.mp (k2.mem_iff.mp hk)
      exact hz z z1 (by rw [z3]; exact e)
    · obtain ⟨y, y1, y2, y3⟩ := zU_hid hz1 hz2
      rw [← y2]; exact hz y y1 y3
  | [], _ :: _, _, h, _, _ => h.elim
  | _ :: _, [], _, h, _, _ => h.elim
theorem RecR.cls : ∀ {gs rs : List Int} {zs : List Zt}, RecR G zs gs rs → ∀ g ∈ gs, gcl G g = 2
  | [], [], _, _, g, hg => by cases hg
  | g :: gs, r :: rs, zs, h, x, hx => by
    rcases List.mem_cons.mp hx with rfl | h9
    · exact h.1
    · exact RecR.cls h.2.2.2 x h9
  | [], _ :: _, _, h, _, _ => h.elim
  | _ :: _, [], _, h, _, _ => h.elim
theorem RecR.len : ∀ {gs rs : List Int} {zs : List Zt}, RecR G zs gs rs → gs.length = rs.length
  | [], [], _, _ => rfl
  | g :: gs, r :: rs, zs, h => by rw [List.length_cons, List.length_cons, RecR.len h.2.2.2]
  | [], _ :: _, _, h => h.elim
  | _ :: _, [], _, h => h.elim
theorem BSh.fr (h : BSh G a) (k : FR G G' W L A) (w : ∀ j, ¬ W 7 j a) : BSh G' a := by
  obtain ⟨h1, ⟨h2, h3⟩, ⟨h4, h5⟩, h6, h7⟩ := h
  have e : ∀ j, gfd G' 7 j a = gfd G 7 j a := fun j => k.2.1 7 j a (by omega) (by omega) (w j)
  have n2 := k.2.2.2 (gfd G 7 2 a) (by omega) (by omega)
  have n3 := k.2.2.2 (gfd G 7 3 a) (by omega) (by omega)
  refine ⟨by rw [k.1 a (by omega)]; exact h1, ⟨by rw [e, k.1 _ (by omega)]; exact h2, by rw [e, n2.1]; exact h3⟩, ⟨by rw [e, k.1 _ (by omega)]; exact h4, by rw [e, n3.1]; exact h5⟩, by rw [e]; exact h6, by rw [e]; exact h7⟩
theorem insL_mem {l : List Int} {i : Nat} {v y : Int} : y ∈ insL l i v ↔ y = v ∨ y ∈ l := by
  unfold insL
  rw [List.mem_append, List.mem_cons]
  constructor
  · rintro (h | h | h)
    · exact Or.inr (List.mem_of_mem_take h)
    · exact Or.inl h
    · exact Or.inr (List.mem_of_mem_drop h)
  · rintro (h | h)
    · exact Or.inr (Or.inl h)
    · rw [← List.take_append_drop i l] at h
      rcases List.mem_append.mp h with h9 | h9
      · exact Or.inl h9
      · exact Or.inr (Or.inr h9)
theorem insL_perm (l : List Int) (i : Nat) (v : Int) : (insL l i v).Perm (v :: l) := by
  unfold insL
  refine List.perm_middle.trans ?_
  rw [List.take_append_drop]
end S43
