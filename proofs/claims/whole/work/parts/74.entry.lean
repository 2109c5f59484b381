/-! the entries of an alert -/
section S74
variable {E : EE} {G G' G2 G0 : Gt} {Q X : Int → Gt → Prop} {a r q l u v n m p x fl ru now st : Int} {R : List (Int × Int)}
/-- labels, firing or not, since, last, told or not -/
abbrev En : Type := Int × Int × Int × Int × Int
def e0 : En := (0, 0, 0, 0, 0)
def EnH (G : Gt) (x : Int) (e : En) : Prop := gcl G x = 1 ∧ gfd G 0 0 x = e.1 ∧ gfd G 0 1 x = e.2.1 ∧ gfd G 0 3 x = e.2.2.1 ∧ gfd G 0 4 x = e.2.2.2.1 ∧ gfd G 0 2 x = e.2.2.2.2
def FnH (G : Gt) (fl : Int) (es : List En) : Prop := gcl G fl = 14 ∧ gfd G 13 1 fl ≠ -1 ∧ (lst G fl).length = es.length ∧ (lst G fl).Nodup ∧ ∀ i, i < es.length → EnH G ((lst G fl).getD i 0) (es.getD i e0)
def ascE (es : List En) : Prop := es.Pairwise (fun x y => x.1 < y.1)
def newE (now l : Int) : En := (l, 0, now, now, 0)
def insE (now l : Int) : List En → List En
  | [] => [newE now l]
  | e :: es => if e.1 < l then e :: insE now l es else if e.1 = l then e :: es else newE now l :: e :: es
def lkB (now : Int) (es : List En) (R : List (Int × Int)) : List En := R.foldl (fun es y => insE now y.1 es) es
theorem insE_at : ∀ {es : List En} {p : Nat}, p ≤ es.length → (∀ i, i < p → (es.getD i e0).1 < l) → (p < es.length → l ≤ (es.getD p e0).1) → insE now l es = if p < es.length ∧ (es.getD p e0).1 = l then es else es.take p ++ newE now l :: es.drop p
  | [], p, hp, _, _ => by
    have : p = 0 := by simpa using hp
    subst this; rfl
  | e :: es, 0, _, _, h2 => by
    have h := h2 (Nat.succ_pos _)
    have h' : l ≤ e.1 := h
    unfold insE
    rw [if_neg (by omega)]
    by_cases he : e.1 = l
    · rw [if_pos he, if_pos ⟨Nat.succ_pos _, he⟩]
    · rw [if_neg he, if_neg (fun h9 => he h9.2)]; rfl
  | e :: es, p + 1, hp, h1, h2 => by
    have h0 : e.1 < l := h1 0 (Nat.succ_pos p)
    unfold insE
    rw [if_pos h0, insE_at (es := es) (p := p) (by simpa using hp) (fun i hi => h1 (i + 1) (by omega)) (fun h => h2 (by simpa using h))]
    have e1 : (e :: es).getD (p + 1) e0 = es.getD p e0 := rfl
    rw [e1, List.length_cons]
    by_cases hc : p < es.length ∧ (es.getD p e0).1 = l
    · rw [if_pos hc, if_pos ⟨by omega, hc.2⟩]
    · rw [if_neg hc, if_neg (fun h9 => hc ⟨by omega, h9.2⟩)]; rfl
theorem insE_mem {e : En} : ∀ {es : List En}, e ∈ insE now l es → e ∈ es ∨ e = newE now l
  | [], h => Or.inr (List.mem_singleton.mp h)
  | x :: es, h => by
    unfold insE at h
    split at h
    · rcases List.mem_cons.mp h with h9 | h9
      · exact Or.inl (by rw [h9]; exact List.mem_cons_self)
      · rcases insE_mem h9 with h8 | h8
        · exact Or.inl (List.mem_cons_of_mem _ h8)
        · exact Or.inr h8
    · split at h
      · exact Or.inl h
      · rcases List.mem_cons.mp h with h9 | h9
        · exact Or.inr h9
        · exact Or.inl h9
theorem insE_asc : ∀ {es : List En}, ascE es → ascE (insE now l es)
  | [], _ => List.pairwise_singleton _ _
  | x :: es, h => by
    have h1 := List.pairwise_cons.mp h
    unfold insE
    split
    · rename_i hlt
      refine List.pairwise_cons.mpr ⟨fun y hy => ?_, insE_asc h1.2⟩
      rcases insE_mem hy with h9 | h9
      · exact h1.1 y h9
      · rw [h9]; exact hlt
    · split
      · exact h
      · rename_i h2 h3
        refine List.pairwise_cons.mpr ⟨fun y hy => ?_, h⟩
        rcases List.mem_cons.mp hy with h9 | h9
        · rw [h9]; show l < x.1; omega
        · have := h1.1 y h9; show l < y.1; omega
theorem insE_has : ∀ {es : List En}, ∃ e ∈ insE now l es, e.1 = l
  | [] => ⟨newE now l, List.mem_singleton.mpr rfl, rfl⟩
  | x :: es => by
    unfold insE
    split
    · obtain ⟨e, h1, h2⟩ := insE_has (es := es)
      exact ⟨e, List.mem_cons_of_mem _ h1, h2⟩
    · split
      · rename_i h; exact ⟨x, List.mem_cons_self, h⟩
      · exact ⟨newE now l, List.mem_cons_self, rfl⟩
theorem insE_sub {e : En} : ∀ {es : List En}, e ∈ es → e ∈ insE now l es
  | [], h => (List.not_mem_nil h).elim
  | x :: es, h => by
    unfold insE
    split
    · rcases List.mem_cons.mp h with h9 | h9
      · rw [h9]; exact List.mem_cons_self
      · exact List.mem_cons_of_mem _ (insE_sub h9)
    · split
      · exact h
      · exact List.mem_cons_of_mem _ h
theorem insE_len (es : List En) : es.length ≤ (insE now l es).length ∧ (insE now l es).length ≤ es.length + 1 := by
  induction es with
  | nil => exact ⟨Nat.zero_le _, Nat.le_refl _⟩
  | cons x es ih =>
    unfold insE
    split
    · rw [List.length_cons, List.length_cons]; omega
    · split
      · omega
      · simp only [List.length_cons]; omega
theorem lkB_len : ∀ (R : List (Int × Int)) (es : List En), es.length ≤ (lkB now es R).length
  | [], _ => Nat.le_refl _
  | y :: R, es => Nat.le_trans (insE_len (now := now) (l := y.1) es).1 (lkB_len R (insE now y.1 es))
/-- the alert, its list and a result, while entries are made -/
def AdS (E : EE) (G0 G : Gt) (ru fl r n : Int) (R : List (Int × Int)) (es : List En) : Prop :=
  LW E G ∧ ONW G0 G ∧ FR G0 G (fun c _ y => c = 0 ∧ y ∈ lst G0 fl) (fun y => y = fl) noA ∧ gcl G ru = 5 ∧ gfd G 4 4 ru = fl ∧ FnH G fl es ∧ RowH G r n R ∧ (∀ y ∈ lst G fl, y ∈ lst G0 fl ∨ gcl G0 y = 0)
theorem FnH.get {es' : List En} (hL : LW E G) (h : FnH G fl es') {i : Nat} (hi : i < es'.length) : OkP E M_A_get [rv fl, iv (i : Int)] G (alAt G fl (i : Int)) ∧ EnH G (alAt G fl (i : Int)) (es'.getD i e0) ∧ gfd G 13 2 fl = es'.length ∧ alAt G fl (i : Int) ∈ lst G fl := by
  obtain ⟨h1, h2, h3, h4, h5⟩ := h
  have e := alAt_get hL h1 h2 (i := i) (by omega)
  have hs := hL.size h1 h2
  rw [h3] at hs
  have hg := okp_get (E := E) hL h1 h2 (i := (i : Int)) (by omega) (by omega)
  refine ⟨hg, by rw [e]; exact h5 i hi, hs, by rw [e]; exact getD_mem (by omega)⟩
/-- what the making of entries costs -/
def adC (G : Gt) (fl : Int) (k : Nat) (n : Nat) : Nat := k + grC k (capOf G fl) n
def adS (G : Gt) (fl : Int) (k : Nat) (n : Nat) : Nat := 5 * k + grS k (capOf G fl) n
end S74
