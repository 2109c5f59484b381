/-! the samples as a list: (labels, time, value, hidden by), and what calls do to it -/
section P41
abbrev Sm4 : Type := Int × Int × Int × Int
def qC (q : Sm4) : Int := q.1
def qT (q : Sm4) : Int := q.2.1
def qV (q : Sm4) : Int := q.2.2.1
def qH (q : Sm4) : Int := q.2.2.2
def unh (r : Int) (q : Sm4) : Sm4 := (qC q, qT q, qV q, if qH q = r then 0 else qH q)
def hid (e : Int) (q : Sm4) : Sm4 := (qC q, qT q, qV q, e)
/-- the samples without the last record -/
def undo (r : Int) (s : List Sm4) : List Sm4 := if r = 0 then s.dropLast else s.map (unh r)
def own (c : Int) (q : Sm4) : Bool := decide (qH q = 0 ∧ qC q = c)
def likeP (z : Int) (q : Sm4) : Bool := decide (qH q = 0 ∧ Int.tdiv (qC q) 100 = z)
def likeN (z : Int) (s : List Sm4) : Nat := s.countP (likeP z)
def Basic (s : List Sm4) : Prop := s.Pairwise (fun p q => qH p = 0 → qH q = 0 → qC p = qC q → qT p ≠ qT q) ∧ ∀ z, likeN z s ≤ 60
/-- the samples are in order, and without any of the last records as well -/
def Good : List Int → List Sm4 → Prop
  | [], s => Basic s
  | r :: rs, s => Basic s ∧ (r = 0 → ∃ s0 q, s = s0 ++ [q] ∧ qH q = 0) ∧ Good rs (undo r s)
theorem Good.basic {rs : List Int} {s : List Sm4} (h : Good rs s) : Basic s := by
  cases rs with
  | nil => exact h
  | cons r rs => exact h.1
theorem Good.write {rs : List Int} {s : List Sm4} {q : Sm4} (h : Good rs s) (hb : Basic (s ++ [q])) (hq : qH q = 0) : Good (0 :: rs) (s ++ [q]) := by
  refine ⟨hb, fun _ => ⟨s, q, rfl, hq⟩, ?_⟩
  unfold undo
  rw [if_pos rfl, List.dropLast_concat]
  exact h
/-- hides what is seen and chosen -/
def hides (e : Int) (P : Sm4 → Bool) (q : Sm4) : Sm4 := if qH q = 0 ∧ P q = true then hid e q else q
theorem hides_C (e : Int) (P : Sm4 → Bool) (q : Sm4) : qC (hides e P q) = qC q := by unfold hides; split <;> rfl
theorem hides_T (e : Int) (P : Sm4 → Bool) (q : Sm4) : qT (hides e P q) = qT q := by unfold hides; split <;> rfl
theorem hides_V (e : Int) (P : Sm4 → Bool) (q : Sm4) : qV (hides e P q) = qV q := by unfold hides; split <;> rfl
theorem hides_H {e : Int} (he : e ≠ 0) (P : Sm4 → Bool) (q : Sm4) : qH (hides e P q) = 0 ↔ qH q = 0 ∧ P q = false := by
  unfold hides
  split
  · rename_i h
    constructor
    · intro h9; exact (he h9).elim
    · intro h9; rw [h.2] at h9; exact absurd h9.2 (by decide)
  · rename_i h
    constructor
    · intro h9
      refine ⟨h9, ?_⟩
      cases hP : P q
      · rfl
      · exact (h ⟨h9, hP⟩).elim
    · exact fun h9 => h9.1
theorem unh_hides {e : Int} {P : Sm4 → Bool} {q : Sm4} (hq : qH q ≠ e) : unh e (hides e P q) = q := by
  unfold hides
  split
  · rename_i h
    show (qC q, qT q, qV q, if e = e then 0 else e) = q
    rw [if_pos rfl, ← h.1]; rfl
  · show (qC q, qT q, qV q, if qH q = e then 0 else qH q) = q
    rw [if_neg hq]; rfl
theorem undo_hides {e : Int} {P : Sm4 → Bool} {s : List Sm4} (he : e ≠ 0) (hs : ∀ q ∈ s, qH q ≠ e) : undo e (s.map (hides e P)) = s := by
  unfold undo
  rw [if_neg he, List.map_map]
  conv => rhs; rw [← List.map_id s]
  exact List.map_congr_left fun q hq => unh_hides (hs q hq)
theorem Basic.hides {e : Int} {P : Sm4 → Bool} {s : List Sm4} (he : e ≠ 0) (h : Basic s) : Basic (s.map (hides e P)) := by
  refine ⟨List.pairwise_map.mpr (h.1.imp fun {p q} h9 a1 a2 a3 => ?_), fun z => ?_⟩
  · rw [hides_C, hides_C] at a3
    rw [hides_T, hides_T]
    exact h9 ((hides_H he P p).mp a1).1 ((hides_H he P q).mp a2).1 a3
  · refine Nat.le_trans ?_ (h.2 z)
    unfold likeN
    rw [List.countP_map]
    refine List.countP_mono_left fun q _ h9 => ?_
    have h8 := of_decide_eq_true h9
    rw [hides_C, hides_H he] at h8
    exact decide_eq_true ⟨h8.1.1, h8.2⟩
theorem Good.erase {rs : List Int} {s : List Sm4} {e : Int} {P : Sm4 → Bool} (h : Good rs s) (he : e ≠ 0) (hs : ∀ q ∈ s, qH q ≠ e) : Good (e :: rs) (s.map (hides e P)) := by
  refine ⟨h.basic.hides he, fun h9 => (he h9).elim, ?_⟩
  rw [undo_hides he hs]; exact h
theorem Basic.sub {s s' : List Sm4} (hs : s'.Sublist s) (h : Basic s) : Basic s' := ⟨h.1.sublist hs, fun z => Nat.le_trans (hs.countP_le) (h.2 z)⟩
/-- what a sample is by those that are seen -/
def jdg (s : List Sm4) (c t v : Int) : Int :=
  match s.find? (fun q => own c q && decide (qT q = t)) with
  | some q => if qV q = v then 2 else 3
  | none => if s.any (fun q => own c q && decide (t < qT q - 100)) then 4 else 0
/-- what a writing answers -/
def tkA (ser : List Int) (s : List Sm4) (c t v : Int) : Int :=
  if c ∉ ser ∧ 12 ≤ ser.length then 1
  else if jdg s c t v ≠ 0 then jdg s c t v
  else if 60 ≤ likeN (Int.tdiv c 100) s then 5 else 0
theorem own_iff {c : Int} {q : Sm4} : own c q = true ↔ qH q = 0 ∧ qC q = c := by unfold own; exact decide_eq_true_iff
theorem jdg_cases {s : List Sm4} {c t v : Int} : (jdg s c t v = 0 ↔ (∀ q ∈ s, qH q = 0 → qC q = c → qT q ≠ t) ∧ ∀ q ∈ s, qH q = 0 → qC q = c → qT q - 100 ≤ t) := by
  unfold jdg
  cases hf : s.find? (fun q => own c q && decide (qT q = t)) with
  | some q =>
    have hm := List.mem_of_find?_eq_some hf
    have hp := List.find?_some hf
    simp only [Bool.and_eq_true, decide_eq_true_eq, own_iff] at hp
    constructor
    · intro h; exfalso; revert h; show (if qV q = v then (2 : Int) else 3) = 0 → False; split <;> simp
    · intro h; exact (h.1 q hm hp.1.1 hp.1.2 hp.2).elim
  | none =>
    have hn := List.find?_eq_none.mp hf
    simp only [Bool.and_eq_true, decide_eq_true_eq, own_iff] at hn
    show (if s.any (fun q => own c q && decide (t < qT q - 100)) = true then (4 : Int) else 0) = 0 ↔ _
    by_cases ha : s.any (fun q => own c q && decide (t < qT q - 100)) = true
    · rw [if_pos ha]
      obtain ⟨q, hq, h1⟩ := List.any_eq_true.mp ha
      simp only [Bool.and_eq_true, decide_eq_true_eq, own_iff] at h1
      constructor
      · intro h9; exact absurd h9 (by decide)
      · intro h9; have := h9.2 q hq h1.1.1 h1.1.2; omega
    · rw [if_neg ha]
      refine ⟨fun _ => ⟨fun q hq a1 a2 a3 => hn q hq ⟨⟨a1, a2⟩, a3⟩, fun q hq a1 a2 => ?_⟩, fun _ => rfl⟩
      refine Int.not_lt.mp fun h9 => ha ?_
      exact List.any_eq_true.mpr ⟨q, hq, by simp only [Bool.and_eq_true, decide_eq_true_eq, own_iff]; exact ⟨⟨a1, a2⟩, h9⟩⟩
theorem likeN_app (z : Int) (s : List Sm4) (q : Sm4) : likeN z (s ++ [q]) = likeN z s + if likeP z q = true then 1 else 0 := by
  unfold likeN
  rw [List.countP_append, List.countP_singleton]
theorem Basic.write {s : List Sm4} {c t v : Int} (h : Basic s) (hj : jdg s c t v = 0) (hl : likeN (Int.tdiv c 100) s < 60) : Basic (s ++ [(c, t, v, 0)]) := by
  refine ⟨List.pairwise_append.mpr ⟨h.1, List.pairwise_singleton _ _, fun p hp q hq a1 a2 a3 => ?_⟩, fun z => ?_⟩
  · rw [List.mem_singleton.mp hq] at a3 ⊢
    exact (jdg_cases.mp hj).1 p hp a1 a3
  · rw [likeN_app]
    have := h.2 z
    split
    · rename_i h9
      have h8 : Int.tdiv c 100 = z := (of_decide_eq_true h9).2
      rw [← h8]; omega
    · omega
/-- how many are seen -/
def visN (s : List Sm4) : Nat := s.countP (fun q => decide (qH q = 0))
theorem pw_uniq {s : List Sm4} (h : Basic s) {p q : Sm4} (hp : p ∈ s) (hq : q ∈ s) (a1 : qH p = 0) (a2 : qH q = 0) (a3 : qC p = qC q) (a4 : qT p = qT q) : p = q := by
  obtain ⟨i, hi, rfl⟩ := List.getElem_of_mem hp
  obtain ⟨j, hj, rfl⟩ := List.getElem_of_mem hq
  have hpw := List.pairwise_iff_getElem.mp h.1
  rcases Nat.lt_trichotomy i j with h1 | h1 | h1
  · exact (hpw i j hi hj h1 a1 a2 a3 a4).elim
  · subst h1; rfl
  · exact (hpw j i hj hi h1 a2 a1 a3.symm a4.symm).elim
end P41
