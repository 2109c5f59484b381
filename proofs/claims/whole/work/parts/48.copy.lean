/-! the copy: how many it doesn't have, and its mending -/
section S48
variable {E : EE} {G G' G2 : Gt} {c s : Nat} {Q X : Int → Gt → Prop} {a st x q l t v : Int} {zs zs' : List Zt}
variable {ser : List Int} {smp : List (Sm4 × Int)} {rs : List Int} {dn wr cr er : Int}
def ncN (G : Gt) (L : List Int) : Nat := L.countP (fun x => decide (gfd G 5 4 x = 0))
def ncA (G : Gt) (L : List Int) : Nat := (L.map fun a => ncN G (seenL G a)).sum
theorem v_cncIn {i : Nat} (hL : LW E G) (h : SR G a) : ∀ (j k : Nat) (n : Int), k + j = (seenL G a).length → 0 ≤ n → n + j ≤ 10000 → i ≤ 1000 → V E M_X8_countNotCopied 4 [some (rv st), some (iv (n + ncN G ((seenL G a).drop k))), some (iv ((i : Int) + 1)), none, none] [] G c s Q X →
    V E M_X8_countNotCopied 33 [some (rv st), some (iv n), some (iv (i : Int)), some (rv (gfd G 7 1 a)), some (iv (k : Int))] [] G c s Q X := by
  have hsz : gfd G 13 2 (gfd G 7 1 a) = (seenL G a).length := hL.size h.2.1 h.2.2.1
  have h60 := h.2.2.2.2.2
  intro j
  induction j with
  | zero =>
    intro k n hk h0 h1 hi hc
    rw [List.drop_eq_nil_of_le (by omega), show n + ((ncN G [] : Nat) : Int) = n by show n + ((0 : Nat) : Int) = n; omega] at hc
    exact b_X8_countNotCopied_33 ⟨h.2.1, okp_size h.2.1, fun _ => ⟨i32s (by omega), hc⟩, fun h9 => by omega⟩
  | succ j ih =>
    intro k n hk h0 h1 hi hc
    obtain ⟨g1, g2, g3, g4, g5⟩ := h.get hL (i := (k : Int)) (by omega) (by omega)
    rw [Int.toNat_natCast] at g3
    refine b_X8_countNotCopied_33 ⟨h.2.1, okp_size h.2.1, fun h9 => by omega, fun _ => ⟨h.2.1, g1, Or.inr g2, g2, fun _ => i32s (by omega), i32s (by omega), ?_⟩⟩
    rw [g3]
    refine ih (k + 1) _ (by omega) (by split <;> omega) (by split <;> omega) hi ?_
    have e : (n + ncN G ((seenL G a).drop k)) = (if gfd G 5 4 ((seenL G a).getD k 0) = 0 then n + 1 else n) + ncN G ((seenL G a).drop (k + 1)) := by
      rw [drop_getD (L := seenL G a) (i := k) (by omega)]
      unfold ncN
      rw [List.countP_cons]
      by_cases h9 : gfd G 5 4 ((seenL G a).getD k 0) = 0
      · rw [if_pos h9, if_pos (decide_eq_true h9)]; omega
      · rw [if_neg h9, if_neg (by simpa using h9)]; omega
    rw [e] at hc
    exact hc
theorem v_countNotCopied (hL : LW E G) (h : NR G st) : ∀ (j i : Nat) (n : Int), i + j = (numL G st).length → 0 ≤ n → n ≤ 60 * i → V E M_X8_countNotCopied 4 [some (rv st), some (iv n), some (iv (i : Int)), none, none] [] G c s (fun r G' => r = n + ncA G ((numL G st).drop i) ∧ G' = G) X := by
  have h12 := h.2.2.2.1
  intro j
  induction j with
  | zero =>
    intro i n hi h0 h1
    refine b_X8_countNotCopied_4 ⟨h.1, h.2.1, okp_size h.2.1, fun _ => ⟨?_, rfl⟩, fun h9 => by have := h.size hL; omega⟩
    rw [List.drop_eq_nil_of_le (by omega)]
    show n = n + ((0 : Nat) : Int)
    omega
  | succ j ih =>
    intro i n hi h0 h1
    obtain ⟨g1, g2, g3, g4, g5⟩ := h.get hL (i := i) (by omega)
    have h60 := g3.2.2.2.2.2
    have hle : ncN G (seenL G ((numL G st).getD i 0)) ≤ 60 := Nat.le_trans List.countP_le_length h60
    refine b_X8_countNotCopied_4 ⟨h.1, h.2.1, okp_size h.2.1, fun h9 => by omega, fun _ => ?_⟩
    rw [g2]
    refine ⟨h.1, h.2.1, g1, Or.inr g3.1, g3.1, ?_⟩
    refine v_cncIn hL g3 (seenL G ((numL G st).getD i 0)).length 0 n (by omega) h0 (by omega) (by omega) ?_
    rw [List.drop_zero]
    have := ih (i + 1) (n + ncN G (seenL G ((numL G st).getD i 0))) (by omega) (by omega) (by omega)
    have e : ncA G ((numL G st).drop i) = ncN G (seenL G ((numL G st).getD i 0)) + ncA G ((numL G st).drop (i + 1)) := by
      rw [drop_getD (L := numL G st) (i := i) (by omega)]; rfl
    rw [e, show n + ((ncN G (seenL G ((numL G st).getD i 0)) + ncA G ((numL G st).drop (i + 1)) : Nat) : Int) = n + ncN G (seenL G ((numL G st).getD i 0)) + ncA G ((numL G st).drop (i + 1)) by omega]
    exact this
theorem okp_countNotCopied (hL : LW E G) (h : NR G st) : OkP E M_X8_countNotCopied [rv st] G (ncA G (numL G st)) := by
  refine i_X8_countNotCopied ?_
  have := v_countNotCopied (c := 0) (s := 0) (X := fun _ _ => False) hL h (numL G st).length 0 0 (by omega) (by omega) (by omega)
  rw [Int.zero_add] at this
  exact this
/-- the one written first of those that the copy doesn't have -/
def FI (G : Gt) (P : List Int) (f : Int) : Prop := (∀ x ∈ P, gcl G x = 6) ∧ ((f = -1 ∧ ∀ x ∈ P, gfd G 5 4 x ≠ 0) ∨ (f ≠ -1 ∧ f ∈ P ∧ gfd G 5 4 f = 0 ∧ ∀ x ∈ P, gfd G 5 4 x = 0 → gfd G 5 3 f ≤ gfd G 5 3 x))
theorem FI.step {P : List Int} {f : Int} (h : FI G P f) (hx : gcl G x = 6) (hn : x ≠ -1) : FI G (P ++ [x]) (if gfd G 5 4 x = 0 then (if f = -1 then x else (if gfd G 5 3 f ≤ gfd G 5 3 x then f else x)) else f) := by
  refine ⟨fun y hy => ?_, ?_⟩
  · rcases List.mem_append.mp hy with h9 | h9
    · exact h.1 y h9
    · rw [List.mem_singleton.mp h9]; exact hx
  have hm : ∀ y, y ∈ P ++ [x] → y ∈ P ∨ y = x := fun y hy => by
    rcases List.mem_append.mp hy with h9 | h9
    · exact Or.inl h9
    · exact Or.inr (List.mem_singleton.mp h9)
  have hmx : x ∈ P ++ [x] := List.mem_append_right _ (List.mem_singleton.mpr rfl)
  by_cases hc : gfd G 5 4 x = 0
  · rw [if_pos hc]
    rcases h.2 with ⟨h1, h2⟩ | ⟨h1, h2, h3, h4⟩
    · rw [if_pos h1]
      refine Or.inr ⟨hn, hmx, hc, fun y hy h9 => ?_⟩
      rcases hm y hy with h8 | h8
      · exact (h2 y h8 h9).elim
      · rw [h8]; exact Int.le_refl _
    · rw [if_neg h1]
      by_cases ho : gfd G 5 3 f ≤ gfd G 5 3 x
      · rw [if_pos ho]
        refine Or.inr ⟨h1, List.mem_append_left _ h2, h3, fun y hy h9 => ?_⟩
        rcases hm y hy with h8 | h8
        · exact h4 y h8 h9
        · rw [h8]; exact ho
      · rw [if_neg ho]
        refine Or.inr ⟨hn, hmx, hc, fun y hy h9 => ?_⟩
        rcases hm y hy with h8 | h8
        · have := h4 y h8 h9; omega
        · rw [h8]; exact Int.le_refl _
  · rw [if_neg hc]
    rcases h.2 with ⟨h1, h2⟩ | ⟨h1, h2, h3, h4⟩
    · refine Or.inl ⟨h1, fun y hy => ?_⟩
      rcases hm y hy with h8 | h8
      · exact h2 y h8
      · rw [h8]; exact hc
    · refine Or.inr ⟨h1, List.mem_append_left _ h2, h3, fun y hy h9 => ?_⟩
      rcases hm y hy with h8 | h8
      · exact h4 y h8 h9
      · rw [h8] at h9; exact (hc h9).elim
theorem v_fncIn {i : Nat} (hL : LW E G) (h : SR G a) (h6 : gcl G (-1) ≠ 6) (hi : i ≤ 1000) {K : List Int → Prop} (hK : ∀ P f, K P → FI G P f → V E M_X8_firstNotCopied 4 [some (rv st), some (rv f), some (iv ((i : Int) + 1)), none, none, none] [] G c s Q X) :
    ∀ (j k : Nat) (P : List Int) (f : Int), k + j = (seenL G a).length → FI G P f → K (P ++ (seenL G a).drop k) →
    V E M_X8_firstNotCopied 33 [some (rv st), some (rv f), some (iv (i : Int)), some (rv (gfd G 7 1 a)), some (iv (k : Int)), none] [] G c s Q X := by
  have hsz : gfd G 13 2 (gfd G 7 1 a) = (seenL G a).length := hL.size h.2.1 h.2.2.1
  have h60 := h.2.2.2.2.2
  intro j
  induction j with
  | zero =>
    intro k P f hk hf hc
    rw [List.drop_eq_nil_of_le (by omega), List.append_nil] at hc
    exact b_X8_firstNotCopied_33 ⟨h.2.1, okp_size h.2.1, fun _ => ⟨i32s (by omega), hK P f hc hf⟩, fun h9 => by omega⟩
  | succ j ih =>
    intro k P f hk hf hc
    obtain ⟨g1, g2, g3, g4, g5⟩ := h.get hL (i := (k : Int)) (by omega) (by omega)
    rw [Int.toNat_natCast] at g3
    have e := drop_getD (L := seenL G a) (i := k) (by omega)
    have hf6 : 0 ≤ f → gcl G f = 6 := fun h9 => by
      rcases hf.2 with ⟨h1, -⟩ | ⟨-, h2, -⟩
      · omega
      · exact hf.1 f h2
    refine b_X8_firstNotCopied_33 ⟨h.2.1, okp_size h.2.1, fun h9 => by omega, fun _ => ⟨h.2.1, g1, Or.inr g2, g2, fun _ _ => g2, fun _ h9 => hf6 h9, i32s (by omega), ?_⟩⟩
    rw [g3] at g2 ⊢
    refine ih (k + 1) (P ++ [(seenL G a).getD k 0]) _ (by omega) (hf.step g2 (fun h9 => h6 (by rw [← h9]; exact g2))) ?_
    rw [e] at hc
    rw [List.append_assoc]
    exact hc
theorem v_firstNotCopied (hL : LW E G) (h : NR G st) (h6 : gcl G (-1) ≠ 6) : ∀ (j i : Nat) (P : List Int) (f : Int), i + j = (numL G st).length → FI G P f → V E M_X8_firstNotCopied 4 [some (rv st), some (rv f), some (iv (i : Int)), none, none, none] [] G c s (fun r G' => FI G (P ++ (((numL G st).drop i).map (seenL G)).flatten) r ∧ G' = G) X := by
  have h12 := h.2.2.2.1
  intro j
  induction j with
  | zero =>
    intro i P f hi hf
    refine b_X8_firstNotCopied_4 ⟨h.1, h.2.1, okp_size h.2.1, fun _ => ⟨?_, rfl⟩, fun h9 => by have := h.size hL; omega⟩
    rw [List.drop_eq_nil_of_le (by omega), List.map_nil, List.flatten_nil, List.append_nil]
    exact hf
  | succ j ih =>
    intro i P f hi hf
    obtain ⟨g1, g2, g3, g4, g5⟩ := h.get hL (i := i) (by omega)
    refine b_X8_firstNotCopied_4 ⟨h.1, h.2.1, okp_size h.2.1, fun h9 => by omega, fun _ => ?_⟩
    rw [g2]
    refine ⟨h.1, h.2.1, g1, Or.inr g3.1, g3.1, ?_⟩
    rw [drop_getD (L := numL G st) (i := i) (by omega), List.map_cons, List.flatten_cons, ← List.append_assoc]
    refine v_fncIn (K := fun P2 => P2 = P ++ seenL G ((numL G st).getD i 0)) hL g3 h6 (by omega) (fun P2 f2 e2 hf2 => ?_) (seenL G ((numL G st).getD i 0)).length 0 P f (by omega) hf (by rw [List.drop_zero])
    rw [← e2]
    exact ih (i + 1) P2 f2 (by omega) hf2
theorem ok_firstNotCopied (hL : LW E G) (h : NR G st) (h6 : gcl G (-1) ≠ 6) : Ok E M_X8_firstNotCopied [rv st] G 0 0 (fun r G' => FI G (((numL G st).map (seenL G)).flatten) r ∧ G' = G) (fun _ _ => False) := by
  refine i_X8_firstNotCopied ?_
  have hf : FI G [] (-1) := ⟨fun x hx => (List.not_mem_nil hx).elim, Or.inl ⟨rfl, fun x hx => (List.not_mem_nil hx).elim⟩⟩
  have := v_firstNotCopied (c := 0) (s := 0) (X := fun _ _ => False) hL h h6 (numL G st).length 0 [] (-1) (by omega) hf
  rw [List.drop_zero, List.nil_append] at this
  exact this
/-- what isn't copied, of the samples -/
def unc (q : Sm4 × Int) : Bool := decide (qH q.1 = 0 ∧ q.2 = 0)
/-- the first one that isn't is copied -/
def set1 : List (Sm4 × Int) → List (Sm4 × Int)
  | [] => []
  | q :: r => if unc q = true then (q.1, 1) :: r else q :: set1 r
def mnd : Nat → List (Sm4 × Int) → List (Sm4 × Int) × Nat
  | 0, r => (r, 0)
  | n + 1, r => if r.any unc = true then ((mnd n (set1 r)).1, (mnd n (set1 r)).2 + 1) else (r, 0)
theorem set1_fst : ∀ r : List (Sm4 × Int), (set1 r).map (·.1) = r.map (·.1)
  | [] => rfl
  | q :: r => by
    unfold set1
    split
    · rfl
    · rw [List.map_cons, List.map_cons, set1_fst r]
theorem mnd_fst : ∀ (n : Nat) (r : List (Sm4 × Int)), (mnd n r).1.map (·.1) = r.map (·.1)
  | 0, r => rfl
  | n + 1, r => by
    unfold mnd
    split
    · show (mnd n (set1 r)).1.map (·.1) = _
      rw [mnd_fst n (set1 r), set1_fst]
    · rfl
end S48
