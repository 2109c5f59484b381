/-! the model takes quantiles -/
section Sa51
variable {E : EE} {G G' G2 G0 Gs G8 G15 : Gt} {c s : Nat} {Q X : Int → Gt → Prop} {m v b l r u x i nn sh kq gr rank ahead bound w e fl : Int} {k j n a : Nat} {R A B C F T : List (Int × Int)} {S : List Rw}
theorem grt_at : ∀ (L : List (Int × Int)) (x : Int), L.foldl (fun x y => max x y.2) x = x ∨ ∃ y ∈ L, L.foldl (fun x y => max x y.2) x ≤ y.2
  | [], _ => Or.inl rfl
  | y :: L, x => by
    show L.foldl (fun x y => max x y.2) (max x y.2) = x ∨ ∃ z ∈ y :: L, L.foldl (fun x y => max x y.2) (max x y.2) ≤ z.2
    rcases grt_at L (max x y.2) with h | ⟨z, h1, h2⟩
    · rw [h]
      by_cases h9 : y.2 ≤ x
      · exact Or.inl (Int.max_eq_left h9)
      · exact Or.inr ⟨y, List.mem_cons_self, by omega⟩
    · exact Or.inr ⟨z, List.mem_cons_of_mem _ h1, h2⟩
theorem rank_le {g : Int} (hsh : 0 ≤ sh ∧ sh ≤ 1000) (hg : 0 ≤ g) : 0 ≤ Int.tdiv (sh * g) 1000 ∧ Int.tdiv (sh * g) 1000 ≤ g := by
  have h1 : 0 ≤ sh * g := Int.mul_nonneg hsh.1 hg
  have h2 : sh * g ≤ 1000 * g := Int.mul_le_mul_of_nonneg_right hsh.2 hg
  rw [Int.tdiv_eq_ediv_of_nonneg h1]
  omega
theorem St47.put (h : St47 E Gs G m T) {G44 G49 : Gt} (e44 : G44 = sel G (gfd G 12 49 m) (T.length : Int) (wBd v)) (e49 : G49 = sel G44 (gfd G44 12 50 m) (T.length : Int) l) : St47 E Gs G49 m (T ++ [(l, v)]) := by
  obtain ⟨h1, h2, h4⟩ := h
  have k44 : MU E Gs G44 m (fun k => k = 49 ∨ k = 50) := by rw [e44]; exact h1.mSel (by decide) (Or.inl rfl)
  have f44 : ∀ k, gfd G44 12 k m = gfd G 12 k m := fun k => by rw [e44]; rfl
  have k49 : MU E Gs G49 m (fun k => k = 49 ∨ k = 50) := by rw [e49]; exact k44.mSel (by decide) (Or.inr rfl)
  have f49 : ∀ k, gfd G49 12 k m = gfd G 12 k m := fun k => by rw [e49]; exact f44 k
  have n1 : gfd Gs 12 49 m ≠ gfd Gs 12 50 m := by
    rw [← h2 49, ← h2 50]; exact h1.1.ne 49 50
  rw [f44 50, h2 50] at e49
  rw [h2 49] at e44
  refine ⟨k49, fun k => by rw [f49]; exact h2 k, fun i hi => ?_⟩
  rw [List.length_append] at hi
  rw [appD hi, e49, gel_sel, gel_sel, e44, gel_sel, gel_sel]
  by_cases h9 : i < T.length
  · have hne : ¬ ((i : Int) = (T.length : Int)) := by omega
    rw [if_pos h9, if_neg (fun h8 => hne h8.2), if_neg (fun h8 => hne h8.2), if_neg (fun h8 => hne h8.2), if_neg (fun h8 => hne h8.2)]
    exact h4 i h9
  · have hi' : i < T.length + 1 := hi
    have he : (i : Int) = (T.length : Int) := by omega
    rw [if_neg h9, if_neg (fun h8 => n1 h8.1), if_pos ⟨rfl, he⟩, if_pos ⟨rfl, he⟩]
    exact ⟨rfl, rfl⟩
theorem v_q46 (hx : RoX Gs m n R) (hc : ∀ y ∈ R, cOk y.1 ∧ bnd y.2) (hasc : ascL R) (hsh : 0 ≤ sh ∧ sh ≤ 1000) (h33 : gfd Gs 12 33 m = (n : Int) + 1)
    (hQ : ∀ G' G8 G15, St47 E Gs G' m (qtN sh R.length R) → G8 = sel G' (gfd Gs 12 29 m) (n : Int) 0 → G15 = sel G8 (gfd Gs 12 30 m) (n : Int) ((qtN sh R.length R).length : Int) → V E M_X12_quantile 401 [some (rv m), none, some (iv (12 * n)), none, some (iv ((qtN sh R.length R).length : Int)), none, some (iv 0), none, none, none, none, none, none, none, none, none, none, none, none, none, none, none, none] [] G15 c s Q X) :
    ∀ (k b : Nat) (T : List (Int × Int)) (G : Gt), R.length - b ≤ k → b ≤ R.length → St47 E Gs G m T → T.length ≤ b → qtN sh R.length R = T ++ qtN sh k (R.drop b) →
      V E M_X12_quantile 46 [some (rv m), some (iv sh), some (iv (12 * n)), some (iv (R.length : Int)), some (iv (T.length : Int)), some (iv (b : Int)), none, none, none, none, none, none, none, none, none, none, none, none, none, none, none, none, none] [] G c s Q X := by
  have hn := hx.1
  have h12 := hx.2.1
  have fin : ∀ (b : Nat) (T : List (Int × Int)) (G : Gt), b = R.length → St47 E Gs G m T → qtN sh R.length R = T → V E M_X12_quantile 46 [some (rv m), some (iv sh), some (iv (12 * n)), some (iv (R.length : Int)), some (iv (T.length : Int)), some (iv (b : Int)), none, none, none, none, none, none, none, none, none, none, none, none, none, none, none, none, none] [] G c s Q X := fun b T G hb hS hT => by
    have hs := hS.1.1
    have hf := hS.2.1
    have x29 := hs.fx 29 17 10
    have e1 : (n : Int) + 1 - 1 = n := by omega
    refine b_X12_quantile_46 ⟨fun _ => ⟨hs.1, hs.1, ?_⟩, fun h9 => by omega⟩
    rw [hf 33, h33, e1]
    refine ⟨i32s' (by omega), x29.1, by omega, by omega, fun G8 e8 => ?_⟩
    have hs8 : MSh E G8 m := by rw [e8]; exact hs
    have f8 : ∀ k, gfd G8 12 k m = gfd Gs 12 k m := fun k => by rw [e8]; exact hf k
    have y30 := hs8.fx 30 15 10
    refine ⟨hs8.1, hs8.1, ?_⟩
    rw [f8 33, h33, e1]
    refine ⟨i32s' (by omega), y30.1, by omega, by omega, fun G15 e15 => ?_⟩
    rw [← hT] at hS e15 ⊢
    exact hQ G G8 G15 hS (by rw [e8, hf 29]) (by rw [e15, f8 30])
  intro k
  induction k with
  | zero =>
    intro b T G hk hb hS hT hq
    exact fin b T G (by omega) hS (by rw [hq]; exact List.append_nil T)
  | succ k ih =>
    intro b T G hk hb hS hT hq
    by_cases hbe : b = R.length
    · refine fin b T G hbe hS ?_
      rw [hbe, List.drop_length] at hq
      rw [hq]; exact List.append_nil T
    have hil : b < R.length := by omega
    have hs := hS.1.1
    have x31 := hs.fx 31 15 120
    have x49 := hs.fx 49 16 12
    have hrow : ∀ j : Nat, j < R.length → gel G (gfd G 12 31 m) (12 * n + j) = (R.getD j (0, 0)).1 ∧ gel G (gfd G 12 32 m) (12 * n + j) = (R.getD j (0, 0)).2 := fun j hj => by
      rw [hS.1.2.2.2.2.2.e 31 (by omega), hS.1.2.2.2.2.2.e 32 (by omega)]
      exact hx.2.2 j hj
    have hrb := (hrow b hil).1
    have hgb := getD_mem' (v := ((0, 0) : Int × Int)) hil
    obtain ⟨y, hy⟩ : ∃ y, y = R.getD b (0, 0) := ⟨_, rfl⟩
    rw [← hy] at hrb hgb
    have hdr : ∃ W, R.drop b = y :: W := ⟨R.drop (b + 1), by rw [List.drop_eq_getElem_cons hil, hy, List.getD_eq_getElem?_getD, List.getElem?_eq_getElem hil]; rfl⟩
    obtain ⟨W, hW⟩ := hdr
    have hcy := (hc y hgb).1
    have hkq : 0 ≤ Int.tdiv y.1 10 ∧ Int.tdiv y.1 10 ≤ 66 := by
      have := hcy.1
      have := hcy.2.1
      rw [Int.tdiv_eq_ediv_of_nonneg hcy.1]; omega
    refine b_X12_quantile_46 ⟨fun h9 => by omega, fun _ => ⟨hs.1, i32s' (by omega), x31.1, by omega, by omega, ?_⟩⟩
    rw [hrb]
    have h73 := v_q73 (c := c) (s := s) (Q := Q) (X := X) (b := b) (sh := sh) (x := (T.length : Int)) (kq := Int.tdiv y.1 10) hs hn hc h12 hsh hrow (fun A C hAC hA hC => ?_) (R.drop b) [] rfl (fun z hz => (List.not_mem_nil hz).elim)
    · rw [show (b : Int) + ((([] : List (Int × Int)).length : Nat) : Int) = b from Int.add_zero _] at h73
      exact h73
    · -- a group
      have hA0 : 0 < A.length := by
        cases A with
        | nil => exact (hC y W (by rw [← hW, hAC]; rfl) rfl).elim
        | cons z A => exact Nat.succ_pos _
      have hlen : A.length + C.length = R.length - b := by rw [← List.length_append, ← hAC, List.length_drop]
      have hdC : R.drop (b + A.length) = C := by rw [← List.drop_drop, hAC, List.drop_left]
      have htw : (y :: W).takeWhile (ten y) = A ∧ (y :: W).dropWhile (ten y) = C := by
        rw [← hW, hAC]
        have hp : ∀ z ∈ A, ten y z = true := fun z hz => decide_eq_true (hA z hz)
        rw [List.takeWhile_append_of_pos hp, List.dropWhile_append_of_pos hp]
        cases C with
        | nil => exact ⟨List.append_nil _, rfl⟩
        | cons z C =>
          have hz : ten y z = false := decide_eq_false (hC z C rfl)
          rw [List.takeWhile_cons, List.dropWhile_cons, hz]
          exact ⟨List.append_nil _, rfl⟩
      have hstep : qtN sh R.length R = (T ++ optL (Int.tdiv y.1 10 * 10 + 6) (qtV sh (A.filter not6))) ++ qtN sh k (R.drop (b + A.length)) := by
        rw [hq, hW, List.append_assoc, hdC]
        show T ++ (optL (Int.tdiv y.1 10 * 10 + 6) (qtV sh (((y :: W).takeWhile (ten y)).filter not6)) ++ qtN sh k ((y :: W).dropWhile (ten y))) = _
        rw [htw.1, htw.2]
      have hsubA : ∀ z ∈ A, z ∈ R := fun z hz => (List.drop_sublist b R).subset (by rw [hAC]; exact List.mem_append_left _ hz)
      have hgr := foldl_grt (A.filter not6) 0 (Int.le_refl 0) (by decide) (fun z hz => (hc z (hsubA z (List.mem_filter.mp hz).1)).2)
      have hgr' : 0 ≤ grt (A.filter not6) ∧ grt (A.filter not6) ≤ 100000000000000 := hgr
      have eb : (b : Int) + (A.length : Int) = ((b + A.length : Nat) : Int) := rfl
      by_cases hg0 : 0 < grt (A.filter not6)
      · have hrk := rank_le hsh hgr'.1
        have hqv : qtV sh (A.filter not6) = some (qtF (Int.tdiv (sh * grt (A.filter not6)) 1000) 0 0 (A.filter not6)) := by
          unfold qtV
          rw [if_pos hg0]
        rw [hqv] at hstep
        refine v_q188 hs hn ⟨by omega, by omega⟩ hkq h12 (by omega) hg0 ⟨hrk.1, by omega⟩ hrow A b 0 0 rfl (fun j hj => ?_) ?_ (fun z hz => ?_) ?_ (by unfold bnd; omega) hrk.1 ⟨Int.le_refl 0, by decide⟩ (fun z hz _ => (wBound_in _).1) (fun hw0 hw1 G7 G14 e7 e14 => ?_)
        · rw [← drop_getD2, hAC, List.getD_eq_getElem?_getD, List.getElem?_append_left hj, ← List.getD_eq_getElem?_getD]
        · have h1 : ascL (R.drop b) := hasc.sublist (List.drop_sublist b R)
          rw [hAC] at h1
          exact (List.pairwise_append.mp h1).1
        · have h1 := hc z (hsubA z hz)
          have h2 := h1.1
          unfold cOk at h2
          exact ⟨⟨h2.1, by rw [Int.tmod_eq_emod_of_nonneg h2.1]; omega, h2.2.2.2, hA z hz⟩, h1.2⟩
        · rcases grt_at (A.filter not6) 0 with h9 | ⟨z, h1, h2⟩
          · have h8 : grt (A.filter not6) = 0 := h9
            omega
          · have h3 : grt (A.filter not6) ≤ z.2 := h2
            exact ⟨z, h1, by omega⟩
        · generalize qtF (Int.tdiv (sh * grt (A.filter not6)) 1000) 0 0 (A.filter not6) = w at hstep hw0 hw1 e7
          have ew : wBd w = w := wBd_id (by unfold bnd; omega)
          rw [← ew] at e7
          have hS2 := hS.put e7 e14
          have eo : optL (Int.tdiv y.1 10 * 10 + 6) (some w) = [(10 * Int.tdiv y.1 10 + 6, w)] := by
            rw [Int.mul_comm]; rfl
          rw [eo] at hstep
          have := ih (b + A.length) _ G14 (by omega) (by omega) hS2 (by rw [List.length_append]; show T.length + 1 ≤ _; omega) hstep
          rw [List.length_append] at this
          exact this
      · have hqv : qtV sh (A.filter not6) = none := by
          unfold qtV
          rw [if_neg hg0]
        rw [hqv] at hstep
        have eo : T ++ optL (Int.tdiv y.1 10 * 10 + 6) none = T := List.append_nil T
        rw [eo] at hstep
        have h46 := ih (b + A.length) T G (by omega) (by omega) hS (by omega) hstep
        refine b_X12_quantile_188 fun J1 hJ1 => ?_
        have j1 : J1 := hJ1 ⟨fun _ => h46, fun h9 => absurd h9 (by decide)⟩
        exact ⟨fun _ => j1, fun _ => ⟨fun h9 => absurd h9 (by decide), fun _ => ⟨fun _ => j1, fun h9 => (hg0 h9).elim⟩⟩⟩
end Sa51
