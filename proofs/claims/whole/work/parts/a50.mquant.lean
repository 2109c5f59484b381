/-! the model's quantile: the groups -/
section Sa50
variable {E : EE} {G G' G2 G0 Gs G8 G15 : Gt} {c s : Nat} {Q X : Int → Gt → Prop} {m v b l r u x i nn sh kq gr rank ahead bound w e fl : Int} {k j n a : Nat} {R A B C F T : List (Int × Int)} {S : List Rw}
theorem v_q401 (hn : n < 10) (hF : F.length ≤ 12) (hQ : ∀ G', St97 E Gs G' m n (bdL F) F.length → Q 0 G') :
    ∀ (j a : Nat) (G : Gt), a + j = F.length → St97 E Gs G m n (bdL F) a → (∀ i : Nat, i < F.length → gel G (gfd Gs 12 49 m) i = wBd (F.getD i (0, 0)).2 ∧ gel G (gfd Gs 12 50 m) i = (F.getD i (0, 0)).1) → V E M_X12_quantile 401 [some (rv m), none, some (iv (12 * n)), none, some (iv (F.length : Int)), none, some (iv (a : Int)), none, none, none, none, none, none, none, none, none, none, none, none, none, none, none, none] [] G c s Q X := by
  intro j
  induction j with
  | zero =>
    intro a G ha hS _
    refine b_X12_quantile_401 ⟨fun _ => hQ G ?_, fun h9 => by omega⟩
    rw [show F.length = a by omega]; exact hS
  | succ j ih =>
    intro a G ha hS h49
    obtain ⟨k0, hf, h29, h30, h30n, h31, hw⟩ := hS
    have hs := k0.1
    have x49 := hs.fx 49 16 12
    have x32 := hs.fx 32 16 120
    have hv := h49 a (by omega)
    refine b_X12_quantile_401 ⟨fun h9 => by omega, fun _ => ⟨hs.1, i32s' (by omega), hs.1, x49.1, by omega, by omega, x32.1, by omega, by omega, fun G11 e11 => ?_⟩⟩
    have k11 : MU E Gs G11 m scP := by rw [e11]; exact k0.mSel (by decide) (Or.inl ⟨by decide, by decide⟩)
    have f11 : ∀ k, gfd G11 12 k m = gfd Gs 12 k m := fun k => by rw [e11]; exact hf k
    have y50 := k11.1.fx 50 15 12
    have y31 := k11.1.fx 31 15 120
    refine ⟨k11.1.1, i32s' (by omega), k11.1.1, y50.1, by omega, by omega, y31.1, by omega, by omega, fun G21 e21 => ⟨i32s' (by omega), ?_⟩⟩
    have k21 : MU E Gs G21 m scP := by rw [e21]; exact k11.mSel (by decide) (Or.inl ⟨by decide, by decide⟩)
    have f21 : ∀ k, gfd G21 12 k m = gfd Gs 12 k m := fun k => by rw [e21]; exact f11 k
    have ne : ∀ p q : Nat, p ≠ q → p ∈ mArr → q ∈ mArr → gfd Gs 12 p m ≠ gfd Gs 12 q m := fun p q h1 h2 h3 => by
      rw [← hf p, ← hf q]; exact hs.ne p q h1 h2 h3
    rw [hf 32, hf 49, hv.1] at e11
    rw [f11 31, f11 50] at e21
    have v50 : gel G11 (gfd Gs 12 50 m) a = (F.getD a (0, 0)).1 := by
      rw [e11, gel_sel, if_neg (fun h9 => ne 50 32 (by decide) (by decide) (by decide) h9.1)]
      exact hv.2
    rw [v50] at e21
    have el : ∀ y i, gel G21 y i = if y = gfd Gs 12 31 m ∧ i = 12 * n + a then (F.getD a (0, 0)).1 else if y = gfd Gs 12 32 m ∧ i = 12 * n + a then wBd (F.getD a (0, 0)).2 else gel G y i := fun y i => by
      rw [e21, gel_sel, e11, gel_sel]
    have hot : ∀ (y i : Int), (y ≠ gfd Gs 12 31 m ∧ y ≠ gfd Gs 12 32 m) ∨ i ≠ 12 * (n : Int) + (a : Int) → gel G21 y i = gel G y i := fun y i h9 => by
      have q1 : ¬ (y = gfd Gs 12 31 m ∧ i = 12 * (n : Int) + (a : Int)) := fun h8 => h9.elim (fun h7 => h7.1 h8.1) (fun h7 => h7 h8.2)
      have q2 : ¬ (y = gfd Gs 12 32 m ∧ i = 12 * (n : Int) + (a : Int)) := fun h8 => h9.elim (fun h7 => h7.2 h8.1) (fun h7 => h7 h8.2)
      rw [el, if_neg q1, if_neg q2]
    have ebd : (bdL F).getD a (0, 0) = ((F.getD a (0, 0)).1, wBd (F.getD a (0, 0)).2) := by
      unfold bdL
      rw [List.getD_eq_getElem?_getD, List.getElem?_map, List.getD_eq_getElem?_getD, List.getElem?_eq_getElem (by omega)]; rfl
    have := ih (a + 1) G21 (by omega) ⟨k21, f21, fun i => by
        rw [hot _ _ (Or.inl ⟨ne 29 31 (by decide) (by decide) (by decide), ne 29 32 (by decide) (by decide) (by decide)⟩)]; exact h29 i, fun i hi => by
        rw [hot _ _ (Or.inl ⟨ne 30 31 (by decide) (by decide) (by decide), ne 30 32 (by decide) (by decide) (by decide)⟩)]; exact h30 i hi, by
        rw [hot _ _ (Or.inl ⟨ne 30 31 (by decide) (by decide) (by decide), ne 30 32 (by decide) (by decide) (by decide)⟩)]; exact h30n, fun i hi => by
        rw [hot _ _ (Or.inr (by omega)), hot _ _ (Or.inr (by omega))]; exact h31 i hi, fun i hi => by
        by_cases h9 : i = a
        · rw [h9, ebd, el, if_pos ⟨rfl, rfl⟩, el, if_neg (fun h8 => ne 32 31 (by decide) (by decide) (by decide) h8.1), if_pos ⟨rfl, rfl⟩]
          exact ⟨rfl, rfl⟩
        · rw [hot _ _ (Or.inr (by omega)), hot _ _ (Or.inr (by omega))]
          exact hw i (by omega)⟩ (fun i hi => by
        rw [hot _ _ (Or.inl ⟨ne 49 31 (by decide) (by decide) (by decide), ne 49 32 (by decide) (by decide) (by decide)⟩), hot _ _ (Or.inl ⟨ne 50 31 (by decide) (by decide) (by decide), ne 50 32 (by decide) (by decide) (by decide)⟩)]
        exact h49 i hi)
    exact this
theorem q_fin (h0 : MU E G0 Gs m scJ) (hS : St93 E Gs G' m F fl) (hF : F.length ≤ 12) (hn : n = S.length) (hn8 : n ≤ 9) (h33 : gfd Gs 12 33 m = (n : Int) + 1) (hrow : ∀ i : Nat, i < n → RowM Gs m i (S.getD i (0, []))) (e8 : G8 = sel G' (gfd Gs 12 29 m) (n : Int) 0) (e15 : G15 = sel G8 (gfd Gs 12 30 m) (n : Int) (F.length : Int))
    (hQ : ∀ G2, MU E G0 G2 m scJ → gfd G2 12 34 m = fl → PiM G2 m (S ++ [(0, bdL F)]) → Q 0 G2) :
    V E M_X12_quantile 401 [some (rv m), none, some (iv (12 * n)), none, some (iv (F.length : Int)), none, some (iv 0), none, none, none, none, none, none, none, none, none, none, none, none, none, none, none, none] [] G15 c s Q X := by
  obtain ⟨k1, f1, f34, h49⟩ := id hS
  have k1' : MU E Gs G' m scJ := k1.mono fun k h9 => by unfold scJ; omega
  have k8 : MU E Gs G8 m scJ := by rw [e8, ← f1 29 (by decide) (by decide)]; exact k1'.mSel (by decide) (Or.inl ⟨by decide, by decide⟩)
  have g8 : ∀ k, gfd G8 12 k m = gfd G' 12 k m := fun k => by rw [e8]; rfl
  have k15 : MU E Gs G15 m scJ := by rw [e15, ← f1 30 (by decide) (by decide), ← g8 30]; exact k8.mSel (by decide) (Or.inl ⟨by decide, by decide⟩)
  have g15 : ∀ k, gfd G15 12 k m = gfd G' 12 k m := fun k => by rw [e15]; exact g8 k
  have ne : ∀ p q : Nat, p ≠ q → p ≠ 34 → p ≠ 51 → q ≠ 34 → q ≠ 51 → p ∈ mArr → q ∈ mArr → gfd Gs 12 p m ≠ gfd Gs 12 q m := fun p q h1 h2 h3 h4 h5 h6 h7 h8 => by
    rw [← f1 p h2 h3, ← f1 q h4 h5] at h8; exact k1.1.ne p q h1 h6 h7 h8
  have el : ∀ y i, gel G15 y i = if y = gfd Gs 12 30 m ∧ i = n then (F.length : Int) else if y = gfd Gs 12 29 m ∧ i = n then 0 else gel G' y i := fun y i => by
    rw [e15, gel_sel, e8, gel_sel]
  have l1 : ∀ k, ¬ (k = 34 ∨ 49 ≤ k) → k ∈ mArr → ∀ i, gel G' (gfd Gs 12 k m) i = gel Gs (gfd Gs 12 k m) i := fun k h8 h9 i => by
    have := k1.2.2.2.2.2.e k h8 h9 i
    rw [f1 k (by omega) (by omega)] at this; exact this
  have n3 : gfd Gs 12 29 m ≠ gfd Gs 12 30 m := ne 29 30 (by decide) (by decide) (by decide) (by decide) (by decide) (by decide) (by decide)
  have e3 : ∀ k, k ≠ 29 → k ≠ 30 → ¬ (k = 34 ∨ 49 ≤ k) → k ∈ mArr → ∀ i, gel G15 (gfd Gs 12 k m) i = gel Gs (gfd Gs 12 k m) i := fun k h1 h2 h3 h4 i => by
    rw [el, if_neg (fun h9 => ne k 30 h2 (by omega) (by omega) (by decide) (by decide) h4 (by decide) h9.1), if_neg (fun h9 => ne k 29 h1 (by omega) (by omega) (by decide) (by decide) h4 (by decide) h9.1)]
    exact l1 k h3 h4 i
  have g15s : ∀ k, k ≠ 34 → k ≠ 51 → gfd G15 12 k m = gfd Gs 12 k m := fun k h1 h2 => by rw [g15]; exact f1 k h1 h2
  refine v_q401 (Gs := G15) (F := F) (n := n) (by omega) hF (fun G2 hS2 => ?_) F.length 0 G15 (Nat.zero_add _) ⟨MU.refl k15.1 k15.2.1 k15.2.2.1.1, fun _ => rfl, fun _ => rfl, fun _ _ => rfl, ?_, fun _ _ => ⟨rfl, rfl⟩, fun j hj => absurd hj (Nat.not_lt_zero j)⟩ (fun i hi => ?_)
  · rw [← bdL_len (R := F)] at hS2
    refine hQ G2 (h0.trans (k15.trans (hS2.1.mono fun k h9 => scP_J h9))) (by rw [hS2.2.1, g15]; exact f34) (hS2.pile2 hn (by rw [g15s 33 (by decide) (by decide)]; exact h33) (by omega) ?_ (fun i hi => ?_) (by rw [bdL_len]; exact hF))
    · rw [g15s 29 (by decide) (by decide), el, if_neg (fun h9 => n3 h9.1), if_pos ⟨rfl, rfl⟩]
    · have hr := hrow i hi
      have hni : ¬ ((i : Int) = n) := by omega
      unfold RowM at hr ⊢
      rw [g15s 29 (by decide) (by decide), g15s 30 (by decide) (by decide), g15s 31 (by decide) (by decide), g15s 32 (by decide) (by decide)]
      refine ⟨?_, ?_, hr.2.2.1, fun j hj => ?_⟩
      · rw [el, if_neg (fun h9 => hni h9.2), if_neg (fun h9 => hni h9.2), l1 29 (by decide) (by decide)]; exact hr.1
      · rw [el, if_neg (fun h9 => hni h9.2), if_neg (fun h9 => hni h9.2), l1 30 (by decide) (by decide)]; exact hr.2.1
      · rw [e3 31 (by decide) (by decide) (by decide) (by decide), e3 32 (by decide) (by decide) (by decide) (by decide)]
        exact hr.2.2.2 j hj
  · rw [g15s 30 (by decide) (by decide), el, if_pos ⟨rfl, rfl⟩, bdL_len]
  · have := h49 i hi
    rw [g15s 49 (by decide) (by decide), g15s 50 (by decide) (by decide), el, el, if_neg (fun h9 => ne 49 30 (by decide) (by decide) (by decide) (by decide) (by decide) (by decide) (by decide) h9.1), if_neg (fun h9 => ne 49 29 (by decide) (by decide) (by decide) (by decide) (by decide) (by decide) (by decide) h9.1), if_neg (fun h9 => ne 50 30 (by decide) (by decide) (by decide) (by decide) (by decide) (by decide) (by decide) h9.1), if_neg (fun h9 => ne 50 29 (by decide) (by decide) (by decide) (by decide) (by decide) (by decide) (by decide) h9.1)]
    exact this
theorem grt_snoc {y : Int × Int} : grt (A ++ [y]) = max (grt A) y.2 := by
  unfold grt
  rw [List.foldl_append]; rfl
theorem v_q73 {b : Nat} (hs : MSh E G m) (hn : n < 10) (hR : ∀ y ∈ R, cOk y.1 ∧ bnd y.2) (hR12 : R.length ≤ 12) (hsh : 0 ≤ sh ∧ sh ≤ 1000) (hrow : ∀ j : Nat, j < R.length → gel G (gfd G 12 31 m) (12 * n + j) = (R.getD j (0, 0)).1 ∧ gel G (gfd G 12 32 m) (12 * n + j) = (R.getD j (0, 0)).2)
    (hQ : ∀ A C, R.drop b = A ++ C → (∀ z ∈ A, Int.tdiv z.1 10 = kq) → (∀ y W, C = y :: W → Int.tdiv y.1 10 ≠ kq) → V E M_X12_quantile 188 [some (rv m), some (iv sh), some (iv (12 * n)), some (iv (R.length : Int)), some (iv x), none, some (iv kq), some (iv ((b : Int) + A.length)), some (jv (grt (A.filter not6))), none, some (jv (Int.tdiv (sh * grt (A.filter not6)) 1000)), none, some (jv 0), none, some (jv 0), none, some (jv (-1)), none, some (iv (b : Int)), none, none, none, none] [] G c s Q X) :
    ∀ (C A : List (Int × Int)), R.drop b = A ++ C → (∀ z ∈ A, Int.tdiv z.1 10 = kq) → V E M_X12_quantile 73 [some (rv m), some (iv sh), some (iv (12 * n)), some (iv (R.length : Int)), some (iv x), some (iv (b : Int)), some (iv kq), some (iv ((b : Int) + A.length)), some (jv (grt (A.filter not6))), none, none, none, none, none, none, none, none, none, none, none, none, none, none] [] G c s Q X := by
  have x31 := hs.fx 31 15 120
  have x32 := hs.fx 32 16 120
  have sub : ∀ A C, R.drop b = A ++ C → ∀ z ∈ A ++ C, z ∈ R := fun A C h z hz => (List.drop_sublist b R).subset (by rw [h]; exact hz)
  have gb : ∀ A C, R.drop b = A ++ C → 0 ≤ grt (A.filter not6) ∧ grt (A.filter not6) ≤ 100000000000000 := fun A C h => foldl_grt _ 0 (Int.le_refl 0) (by decide) (fun z hz => (hR z (sub A C h z (List.mem_append_left _ (List.mem_filter.mp hz).1))).2)
  have stop : ∀ A C, R.drop b = A ++ C → (∀ z ∈ A, Int.tdiv z.1 10 = kq) → (∀ y W, C = y :: W → Int.tdiv y.1 10 ≠ kq) → (i64 (sh * grt (A.filter not6)) ∧ V E M_X12_quantile 188 [some (rv m), some (iv sh), some (iv (12 * n)), some (iv (R.length : Int)), some (iv x), none, some (iv kq), some (iv ((b : Int) + A.length)), some (jv (grt (A.filter not6))), none, some (jv (Int.tdiv (sh * grt (A.filter not6)) 1000)), none, some (jv 0), none, some (jv 0), none, some (jv (-1)), none, some (iv (b : Int)), none, none, none, none] [] G c s Q X) := fun A C h1 h2 h3 => ⟨by
      have := gb A C h1
      have := mulb (x := sh) (y := grt (A.filter not6)) (A := 1000) (B := 100000000000000) (by omega) (by omega)
      exact i64s (by omega), hQ A C h1 h2 h3⟩
  intro C
  induction C with
  | nil =>
    intro A hA hk
    have hlen : (R.drop b).length = A.length := by rw [hA, List.append_nil]
    rw [List.length_drop] at hlen
    exact b_X12_quantile_73 fun J1 hJ1 => by
      have j1 : J1 := hJ1 (stop A [] hA hk (fun y W h9 => by cases h9))
      refine ⟨fun _ => j1, fun h9 => ?_⟩
      omega
  | cons y C ih =>
    intro A hA hk
    have hlen : (R.drop b).length = A.length + (C.length + 1) := by rw [hA, List.length_append]; rfl
    rw [List.length_drop] at hlen
    have hil : b + A.length < R.length := by omega
    have hgy : R.getD (b + A.length) (0, 0) = y := by rw [← drop_getD2, hA]; exact getD_mid
    have hrw := hrow (b + A.length) hil
    rw [hgy, show (12 * (n : Int) + ((b + A.length : Nat) : Int)) = 12 * n + ((b : Int) + A.length) by omega] at hrw
    have hy := hR y (sub A (y :: C) hA y (List.mem_append_right _ List.mem_cons_self))
    have hc := hy.1
    unfold cOk at hc
    have i1 : i32 (12 * (n : Int) + ((b : Int) + A.length)) := i32s' (by omega)
    refine b_X12_quantile_73 fun J1 hJ1 => ⟨fun h9 => by omega, fun _ => ⟨hs.1, i1, x31.1, by omega, by omega, ?_⟩⟩
    rw [hrw.1, hrw.2]
    refine ⟨fun h9 => hJ1 (stop A (y :: C) hA hk (fun y' W h8 => by
      have : y = y' := (List.cons.inj h8).1
      rw [← this]; exact h9)), fun h9 => ⟨hs.1, i1, x31.1, by omega, by omega, fun _ => hs.1, fun _ => i1, fun _ => x32.1, fun _ => by omega, fun _ => by omega, fun _ _ => hs.1, fun _ _ => i1, fun _ _ => x32.1, fun _ _ => by omega, fun _ _ => by omega, i32s' (by omega), ?_⟩⟩
    have hih := ih (A ++ [y]) (by rw [hA, List.append_assoc]; rfl) (fun z hz => by
      rcases List.mem_append.mp hz with h8 | h8
      · exact hk z h8
      · rw [List.mem_singleton.mp h8]; exact h9)
    have el : (b : Int) + (((A ++ [y]).length : Nat) : Int) = (b : Int) + A.length + 1 := by rw [List.length_append]; show (b : Int) + ((A.length + 1 : Nat) : Int) = _; omega
    have eg : grt ((A ++ [y]).filter not6) = if (if 6 ≤ Int.tmod y.1 10 then (0 : Int) else 1) = 0 then grt (A.filter not6) else if y.2 ≤ grt (A.filter not6) then grt (A.filter not6) else y.2 := by
      rw [List.filter_append]
      by_cases h6 : 6 ≤ Int.tmod y.1 10
      · rw [if_pos h6, if_pos rfl, List.filter_cons_of_neg (by unfold not6; rw [decide_eq_true_eq]; omega), List.filter_nil, List.append_nil]
      · rw [if_neg h6, if_neg (by decide), List.filter_cons_of_pos (by unfold not6; exact decide_eq_true (by omega)), List.filter_nil, grt_snoc]
        by_cases h7 : y.2 ≤ grt (A.filter not6)
        · rw [if_pos h7, Int.max_eq_left h7]
        · rw [if_neg h7, Int.max_eq_right (by omega)]
    rw [el, eg] at hih
    exact hih
end Sa50
