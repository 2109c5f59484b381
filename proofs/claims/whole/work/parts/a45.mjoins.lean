/-! the model joins two results -/
section Sa45
variable {E : EE} {G G' G2 G0 Gs : Gt} {c s : Nat} {Q X : Int → Gt → Prop} {m v b l r u x i nn set g kk l5 l6 l9 p cn y14 yk yv fl l7 nl nu : Int} {k j n a : Nat} {R A B F T L U : List (Int × Int)} {S : List Rw} {res : Option Int} {J : Int × Int → Option Int} {bad : Int × Int → Bool}
theorem v_j523 (hn : n < 10) (hF : F.length ≤ 12) (hQ : ∀ G', St97 E Gs G' m n (bdL F) F.length → Q 0 G') :
    ∀ (j a : Nat) (G : Gt), a + j = F.length → St97 E Gs G m n (bdL F) a → (∀ i : Nat, i < F.length → gel G (gfd Gs 12 49 m) i = wBd (F.getD i (0, 0)).2 ∧ gel G (gfd Gs 12 50 m) i = (F.getD i (0, 0)).1) → V E M_X12_joins 523 [some (rv m), none, none, some (iv (12 * n)), none, none, none, none, some (iv (F.length : Int)), none, none, some (iv (a : Int)), none, none, none, none, none] [] G c s Q X := by
  intro j
  induction j with
  | zero =>
    intro a G ha hS _
    refine b_X12_joins_523 ⟨fun _ => hQ G ?_, fun h9 => by omega⟩
    rw [show F.length = a by omega]; exact hS
  | succ j ih =>
    intro a G ha hS h49
    obtain ⟨k0, hf, h29, h30, h30n, h31, hw⟩ := hS
    have hs := k0.1
    have x49 := hs.fx 49 16 12
    have x32 := hs.fx 32 16 120
    have hv := h49 a (by omega)
    refine b_X12_joins_523 ⟨fun h9 => by omega, fun _ => ⟨hs.1, i32s' (by omega), hs.1, x49.1, by omega, by omega, x32.1, by omega, by omega, fun G11 e11 => ?_⟩⟩
    have k11 : MU E Gs G11 m scP := by rw [e11]; exact k0.mSel (by decide) (Or.inl ⟨by decide, by decide⟩)
    have f11 : ∀ k, gfd G11 12 k m = gfd Gs 12 k m := fun k => by rw [e11]; exact hf k
    have y50 := k11.1.fx 50 15 12
    have y31 := k11.1.fx 31 15 120
    refine ⟨k11.1.1, i32s' (by omega), k11.1.1, y50.1, by omega, by omega, y31.1, by omega, by omega, fun G21 e21 => ⟨i32s' (by omega), ?_⟩⟩
    have k21 : MU E Gs G21 m scP := by rw [e21]; exact k11.mSel (by decide) (Or.inl ⟨by decide, by decide⟩)
    have f21 : ∀ k, gfd G21 12 k m = gfd Gs 12 k m := fun k => by rw [e21]; exact f11 k
    have ne : ∀ p q : Nat, p ≠ q → p ∈ mArr → q ∈ mArr → gfd Gs 12 p m ≠ gfd Gs 12 q m := fun p q h1 h2 h3 => by
      rw [← hf p, ← hf q]; exact hs.ne p q h1 h2 h3
    rw [hf 32, hf 49, hv.1] at e11
    rw [f11 31, f11 50] at e21
    have v50 : gel G11 (gfd Gs 12 50 m) a = (F.getD a (0, 0)).1 := by
      rw [e11, gel_sel, if_neg (fun h9 => ne 50 32 (by decide) (by decide) (by decide) h9.1)]
      exact hv.2
    rw [v50] at e21
    have el : ∀ y i, gel G21 y i = if y = gfd Gs 12 31 m ∧ i = 12 * n + a then (F.getD a (0, 0)).1 else if y = gfd Gs 12 32 m ∧ i = 12 * n + a then wBd (F.getD a (0, 0)).2 else gel G y i := fun y i => by
      rw [e21, gel_sel, e11, gel_sel]
    have hot : ∀ (y i : Int), (y ≠ gfd Gs 12 31 m ∧ y ≠ gfd Gs 12 32 m) ∨ i ≠ 12 * (n : Int) + (a : Int) → gel G21 y i = gel G y i := fun y i h9 => by
      have q1 : ¬ (y = gfd Gs 12 31 m ∧ i = 12 * (n : Int) + (a : Int)) := fun h8 => h9.elim (fun h7 => h7.1 h8.1) (fun h7 => h7 h8.2)
      have q2 : ¬ (y = gfd Gs 12 32 m ∧ i = 12 * (n : Int) + (a : Int)) := fun h8 => h9.elim (fun h7 => h7.2 h8.1) (fun h7 => h7 h8.2)
      rw [el, if_neg q1, if_neg q2]
    have ebd : (bdL F).getD a (0, 0) = ((F.getD a (0, 0)).1, wBd (F.getD a (0, 0)).2) := by
      unfold bdL
      rw [List.getD_eq_getElem?_getD, List.getElem?_map, List.getD_eq_getElem?_getD, List.getElem?_eq_getElem (by omega)]; rfl
    have := ih (a + 1) G21 (by omega) ⟨k21, f21, fun i => by
        rw [hot _ _ (Or.inl ⟨ne 29 31 (by decide) (by decide) (by decide), ne 29 32 (by decide) (by decide) (by decide)⟩)]; exact h29 i, fun i hi => by
        rw [hot _ _ (Or.inl ⟨ne 30 31 (by decide) (by decide) (by decide), ne 30 32 (by decide) (by decide) (by decide)⟩)]; exact h30 i hi, by
        rw [hot _ _ (Or.inl ⟨ne 30 31 (by decide) (by decide) (by decide), ne 30 32 (by decide) (by decide) (by decide)⟩)]; exact h30n, fun i hi => by
        rw [hot _ _ (Or.inr (by omega)), hot _ _ (Or.inr (by omega))]; exact h31 i hi, fun i hi => by
        by_cases h9 : i = a
        · rw [h9, ebd, el, if_pos ⟨rfl, rfl⟩, el, if_neg (fun h8 => ne 32 31 (by decide) (by decide) (by decide) h8.1), if_pos ⟨rfl, rfl⟩]
          exact ⟨rfl, rfl⟩
        · rw [hot _ _ (Or.inr (by omega)), hot _ _ (Or.inr (by omega))]
          exact hw i (by omega)⟩ (fun i hi => by
        rw [hot _ _ (Or.inl ⟨ne 49 31 (by decide) (by decide) (by decide), ne 49 32 (by decide) (by decide) (by decide)⟩), hot _ _ (Or.inl ⟨ne 50 31 (by decide) (by decide) (by decide), ne 50 32 (by decide) (by decide) (by decide)⟩)]
        exact h49 i hi)
    exact this
theorem St97.pile2 (h : St97 E Gs G m n F F.length) (hn : n = S.length) (h33 : gfd Gs 12 33 m = (n : Int) + 1) (h10 : n < 10) (h29 : gel Gs (gfd Gs 12 29 m) n = nn) (hr : ∀ i : Nat, i < n → RowM Gs m i (S.getD i (0, []))) (hF : F.length ≤ 12) : PiM G m (S ++ [(nn, F)]) := by
  obtain ⟨k0, hf, e29, h30, h30n, h31, hw⟩ := h
  have hl : ∀ z : Rw, (S ++ [z]).length = n + 1 := fun z => by rw [List.length_append, hn]; rfl
  refine ⟨by rw [hf 33, hl]; exact h33, by rw [hl]; omega, fun i hi => ?_⟩
  rw [hl] at hi
  rw [appD (by omega)]
  unfold RowM at hr ⊢
  rw [hf 29, hf 30, hf 31, hf 32, e29]
  by_cases hil : i < S.length
  · rw [if_pos hil]
    have hr := hr i (by omega)
    rw [h30 i (by omega)]
    refine ⟨hr.1, hr.2.1, hr.2.2.1, fun j hj => ?_⟩
    have := hr.2.2.1
    have e := h31 (12 * i + j) (by omega)
    rw [e.1, e.2]
    exact hr.2.2.2 j hj
  · rw [if_neg hil]
    have he : i = n := by omega
    rw [he]
    exact ⟨h29, h30n, hF, fun j hj => hw j hj⟩
theorem fm_take (hi : a < R.length) : fmJ J (R.take (a + 1)) = fmJ J (R.take a) ++ optL (R.getD a (0, 0)).1 (J (R.getD a (0, 0))) := by
  rw [takeS (d := ((0, 0) : Int × Int)) hi]
  unfold fmJ
  rw [List.filterMap_append, List.filterMap_cons, List.filterMap_nil]
  cases J (R.getD a (0, 0)) <;> rfl
theorem v_j193 (h33 : gfd Gs 12 33 m = (n : Int) + 1) (hn : n ≤ 8) (h12 : R.length ≤ 12)
    (hstep : ∀ (a : Nat) (G : Gt) (T : List (Int × Int)) (fl : Int), a < R.length → T.length < 12 → St93 E Gs G m T fl → (∀ G', St93 E Gs G' m (T ++ optL (R.getD a (0, 0)).1 (J (R.getD a (0, 0)))) (if fl = 0 then (if bad (R.getD a (0, 0)) = true then (1 : Int) else 0) else 1) → V E M_X12_joins 193 [some (rv m), some (iv kk), some (iv set), some (iv (12 * n)), some (iv (12 * n + 12)), some (iv l5), some (iv l6), some (iv (R.length : Int)), some (iv ((T ++ optL (R.getD a (0, 0)).1 (J (R.getD a (0, 0)))).length : Int)), some (jv l9), none, some (iv ((a : Int) + 1)), none, none, none, none, none] [] G' c s Q X) →
      V E M_X12_joins 228 [some (rv m), some (iv kk), some (iv set), some (iv (12 * n)), some (iv (12 * n + 12)), some (iv l5), some (iv l6), some (iv (R.length : Int)), some (iv (T.length : Int)), some (jv l9), none, some (iv (a : Int)), some (iv (if l6 = 0 then ((-1) : Int) else 12 * n + 12)), some (iv (if l6 = 0 then (0 : Int) else 1)), some (iv 0), none, none] [] G c s Q X)
    (hQ : ∀ G' G8 G15, St93 E Gs G' m (fmJ J R) (if R.any bad = true then 1 else 0) → G8 = sel G' (gfd Gs 12 29 m) (n : Int) 0 → G15 = sel G8 (gfd Gs 12 30 m) (n : Int) ((fmJ J R).length : Int) → V E M_X12_joins 523 [some (rv m), none, none, some (iv (12 * n)), none, none, none, none, some (iv ((fmJ J R).length : Int)), none, none, some (iv 0), none, none, none, none, none] [] G15 c s Q X) :
    ∀ (j a : Nat) (G : Gt), a + j = R.length → St93 E Gs G m (fmJ J (R.take a)) (if (R.take a).any bad = true then 1 else 0) →
      V E M_X12_joins 193 [some (rv m), some (iv kk), some (iv set), some (iv (12 * n)), some (iv (12 * n + 12)), some (iv l5), some (iv l6), some (iv (R.length : Int)), some (iv ((fmJ J (R.take a)).length : Int)), some (jv l9), none, some (iv (a : Int)), none, none, none, none, none] [] G c s Q X := by
  intro j
  induction j with
  | zero =>
    intro a G ha hS
    have hs := hS.1.1
    have x29 := hs.fx 29 17 10
    have e33 : gfd G 12 33 m = (n : Int) + 1 := by rw [hS.2.1 33 (by decide) (by decide)]; exact h33
    have ha' : a = R.length := by omega
    rw [ha', List.take_length] at hS ⊢
    refine b_X12_joins_193 ⟨fun _ => ⟨hs.1, hs.1, ?_⟩, fun h9 => by omega⟩
    rw [e33]
    have e1 : (n : Int) + 1 - 1 = n := by omega
    rw [e1]
    refine ⟨i32s' (by omega), x29.1, by omega, by omega, fun G8 e8 => ?_⟩
    have hs8 : MSh E G8 m := by rw [e8]; exact hs
    have y30 := hs8.fx 30 15 10
    have f8 : ∀ k, gfd G8 12 k m = gfd G 12 k m := fun k => by rw [e8]; rfl
    refine ⟨hs8.1, hs8.1, ?_⟩
    rw [f8 33, e33, e1]
    refine ⟨i32s' (by omega), y30.1, by omega, by omega, fun G15 e15 => hQ G G8 G15 hS ?_ ?_⟩
    · rw [e8, hS.2.1 29 (by decide) (by decide)]
    · rw [e15, f8 30, hS.2.1 30 (by decide) (by decide)]
  | succ j ih =>
    intro a G ha hS
    have hal : a < R.length := by omega
    have hT : (fmJ J (R.take a)).length < 12 := by
      have h1 : (fmJ J (R.take a)).length ≤ (R.take a).length := fmJ_len
      rw [List.length_take] at h1
      omega
    refine b_X12_joins_193 ⟨fun h9 => by omega, fun _ => hstep a G _ _ hal hT hS fun G' hS' => ?_⟩
    rw [← fm_take hal] at hS' ⊢
    have ean : (if (if (R.take a).any bad = true then (1 : Int) else 0) = 0 then (if bad (R.getD a (0, 0)) = true then (1 : Int) else 0) else 1) = if (R.take (a + 1)).any bad = true then 1 else 0 := by
      rw [takeS (d := ((0, 0) : Int × Int)) hal, List.any_append, List.any_cons, List.any_nil, Bool.or_false]
      cases (R.take a).any bad <;> cases bad (R.getD a (0, 0)) <;> rfl
    rw [ean] at hS'
    have := ih (a + 1) G' (by omega) hS'
    exact this
/-- the last one with the same labels of a set -/
def jmF (k set : Int) (U : List (Int × Int)) (y : Int × Int) : Option Int := match (U.filter (sml set (wMask y.1 set))).getLast? with
  | none => none
  | some z => jnV k y.2 z.2 y.2
def LaM (q g set : Int) (U A : List (Int × Int)) (p : Int) : Prop := (A.filter (sml set g) = [] ∧ p = -1) ∨ ∃ i : Nat, i < U.length ∧ p = q + i ∧ (A.filter (sml set g)).getLast? = some (U.getD i (0, 0))
theorem v_j228 (hSt : St93 E Gs G m T fl) (hk : 10 ≤ kk ∧ kk ≤ 14) (h33 : gfd Gs 12 33 m = (n : Int) + 1) (hn : n ≤ 8) (hT : T.length < 12) (ha : a < 12) (hset : 0 ≤ set ∧ set ≤ 7)
    (hk30 : gel Gs (gfd Gs 12 30 m) ((n : Int) + 1) = U.length) (hU12 : U.length ≤ 12) (hUx : ∀ j : Nat, j < U.length → gel Gs (gfd Gs 12 31 m) (12 * n + 12 + j) = (U.getD j (0, 0)).1 ∧ gel Gs (gfd Gs 12 32 m) (12 * n + 12 + j) = (U.getD j (0, 0)).2) (hUv : ∀ y ∈ U, cOk y.1 ∧ bnd y.2)
    (hy : cOk yk ∧ bnd yv) (hr0 : gel Gs (gfd Gs 12 31 m) (12 * n + a) = yk ∧ gel Gs (gfd Gs 12 32 m) (12 * n + a) = yv)
    (hK : ∀ G', St93 E Gs G' m (T ++ optL yk (jmF kk set U (yk, yv))) (if fl = 0 then (if U.countP (sml set (wMask yk set)) ≤ 1 then (0 : Int) else 1) else 1) → V E M_X12_joins 193 [some (rv m), some (iv kk), some (iv set), some (iv (12 * n)), some (iv (12 * n + 12)), some (iv 0), some (iv 0), some (iv l7), some (iv ((T ++ optL yk (jmF kk set U (yk, yv))).length : Int)), some (jv l9), none, some (iv ((a : Int) + 1)), none, none, none, none, none] [] G' c s Q X) :
    ∀ (B A : List (Int × Int)) (p : Int), U = A ++ B → LaM (12 * n + 12) (wMask yk set) set U A p → V E M_X12_joins 228 [some (rv m), some (iv kk), some (iv set), some (iv (12 * n)), some (iv (12 * n + 12)), some (iv 0), some (iv 0), some (iv l7), some (iv (T.length : Int)), some (jv l9), none, some (iv (a : Int)), some (iv p), some (iv (A.countP (sml set (wMask yk set)) : Nat)), some (iv (A.length : Int)), none, none] [] G c s Q X := by
  intro B
  induction B with
  | nil =>
    intro A p hA hp
    rw [List.append_nil] at hA
    rw [← hA] at hp ⊢
    have ecn : (if (U.countP (sml set (wMask yk set)) : Int) ≤ 1 then (0 : Int) else 1) = if U.countP (sml set (wMask yk set)) ≤ 1 then (0 : Int) else 1 := by
      by_cases h9 : U.countP (sml set (wMask yk set)) ≤ 1
      · rw [if_pos h9, if_pos (by omega)]
      · rw [if_neg h9, if_neg (by omega)]
    refine v_j228t (res := jmF kk set U (yk, yv)) hSt hk h33 hn (Or.inl (by omega)) hT ha hy.2 (fun _ => hr0) (fun h9 => (h9 rfl).elim) (fun _ h9 => ?_) (fun _ h9 => ?_) (fun h9 => (h9 rfl).elim) (fun G' hS' => ?_)
    · rcases hp with ⟨a1, a2⟩ | ⟨i, a1, a2, a3⟩
      · show (match (U.filter (sml set (wMask yk set))).getLast? with | none => none | some z => jnV kk yv z.2 yv) = none
        rw [a1]; rfl
      · omega
    · rcases hp with ⟨a1, a2⟩ | ⟨i, a1, a2, a3⟩
      · exact (h9 a2).elim
      · have hi := hUx i a1
        rw [a2, hi.2]
        refine ⟨⟨by omega, by omega⟩, (hUv _ (getD_mem' (v := (0, 0)) a1)).2, ?_⟩
        show (match (U.filter (sml set (wMask yk set))).getLast? with | none => none | some z => jnV kk yv z.2 yv) = _
        rw [a3]
    · rw [ecn] at hS'
      exact hK G' hS'
  | cons y B ih =>
    intro A p hA hp
    have hs := hSt.1.1
    have x30 := hs.fx 30 15 10
    have x31 := hs.fx 31 15 120
    have e33 : gfd G 12 33 m = (n : Int) + 1 := by rw [hSt.2.1 33 (by decide) (by decide)]; exact h33
    have hl : A.length < U.length := by rw [hA, List.length_append, List.length_cons]; omega
    have hgy : U.getD A.length (0, 0) = y := by rw [hA]; exact getD_mid
    have he := (hUx A.length hl).1
    rw [hgy] at he
    have hyU := hUv y (by rw [hA]; exact List.mem_append_right _ List.mem_cons_self)
    have hih := ih (A ++ [y]) (if wMask yk set = wMask y.1 set then 12 * n + 12 + (A.length : Int) else p) (by rw [hA, List.append_assoc]; rfl) (by
      unfold LaM
      rw [List.filter_append]
      by_cases h9 : wMask yk set = wMask y.1 set
      · rw [if_pos h9, List.filter_cons_of_pos (sml_true.mpr h9.symm)]
        refine Or.inr ⟨A.length, hl, rfl, ?_⟩
        rw [List.filter_nil, List.getLast?_append, hgy]; rfl
      · rw [if_neg h9, List.filter_cons_of_neg (fun h8 => h9 (sml_true.mp h8).symm), List.filter_nil, List.append_nil]
        exact hp)
    have ec : (((A ++ [y]).countP (sml set (wMask yk set)) : Nat) : Int) = (A.countP (sml set (wMask yk set)) : Nat) + if wMask yk set = wMask y.1 set then (1 : Int) else 0 := by
      rw [List.countP_append, List.countP_singleton]
      by_cases h9 : wMask yk set = wMask y.1 set
      · rw [if_pos h9, if_pos (sml_true.mpr h9.symm)]; omega
      · rw [if_neg h9, if_neg (fun h8 => h9 (sml_true.mp h8).symm)]; omega
    have el : (((A ++ [y]).length : Nat) : Int) = (A.length : Int) + 1 := by rw [List.length_append]; rfl
    rw [ec, el] at hih
    have hcl : A.countP (sml set (wMask yk set)) ≤ A.length := List.countP_le_length
    refine b_X12_joins_228 ?_
    rw [e33, hSt.el 30 (by decide), hk30, hSt.el 31 (by decide), hSt.el 31 (by decide), hr0.1, he]
    generalize A.countP (sml set (wMask yk set)) = cn at hcl hih ⊢
    refine ⟨hs.1, hs.1, x30.1, by omega, by omega, fun J6 _ => ⟨fun h9 => by omega, fun _ => ⟨fun h9 => (h9 rfl).elim, fun _ => ⟨fun h9 => (h9 rfl).elim, fun _ => ⟨hs.1, i32s' (by omega), x31.1, by omega, by omega, okp_masked ⟨hy.1.1, by have := hy.1.2.1; omega⟩ hset, hs.1, i32s' (by omega), x31.1, by omega, by omega, okp_masked ⟨hyU.1.1, by have := hyU.1.2.1; omega⟩ hset, fun _ => i32s' (by omega), ?_⟩⟩⟩⟩⟩
    by_cases h9 : wMask yk set = wMask y.1 set
    · rw [if_pos h9, if_pos h9] at hih
      rw [if_pos h9, if_neg (show ¬ ((1 : Int) = 0) by decide), if_neg (show ¬ ((1 : Int) = 0) by decide)]
      exact ⟨i32s' (by omega), i32s' (by omega), hih⟩
    · rw [if_neg h9, if_neg h9] at hih
      rw [if_neg h9, if_pos rfl, if_pos rfl]
      exact ⟨i32s' (by omega), i32s' (by omega), hih⟩
end Sa45
