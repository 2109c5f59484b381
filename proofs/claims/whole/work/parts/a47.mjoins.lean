/-! the model joins two results: the whole -/
section Sa47
variable {E : EE} {G G' G2 G0 Gs G8 G15 : Gt} {c s : Nat} {Q X : Int → Gt → Prop} {m v b l r u x i nn set g kk fl nl nu : Int} {k j n a : Nat} {R A B F T L U : List (Int × Int)} {S : List Rw}
/-- the two uppermost rows -/
def TwR (G : Gt) (m : Int) (n : Nat) (nl : Int) (L : List (Int × Int)) (nu : Int) (U : List (Int × Int)) : Prop :=
  (gel G (gfd G 12 29 m) n = nl ∧ gel G (gfd G 12 30 m) n = L.length ∧ ∀ j : Nat, j < L.length → gel G (gfd G 12 31 m) (12 * n + j) = (L.getD j (0, 0)).1 ∧ gel G (gfd G 12 32 m) (12 * n + j) = (L.getD j (0, 0)).2) ∧
  (gel G (gfd G 12 29 m) ((n : Int) + 1) = nu ∧ gel G (gfd G 12 30 m) ((n : Int) + 1) = U.length ∧ ∀ j : Nat, j < U.length → gel G (gfd G 12 31 m) (12 * n + 12 + j) = (U.getD j (0, 0)).1 ∧ gel G (gfd G 12 32 m) (12 * n + 12 + j) = (U.getD j (0, 0)).2)
theorem PiM.two (hP : PiM G m (S ++ [(nl, L)] ++ [(nu, U)])) : gfd G 12 33 m = (S.length : Int) + 2 ∧ S.length ≤ 8 ∧ TwR G m S.length nl L nu U ∧ ∀ i : Nat, i < S.length → RowM G m i (S.getD i (0, [])) := by
  obtain ⟨h1, h2, h3⟩ := hP
  have hl : (S ++ [((nl, L) : Rw)] ++ [((nu, U) : Rw)]).length = S.length + 1 + 1 := by rw [List.length_append, List.length_append]; rfl
  have hl1 : (S ++ [((nl, L) : Rw)]).length = S.length + 1 := by rw [List.length_append]; rfl
  rw [hl] at h1 h2 h3
  have hU := h3 (S.length + 1) (by omega)
  rw [appZ, hl1, if_neg (Nat.lt_irrefl _), if_pos rfl] at hU
  have hL := h3 S.length (by omega)
  rw [appZ, hl1, if_pos (Nat.lt_succ_self _), appZ, if_neg (Nat.lt_irrefl _), if_pos rfl] at hL
  refine ⟨by omega, by omega, ⟨⟨hL.1, hL.2.1, hL.2.2.2⟩, ⟨hU.1, hU.2.1, fun j hj => ?_⟩⟩, fun i hi => ?_⟩
  · have := hU.2.2.2 j hj
    rw [show 12 * ((S.length + 1 : Nat) : Int) + j = 12 * (S.length : Int) + 12 + j by omega] at this
    exact this
  · have := h3 i (by omega)
    rw [appZ, hl1, if_pos (by omega), appZ, if_pos hi] at this
    exact this
theorem any_ff : R.any (fun _ => false) = false := List.any_eq_false.mpr (fun _ _ h => by cases h)
theorem v_jvec (h0 : MU E G0 Gs m scJ) (hn : n = S.length) (hn8 : n ≤ 8) (h33 : gfd Gs 12 33 m = (n : Int) + 1) (h34 : gfd Gs 12 34 m = 0) (hrow : ∀ i : Nat, i < n → RowM Gs m i (S.getD i (0, []))) (ht : TwR Gs m n nl L nu U) (hRl : RV nl L) (hRu : RV nu U) (hk : 10 ≤ kk ∧ kk ≤ 14) (hset : 0 ≤ set ∧ set ≤ 7) (hz : nl = 0 ∨ nu = 0) :
    V E M_X12_joins 193 [some (rv m), some (iv kk), some (iv set), some (iv (12 * n)), some (iv (12 * n + 12)), some (iv nl), some (iv nu), some (iv (if nl = 0 then (L.length : Int) else U.length)), some (iv 0), some (jv (gel Gs (gfd Gs 12 32 m) (12 * n))), none, some (iv 0), none, none, none, none, none] [] Gs c s (fun _ G' => JsQ E G0 G' m S (joinR kk set nl L nu U)) X := by
  obtain ⟨⟨l1, l2, l3⟩, ⟨u1, u2, u3⟩⟩ := ht
  have rfl93 : ∀ fl, fl = (0 : Int) → St93 E Gs Gs m [] fl := fun fl h9 => ⟨MU.refl h0.1 h0.2.1 h0.2.2.1.1, fun _ _ _ => rfl, by rw [h34, h9], fun j hj => absurd hj (Nat.not_lt_zero j)⟩
  have cn1 : ∀ z : Int, (if (if z = 0 then (0 : Int) else 1) ≤ 1 then (0 : Int) else 1) = 0 := fun z => if_pos (by split <;> omega)
  by_cases hnl : nl = 0
  · rw [if_pos hnl]
    by_cases hnu : nu = 0
    · -- two vectors
      subst hnl
      subst hnu
      have := v_j193 (E := E) (X := X) (c := c) (s := s) (kk := kk) (set := set) (l5 := 0) (l6 := 0) (l9 := gel Gs (gfd Gs 12 32 m) (12 * n)) (R := L) (J := jmF kk set U) (bad := fun y => decide (2 ≤ U.countP (sml set (wMask y.1 set)))) (Q := fun _ G' => JsQ E G0 G' m S (joinR kk set 0 L 0 U)) h33 hn8 hRl.1 (fun a G T fl ha hT hS hK => ?_) (fun G' G8 G15 hS e8 e15 => ?_) L.length 0 Gs (Nat.zero_add _) (by rw [List.take_zero]; exact rfl93 _ rfl)
      · rw [List.take_zero] at this
        exact this
      · have hy := hRl.2.2.1 _ (getD_mem' (v := ((0, 0) : Int × Int)) ha)
        have ha12 := hRl.1
        rw [if_pos rfl, if_pos rfl]
        exact v_j228 (l9 := gel Gs (gfd Gs 12 32 m) (12 * n)) hS hk h33 hn8 hT (by omega) hset u2 hRu.1 u3 hRu.2.2.1 hy (l3 a ha) (fun G' hS' => hK G' (by
          have e : (if decide (2 ≤ U.countP (sml set (wMask (L.getD a (0, 0)).1 set))) = true then (1 : Int) else 0) = if U.countP (sml set (wMask (L.getD a (0, 0)).1 set)) ≤ 1 then (0 : Int) else 1 := by
            by_cases h9 : U.countP (sml set (wMask (L.getD a (0, 0)).1 set)) ≤ 1
            · rw [if_pos h9, if_neg (fun h8 => by have := of_decide_eq_true h8; omega)]
            · rw [if_neg h9, if_pos (decide_eq_true (by omega))]
          rw [e]
          exact hS')) U [] (-1) rfl (Or.inl ⟨rfl, rfl⟩)
      · have hF : (fmJ (jmF kk set U) L).length ≤ 12 := Nat.le_trans fmJ_len hRl.1
        refine j_fin h0 hS hF hn hn8 h33 hrow e8 e15 fun G2 k2 f2 hP2 => ⟨k2, ?_⟩
        unfold joinR
        rw [if_neg (fun h9 => h9.1 rfl), if_neg (fun h9 => h9 rfl), if_neg (fun h9 => h9 rfl)]
        cases hb : L.any (fun y => decide (2 ≤ U.countP (sml set (wMask y.1 set)))) with
        | true =>
          rw [hb, if_pos rfl] at f2
          exact Or.inr ⟨by rw [f2]; decide, if_pos rfl⟩
        | false =>
          rw [hb, if_neg (by decide)] at f2
          rw [jm_jn hb] at hP2
          exact Or.inl ⟨f2, _, if_neg (by decide), hP2⟩
    · -- a vector and a number
      have := v_j193 (E := E) (X := X) (c := c) (s := s) (kk := kk) (set := set) (l5 := nl) (l6 := nu) (l9 := gel Gs (gfd Gs 12 32 m) (12 * n)) (R := L) (J := fun y => jnV kk y.2 (U.getD 0 (0, 0)).2 y.2) (bad := fun _ => false) (Q := fun _ G' => JsQ E G0 G' m S (joinR kk set nl L nu U)) h33 hn8 hRl.1 (fun a G T fl ha hT hS hK => ?_) (fun G' G8 G15 hS e8 e15 => ?_) L.length 0 Gs (Nat.zero_add _) (by rw [List.take_zero]; exact rfl93 _ rfl)
      · rw [List.take_zero] at this
        exact this
      · have hy := hRl.2.2.1 _ (getD_mem' (v := ((0, 0) : Int × Int)) ha)
        have ha12 := hRl.1
        have hl1 := hRu.lead hnu
        have hu0 := (u3 0 (by omega)).2
        have e0 : (12 * (n : Int) + 12 + ((0 : Nat) : Int)) = 12 * n + 12 := by omega
        rw [e0] at hu0
        refine v_j228t (res := jnV kk (L.getD a (0, 0)).2 (U.getD 0 (0, 0)).2 (L.getD a (0, 0)).2) hS hk h33 hn8 (Or.inr (Or.inl hnu)) hT (by omega) hy.2 (fun _ => l3 a ha) (fun h9 => (h9 hnl).elim) (fun _ h9 => ?_) (fun _ h9 => ?_) (fun h9 => (h9 hnl).elim) (fun G' hS' => ?_)
        · rw [if_neg hnu] at h9; omega
        · rw [if_neg hnu, hu0]
          exact ⟨⟨by omega, by omega⟩, hl1.2, rfl⟩
        · rw [cn1] at hS'
          exact hK G' hS'
      · have hF : (fmJ (fun y => jnV kk y.2 (U.getD 0 (0, 0)).2 y.2) L).length ≤ 12 := Nat.le_trans fmJ_len hRl.1
        refine j_fin h0 hS hF hn hn8 h33 hrow e8 e15 fun G2 k2 f2 hP2 => ⟨k2, ?_⟩
        rw [any_ff, if_neg (by decide)] at f2
        unfold joinR
        rw [if_neg (fun h9 => h9.1 hnl), if_neg (fun h9 => h9 hnl), if_pos hnu]
        exact Or.inl ⟨f2, _, rfl, hP2⟩
  · -- a number and a vector
    rw [if_neg hnl]
    have hnu : nu = 0 := hz.resolve_left hnl
    have hl1 := hRl.lead hnl
    have hl0 := (l3 0 (by omega)).2
    have e0 : (12 * (n : Int) + ((0 : Nat) : Int)) = 12 * n := by omega
    rw [e0] at hl0
    rw [hl0]
    have := v_j193 (E := E) (X := X) (c := c) (s := s) (kk := kk) (set := set) (l5 := nl) (l6 := nu) (l9 := (L.getD 0 (0, 0)).2) (R := U) (J := fun y => jnV kk (L.getD 0 (0, 0)).2 y.2 y.2) (bad := fun _ => false) (Q := fun _ G' => JsQ E G0 G' m S (joinR kk set nl L nu U)) h33 hn8 hRu.1 (fun a G T fl ha hT hS hK => ?_) (fun G' G8 G15 hS e8 e15 => ?_) U.length 0 Gs (Nat.zero_add _) (by rw [List.take_zero]; exact rfl93 _ rfl)
    · rw [List.take_zero] at this
      exact this
    · have hy := hRu.2.2.1 _ (getD_mem' (v := ((0, 0) : Int × Int)) ha)
      have ha12 := hRu.1
      refine v_j228t (res := jnV kk (L.getD 0 (0, 0)).2 (U.getD a (0, 0)).2 (U.getD a (0, 0)).2) hS hk h33 hn8 (Or.inr (Or.inr hnl)) hT (by omega) hy.2 (fun h9 => (hnl h9).elim) (fun _ => u3 a ha) (fun h9 => (hnl h9).elim) (fun h9 => (hnl h9).elim) (fun _ => ⟨hl1.2, rfl⟩) (fun G' hS' => ?_)
      rw [cn1] at hS'
      exact hK G' hS'
    · have hF : (fmJ (fun y => jnV kk (L.getD 0 (0, 0)).2 y.2 y.2) U).length ≤ 12 := Nat.le_trans fmJ_len hRu.1
      refine j_fin h0 hS hF hn hn8 h33 hrow e8 e15 fun G2 k2 f2 hP2 => ⟨k2, ?_⟩
      rw [any_ff, if_neg (by decide)] at f2
      unfold joinR
      rw [if_neg (fun h9 => h9.2 hnu), if_pos hnl]
      exact Or.inl ⟨f2, _, rfl, hP2⟩
end Sa47
