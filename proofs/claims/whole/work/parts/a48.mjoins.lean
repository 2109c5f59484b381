/-! the model joins two results: the contract -/
section Sa48
variable {E : EE} {G G' G2 G0 Gs G8 G15 : Gt} {c s : Nat} {Q X : Int → Gt → Prop} {m v b l r u x i nn set g kk fl nl nu : Int} {k j n a : Nat} {R A B F T L U : List (Int × Int)} {S : List Rw}
theorem om_joins (hU0 : MU E G0 G m scJ) (hP : PiM G m (S ++ [(nl, L)] ++ [(nu, U)])) (hRl : RV nl L) (hRu : RV nu U) (h34 : gfd G 12 34 m = 0) (hk : 10 ≤ kk ∧ kk ≤ 14) (hset : 0 ≤ set ∧ set ≤ 7) : Ok E M_X12_joins [rv m, iv kk, iv set] G c s (fun _ G' => JsQ E G0 G' m S (joinR kk set nl L nu U)) (fun _ _ => False) := by
  obtain ⟨h33, hn8, ht, hrow⟩ := hP.two
  obtain ⟨n, hn⟩ : ∃ n, n = S.length := ⟨_, rfl⟩
  rw [← hn] at h33 hn8 ht hrow
  have hs := hU0.1
  have x29 := hs.fx 29 17 10
  refine i_X12_joins ?_
  have e2 : (n : Int) + 2 - 2 = n := by omega
  have e1 : (n : Int) + 2 - 1 = (n : Int) + 1 := by omega
  have e12 : 12 * ((n : Int) + 1) = 12 * n + 12 := by omega
  rw [h33, e2, e1, e12, ht.1.1, ht.2.1]
  refine ⟨hs.1, i32s' (by omega), i32s' (by omega), hs.1, i32s' (by omega), i32s' (by omega), hs.1, hs.1, i32s' (by omega), x29.1, by omega, by omega, hs.1, hs.1, i32s' (by omega), x29.1, by omega, by omega, hs.1, i32s' (by omega), hs.1, fun G22 e22 J23 hJ23 => ?_⟩
  have k22 : MU E G0 G22 m scJ := by rw [e22]; exact hU0.mSfd (by decide) (Or.inl ⟨by decide, by decide⟩)
  have f22 : ∀ k, k ≠ 33 → gfd G22 12 k m = gfd G 12 k m := fun k hk => by rw [e22, gfd_sfd, if_neg (fun h9 => hk h9.2.1)]
  have v33 : gfd G22 12 33 m = (n : Int) + 1 := by rw [e22, gfd_sfd, if_pos ⟨rfl, rfl, rfl⟩]
  have el : ∀ y i, gel G22 y i = gel G y i := fun y i => by rw [e22]; rfl
  have t22 : TwR G22 m n nl L nu U := by
    unfold TwR at ht ⊢
    simp only [f22 29 (by decide), f22 30 (by decide), f22 31 (by decide), f22 32 (by decide), el]
    exact ht
  have r22 : ∀ i : Nat, i < n → RowM G22 m i (S.getD i (0, [])) := fun i hi => by
    have := hrow i hi
    unfold RowM at this ⊢
    simp only [f22 29 (by decide), f22 30 (by decide), f22 31 (by decide), f22 32 (by decide), el]
    exact this
  have v34 : gfd G22 12 34 m = 0 := by rw [f22 34 (by decide)]; exact h34
  have hs22 := k22.1
  have x30 := hs22.fx 30 15 10
  have x32 := hs22.fx 32 16 120
  have vec : nl = 0 ∨ nu = 0 → J23 := by
    intro hz
    refine hJ23 ?_
    rw [v33, show (n : Int) + 1 - 1 = n by omega, t22.1.2.1, t22.2.2.1]
    exact ⟨fun _ => hs22.1, fun _ => hs22.1, fun _ => i32s' (by omega), fun _ => x30.1, fun _ => by omega, fun _ => by omega, fun _ => hs22.1, fun _ => hs22.1, fun _ => x30.1, fun _ => by omega, fun _ => by omega, hs22.1, x32.1, by omega, by omega, v_jvec k22 hn hn8 v33 v34 r22 t22 hRl hRu hk hset hz⟩
  refine ⟨fun h9 => vec (Or.inl h9), fun hnl => ⟨fun h9 => vec (Or.inr h9), fun hnu => ?_⟩⟩
  -- two numbers
  obtain ⟨⟨l1, l2, l3⟩, ⟨u1, u2, u3⟩⟩ := t22
  have hl1 := hRl.lead hnl
  have hu1 := hRu.lead hnu
  have hl0 := (l3 0 (by omega))
  have hu0 := (u3 0 (by omega)).2
  have z0 : (12 * (n : Int) + ((0 : Nat) : Int)) = 12 * n := by omega
  have z1 : (12 * (n : Int) + 12 + ((0 : Nat) : Int)) = 12 * n + 12 := by omega
  rw [z0] at hl0
  rw [z1] at hu0
  refine ⟨hs22.1, x32.1, by omega, by omega, hs22.1, x32.1, by omega, by omega, hs22.1, ?_⟩
  rw [hl0.2, hu0]
  refine Call.to (om_joined hs22 k22.2.1 k22.2.2.1.1 hk hl1.2 hu1.2) (Nat.zero_le _) (Nat.zero_le _) fun r51 G52 hq => ?_
  have t52 := hq.1.2.2.2.2.2
  have k52 : MU E G0 G52 m scJ := k22.trans (hq.1.mono fun k h9 => Or.inr (by omega))
  have f52 : ∀ k, k ≠ 51 → gfd G52 12 k m = gfd G22 12 k m := fun k hk9 => t52.f k hk9
  have v34' : gfd G52 12 34 m = 0 := by rw [f52 34 (by decide)]; exact v34
  rw [v34', if_pos rfl]
  have h01 : (if kk = 13 then ((if gfd G52 12 51 m = 0 then (1 : Int) else 0) : Int) else 0) = 0 ∨ (if kk = 13 then ((if gfd G52 12 51 m = 0 then (1 : Int) else 0) : Int) else 0) = 1 := by
    by_cases h1 : kk = 13
    · rw [if_pos h1]
      by_cases h2 : gfd G52 12 51 m = 0
      · rw [if_pos h2]; exact Or.inr rfl
      · rw [if_neg h2]; exact Or.inl rfl
    · rw [if_neg h1]; exact Or.inl rfl
  refine ⟨k52.1.1, fun _ _ => k52.1.1, k52.1.1, h01, fun G62 e62 => ?_⟩
  have k62 : MU E G0 G62 m scJ := by rw [e62]; exact k52.mSfd (by decide) (Or.inl ⟨by decide, by decide⟩)
  have f62 : ∀ k, k ≠ 34 → gfd G62 12 k m = gfd G52 12 k m := fun k hk9 => by rw [e62, gfd_sfd, if_neg (fun h9 => hk9 h9.2.1)]
  have w34 : gfd G62 12 34 m = (if kk = 13 then ((if gfd G52 12 51 m = 0 then (1 : Int) else 0) : Int) else 0) := by rw [e62, gfd_sfd, if_pos ⟨rfl, rfl, rfl⟩]
  have y32 := k62.1.fx 32 16 120
  refine ⟨k62.1.1, fun _ => k62.1.1, y32.1, by omega, by omega, fun G70 e70 => ?_⟩
  have k70 : MU E G0 G70 m scJ := by rw [e70]; exact k62.mSel (by decide) (Or.inl ⟨by decide, by decide⟩)
  have f70 : ∀ k, gfd G70 12 k m = gfd G62 12 k m := fun k => by rw [e70]; rfl
  have fall : ∀ k, k ≠ 34 → k ≠ 51 → gfd G70 12 k m = gfd G22 12 k m := fun k h1 h2 => by rw [f70, f62 k h1, f52 k h2]
  have el52 : ∀ k, k ∈ mArr → k ≠ 51 → ∀ i, gel G52 (gfd G22 12 k m) i = gel G22 (gfd G22 12 k m) i := fun k h1 h2 i => by
    have := t52.e k h2 h1 i
    rw [f52 k h2] at this; exact this
  have ne : ∀ p q : Nat, p ≠ q → p ∈ mArr → q ∈ mArr → gfd G22 12 p m ≠ gfd G22 12 q m := fun p q h1 h2 h3 => hs22.ne p q h1 h2 h3
  have hv9 : ∀ y i, gel G70 y i = if y = gfd G22 12 32 m ∧ i = 12 * n then (if kk = 14 then ((if gfd G62 12 51 m = 0 then (0 : Int) else 1000) : Int) else r51) else gel G52 y i := fun y i => by
    rw [e70, gel_sel, f62 32 (by decide), f52 32 (by decide), e62]; rfl
  have o : ∀ k, k ∈ mArr → k ≠ 51 → k ≠ 32 → ∀ i, gel G70 (gfd G22 12 k m) i = gel G22 (gfd G22 12 k m) i := fun k h1 h2 h3 i => by
    rw [hv9, if_neg (fun h9 => ne k 32 h3 h1 (by decide) h9.1)]
    exact el52 k h1 h2 i
  have o32 : ∀ i : Int, i ≠ 12 * (n : Int) → gel G70 (gfd G22 12 32 m) i = gel G22 (gfd G22 12 32 m) i := fun i h1 => by
    rw [hv9, if_neg (fun h9 => h1 h9.2)]
    exact el52 32 (by decide) (by decide) i
  have hnl1 : nl = 1 ∧ ∃ v, L = [(666, v)] := hRl.2.2.2.resolve_left hnl
  obtain ⟨hn1, v0, hL1⟩ := hnl1
  have pile : ∀ val, wBd val = (if kk = 14 then ((if gfd G62 12 51 m = 0 then (0 : Int) else 1000) : Int) else r51) → PiM G70 m (S ++ [(1, bdL [(666, val)])]) := fun val hval => by
    have hl9 : ∀ z : Rw, (S ++ [z]).length = n + 1 := fun z => by rw [List.length_append, hn]; rfl
    refine ⟨by rw [fall 33 (by decide) (by decide), v33, hl9]; rfl, by rw [hl9]; omega, fun i hi => ?_⟩
    rw [hl9] at hi
    rw [appD (by omega)]
    unfold RowM at r22 ⊢
    rw [fall 29 (by decide) (by decide), fall 30 (by decide) (by decide), fall 31 (by decide) (by decide), fall 32 (by decide) (by decide)]
    rw [o 29 (by decide) (by decide) (by decide), o 30 (by decide) (by decide) (by decide)]
    by_cases hil : i < S.length
    · rw [if_pos hil]
      have hr := r22 i (by omega)
      refine ⟨hr.1, hr.2.1, hr.2.2.1, fun j hj => ?_⟩
      have := hr.2.2.1
      rw [o 31 (by decide) (by decide) (by decide), o32 _ (by omega)]
      exact hr.2.2.2 j hj
    · rw [if_neg hil]
      have he : i = n := by omega
      rw [he, l1, l2]
      refine ⟨hn1, by rw [hl1.1]; rfl, by show (1 : Nat) ≤ 12; decide, fun j hj => ?_⟩
      have hj0 : j = 0 := by
        have : j < 1 := hj
        omega
      rw [hj0, z0, o 31 (by decide) (by decide) (by decide), hv9, if_pos ⟨rfl, rfl⟩, hl0.1, hL1]
      exact ⟨rfl, hval.symm⟩
  refine ⟨k70, ?_⟩
  have h51 := hq.2.1
  have hr51 := hq.2.2
  rw [f70 34, w34]
  have hj : joinR kk set nl L nu U = if kk = 13 ∧ (U.getD 0 (0, 0)).2 = 0 then none else some (1, [(666, if kk = 14 then (if (U.getD 0 (0, 0)).2 < (L.getD 0 (0, 0)).2 then 1000 else 0) else rkV kk (L.getD 0 (0, 0)).2 (U.getD 0 (0, 0)).2)]) := by
    unfold joinR
    exact if_pos ⟨hnl, hnu⟩
  rw [hj]
  by_cases e13 : kk = 13
  · by_cases hz : (U.getD 0 (0, 0)).2 = 0
    · rw [if_neg (show ¬ kk = 14 by omega), if_pos ⟨e13, hz⟩] at h51
      rw [if_pos e13, if_pos h51, if_pos ⟨e13, hz⟩]
      exact Or.inr ⟨by decide, rfl⟩
    · rw [if_neg (show ¬ kk = 14 by omega), if_neg (fun h9 => hz h9.2)] at h51
      rw [if_pos e13, if_neg (by rw [h51]; decide), if_neg (fun h9 => hz h9.2)]
      refine Or.inl ⟨rfl, _, rfl, pile _ ?_⟩
      rw [if_neg (show ¬ kk = 14 by omega), if_neg (show ¬ kk = 14 by omega), hr51, if_neg (show ¬ kk = 14 by omega)]
  · rw [if_neg e13, if_neg (fun h9 => e13 h9.1)]
    refine Or.inl ⟨rfl, _, rfl, pile _ ?_⟩
    by_cases e14 : kk = 14
    · rw [if_pos e14] at h51
      rw [if_pos e14, if_pos e14, f62 51 (by decide), h51]
      by_cases hlt : (U.getD 0 (0, 0)).2 < (L.getD 0 (0, 0)).2
      · rw [if_pos hlt, if_pos hlt, if_neg (by decide)]; rfl
      · rw [if_neg hlt, if_neg hlt, if_pos rfl]; rfl
    · rw [if_neg e14, if_neg e14, hr51, if_neg e14]
end Sa48
