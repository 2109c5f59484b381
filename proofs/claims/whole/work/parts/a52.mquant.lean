/-! the model takes quantiles: the contract -/
section Sa52
variable {E : EE} {G G' G2 G0 Gs G8 G15 : Gt} {c s : Nat} {Q X : Int → Gt → Prop} {m v b l r u x i nn sh fl : Int} {k j n a : Nat} {R A B C F T : List (Int × Int)} {S : List Rw}
theorem St47.to93 (h : St47 E Gs G m T) : St93 E Gs G m T (gfd Gs 12 34 m) := ⟨h.1.mono fun k h9 => Or.inr (by omega), fun k _ _ => h.2.1 k, h.2.1 34, h.2.2⟩
theorem qtN_len : ∀ (k : Nat) (R : List (Int × Int)), (qtN sh k R).length ≤ k
  | 0, _ => Nat.le_refl _
  | _ + 1, [] => Nat.zero_le _
  | k + 1, y :: R => by
    show (optL _ _ ++ qtN sh k _).length ≤ k + 1
    rw [List.length_append]
    have h1 := qtN_len k ((y :: R).dropWhile (ten y))
    have h2 : ∀ (l : Int) (o : Option Int), (optL l o).length ≤ 1 := fun l o => by
      cases o with
      | none => exact Nat.zero_le _
      | some w => exact Nat.le_refl _
    have h3 := h2 (Int.tdiv y.1 10 * 10 + 6) (qtV sh (((y :: R).takeWhile (ten y)).filter not6))
    omega
theorem om_quantile (hU : MU E G0 G m scP) (hP : PiM G m (S ++ [(nn, R)])) (hR : RV nn R) (hsh : 0 ≤ sh ∧ sh ≤ 1000) : Ok E M_X12_quantile [rv m, iv sh] G c s (fun _ G' => MU E G0 G' m scJ ∧ gfd G' 12 34 m = gfd G 12 34 m ∧ PiM G' m (S ++ [(0, bdL (if nn = 0 then qtN sh R.length R else []))])) (fun _ _ => False) := by
  obtain ⟨h1, h10, hr1, hr2, hr3, hr4⟩ := hP.row
  have hr1' : gel G (gfd G 12 29 m) (S.length : Int) = nn := hr1
  have hr2' : gel G (gfd G 12 30 m) (S.length : Int) = R.length := hr2
  have hs := hU.1
  have x29 := hs.fx 29 17 10
  have x30 := hs.fx 30 15 10
  have e1 : (S.length : Int) + 1 - 1 = S.length := by omega
  have hrow : ∀ i : Nat, i < S.length → RowM G m i (S.getD i (0, [])) := fun i hi => by
    have := hP.2.2 i (by rw [List.length_append]; show i < S.length + 1; omega)
    rw [appZ, if_pos hi] at this
    exact this
  have key : ∀ F : List (Int × Int), (∀ y ∈ F, cOk y.1 ∧ bnd y.2) → ascL F → RoX G m S.length F → V E M_X12_quantile 46 [some (rv m), some (iv sh), some (iv (12 * (S.length : Int))), some (iv (F.length : Int)), some (iv 0), some (iv 0), none, none, none, none, none, none, none, none, none, none, none, none, none, none, none, none, none] [] G c s (fun _ G' => MU E G0 G' m scJ ∧ gfd G' 12 34 m = gfd G 12 34 m ∧ PiM G' m (S ++ [(0, bdL (qtN sh F.length F))])) (fun _ _ => False) := fun F hF hasc hx => by
    have hl8 : S.length ≤ 9 := by omega
    refine v_q46 hx hF hasc hsh h1 (fun G' G8 G15 hS e8 e15 => ?_) F.length 0 [] G (by omega) (Nat.zero_le _) ⟨MU.refl hs hU.2.1 hU.2.2.1.1, fun _ => rfl, fun j hj => absurd hj (Nat.not_lt_zero j)⟩ (Nat.le_refl _) rfl
    exact q_fin (fl := gfd G 12 34 m) (hU.mono fun k h9 => scP_J h9) hS.to93 (Nat.le_trans (qtN_len _ _) hx.2.1) rfl hl8 h1 hrow e8 e15 fun G2 k2 f2 hP2 => ⟨k2, f2, hP2⟩
  refine i_X12_quantile ?_
  rw [h1, e1, hr1', hr2']
  refine ⟨hs.1, i32s' (by omega), i32s' (by omega), hs.1, hs.1, i32s' (by omega), x29.1, by omega, by omega, fun _ => hs.1, fun _ => hs.1, fun _ => i32s' (by omega), fun _ => x30.1, fun _ => by omega, fun _ => by omega, ?_⟩
  by_cases h0 : nn = 0
  · rw [if_pos h0, if_pos h0]
    exact key R hR.2.2.1 hR.2.1 ⟨h10, hr3, fun j hj => hr4 j hj⟩
  · rw [if_neg h0, if_neg h0]
    exact key [] (fun y hy => (List.not_mem_nil hy).elim) List.Pairwise.nil ⟨h10, Nat.zero_le _, fun j hj => absurd hj (Nat.not_lt_zero j)⟩
end Sa52
