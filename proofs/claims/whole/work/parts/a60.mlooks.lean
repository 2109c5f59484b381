/-! an alert of the model looks: entries that go -/
section Sa60
variable {E : EE} {G G' G2 G0 : Gt} {c s : Nat} {Q X : Int → Gt → Prop} {m p q v n3 l now kp k4 : Int} {k r : Nat} {es A B C : List En} {x x9 : En} {R : List (Int × Int)}
/-- the labels that were found, as the model has them -/
def LbM (G : Gt) (m : Int) (R : List (Int × Int)) : Prop := R.length ≤ 12 ∧ ∀ k : Nat, k < R.length → (if gel G (gfd G 12 29 m) 0 = 0 then gel G (gfd G 12 31 m) k else 666) = (R.getD k (0, 0)).1
theorem LbM.mu {T : Nat → Prop} (h : LbM G0 m R) (k : MT G0 G m T) (hT : ¬ T 29 ∧ ¬ T 31) : LbM G m R := by
  unfold LbM
  simp only [k.e 29 hT.1, k.e 31 hT.2]
  exact h
theorem v_lk222 (hr : r < 8) {e : Nat} (he : e < C.length) (hC : C.length ≤ 24) (hK : ∀ G', EsS E G0 G' m r (C.eraseIdx e) → V E M_X12_looks 58 [some (rv m), some (iv (r : Int)), none, some (iv n3), some (iv ((e : Int) + (-1))), none, none, none, none] [] G' c s Q X) :
    ∀ (j k : Nat) (G : Gt), k + j + 1 = C.length → e ≤ k → EsU E G0 G m r → gel G (gfd G0 12 38 m) r = (C.length : Int) - 1 → (∀ kk, 39 ≤ kk → kk ≤ 43 → ∀ i : Nat, i < C.length → gel G (gfd G0 12 kk m) (24 * (r : Int) + i) = cE (if e ≤ i ∧ i < k then C.getD (i + 1) e0 else C.getD i e0) kk) →
    V E M_X12_looks 222 [some (rv m), some (iv (r : Int)), none, some (iv n3), some (iv (e : Int)), none, none, none, some (iv (k : Int))] [] G c s Q X := by
  intro j
  induction j with
  | zero =>
    intro k G hk hek hU h38 hv
    have e38 : gel G (gfd G 12 38 m) (r : Int) = (C.length : Int) - 1 := by rw [hU.2.1]; exact h38
    have x38 := hU.1.1.fx 38 15 8
    refine b_X12_looks_222 ?_
    rw [e38]
    refine ⟨hU.1.1.1, x38.1, by omega, by omega, fun _ => ⟨i32s' (by omega), hK G ⟨hU, ?_, ?_, fun kk h1 h2 i hi => ?_⟩⟩, fun h9 => by omega⟩
    · rw [h38, List.length_eraseIdx, if_pos he]; omega
    · rw [List.length_eraseIdx, if_pos he]; omega
    · rw [List.length_eraseIdx, if_pos he] at hi
      rw [hv kk h1 h2 i (by omega), eraseE]
      by_cases h9 : i < e
      · rw [if_pos h9, if_neg (by omega)]
      · rw [if_neg h9, if_pos (by omega)]
  | succ j ih =>
    intro k G hk hek hU h38 hv
    have e38 : gel G (gfd G 12 38 m) (r : Int) = (C.length : Int) - 1 := by rw [hU.2.1]; exact h38
    have x38 := hU.1.1.fx 38 15 8
    refine b_X12_looks_222 ?_
    rw [e38]
    refine ⟨hU.1.1.1, x38.1, by omega, by omega, fun h9 => by omega, fun _ => ⟨i32s' (by omega), i32s' (by omega), i32s' (by omega), i32s' (by omega), i32s' (by omega), hU.1.1.1, Call.to (om_moves hU hr ⟨by omega, by omega⟩ ⟨by omega, by omega⟩ (by omega)) (Nat.zero_le _) (Nat.zero_le _) fun _ G14 hm => ⟨i32s' (by omega), ih (k + 1) G14 (by omega) (by omega) hm.1 (by rw [hm.2.1]; exact h38) (fun kk h1 h2 i hi => ?_)⟩⟩⟩
    rw [hm.2.2 kk h1 h2]
    by_cases hik : i = k
    · subst hik
      have h9 := hv kk h1 h2 (i + 1) (by omega)
      rw [if_neg (by omega)] at h9
      rw [if_pos rfl, if_pos (by omega), show 24 * (r : Int) + i + 1 = 24 * (r : Int) + ((i + 1 : Nat) : Int) by omega]
      exact h9
    · rw [if_neg (by omega), hv kk h1 h2 i hi]
      by_cases h9 : e ≤ i ∧ i < k
      · rw [if_pos h9, if_pos (by omega)]
      · rw [if_neg h9, if_neg (by omega)]
theorem v_lk78 (hU : MSh E G m) (hb : LbM G m R) (hp : 0 ≤ p ∧ p < 192) (hl : gel G (gfd G 12 39 m) p = l) (hK : ∀ y : Int, y = 0 ∨ y = 1 → (y ≠ 0 ↔ R.any (fun z => decide (z.1 = l)) = true) → V E M_X12_looks 78 [some (rv m), some (iv (r : Int)), none, some (iv (R.length : Int)), some (iv k4), some (iv p), some (iv y), some (iv (R.length : Int)), none] [] G c s Q X) :
    ∀ (j k : Nat) (y : Int), k + j = R.length → y = 0 ∨ y = 1 → (y ≠ 0 ↔ (R.take k).any (fun z => decide (z.1 = l)) = true) → V E M_X12_looks 78 [some (rv m), some (iv (r : Int)), none, some (iv (R.length : Int)), some (iv k4), some (iv p), some (iv y), some (iv (k : Int)), none] [] G c s Q X := by
  have x29 := hU.fx 29 17 10
  have x31 := hU.fx 31 15 120
  have x39 := hU.fx 39 15 192
  have hg := hU.1
  have h12 := hb.1
  intro j
  induction j with
  | zero =>
    intro k y hk hy hiff
    have e : k = R.length := hk
    subst e
    rw [List.take_length] at hiff
    exact hK y hy hiff
  | succ j ih =>
    intro k y hk hy hiff
    have hlt : k < R.length := by omega
    have hb9 := hb.2 k hlt
    have hs : (if y = 0 then ((if (gel G (gfd G 12 29 m) 0) = 0 then ((if (gel G (gfd G 12 31 m) k) = (gel G (gfd G 12 39 m) p) then (1 : Int) else 0) : Int) else (if 666 = (gel G (gfd G 12 39 m) p) then (1 : Int) else 0)) : Int) else 1) = if y = 0 then (if (R.getD k (0, 0)).1 = l then 1 else 0) else 1 := by
      rw [hl]
      by_cases h29 : gel G (gfd G 12 29 m) 0 = 0
      · rw [if_pos h29] at hb9 ⊢
        rw [hb9]
      · rw [if_neg h29] at hb9 ⊢
        rw [← hb9]
    refine b_X12_looks_78 ⟨fun h9 => by omega, fun _ => ⟨fun _ => hg, fun _ => x29.1, fun _ => by omega, fun _ _ => hg, fun _ _ => x31.1, fun _ _ => by omega, fun _ _ => by omega, fun _ _ => hg, fun _ _ => x39.1, fun _ _ => by omega, fun _ _ => by omega, fun _ _ => hg, fun _ _ => x39.1, fun _ _ => by omega, fun _ _ => by omega, i32s' (by omega), ?_⟩⟩
    rw [hs]
    refine ih (k + 1) _ (by omega) ?_ ?_
    · split
      · split
        · exact Or.inr rfl
        · exact Or.inl rfl
      · exact Or.inr rfl
    · rw [takeS (d := (0, 0)) hlt, List.any_append]
      by_cases h0 : y = 0
      · have hA : (R.take k).any (fun z => decide (z.1 = l)) = false := by
          cases hh : (R.take k).any (fun z => decide (z.1 = l)) with
          | false => rfl
          | true => exact (hiff.mpr hh h0).elim
        rw [if_pos h0, hA, Bool.false_or]
        by_cases hz : (R.getD k (0, 0)).1 = l
        · rw [if_pos hz]
          rw [List.any_cons, List.any_nil, Bool.or_false, decide_eq_true hz]
          exact ⟨fun _ => rfl, fun _ => by decide⟩
        · rw [if_neg hz]
          rw [List.any_cons, List.any_nil, Bool.or_false, decide_eq_false hz]
          exact ⟨fun h9 => absurd rfl h9, fun h9 => absurd h9 (by decide)⟩
      · rw [if_neg h0, hiff.mp h0, Bool.true_or]
        exact ⟨fun _ => rfl, fun _ => by decide⟩
/-- what becomes of an entry that was there -/
abbrev lkF (now kp : Int) (R : List (Int × Int)) : En → Option En := lkA1 now kp (fun c => R.any (fun z => decide (z.1 = c)))
theorem eraA {j : Nat} (hA : A.length = j) : (A ++ x :: B).eraseIdx j = A ++ B := by
  rw [List.eraseIdx_append_of_length_le (by omega), hA, Nat.sub_self]; rfl
theorem v_lk58 (hr : r < 8) (h1 : gfd G0 12 1 m = now) (hkp : gel G0 (gfd G0 12 27 m) r = kp) (hb : LbM G0 m R) (hok : ∀ e ∈ es, enOk e) (hnow : 0 ≤ now ∧ now ≤ 100000) (hlen : es.length ≤ 24)
    (hK : ∀ G', EsS E G0 G' m r (es.filterMap (lkF now kp R)) → V E M_X12_looks 268 [some (rv m), some (iv (r : Int)), none, some (iv (R.length : Int)), some (iv 0), none, none, none, none] [] G' c s Q X) :
    ∀ (j : Nat) (G : Gt), j ≤ es.length → EsS E G0 G m r (es.take j ++ (es.drop j).filterMap (lkF now kp R)) → V E M_X12_looks 58 [some (rv m), some (iv (r : Int)), none, some (iv (R.length : Int)), some (iv ((j : Int) + (-1))), none, none, none, none] [] G c s Q X := by
  intro j
  induction j with
  | zero =>
    intro G hj hS
    rw [List.take_zero, List.drop_zero, List.nil_append] at hS
    exact b_X12_looks_58 ⟨fun _ => hK G hS, fun h9 => by omega⟩
  | succ j ih =>
    intro G hj hS
    have hlt : j < es.length := by omega
    have hA : (es.take j).length = j := by rw [List.length_take]; omega
    have hx := hok _ (getD_mem' (v := e0) hlt)
    have hdr := dropG e0 hlt
    rw [takeS (d := e0) hlt, List.append_assoc, List.singleton_append] at hS
    have ihx := ih
    rw [hdr] at ihx
    generalize hT : (es.drop (j + 1)).filterMap (lkF now kp R) = T at hS
    generalize es.getD j e0 = x at hS hx ihx
    have h24 := hS.2.2.1
    rw [List.length_append, List.length_cons, hA] at h24
    rw [show ((j + 1 : Nat) : Int) + (-1) = j by omega]
    have hbG := hb.mu hS.1.1.2.2.2.2.2 ⟨by omega, by omega⟩
    have at9 : ∀ k, 39 ≤ k → k ≤ 43 → gel G (gfd G 12 k m) (24 * (r : Int) + j) = cE x k := fun k h7 h8 => by
      have := hS.at h7 h8
      rw [hA] at this
      exact this
    refine b_X12_looks_58 ⟨fun h9 => by omega, fun _ => ⟨i32s' (by omega), i32s' (by omega), ?_⟩⟩
    refine v_lk78 (l := x.1) hS.1.1.1 hbG ⟨by omega, by omega⟩ (at9 39 (by decide) (by decide)) (fun y hy hiff => ?_) R.length 0 0 (Nat.zero_add _) (Or.inl rfl) ⟨fun h9 => absurd rfl h9, fun h9 => by rw [List.take_zero] at h9; cases h9⟩
    have hg := hS.1.1.1.1
    have x42 := hS.1.1.1.fx 42 15 192
    have v42 : gel G (gfd G 12 42 m) (24 * (r : Int) + j) = x.2.2.2.1 := at9 42 (by decide) (by decide)
    have v1 : gfd G 12 1 m = now := by rw [hS.1.2.1]; exact h1
    refine b_X12_looks_78 ⟨fun _ => ?_, fun h9 => by omega⟩
    refine ⟨hg, fun _ => hg, fun _ => x42.1, fun _ => by omega, fun _ => by omega, fun _ => hg, x42.1, by omega, by omega, fun G12 e12 => ?_⟩
    rw [v42, v1] at e12
    have hla : 0 ≤ (if y = 0 then x.2.2.2.1 else now) ∧ (if y = 0 then x.2.2.2.1 else now) ≤ 100000 := by
      have := hx.2.1
      split <;> omega
    have hS12 : EsS E G0 G12 m r (es.take j ++ (x.1, x.2.1, x.2.2.1, (if y = 0 then x.2.2.2.1 else now), x.2.2.2.2) :: T) := by
      have := hS.put (k := 42) (v := if y = 0 then x.2.2.2.1 else now) (x9 := (x.1, x.2.1, x.2.2.1, (if y = 0 then x.2.2.2.1 else now), x.2.2.2.2)) (by decide) (by decide) (k5 rfl rfl rfl rfl rfl)
      rw [hA] at this
      rw [e12]
      exact this
    have hfx : lkF now kp R x = if (if y = 0 then ((if x.2.1 = 0 then (1 : Int) else (if now - (if y = 0 then x.2.2.2.1 else now) ≤ kp then (0 : Int) else 1)) : Int) else 0) = 0 then some (x.1, x.2.1, x.2.2.1, (if y = 0 then x.2.2.2.1 else now), x.2.2.2.2) else none := by
      unfold lkF lkA1
      by_cases h0 : y = 0
      · rw [if_neg (fun h9 => hiff.mpr h9 h0)]
        simp only [if_pos h0]
        have t0 : ¬ ((1 : Int) = 0) := by decide
        by_cases h21 : x.2.1 = 0
        · rw [if_pos (Or.inl h21), if_pos h21, if_neg t0]
        · rw [if_neg h21]
          by_cases h7 : now - x.2.2.2.1 ≤ kp
          · rw [if_pos h7, if_pos rfl, if_neg (fun h6 : x.2.1 = 0 ∨ kp < now - x.2.2.2.1 => by omega)]
          · rw [if_neg h7, if_neg t0, if_pos (show x.2.1 = 0 ∨ kp < now - x.2.2.2.1 by omega)]
      · rw [if_pos (hiff.mp h0), if_neg h0, if_neg h0, if_pos rfl]
    generalize (if y = 0 then x.2.2.2.1 else now) = la at hla hS12 hfx
    have bt9 : ∀ k, 39 ≤ k → k ≤ 43 → gel G12 (gfd G12 12 k m) (24 * (r : Int) + j) = cE (x.1, x.2.1, x.2.2.1, la, x.2.2.2.2) k := fun k h7 h8 => by
      have := hS12.at h7 h8
      rw [hA] at this
      exact this
    have w40 : gel G12 (gfd G12 12 40 m) (24 * (r : Int) + j) = x.2.1 := bt9 40 (by decide) (by decide)
    have w42 : gel G12 (gfd G12 12 42 m) (24 * (r : Int) + j) = la := bt9 42 (by decide) (by decide)
    have w1 : gfd G12 12 1 m = now := by rw [hS12.1.2.1]; exact h1
    have w27 : gel G12 (gfd G12 12 27 m) r = kp := by rw [hS12.1.1.2.2.2.2.2.e 27 (by omega)]; exact hkp
    have w38 : gel G12 (gfd G12 12 38 m) r = ((es.take j ++ (x.1, x.2.1, x.2.2.1, la, x.2.2.2.2) :: T).length : Int) := by rw [hS12.1.2.1]; exact hS12.2.1
    have hg12 := hS12.1.1.1.1
    have y40 := hS12.1.1.1.fx 40 15 192
    have y42 := hS12.1.1.1.fx 42 15 192
    have y27 := hS12.1.1.1.fx 27 15 8
    have y38 := hS12.1.1.1.fx 38 15 8
    have hl12 : (es.take j ++ (x.1, x.2.1, x.2.2.1, la, x.2.2.2.2) :: T).length = j + T.length + 1 := by rw [List.length_append, List.length_cons, hA]; omega
    rw [w40, w42, w1, w27, w38]
    refine ⟨fun _ => hg12, fun _ => y40.1, fun _ => by omega, fun _ => by omega, fun _ _ => hg12, fun _ _ => hg12, fun _ _ => y42.1, fun _ _ => by omega, fun _ _ => by omega, fun _ _ => i32s' (by omega), fun _ _ => hg12, fun _ _ => y27.1, fun _ _ => by omega, fun _ _ => by omega, fun hc => ⟨i32s' (by omega), ihx G12 (by omega) ?_⟩, fun hc => ⟨hg12, y38.1, by omega, by omega, by rw [hl12]; exact i32s' (by omega), y38.1, by omega, by omega, fun G40 e40 => ?_⟩⟩
    · rw [if_pos hc] at hfx
      rw [List.filterMap_cons_some hfx, hT]
      exact hS12
    · rw [if_neg hc] at hfx
      obtain ⟨a1, a2, a3⟩ := hS12.1.s38 (((es.take j ++ (x.1, x.2.1, x.2.2.1, la, x.2.2.2.2) :: T).length : Int) - 1)
      rw [← e40] at a1 a2 a3
      refine v_lk222 (C := es.take j ++ (x.1, x.2.1, x.2.2.1, la, x.2.2.2.2) :: T) hr (by omega) hS12.2.2.1 (fun G' hS' => ihx G' (by omega) ?_) T.length j G40 (by omega) (Nat.le_refl _) a1 a2 (fun kk h7 h8 i hi => ?_)
      · rw [List.filterMap_cons_none hfx, hT]
        rw [eraA hA] at hS'
        exact hS'
      · rw [a3 kk h7 h8, if_neg (by omega)]
        exact hS12.2.2.2 kk h7 h8 i hi
end Sa60
