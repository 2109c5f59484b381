set_option maxRecDepth 20000 in
theorem b_X12_nextTime_0 {E : EE} {l0 l1 l2 : Int} {G : Gt} {c s : Nat} {Q X : Int → Gt → Prop} (h : V E M_X12_nextTime 5 [some (rv l0), some (iv l1), some (iv l2), some (iv (-1)), some (iv 0), none] [] G c s Q X) : V E M_X12_nextTime 0 [some (rv l0), some (iv l1), some (iv l2), none, none, none] [] G c s Q X := by
  refine v_iconst (pc := 0) (dk dt_X12_nextTime 0 rfl) ⟨by decide, by decide⟩ ?_
  refine v_istore_n (pc := 1) (ls' := [some (rv l0), some (iv l1), some (iv l2), some (iv (-1)), none, none]) (dk dt_X12_nextTime 1 rfl) rfl (Nat.le_of_ble_eq_true rfl) rfl ?_
  refine v_iconst (pc := 2) (dk dt_X12_nextTime 2 rfl) ⟨by decide, by decide⟩ ?_
  refine v_istore (pc := 3) (ls' := [some (rv l0), some (iv l1), some (iv l2), some (iv (-1)), some (iv 0), none]) (dk dt_X12_nextTime 3 rfl) (Nat.le_of_ble_eq_true rfl) rfl ?_
  exact h
set_option maxRecDepth 20000 in
theorem i_X12_nextTime {E : EE} {l0 l1 l2 : Int} {G : Gt} {c s : Nat} {Q X : Int → Gt → Prop} (h : V E M_X12_nextTime 5 [some (rv l0), some (iv l1), some (iv l2), some (iv (-1)), some (iv 0), none] [] G c s Q X) : Ok E M_X12_nextTime [rv l0, iv l1, iv l2] G c s Q X := Ok.intro (k := 3) rfl rfl (Nat.le_of_ble_eq_true rfl) rfl (b_X12_nextTime_0 h)
set_option maxRecDepth 20000 in
theorem b_X12_nextTime_5 {E : EE} {l0 l1 l2 l3 l4 : Int} {G : Gt} {c s : Nat} {Q X : Int → Gt → Prop} (h : (gcl G l0 = 13 ∧ (((gfd G 12 12 l0) ≤ l4 → Q l3 G) ∧ (l4 < (gfd G 12 12 l0) → (gcl G l0 = 13 ∧ OkP E M_X12_isSeen [rv l0, iv l4] G (mSeen G l0 l4) ∧ ((mSeen G l0 l4) ≠ 0 → gcl G l0 = 13) ∧ ((mSeen G l0 l4) ≠ 0 → gcl G (gfd G 12 7 l0) = 15) ∧ ((mSeen G l0 l4) ≠ 0 → 0 ≤ l4) ∧ ((mSeen G l0 l4) ≠ 0 → l4 < gln G (gfd G 12 7 l0)) ∧ ((mSeen G l0 l4) ≠ 0 → (gel G (gfd G 12 7 l0) l4) = l1 → gcl G l0 = 13) ∧ ((mSeen G l0 l4) ≠ 0 → (gel G (gfd G 12 7 l0) l4) = l1 → gcl G (gfd G 12 8 l0) = 15) ∧ ((mSeen G l0 l4) ≠ 0 → (gel G (gfd G 12 7 l0) l4) = l1 → 0 ≤ l4) ∧ ((mSeen G l0 l4) ≠ 0 → (gel G (gfd G 12 7 l0) l4) = l1 → l4 < gln G (gfd G 12 8 l0)) ∧ ((if (mSeen G l0 l4) = 0 then (0 : Int) else (if (gel G (gfd G 12 7 l0) l4) = l1 then ((if (gel G (gfd G 12 8 l0) l4) ≤ l2 then (0 : Int) else 1) : Int) else 0)) ≠ 0 → l3 = (-1) → gcl G l0 = 13) ∧ ((if (mSeen G l0 l4) = 0 then (0 : Int) else (if (gel G (gfd G 12 7 l0) l4) = l1 then ((if (gel G (gfd G 12 8 l0) l4) ≤ l2 then (0 : Int) else 1) : Int) else 0)) ≠ 0 → l3 = (-1) → gcl G (gfd G 12 8 l0) = 15) ∧ ((if (mSeen G l0 l4) = 0 then (0 : Int) else (if (gel G (gfd G 12 7 l0) l4) = l1 then ((if (gel G (gfd G 12 8 l0) l4) ≤ l2 then (0 : Int) else 1) : Int) else 0)) ≠ 0 → l3 = (-1) → 0 ≤ l4) ∧ ((if (mSeen G l0 l4) = 0 then (0 : Int) else (if (gel G (gfd G 12 7 l0) l4) = l1 then ((if (gel G (gfd G 12 8 l0) l4) ≤ l2 then (0 : Int) else 1) : Int) else 0)) ≠ 0 → l3 = (-1) → l4 < gln G (gfd G 12 8 l0)) ∧ ((if (mSeen G l0 l4) = 0 then (0 : Int) else (if (gel G (gfd G 12 7 l0) l4) = l1 then ((if (gel G (gfd G 12 8 l0) l4) ≤ l2 then (0 : Int) else 1) : Int) else 0)) ≠ 0 → l3 ≠ (-1) → gcl G l0 = 13) ∧ ((if (mSeen G l0 l4) = 0 then (0 : Int) else (if (gel G (gfd G 12 7 l0) l4) = l1 then ((if (gel G (gfd G 12 8 l0) l4) ≤ l2 then (0 : Int) else 1) : Int) else 0)) ≠ 0 → l3 ≠ (-1) → gcl G (gfd G 12 8 l0) = 15) ∧ ((if (mSeen G l0 l4) = 0 then (0 : Int) else (if (gel G (gfd G 12 7 l0) l4) = l1 then ((if (gel G (gfd G 12 8 l0) l4) ≤ l2 then (0 : Int) else 1) : Int) else 0)) ≠ 0 → l3 ≠ (-1) → 0 ≤ l4) ∧ ((if (mSeen G l0 l4) = 0 then (0 : Int) else (if (gel G (gfd G 12 7 l0) l4) = l1 then ((if (gel G (gfd G 12 8 l0) l4) ≤ l2 then (0 : Int) else 1) : Int) else 0)) ≠ 0 → l3 ≠ (-1) → l4 < gln G (gfd G 12 8 l0)) ∧ ((if (mSeen G l0 l4) = 0 then (0 : Int) else (if (gel G (gfd G 12 7 l0) l4) = l1 then ((if (gel G (gfd G 12 8 l0) l4) ≤ l2 then (0 : Int) else 1) : Int) else 0)) ≠ 0 → l3 ≠ (-1) → (gel G (gfd G 12 8 l0) l4) < l3 → gcl G l0 = 13) ∧ ((if (mSeen G l0 l4) = 0 then (0 : Int) else (if (gel G (gfd G 12 7 l0) l4) = l1 then ((if (gel G (gfd G 12 8 l0) l4) ≤ l2 then (0 : Int) else 1) : Int) else 0)) ≠ 0 → l3 ≠ (-1) → (gel G (gfd G 12 8 l0) l4) < l3 → gcl G (gfd G 12 8 l0) = 15) ∧ ((if (mSeen G l0 l4) = 0 then (0 : Int) else (if (gel G (gfd G 12 7 l0) l4) = l1 then ((if (gel G (gfd G 12 8 l0) l4) ≤ l2 then (0 : Int) else 1) : Int) else 0)) ≠ 0 → l3 ≠ (-1) → (gel G (gfd G 12 8 l0) l4) < l3 → 0 ≤ l4) ∧ ((if (mSeen G l0 l4) = 0 then (0 : Int) else (if (gel G (gfd G 12 7 l0) l4) = l1 then ((if (gel G (gfd G 12 8 l0) l4) ≤ l2 then (0 : Int) else 1) : Int) else 0)) ≠ 0 → l3 ≠ (-1) → (gel G (gfd G 12 8 l0) l4) < l3 → l4 < gln G (gfd G 12 8 l0)) ∧ i32 (l4 + 1) ∧ V E M_X12_nextTime 5 [some (rv l0), some (iv l1), some (iv l2), some (iv (if (if (mSeen G l0 l4) = 0 then (0 : Int) else (if (gel G (gfd G 12 7 l0) l4) = l1 then ((if (gel G (gfd G 12 8 l0) l4) ≤ l2 then (0 : Int) else 1) : Int) else 0)) = 0 then (l3 : Int) else (if l3 = (-1) then ((gel G (gfd G 12 8 l0) l4) : Int) else (if l3 ≤ (gel G (gfd G 12 8 l0) l4) then (l3 : Int) else (gel G (gfd G 12 8 l0) l4))))), some (iv (l4 + 1)), none] [] G c s Q X))))) : V E M_X12_nextTime 5 [some (rv l0), some (iv l1), some (iv l2), some (iv l3), some (iv l4), none] [] G c s Q X := by
  refine v_iload (pc := 5) (dk dt_X12_nextTime 4 rfl) rfl ?_
  refine v_aload_n (pc := 7) (dk dt_X12_nextTime 5 rfl) rfl rfl ?_
  obtain ⟨v1, h⟩ := h
  refine v_getI (pc := 8) (dk dt_X12_nextTime 6 rfl) fl_X12_154 v1 (fun _ => ?_)
  refine v_icmp_ge (pc := 11) (tgt := 91) (dk dt_X12_nextTime 7 rfl) (by decide) (fun c2 => ?_) (fun c2 => ?_)
  · replace h := h.1 c2
    refine v_iload_n (pc := 91) (dk dt_X12_nextTime_1 8 rfl) rfl rfl ?_
    exact v_iret (pc := 92) (dk dt_X12_nextTime_1 9 rfl) rfl h
  · replace h := h.2 c2
    refine v_aload_n (pc := 14) (dk dt_X12_nextTime 8 rfl) rfl rfl ?_
    refine v_iload (pc := 15) (dk dt_X12_nextTime 9 rfl) rfl ?_
    obtain ⟨v3, h⟩ := h
    obtain ⟨v4, h⟩ := h
    refine v_cvPZ (c := 12) (v := (mSeen G l0 l4)) (As := [iv l4]) (stk := []) (pc := 17) (dk dt_X12_nextTime 10 rfl) ml_X12_157 rfl rfl (Nat.le_of_ble_eq_true rfl) rfl ⟨by decide, rfl⟩ v3 rfl v4 ?_
    obtain ⟨v6, v7, v8, v9, v11, v12, v13, v14, h⟩ := h
    suffices k32 : V E M_X12_nextTime 50 [some (rv l0), some (iv l1), some (iv l2), some (iv l3), some (iv l4), none] [iv (if (mSeen G l0 l4) = 0 then (0 : Int) else (if (gel G (gfd G 12 7 l0) l4) = l1 then ((if (gel G (gfd G 12 8 l0) l4) ≤ l2 then (0 : Int) else 1) : Int) else 0))] G c s Q X by
      refine v_if_eq (pc := 20) (tgt := 49) (dk dt_X12_nextTime 11 rfl) (by decide) (fun c5 => ?_) (fun c5 => ?_)
      · refine v_iconst (pc := 49) (dk dt_X12_nextTime 26 rfl) ⟨by decide, by decide⟩ ?_
        exact v_less2 (ls' := [some (rv l0), some (iv l1), some (iv l2), some (iv l3), some (iv l4), none]) ⟨rfl, rfl, rfl, rfl, rfl, trivial⟩ (by have hk9 := k32; try simp only [if_pos c5] at hk9 ⊢; exact hk9)
      · refine v_aload_n (pc := 23) (dk dt_X12_nextTime 12 rfl) rfl rfl ?_
        refine v_getR (pc := 24) (dk dt_X12_nextTime 13 rfl) fl_X12_26 (v6 c5) (fun _ => ?_)
        refine v_iload (pc := 27) (dk dt_X12_nextTime 14 rfl) rfl ?_
        refine v_iald (pc := 29) (dk dt_X12_nextTime 15 rfl) (Or.inl (v7 c5)) (v8 c5) (v9 c5) (fun _ => ?_)
        refine v_iload_n (pc := 30) (dk dt_X12_nextTime 16 rfl) rfl rfl ?_
        refine v_icmp_ne (pc := 31) (tgt := 49) (dk dt_X12_nextTime 17 rfl) (by decide) (fun c10 => ?_) (fun c10 => ?_)
        · refine v_iconst (pc := 49) (dk dt_X12_nextTime 26 rfl) ⟨by decide, by decide⟩ ?_
          exact v_less2 (ls' := [some (rv l0), some (iv l1), some (iv l2), some (iv l3), some (iv l4), none]) ⟨rfl, rfl, rfl, rfl, rfl, trivial⟩ (by have hk9 := k32; try simp only [if_neg c5] at hk9 ⊢; try simp only [if_neg c10] at hk9 ⊢; exact hk9)
        · refine v_aload_n (pc := 34) (dk dt_X12_nextTime 18 rfl) rfl rfl ?_
          refine v_getR (pc := 35) (dk dt_X12_nextTime 19 rfl) fl_X12_29 (v11 c5 c10) (fun _ => ?_)
          refine v_iload (pc := 38) (dk dt_X12_nextTime 20 rfl) rfl ?_
          refine v_iald (pc := 40) (dk dt_X12_nextTime 21 rfl) (Or.inl (v12 c5 c10)) (v13 c5 c10) (v14 c5 c10) (fun _ => ?_)
          refine v_iload_n (pc := 41) (dk dt_X12_nextTime 22 rfl) rfl rfl ?_
          refine v_icmp_le (pc := 42) (tgt := 49) (dk dt_X12_nextTime 23 rfl) (by decide) (fun c15 => ?_) (fun c15 => ?_)
          · refine v_iconst (pc := 49) (dk dt_X12_nextTime 26 rfl) ⟨by decide, by decide⟩ ?_
            exact v_less2 (ls' := [some (rv l0), some (iv l1), some (iv l2), some (iv l3), some (iv l4), none]) ⟨rfl, rfl, rfl, rfl, rfl, trivial⟩ (by have hk9 := k32; try simp only [if_neg c5] at hk9 ⊢; try simp only [if_pos c10] at hk9 ⊢; try simp only [if_pos c15] at hk9 ⊢; exact hk9)
          · refine v_iconst (pc := 45) (dk dt_X12_nextTime 24 rfl) ⟨by decide, by decide⟩ ?_
            refine v_goto (pc := 46) (tgt := 50) (dk dt_X12_nextTime 25 rfl) (by decide) ?_
            exact v_less2 (ls' := [some (rv l0), some (iv l1), some (iv l2), some (iv l3), some (iv l4), none]) ⟨rfl, rfl, rfl, rfl, rfl, trivial⟩ (by have hk9 := k32; try simp only [if_neg c5] at hk9 ⊢; try simp only [if_pos c10] at hk9 ⊢; try simp only [if_neg (Int.not_le.mpr c15)] at hk9 ⊢; exact hk9)
    refine v_istore (pc := 50) (ls' := [some (rv l0), some (iv l1), some (iv l2), some (iv l3), some (iv l4), some (iv (if (mSeen G l0 l4) = 0 then (0 : Int) else (if (gel G (gfd G 12 7 l0) l4) = l1 then ((if (gel G (gfd G 12 8 l0) l4) ≤ l2 then (0 : Int) else 1) : Int) else 0)))]) (dk dt_X12_nextTime 27 rfl) (Nat.le_of_ble_eq_true rfl) rfl ?_
    refine v_iload (pc := 52) (dk dt_X12_nextTime 28 rfl) rfl ?_
    obtain ⟨v18, v19, v20, v21, v22, v23, v24, v25, v27, v28, v29, v30, h⟩ := h
    suffices k33 : V E M_X12_nextTime 84 [some (rv l0), some (iv l1), some (iv l2), none, some (iv l4), none] [iv (if (if (mSeen G l0 l4) = 0 then (0 : Int) else (if (gel G (gfd G 12 7 l0) l4) = l1 then ((if (gel G (gfd G 12 8 l0) l4) ≤ l2 then (0 : Int) else 1) : Int) else 0)) = 0 then (l3 : Int) else (if l3 = (-1) then ((gel G (gfd G 12 8 l0) l4) : Int) else (if l3 ≤ (gel G (gfd G 12 8 l0) l4) then (l3 : Int) else (gel G (gfd G 12 8 l0) l4))))] G c s Q X by
      refine v_if_eq (pc := 54) (tgt := 83) (dk dt_X12_nextTime 29 rfl) (by decide) (fun c16 => ?_) (fun c16 => ?_)
      · refine v_iload_n (pc := 83) (dk dt_X12_nextTime_1 4 rfl) rfl rfl ?_
        exact v_less2 (ls' := [some (rv l0), some (iv l1), some (iv l2), none, some (iv l4), none]) ⟨rfl, rfl, rfl, rfl, trivial⟩ (by have hk9 := k33; try simp only [if_pos c16] at hk9 ⊢; exact hk9)
      · refine v_iload_n (pc := 57) (dk dt_X12_nextTime 30 rfl) rfl rfl ?_
        refine v_iconst (pc := 58) (dk dt_X12_nextTime 31 rfl) ⟨by decide, by decide⟩ ?_
        refine v_icmp_eq (pc := 59) (tgt := 73) (dk dt_X12_nextTime 32 rfl) (by decide) (fun c17 => ?_) (fun c17 => ?_)
        · refine v_aload_n (pc := 73) (dk dt_X12_nextTime 39 rfl) rfl rfl ?_
          refine v_getR (pc := 74) (dk dt_X12_nextTime_1 0 rfl) fl_X12_29 (v18 c16 c17) (fun _ => ?_)
          refine v_iload (pc := 77) (dk dt_X12_nextTime_1 1 rfl) rfl ?_
          refine v_iald (pc := 79) (dk dt_X12_nextTime_1 2 rfl) (Or.inl (v19 c16 c17)) (v20 c16 c17) (v21 c16 c17) (fun _ => ?_)
          refine v_goto (pc := 80) (tgt := 84) (dk dt_X12_nextTime_1 3 rfl) (by decide) ?_
          exact v_less2 (ls' := [some (rv l0), some (iv l1), some (iv l2), none, some (iv l4), none]) ⟨rfl, rfl, rfl, rfl, trivial⟩ (by have hk9 := k33; try simp only [if_neg c16] at hk9 ⊢; try simp only [if_pos c17] at hk9 ⊢; exact hk9)
        · refine v_aload_n (pc := 62) (dk dt_X12_nextTime 33 rfl) rfl rfl ?_
          refine v_getR (pc := 63) (dk dt_X12_nextTime 34 rfl) fl_X12_29 (v22 c16 c17) (fun _ => ?_)
          refine v_iload (pc := 66) (dk dt_X12_nextTime 35 rfl) rfl ?_
          refine v_iald (pc := 68) (dk dt_X12_nextTime 36 rfl) (Or.inl (v23 c16 c17)) (v24 c16 c17) (v25 c16 c17) (fun _ => ?_)
          refine v_iload_n (pc := 69) (dk dt_X12_nextTime 37 rfl) rfl rfl ?_
          refine v_icmp_ge (pc := 70) (tgt := 83) (dk dt_X12_nextTime 38 rfl) (by decide) (fun c26 => ?_) (fun c26 => ?_)
          · refine v_iload_n (pc := 83) (dk dt_X12_nextTime_1 4 rfl) rfl rfl ?_
            exact v_less2 (ls' := [some (rv l0), some (iv l1), some (iv l2), none, some (iv l4), none]) ⟨rfl, rfl, rfl, rfl, trivial⟩ (by have hk9 := k33; try simp only [if_neg c16] at hk9 ⊢; try simp only [if_neg c17] at hk9 ⊢; try simp only [if_pos c26] at hk9 ⊢; exact hk9)
          · refine v_aload_n (pc := 73) (dk dt_X12_nextTime 39 rfl) rfl rfl ?_
            refine v_getR (pc := 74) (dk dt_X12_nextTime_1 0 rfl) fl_X12_29 (v27 c16 c17 c26) (fun _ => ?_)
            refine v_iload (pc := 77) (dk dt_X12_nextTime_1 1 rfl) rfl ?_
            refine v_iald (pc := 79) (dk dt_X12_nextTime_1 2 rfl) (Or.inl (v28 c16 c17 c26)) (v29 c16 c17 c26) (v30 c16 c17 c26) (fun _ => ?_)
            refine v_goto (pc := 80) (tgt := 84) (dk dt_X12_nextTime_1 3 rfl) (by decide) ?_
            exact v_less2 (ls' := [some (rv l0), some (iv l1), some (iv l2), none, some (iv l4), none]) ⟨rfl, rfl, rfl, rfl, trivial⟩ (by have hk9 := k33; try simp only [if_neg c16] at hk9 ⊢; try simp only [if_neg c17] at hk9 ⊢; try simp only [if_neg (Int.not_le.mpr c26)] at hk9 ⊢; exact hk9)
    refine v_istore_n (pc := 84) (ls' := [some (rv l0), some (iv l1), some (iv l2), some (iv (if (if (mSeen G l0 l4) = 0 then (0 : Int) else (if (gel G (gfd G 12 7 l0) l4) = l1 then ((if (gel G (gfd G 12 8 l0) l4) ≤ l2 then (0 : Int) else 1) : Int) else 0)) = 0 then (l3 : Int) else (if l3 = (-1) then ((gel G (gfd G 12 8 l0) l4) : Int) else (if l3 ≤ (gel G (gfd G 12 8 l0) l4) then (l3 : Int) else (gel G (gfd G 12 8 l0) l4))))), some (iv l4), none]) (dk dt_X12_nextTime_1 5 rfl) rfl (Nat.le_of_ble_eq_true rfl) rfl ?_
    obtain ⟨v31, h⟩ := h
    refine v_iinc (pc := 85) (ls' := [some (rv l0), some (iv l1), some (iv l2), some (iv (if (if (mSeen G l0 l4) = 0 then (0 : Int) else (if (gel G (gfd G 12 7 l0) l4) = l1 then ((if (gel G (gfd G 12 8 l0) l4) ≤ l2 then (0 : Int) else 1) : Int) else 0)) = 0 then (l3 : Int) else (if l3 = (-1) then ((gel G (gfd G 12 8 l0) l4) : Int) else (if l3 ≤ (gel G (gfd G 12 8 l0) l4) then (l3 : Int) else (gel G (gfd G 12 8 l0) l4))))), some (iv (l4 + 1)), none]) (dk dt_X12_nextTime_1 6 rfl) (Nat.le_of_ble_eq_true rfl) rfl v31 rfl ?_
    refine v_goto (pc := 88) (tgt := 5) (dk dt_X12_nextTime_1 7 rfl) (by decide) ?_
    exact h
set_option maxRecDepth 20000 in
theorem b_X12_valueAt_0 {E : EE} {l0 l1 l2 : Int} {G : Gt} {c s : Nat} {Q X : Int → Gt → Prop} (h : V E M_X12_valueAt 5 [some (rv l0), some (iv l1), some (iv l2), some (iv 0), some (iv 0)] [] G c s Q X) : V E M_X12_valueAt 0 [some (rv l0), some (iv l1), some (iv l2), none, none] [] G c s Q X := by
  refine v_iconst (pc := 0) (dk dt_X12_valueAt 0 rfl) ⟨by decide, by decide⟩ ?_
  refine v_istore_n (pc := 1) (ls' := [some (rv l0), some (iv l1), some (iv l2), some (iv 0), none]) (dk dt_X12_valueAt 1 rfl) rfl (Nat.le_of_ble_eq_true rfl) rfl ?_
  refine v_iconst (pc := 2) (dk dt_X12_valueAt 2 rfl) ⟨by decide, by decide⟩ ?_
  refine v_istore (pc := 3) (ls' := [some (rv l0), some (iv l1), some (iv l2), some (iv 0), some (iv 0)]) (dk dt_X12_valueAt 3 rfl) (Nat.le_of_ble_eq_true rfl) rfl ?_
  exact h
set_option maxRecDepth 20000 in
theorem i_X12_valueAt {E : EE} {l0 l1 l2 : Int} {G : Gt} {c s : Nat} {Q X : Int → Gt → Prop} (h : V E M_X12_valueAt 5 [some (rv l0), some (iv l1), some (iv l2), some (iv 0), some (iv 0)] [] G c s Q X) : Ok E M_X12_valueAt [rv l0, iv l1, iv l2] G c s Q X := Ok.intro (k := 2) rfl rfl (Nat.le_of_ble_eq_true rfl) rfl (b_X12_valueAt_0 h)
set_option maxRecDepth 20000 in
theorem b_X12_valueAt_5 {E : EE} {l0 l1 l2 l3 l4 : Int} {G : Gt} {c s : Nat} {Q X : Int → Gt → Prop} (h : (gcl G l0 = 13 ∧ (((gfd G 12 12 l0) ≤ l4 → Q l3 G) ∧ (l4 < (gfd G 12 12 l0) → (gcl G l0 = 13 ∧ OkP E M_X12_isSeen [rv l0, iv l4] G (mSeen G l0 l4) ∧ ((mSeen G l0 l4) ≠ 0 → gcl G l0 = 13) ∧ ((mSeen G l0 l4) ≠ 0 → gcl G (gfd G 12 7 l0) = 15) ∧ ((mSeen G l0 l4) ≠ 0 → 0 ≤ l4) ∧ ((mSeen G l0 l4) ≠ 0 → l4 < gln G (gfd G 12 7 l0)) ∧ ((mSeen G l0 l4) ≠ 0 → (gel G (gfd G 12 7 l0) l4) = l1 → gcl G l0 = 13) ∧ ((mSeen G l0 l4) ≠ 0 → (gel G (gfd G 12 7 l0) l4) = l1 → gcl G (gfd G 12 8 l0) = 15) ∧ ((mSeen G l0 l4) ≠ 0 → (gel G (gfd G 12 7 l0) l4) = l1 → 0 ≤ l4) ∧ ((mSeen G l0 l4) ≠ 0 → (gel G (gfd G 12 7 l0) l4) = l1 → l4 < gln G (gfd G 12 8 l0)) ∧ ((mSeen G l0 l4) ≠ 0 → (gel G (gfd G 12 7 l0) l4) = l1 → (gel G (gfd G 12 8 l0) l4) = l2 → gcl G l0 = 13) ∧ ((mSeen G l0 l4) ≠ 0 → (gel G (gfd G 12 7 l0) l4) = l1 → (gel G (gfd G 12 8 l0) l4) = l2 → gcl G (gfd G 12 9 l0) = 15) ∧ ((mSeen G l0 l4) ≠ 0 → (gel G (gfd G 12 7 l0) l4) = l1 → (gel G (gfd G 12 8 l0) l4) = l2 → 0 ≤ l4) ∧ ((mSeen G l0 l4) ≠ 0 → (gel G (gfd G 12 7 l0) l4) = l1 → (gel G (gfd G 12 8 l0) l4) = l2 → l4 < gln G (gfd G 12 9 l0)) ∧ i32 (l4 + 1) ∧ V E M_X12_valueAt 5 [some (rv l0), some (iv l1), some (iv l2), some (iv (if (mSeen G l0 l4) = 0 then (l3 : Int) else (if (gel G (gfd G 12 7 l0) l4) = l1 then ((if (gel G (gfd G 12 8 l0) l4) = l2 then ((gel G (gfd G 12 9 l0) l4) : Int) else l3) : Int) else l3))), some (iv (l4 + 1))] [] G c s Q X))))) : V E M_X12_valueAt 5 [some (rv l0), some (iv l1), some (iv l2), some (iv l3), some (iv l4)] [] G c s Q X := by
  refine v_iload (pc := 5) (dk dt_X12_valueAt 4 rfl) rfl ?_
  refine v_aload_n (pc := 7) (dk dt_X12_valueAt 5 rfl) rfl rfl ?_
  obtain ⟨v1, h⟩ := h
  refine v_getI (pc := 8) (dk dt_X12_valueAt 6 rfl) fl_X12_154 v1 (fun _ => ?_)
  refine v_icmp_ge (pc := 11) (tgt := 63) (dk dt_X12_valueAt 7 rfl) (by decide) (fun c2 => ?_) (fun c2 => ?_)
  · replace h := h.1 c2
    refine v_iload_n (pc := 63) (dk dt_X12_valueAt 33 rfl) rfl rfl ?_
    exact v_iret (pc := 64) (dk dt_X12_valueAt 34 rfl) rfl h
  · replace h := h.2 c2
    refine v_aload_n (pc := 14) (dk dt_X12_valueAt 8 rfl) rfl rfl ?_
    refine v_iload (pc := 15) (dk dt_X12_valueAt 9 rfl) rfl ?_
    obtain ⟨v3, h⟩ := h
    obtain ⟨v4, h⟩ := h
    refine v_cvPZ (c := 12) (v := (mSeen G l0 l4)) (As := [iv l4]) (stk := []) (pc := 17) (dk dt_X12_valueAt 10 rfl) ml_X12_157 rfl rfl (Nat.le_of_ble_eq_true rfl) rfl ⟨by decide, rfl⟩ v3 rfl v4 ?_
    obtain ⟨v6, v7, v8, v9, v11, v12, v13, v14, v16, v17, v18, v19, h⟩ := h
    suffices k21 : V E M_X12_valueAt 56 [some (rv l0), some (iv l1), some (iv l2), none, some (iv l4)] [iv (if (mSeen G l0 l4) = 0 then (l3 : Int) else (if (gel G (gfd G 12 7 l0) l4) = l1 then ((if (gel G (gfd G 12 8 l0) l4) = l2 then ((gel G (gfd G 12 9 l0) l4) : Int) else l3) : Int) else l3))] G c s Q X by
      refine v_if_eq (pc := 20) (tgt := 55) (dk dt_X12_valueAt 11 rfl) (by decide) (fun c5 => ?_) (fun c5 => ?_)
      · refine v_iload_n (pc := 55) (dk dt_X12_valueAt 29 rfl) rfl rfl ?_
        exact v_less2 (ls' := [some (rv l0), some (iv l1), some (iv l2), none, some (iv l4)]) ⟨rfl, rfl, rfl, rfl, trivial⟩ (by have hk9 := k21; try simp only [if_pos c5] at hk9 ⊢; exact hk9)
      · refine v_aload_n (pc := 23) (dk dt_X12_valueAt 12 rfl) rfl rfl ?_
        refine v_getR (pc := 24) (dk dt_X12_valueAt 13 rfl) fl_X12_26 (v6 c5) (fun _ => ?_)
        refine v_iload (pc := 27) (dk dt_X12_valueAt 14 rfl) rfl ?_
        refine v_iald (pc := 29) (dk dt_X12_valueAt 15 rfl) (Or.inl (v7 c5)) (v8 c5) (v9 c5) (fun _ => ?_)
        refine v_iload_n (pc := 30) (dk dt_X12_valueAt 16 rfl) rfl rfl ?_
        refine v_icmp_ne (pc := 31) (tgt := 55) (dk dt_X12_valueAt 17 rfl) (by decide) (fun c10 => ?_) (fun c10 => ?_)
        · refine v_iload_n (pc := 55) (dk dt_X12_valueAt 29 rfl) rfl rfl ?_
          exact v_less2 (ls' := [some (rv l0), some (iv l1), some (iv l2), none, some (iv l4)]) ⟨rfl, rfl, rfl, rfl, trivial⟩ (by have hk9 := k21; try simp only [if_neg c5] at hk9 ⊢; try simp only [if_neg c10] at hk9 ⊢; exact hk9)
        · refine v_aload_n (pc := 34) (dk dt_X12_valueAt 18 rfl) rfl rfl ?_
          refine v_getR (pc := 35) (dk dt_X12_valueAt 19 rfl) fl_X12_29 (v11 c5 c10) (fun _ => ?_)
          refine v_iload (pc := 38) (dk dt_X12_valueAt 20 rfl) rfl ?_
          refine v_iald (pc := 40) (dk dt_X12_valueAt 21 rfl) (Or.inl (v12 c5 c10)) (v13 c5 c10) (v14 c5 c10) (fun _ => ?_)
          refine v_iload_n (pc := 41) (dk dt_X12_valueAt 22 rfl) rfl rfl ?_
          refine v_icmp_ne (pc := 42) (tgt := 55) (dk dt_X12_valueAt 23 rfl) (by decide) (fun c15 => ?_) (fun c15 => ?_)
          · refine v_iload_n (pc := 55) (dk dt_X12_valueAt 29 rfl) rfl rfl ?_
            exact v_less2 (ls' := [some (rv l0), some (iv l1), some (iv l2), none, some (iv l4)]) ⟨rfl, rfl, rfl, rfl, trivial⟩ (by have hk9 := k21; try simp only [if_neg c5] at hk9 ⊢; try simp only [if_pos c10] at hk9 ⊢; try simp only [if_neg c15] at hk9 ⊢; exact hk9)
          · refine v_aload_n (pc := 45) (dk dt_X12_valueAt 24 rfl) rfl rfl ?_
            refine v_getR (pc := 46) (dk dt_X12_valueAt 25 rfl) fl_X12_32 (v16 c5 c10 c15) (fun _ => ?_)
            refine v_iload (pc := 49) (dk dt_X12_valueAt 26 rfl) rfl ?_
            refine v_iald (pc := 51) (dk dt_X12_valueAt 27 rfl) (Or.inl (v17 c5 c10 c15)) (v18 c5 c10 c15) (v19 c5 c10 c15) (fun _ => ?_)
            refine v_goto (pc := 52) (tgt := 56) (dk dt_X12_valueAt 28 rfl) (by decide) ?_
            exact v_less2 (ls' := [some (rv l0), some (iv l1), some (iv l2), none, some (iv l4)]) ⟨rfl, rfl, rfl, rfl, trivial⟩ (by have hk9 := k21; try simp only [if_neg c5] at hk9 ⊢; try simp only [if_pos c10] at hk9 ⊢; try simp only [if_pos c15] at hk9 ⊢; exact hk9)
    refine v_istore_n (pc := 56) (ls' := [some (rv l0), some (iv l1), some (iv l2), some (iv (if (mSeen G l0 l4) = 0 then (l3 : Int) else (if (gel G (gfd G 12 7 l0) l4) = l1 then ((if (gel G (gfd G 12 8 l0) l4) = l2 then ((gel G (gfd G 12 9 l0) l4) : Int) else l3) : Int) else l3))), some (iv l4)]) (dk dt_X12_valueAt 30 rfl) rfl (Nat.le_of_ble_eq_true rfl) rfl ?_
    obtain ⟨v20, h⟩ := h
    refine v_iinc (pc := 57) (ls' := [some (rv l0), some (iv l1), some (iv l2), some (iv (if (mSeen G l0 l4) = 0 then (l3 : Int) else (if (gel G (gfd G 12 7 l0) l4) = l1 then ((if (gel G (gfd G 12 8 l0) l4) = l2 then ((gel G (gfd G 12 9 l0) l4) : Int) else l3) : Int) else l3))), some (iv (l4 + 1))]) (dk dt_X12_valueAt 31 rfl) (Nat.le_of_ble_eq_true rfl) rfl v20 rfl ?_
    refine v_goto (pc := 60) (tgt := 5) (dk dt_X12_valueAt 32 rfl) (by decide) ?_
    exact h
set_option maxRecDepth 20000 in
theorem b_X12_packed_0 {E : EE} {l0 l1 l2 : Int} {G : Gt} {c s : Nat} {Q X : Int → Gt → Prop} (h : (i32 ((Int.tdiv l2 100) * 100) ∧ i32 (((Int.tdiv l2 100) * 100) + 99) ∧ gcl G l0 = 13 ∧ Call E M_X12_nextTime [rv l0, iv l1, iv l2] G c s X (fun r4 G5 c6 s7 => V E M_X12_packed 29 [some (rv l0), some (iv l1), none, some (iv 64), some (iv (((Int.tdiv l2 100) * 100) + 99)), some (iv l2), some (iv 0), some (iv r4), none, none] [] G5 c6 s7 Q X))) : V E M_X12_packed 0 [some (rv l0), some (iv l1), some (iv l2), none, none, none, none, none, none, none] [] G c s Q X := by
  refine v_bipush (pc := 0) (dk dt_X12_packed 0 rfl) (by decide) ⟨by decide, by decide⟩ ?_
  refine v_istore_n (pc := 2) (ls' := [some (rv l0), some (iv l1), some (iv l2), some (iv 64), none, none, none, none, none, none]) (dk dt_X12_packed 1 rfl) rfl (Nat.le_of_ble_eq_true rfl) rfl ?_
  refine v_iload_n (pc := 3) (dk dt_X12_packed 2 rfl) rfl rfl ?_
  refine v_bipush (pc := 4) (dk dt_X12_packed 3 rfl) (by decide) ⟨by decide, by decide⟩ ?_
  refine v_idivP (pc := 6) (dk dt_X12_packed 4 rfl) (by decide) ?_
  refine v_bipush (pc := 7) (dk dt_X12_packed 5 rfl) (by decide) ⟨by decide, by decide⟩ ?_
  obtain ⟨v1, h⟩ := h
  refine v_imul (pc := 9) (dk dt_X12_packed 6 rfl) v1 ?_
  refine v_bipush (pc := 10) (dk dt_X12_packed 7 rfl) (by decide) ⟨by decide, by decide⟩ ?_
  obtain ⟨v2, h⟩ := h
  refine v_iadd (pc := 12) (dk dt_X12_packed 8 rfl) v2 ?_
  refine v_istore (pc := 13) (ls' := [some (rv l0), some (iv l1), some (iv l2), some (iv 64), some (iv (((Int.tdiv l2 100) * 100) + 99)), none, none, none, none, none]) (dk dt_X12_packed 9 rfl) (Nat.le_of_ble_eq_true rfl) rfl ?_
  refine v_iload_n (pc := 15) (dk dt_X12_packed 10 rfl) rfl rfl ?_
  refine v_istore (pc := 16) (ls' := [some (rv l0), some (iv l1), some (iv l2), some (iv 64), some (iv (((Int.tdiv l2 100) * 100) + 99)), some (iv l2), none, none, none, none]) (dk dt_X12_packed 11 rfl) (Nat.le_of_ble_eq_true rfl) rfl ?_
  refine v_iconst (pc := 18) (dk dt_X12_packed 12 rfl) ⟨by decide, by decide⟩ ?_
  refine v_istore (pc := 19) (ls' := [some (rv l0), some (iv l1), some (iv l2), some (iv 64), some (iv (((Int.tdiv l2 100) * 100) + 99)), some (iv l2), some (iv 0), none, none, none]) (dk dt_X12_packed 13 rfl) (Nat.le_of_ble_eq_true rfl) rfl ?_
  refine v_aload_n (pc := 21) (dk dt_X12_packed 14 rfl) rfl rfl ?_
  refine v_iload_n (pc := 22) (dk dt_X12_packed 15 rfl) rfl rfl ?_
  refine v_iload_n (pc := 23) (dk dt_X12_packed 16 rfl) rfl rfl ?_
  obtain ⟨v3, h⟩ := h
  refine v_cvI (c := 12) (As := [iv l1, iv l2]) (stk := []) (pc := 24) (dk dt_X12_packed 17 rfl) ml_X12_217 rfl rfl (Nat.le_of_ble_eq_true rfl) rfl ⟨by decide, rfl⟩ v3 rfl (Call.mono h (fun r4 G5 c6 s7 h => ?_))
  refine v_istore (pc := 27) (ls' := [some (rv l0), some (iv l1), some (iv l2), some (iv 64), some (iv (((Int.tdiv l2 100) * 100) + 99)), some (iv l2), some (iv 0), some (iv r4), none, none]) (dk dt_X12_packed 18 rfl) (Nat.le_of_ble_eq_true rfl) rfl ?_
  exact v_less2 (ls' := [some (rv l0), some (iv l1), none, some (iv 64), some (iv (((Int.tdiv l2 100) * 100) + 99)), some (iv l2), some (iv 0), some (iv r4), none, none]) ⟨rfl, rfl, rfl, rfl, rfl, rfl, rfl, trivial⟩ h
set_option maxRecDepth 20000 in
theorem i_X12_packed {E : EE} {l0 l1 l2 : Int} {G : Gt} {c s : Nat} {Q X : Int → Gt → Prop} (h : (i32 ((Int.tdiv l2 100) * 100) ∧ i32 (((Int.tdiv l2 100) * 100) + 99) ∧ gcl G l0 = 13 ∧ Call E M_X12_nextTime [rv l0, iv l1, iv l2] G c s X (fun r4 G5 c6 s7 => V E M_X12_packed 29 [some (rv l0), some (iv l1), none, some (iv 64), some (iv (((Int.tdiv l2 100) * 100) + 99)), some (iv l2), some (iv 0), some (iv r4), none, none] [] G5 c6 s7 Q X))) : Ok E M_X12_packed [rv l0, iv l1, iv l2] G c s Q X := Ok.intro (k := 7) rfl rfl (Nat.le_of_ble_eq_true rfl) rfl (b_X12_packed_0 h)
set_option maxRecDepth 20000 in
theorem b_X12_packed_29 {E : EE} {l0 l1 l3 l4 l5 l6 l7 : Int} {G : Gt} {c s : Nat} {Q X : Int → Gt → Prop} (h : ((l7 = (-1) → Q l3 G) ∧ (l7 ≠ (-1) → ((l4 < l7 → Q l3 G) ∧ (l7 ≤ l4 → (i32 (l7 - l5) ∧ i32 ((l7 - l5) - l6) ∧ (((l7 - l5) - l6) ≠ 0 → OkP E M_X12_in [iv ((l7 - l5) - l6), iv (-63), iv 64] G (wIn ((l7 - l5) - l6) (-63) 64)) ∧ (((l7 - l5) - l6) ≠ 0 → (wIn ((l7 - l5) - l6) (-63) 64) = 0 → OkP E M_X12_in [iv ((l7 - l5) - l6), iv (-255), iv 256] G (wIn ((l7 - l5) - l6) (-255) 256)) ∧ i32 (l3 + (if ((l7 - l5) - l6) = 0 then (1 : Int) else (if (wIn ((l7 - l5) - l6) (-63) 64) = 0 then ((if (wIn ((l7 - l5) - l6) (-255) 256) = 0 then (36 : Int) else 12) : Int) else 9))) ∧ gcl G l0 = 13 ∧ Call E M_X12_valueAt [rv l0, iv l1, iv l7] G c s X (fun r12 G13 c14 s15 => gcl G13 l0 = 13 ∧ Call E M_X12_valueAt [rv l0, iv l1, iv l5] G13 c14 s15 X (fun r17 G18 c19 s20 => ∀ J21 : Int → Gt → Nat → Nat → Prop, (∀ (x22 : Int) (G23 : Gt) (c24 s25 : Nat), (i32 ((l3 + (if ((l7 - l5) - l6) = 0 then (1 : Int) else (if (wIn ((l7 - l5) - l6) (-63) 64) = 0 then ((if (wIn ((l7 - l5) - l6) (-255) 256) = 0 then (36 : Int) else 12) : Int) else 9))) + x22) ∧ i32 (l7 - l5) ∧ gcl G23 l0 = 13 ∧ Call E M_X12_nextTime [rv l0, iv l1, iv l7] G23 c24 s25 X (fun r29 G30 c31 s32 => V E M_X12_packed 29 [some (rv l0), some (iv l1), none, some (iv ((l3 + (if ((l7 - l5) - l6) = 0 then (1 : Int) else (if (wIn ((l7 - l5) - l6) (-63) 64) = 0 then ((if (wIn ((l7 - l5) - l6) (-255) 256) = 0 then (36 : Int) else 12) : Int) else 9))) + x22)), some (iv l4), some (iv l7), some (iv (l7 - l5)), some (iv r29), none, none] [] G30 c31 s32 Q X)) → J21 x22 G23 c24 s25) → (((xor32 r12 r17) ≠ 0 → (Call E M_X12_spread [iv (xor32 r12 r17)] G18 c19 s20 X (fun r34 G35 c36 s37 => i32 (12 + r34) ∧ J21 (12 + r34) G35 c36 s37))) ∧ ((xor32 r12 r17) = 0 → J21 1 G18 c19 s20)))))))))) : V E M_X12_packed 29 [some (rv l0), some (iv l1), none, some (iv l3), some (iv l4), some (iv l5), some (iv l6), some (iv l7), none, none] [] G c s Q X := by
  refine v_iload (pc := 29) (dk dt_X12_packed 19 rfl) rfl ?_
  refine v_iconst (pc := 31) (dk dt_X12_packed 20 rfl) ⟨by decide, by decide⟩ ?_
  refine v_icmp_eq (pc := 32) (tgt := 162) (dk dt_X12_packed 21 rfl) (by decide) (fun c1 => ?_) (fun c1 => ?_)
  · replace h := h.1 c1
    refine v_iload_n (pc := 162) (dk dt_X12_packed_2 6 rfl) rfl rfl ?_
    exact v_iret (pc := 163) (dk dt_X12_packed_2 7 rfl) rfl h
  · replace h := h.2 c1
    refine v_iload (pc := 35) (dk dt_X12_packed 22 rfl) rfl ?_
    refine v_iload (pc := 37) (dk dt_X12_packed 23 rfl) rfl ?_
    refine v_icmp_gt (pc := 39) (tgt := 162) (dk dt_X12_packed 24 rfl) (by decide) (fun c2 => ?_) (fun c2 => ?_)
    · replace h := h.1 c2
      refine v_iload_n (pc := 162) (dk dt_X12_packed_2 6 rfl) rfl rfl ?_
      exact v_iret (pc := 163) (dk dt_X12_packed_2 7 rfl) rfl h
    · replace h := h.2 c2
      refine v_iload (pc := 42) (dk dt_X12_packed 25 rfl) rfl ?_
      refine v_iload (pc := 44) (dk dt_X12_packed 26 rfl) rfl ?_
      obtain ⟨v3, h⟩ := h
      refine v_isub (pc := 46) (dk dt_X12_packed 27 rfl) v3 ?_
      refine v_iload (pc := 47) (dk dt_X12_packed 28 rfl) rfl ?_
      obtain ⟨v4, h⟩ := h
      refine v_isub (pc := 49) (dk dt_X12_packed 29 rfl) v4 ?_
      refine v_istore (pc := 50) (ls' := [some (rv l0), some (iv l1), none, some (iv l3), some (iv l4), some (iv l5), some (iv l6), some (iv l7), some (iv ((l7 - l5) - l6)), none]) (dk dt_X12_packed 30 rfl) (Nat.le_of_ble_eq_true rfl) rfl ?_
      refine v_iload_n (pc := 52) (dk dt_X12_packed 31 rfl) rfl rfl ?_
      refine v_iload (pc := 53) (dk dt_X12_packed 32 rfl) rfl ?_
      obtain ⟨v6, v8, h⟩ := h
      suffices k39 : V E M_X12_packed 100 [some (rv l0), some (iv l1), none, none, some (iv l4), some (iv l5), none, some (iv l7), none, none] [iv (if ((l7 - l5) - l6) = 0 then (1 : Int) else (if (wIn ((l7 - l5) - l6) (-63) 64) = 0 then ((if (wIn ((l7 - l5) - l6) (-255) 256) = 0 then (36 : Int) else 12) : Int) else 9)), iv l3] G c s Q X by
        refine v_if_ne (pc := 55) (tgt := 62) (dk dt_X12_packed 33 rfl) (by decide) (fun c5 => ?_) (fun c5 => ?_)
        · refine v_iload (pc := 62) (dk dt_X12_packed 36 rfl) rfl ?_
          refine v_bipush (pc := 64) (dk dt_X12_packed 37 rfl) (by decide) ⟨by decide, by decide⟩ ?_
          refine v_bipush (pc := 66) (dk dt_X12_packed 38 rfl) (by decide) ⟨by decide, by decide⟩ ?_
          refine v_csPZ (v := (wIn ((l7 - l5) - l6) (-63) 64)) (As := [iv ((l7 - l5) - l6), iv (-63), iv 64]) (stk := [iv l3]) (pc := 68) (dk dt_X12_packed 39 rfl) ml_X12_172 rfl rfl (Nat.le_of_ble_eq_true rfl) rfl rfl (v6 c5) ?_
          refine v_if_eq (pc := 71) (tgt := 79) (dk dt_X12_packed_1 0 rfl) (by decide) (fun c7 => ?_) (fun c7 => ?_)
          · refine v_iload (pc := 79) (dk dt_X12_packed_1 3 rfl) rfl ?_
            refine v_sipush (pc := 81) (dk dt_X12_packed_1 4 rfl) (by decide) ⟨by decide, by decide⟩ ?_
            refine v_sipush (pc := 84) (dk dt_X12_packed_1 5 rfl) (by decide) ⟨by decide, by decide⟩ ?_
            refine v_csPZ (v := (wIn ((l7 - l5) - l6) (-255) 256)) (As := [iv ((l7 - l5) - l6), iv (-255), iv 256]) (stk := [iv l3]) (pc := 87) (dk dt_X12_packed_1 6 rfl) ml_X12_172 rfl rfl (Nat.le_of_ble_eq_true rfl) rfl rfl (v8 c5 c7) ?_
            refine v_if_eq (pc := 90) (tgt := 98) (dk dt_X12_packed_1 7 rfl) (by decide) (fun c9 => ?_) (fun c9 => ?_)
            · refine v_bipush (pc := 98) (dk dt_X12_packed_1 10 rfl) (by decide) ⟨by decide, by decide⟩ ?_
              exact v_less2 (ls' := [some (rv l0), some (iv l1), none, none, some (iv l4), some (iv l5), none, some (iv l7), none, none]) ⟨rfl, rfl, rfl, rfl, rfl, trivial⟩ (by have hk9 := k39; try simp only [if_neg c5] at hk9 ⊢; try simp only [if_pos c7] at hk9 ⊢; try simp only [if_pos c9] at hk9 ⊢; exact hk9)
            · refine v_bipush (pc := 93) (dk dt_X12_packed_1 8 rfl) (by decide) ⟨by decide, by decide⟩ ?_
              refine v_goto (pc := 95) (tgt := 100) (dk dt_X12_packed_1 9 rfl) (by decide) ?_
              exact v_less2 (ls' := [some (rv l0), some (iv l1), none, none, some (iv l4), some (iv l5), none, some (iv l7), none, none]) ⟨rfl, rfl, rfl, rfl, rfl, trivial⟩ (by have hk9 := k39; try simp only [if_neg c5] at hk9 ⊢; try simp only [if_pos c7] at hk9 ⊢; try simp only [if_neg c9] at hk9 ⊢; exact hk9)
          · refine v_bipush (pc := 74) (dk dt_X12_packed_1 1 rfl) (by decide) ⟨by decide, by decide⟩ ?_
            refine v_goto (pc := 76) (tgt := 100) (dk dt_X12_packed_1 2 rfl) (by decide) ?_
            exact v_less2 (ls' := [some (rv l0), some (iv l1), none, none, some (iv l4), some (iv l5), none, some (iv l7), none, none]) ⟨rfl, rfl, rfl, rfl, rfl, trivial⟩ (by have hk9 := k39; try simp only [if_neg c5] at hk9 ⊢; try simp only [if_neg c7] at hk9 ⊢; exact hk9)
        · refine v_iconst (pc := 58) (dk dt_X12_packed 34 rfl) ⟨by decide, by decide⟩ ?_
          refine v_goto (pc := 59) (tgt := 100) (dk dt_X12_packed 35 rfl) (by decide) ?_
          exact v_less2 (ls' := [some (rv l0), some (iv l1), none, none, some (iv l4), some (iv l5), none, some (iv l7), none, none]) ⟨rfl, rfl, rfl, rfl, rfl, trivial⟩ (by have hk9 := k39; try simp only [if_pos c5] at hk9 ⊢; exact hk9)
      obtain ⟨v10, h⟩ := h
      refine v_iadd (pc := 100) (dk dt_X12_packed_1 11 rfl) v10 ?_
      refine v_istore_n (pc := 101) (ls' := [some (rv l0), some (iv l1), none, some (iv (l3 + (if ((l7 - l5) - l6) = 0 then (1 : Int) else (if (wIn ((l7 - l5) - l6) (-63) 64) = 0 then ((if (wIn ((l7 - l5) - l6) (-255) 256) = 0 then (36 : Int) else 12) : Int) else 9)))), some (iv l4), some (iv l5), none, some (iv l7), none, none]) (dk dt_X12_packed_1 12 rfl) rfl (Nat.le_of_ble_eq_true rfl) rfl ?_
      refine v_aload_n (pc := 102) (dk dt_X12_packed_1 13 rfl) rfl rfl ?_
      refine v_iload_n (pc := 103) (dk dt_X12_packed_1 14 rfl) rfl rfl ?_
      refine v_iload (pc := 104) (dk dt_X12_packed_1 15 rfl) rfl ?_
      obtain ⟨v11, h⟩ := h
      refine v_cvI (c := 12) (As := [iv l1, iv l7]) (stk := []) (pc := 106) (dk dt_X12_packed_1 16 rfl) ml_X12_224 rfl rfl (Nat.le_of_ble_eq_true rfl) rfl ⟨by decide, rfl⟩ v11 rfl (Call.mono h (fun r12 G13 c14 s15 h => ?_))
      refine v_aload_n (pc := 109) (dk dt_X12_packed_1 17 rfl) rfl rfl ?_
      refine v_iload_n (pc := 110) (dk dt_X12_packed_1 18 rfl) rfl rfl ?_
      refine v_iload (pc := 111) (dk dt_X12_packed_1 19 rfl) rfl ?_
      obtain ⟨v16, h⟩ := h
      refine v_cvI (c := 12) (As := [iv l1, iv l5]) (stk := [iv r12]) (pc := 113) (dk dt_X12_packed_1 20 rfl) ml_X12_224 rfl rfl (Nat.le_of_ble_eq_true rfl) rfl ⟨by decide, rfl⟩ v16 rfl (Call.mono h (fun r17 G18 c19 s20 h => ?_))
      refine v_ixor (pc := 116) (dk dt_X12_packed_1 21 rfl) ?_
      refine v_istore (pc := 117) (ls' := [some (rv l0), some (iv l1), none, some (iv (l3 + (if ((l7 - l5) - l6) = 0 then (1 : Int) else (if (wIn ((l7 - l5) - l6) (-63) 64) = 0 then ((if (wIn ((l7 - l5) - l6) (-255) 256) = 0 then (36 : Int) else 12) : Int) else 9)))), some (iv l4), some (iv l5), none, some (iv l7), none, some (iv (xor32 r12 r17))]) (dk dt_X12_packed_1 22 rfl) (Nat.le_of_ble_eq_true rfl) rfl ?_
      refine v_iload_n (pc := 119) (dk dt_X12_packed_1 23 rfl) rfl rfl ?_
      refine v_iload (pc := 120) (dk dt_X12_packed_1 24 rfl) rfl ?_
      obtain ⟨J21, dJ21⟩ : ∃ J9 : Int → Gt → Nat → Nat → Prop, J9 = fun x22 G23 c24 s25 => V E M_X12_packed 137 [some (rv l0), some (iv l1), none, none, some (iv l4), some (iv l5), none, some (iv l7), none, none] [iv x22, iv (l3 + (if ((l7 - l5) - l6) = 0 then (1 : Int) else (if (wIn ((l7 - l5) - l6) (-63) 64) = 0 then ((if (wIn ((l7 - l5) - l6) (-255) 256) = 0 then (36 : Int) else 12) : Int) else 9)))] G23 c24 s25 Q X := ⟨_, rfl⟩
      have hJ21 : ∀ (x22 : Int) (G23 : Gt) (c24 s25 : Nat), (i32 ((l3 + (if ((l7 - l5) - l6) = 0 then (1 : Int) else (if (wIn ((l7 - l5) - l6) (-63) 64) = 0 then ((if (wIn ((l7 - l5) - l6) (-255) 256) = 0 then (36 : Int) else 12) : Int) else 9))) + x22) ∧ i32 (l7 - l5) ∧ gcl G23 l0 = 13 ∧ Call E M_X12_nextTime [rv l0, iv l1, iv l7] G23 c24 s25 X (fun r29 G30 c31 s32 => V E M_X12_packed 29 [some (rv l0), some (iv l1), none, some (iv ((l3 + (if ((l7 - l5) - l6) = 0 then (1 : Int) else (if (wIn ((l7 - l5) - l6) (-63) 64) = 0 then ((if (wIn ((l7 - l5) - l6) (-255) 256) = 0 then (36 : Int) else 12) : Int) else 9))) + x22)), some (iv l4), some (iv l7), some (iv (l7 - l5)), some (iv r29), none, none] [] G30 c31 s32 Q X)) → J21 x22 G23 c24 s25 := by
        intro x22 G23 c24 s25 h
        rw [dJ21]
        obtain ⟨v26, h⟩ := h
        refine v_iadd (pc := 137) (dk dt_X12_packed_1 32 rfl) v26 ?_
        refine v_istore_n (pc := 138) (ls' := [some (rv l0), some (iv l1), none, some (iv ((l3 + (if ((l7 - l5) - l6) = 0 then (1 : Int) else (if (wIn ((l7 - l5) - l6) (-63) 64) = 0 then ((if (wIn ((l7 - l5) - l6) (-255) 256) = 0 then (36 : Int) else 12) : Int) else 9))) + x22)), some (iv l4), some (iv l5), none, some (iv l7), none, none]) (dk dt_X12_packed_1 33 rfl) rfl (Nat.le_of_ble_eq_true rfl) rfl ?_
        refine v_iload (pc := 139) (dk dt_X12_packed_1 34 rfl) rfl ?_
        refine v_iload (pc := 141) (dk dt_X12_packed_1 35 rfl) rfl ?_
        obtain ⟨v27, h⟩ := h
        refine v_isub (pc := 143) (dk dt_X12_packed_1 36 rfl) v27 ?_
        refine v_istore (pc := 144) (ls' := [some (rv l0), some (iv l1), none, some (iv ((l3 + (if ((l7 - l5) - l6) = 0 then (1 : Int) else (if (wIn ((l7 - l5) - l6) (-63) 64) = 0 then ((if (wIn ((l7 - l5) - l6) (-255) 256) = 0 then (36 : Int) else 12) : Int) else 9))) + x22)), some (iv l4), some (iv l5), some (iv (l7 - l5)), some (iv l7), none, none]) (dk dt_X12_packed_1 37 rfl) (Nat.le_of_ble_eq_true rfl) rfl ?_
        refine v_iload (pc := 146) (dk dt_X12_packed_1 38 rfl) rfl ?_
        refine v_istore (pc := 148) (ls' := [some (rv l0), some (iv l1), none, some (iv ((l3 + (if ((l7 - l5) - l6) = 0 then (1 : Int) else (if (wIn ((l7 - l5) - l6) (-63) 64) = 0 then ((if (wIn ((l7 - l5) - l6) (-255) 256) = 0 then (36 : Int) else 12) : Int) else 9))) + x22)), some (iv l4), some (iv l7), some (iv (l7 - l5)), some (iv l7), none, none]) (dk dt_X12_packed_1 39 rfl) (Nat.le_of_ble_eq_true rfl) rfl ?_
        refine v_aload_n (pc := 150) (dk dt_X12_packed_2 0 rfl) rfl rfl ?_
        refine v_iload_n (pc := 151) (dk dt_X12_packed_2 1 rfl) rfl rfl ?_
        refine v_iload (pc := 152) (dk dt_X12_packed_2 2 rfl) rfl ?_
        obtain ⟨v28, h⟩ := h
        refine v_cvI (c := 12) (As := [iv l1, iv l7]) (stk := []) (pc := 154) (dk dt_X12_packed_2 3 rfl) ml_X12_217 rfl rfl (Nat.le_of_ble_eq_true rfl) rfl ⟨by decide, rfl⟩ v28 rfl (Call.mono h (fun r29 G30 c31 s32 h => ?_))
        refine v_istore (pc := 157) (ls' := [some (rv l0), some (iv l1), none, some (iv ((l3 + (if ((l7 - l5) - l6) = 0 then (1 : Int) else (if (wIn ((l7 - l5) - l6) (-63) 64) = 0 then ((if (wIn ((l7 - l5) - l6) (-255) 256) = 0 then (36 : Int) else 12) : Int) else 9))) + x22)), some (iv l4), some (iv l7), some (iv (l7 - l5)), some (iv r29), none, none]) (dk dt_X12_packed_2 4 rfl) (Nat.le_of_ble_eq_true rfl) rfl ?_
        refine v_goto (pc := 159) (tgt := 29) (dk dt_X12_packed_2 5 rfl) (by decide) ?_
        exact h
      replace h := h _ hJ21
      refine v_if_ne (pc := 122) (tgt := 129) (dk dt_X12_packed_1 25 rfl) (by decide) (fun c33 => ?_) (fun c33 => ?_)
      · replace h := h.1 c33
        refine v_bipush (pc := 129) (dk dt_X12_packed_1 28 rfl) (by decide) ⟨by decide, by decide⟩ ?_
        refine v_iload (pc := 131) (dk dt_X12_packed_1 29 rfl) rfl ?_
        refine v_csI (As := [iv (xor32 r12 r17)]) (stk := [iv 12, iv (l3 + (if ((l7 - l5) - l6) = 0 then (1 : Int) else (if (wIn ((l7 - l5) - l6) (-63) 64) = 0 then ((if (wIn ((l7 - l5) - l6) (-255) 256) = 0 then (36 : Int) else 12) : Int) else 9)))]) (pc := 133) (dk dt_X12_packed_1 30 rfl) ml_X12_227 rfl rfl (Nat.le_of_ble_eq_true rfl) rfl rfl (Call.mono h (fun r34 G35 c36 s37 h => ?_))
        obtain ⟨v38, h⟩ := h
        refine v_iadd (pc := 136) (dk dt_X12_packed_1 31 rfl) v38 ?_
        rw [dJ21] at h
        exact v_less2 (ls' := [some (rv l0), some (iv l1), none, none, some (iv l4), some (iv l5), none, some (iv l7), none, none]) ⟨rfl, rfl, rfl, rfl, rfl, trivial⟩ h
      · replace h := h.2 c33
        refine v_iconst (pc := 125) (dk dt_X12_packed_1 26 rfl) ⟨by decide, by decide⟩ ?_
        refine v_goto (pc := 126) (tgt := 137) (dk dt_X12_packed_1 27 rfl) (by decide) ?_
        rw [dJ21] at h
        exact v_less2 (ls' := [some (rv l0), some (iv l1), none, none, some (iv l4), some (iv l5), none, some (iv l7), none, none]) ⟨rfl, rfl, rfl, rfl, rfl, trivial⟩ h
set_option maxRecDepth 20000 in
theorem b_X12_spread_0 {E : EE} {l0 : Int} {G : Gt} {c s : Nat} {Q X : Int → Gt → Prop} (h : V E M_X12_spread 2 [some (iv l0), some (iv 0), none] [] G c s Q X) : V E M_X12_spread 0 [some (iv l0), none, none] [] G c s Q X := by
  refine v_iconst (pc := 0) (dk dt_X12_spread 0 rfl) ⟨by decide, by decide⟩ ?_
  refine v_istore_n (pc := 1) (ls' := [some (iv l0), some (iv 0), none]) (dk dt_X12_spread 1 rfl) rfl (Nat.le_of_ble_eq_true rfl) rfl ?_
  exact h
set_option maxRecDepth 20000 in
theorem i_X12_spread {E : EE} {l0 : Int} {G : Gt} {c s : Nat} {Q X : Int → Gt → Prop} (h : V E M_X12_spread 2 [some (iv l0), some (iv 0), none] [] G c s Q X) : Ok E M_X12_spread [iv l0] G c s Q X := Ok.intro (k := 2) rfl rfl (Nat.le_of_ble_eq_true rfl) rfl (b_X12_spread_0 h)
set_option maxRecDepth 20000 in
theorem b_X12_spread_2 {E : EE} {l0 l1 : Int} {G : Gt} {c s : Nat} {Q X : Int → Gt → Prop} (h : (((and32 (shr32 l0 l1) 1) ≠ 0 → V E M_X12_spread 19 [some (iv l0), some (iv l1), some (iv 31)] [] G c s Q X) ∧ ((and32 (shr32 l0 l1) 1) = 0 → (i32 (l1 + 1) ∧ V E M_X12_spread 2 [some (iv l0), some (iv (l1 + 1)), none] [] G c s Q X)))) : V E M_X12_spread 2 [some (iv l0), some (iv l1), none] [] G c s Q X := by
  refine v_iload_n (pc := 2) (dk dt_X12_spread 2 rfl) rfl rfl ?_
  refine v_iload_n (pc := 3) (dk dt_X12_spread 3 rfl) rfl rfl ?_
  refine v_ishr (pc := 4) (dk dt_X12_spread 4 rfl) ?_
  refine v_iconst (pc := 5) (dk dt_X12_spread 5 rfl) ⟨by decide, by decide⟩ ?_
  refine v_iand (pc := 6) (dk dt_X12_spread 6 rfl) ?_
  refine v_if_ne (pc := 7) (tgt := 16) (dk dt_X12_spread 7 rfl) (by decide) (fun c1 => ?_) (fun c1 => ?_)
  · replace h := h.1 c1
    refine v_bipush (pc := 16) (dk dt_X12_spread 10 rfl) (by decide) ⟨by decide, by decide⟩ ?_
    refine v_istore_n (pc := 18) (ls' := [some (iv l0), some (iv l1), some (iv 31)]) (dk dt_X12_spread 11 rfl) rfl (Nat.le_of_ble_eq_true rfl) rfl ?_
    exact h
  · replace h := h.2 c1
    obtain ⟨v2, h⟩ := h
    refine v_iinc (pc := 10) (ls' := [some (iv l0), some (iv (l1 + 1)), none]) (dk dt_X12_spread 8 rfl) (Nat.le_of_ble_eq_true rfl) rfl v2 rfl ?_
    refine v_goto (pc := 13) (tgt := 2) (dk dt_X12_spread 9 rfl) (by decide) ?_
    exact h
set_option maxRecDepth 20000 in
theorem b_X12_spread_19 {E : EE} {l0 l1 l2 : Int} {G : Gt} {c s : Nat} {Q X : Int → Gt → Prop} (h : (((and32 (shr32 l0 l2) 1) ≠ 0 → (i32 (l2 - l1) ∧ i32 ((l2 - l1) + 1) ∧ Q ((l2 - l1) + 1) G)) ∧ ((and32 (shr32 l0 l2) 1) = 0 → (i32 (l2 + (-1)) ∧ V E M_X12_spread 19 [some (iv l0), some (iv l1), some (iv (l2 + (-1)))] [] G c s Q X)))) : V E M_X12_spread 19 [some (iv l0), some (iv l1), some (iv l2)] [] G c s Q X := by
  refine v_iload_n (pc := 19) (dk dt_X12_spread 12 rfl) rfl rfl ?_
  refine v_iload_n (pc := 20) (dk dt_X12_spread 13 rfl) rfl rfl ?_
  refine v_ishr (pc := 21) (dk dt_X12_spread 14 rfl) ?_
  refine v_iconst (pc := 22) (dk dt_X12_spread 15 rfl) ⟨by decide, by decide⟩ ?_
  refine v_iand (pc := 23) (dk dt_X12_spread 16 rfl) ?_
  refine v_if_ne (pc := 24) (tgt := 33) (dk dt_X12_spread 17 rfl) (by decide) (fun c1 => ?_) (fun c1 => ?_)
  · replace h := h.1 c1
    refine v_iload_n (pc := 33) (dk dt_X12_spread 20 rfl) rfl rfl ?_
    refine v_iload_n (pc := 34) (dk dt_X12_spread 21 rfl) rfl rfl ?_
    obtain ⟨v2, h⟩ := h
    refine v_isub (pc := 35) (dk dt_X12_spread 22 rfl) v2 ?_
    refine v_iconst (pc := 36) (dk dt_X12_spread 23 rfl) ⟨by decide, by decide⟩ ?_
    obtain ⟨v3, h⟩ := h
    refine v_iadd (pc := 37) (dk dt_X12_spread 24 rfl) v3 ?_
    exact v_iret (pc := 38) (dk dt_X12_spread 25 rfl) rfl h
  · replace h := h.2 c1
    obtain ⟨v4, h⟩ := h
    refine v_iinc (pc := 27) (ls' := [some (iv l0), some (iv l1), some (iv (l2 + (-1)))]) (dk dt_X12_spread 18 rfl) (Nat.le_of_ble_eq_true rfl) rfl v4 rfl ?_
    refine v_goto (pc := 30) (tgt := 19) (dk dt_X12_spread 19 rfl) (by decide) ?_
    exact h
set_option maxRecDepth 20000 in
theorem b_X12_log_0 {E : EE} {l0 : Int} {G : Gt} {c s : Nat} {Q X : Int → Gt → Prop} (h : (gcl G l0 = 13 ∧ ∀ G2 : Gt, G2 = (sfd G 12 0 l0 0) → gcl G2 l0 = 13 ∧ Q (gfd G2 12 14 l0) G2)) : V E M_X12_log 0 [some (rv l0)] [] G c s Q X := by
  refine v_aload_n (pc := 0) (dk dt_X12_log 0 rfl) rfl rfl ?_
  refine v_iconst (pc := 1) (dk dt_X12_log 1 rfl) ⟨by decide, by decide⟩ ?_
  obtain ⟨v1, h⟩ := h
  refine v_putI (pc := 2) (dk dt_X12_log 2 rfl) fl_X12_127 (Or.inl rfl) v1 ?_
  generalize hG2 : (sfd G 12 0 l0 0) = G2
  replace h := h G2 hG2.symm
  refine v_aload_n (pc := 5) (dk dt_X12_log 3 rfl) rfl rfl ?_
  obtain ⟨v3, h⟩ := h
  refine v_getI (pc := 6) (dk dt_X12_log 4 rfl) fl_X12_169 v3 (fun _ => ?_)
  exact v_iret (pc := 9) (dk dt_X12_log 5 rfl) rfl h
set_option maxRecDepth 20000 in
theorem i_X12_log {E : EE} {l0 : Int} {G : Gt} {c s : Nat} {Q X : Int → Gt → Prop} (h : (gcl G l0 = 13 ∧ ∀ G2 : Gt, G2 = (sfd G 12 0 l0 0) → gcl G2 l0 = 13 ∧ Q (gfd G2 12 14 l0) G2)) : Ok E M_X12_log [rv l0] G c s Q X := Ok.intro (k := 0) rfl rfl (Nat.le_of_ble_eq_true rfl) rfl (b_X12_log_0 h)
set_option maxRecDepth 20000 in
theorem b_X12_crash_0 {E : EE} {l0 l1 : Int} {G : Gt} {c s : Nat} {Q X : Int → Gt → Prop} (h : (OkP E M_X12_in [iv l1, iv 0, iv 1000] G (wIn l1 0 1000) ∧ gcl G l0 = 13 ∧ ∀ G4 : Gt, G4 = (sfd G 12 0 l0 (if (wIn l1 0 1000) = 0 then (1 : Int) else 0)) → gcl G4 l0 = 13 ∧ (((gfd G4 12 0 l0) ≤ 0 → V E M_X12_crash 31 [some (rv l0), some (iv l1), some (iv 0), none, none] [] G4 c s Q X) ∧ (0 < (gfd G4 12 0 l0) → Q 0 G4)))) : V E M_X12_crash 0 [some (rv l0), some (iv l1), none, none, none] [] G c s Q X := by
  refine v_aload_n (pc := 0) (dk dt_X12_crash 0 rfl) rfl rfl ?_
  refine v_iload_n (pc := 1) (dk dt_X12_crash 1 rfl) rfl rfl ?_
  refine v_iconst (pc := 2) (dk dt_X12_crash 2 rfl) ⟨by decide, by decide⟩ ?_
  refine v_sipush (pc := 3) (dk dt_X12_crash 3 rfl) (by decide) ⟨by decide, by decide⟩ ?_
  obtain ⟨v1, h⟩ := h
  refine v_csPZ (v := (wIn l1 0 1000)) (As := [iv l1, iv 0, iv 1000]) (stk := [rv l0]) (pc := 6) (dk dt_X12_crash 4 rfl) ml_X12_172 rfl rfl (Nat.le_of_ble_eq_true rfl) rfl rfl v1 ?_
  suffices k7 : V E M_X12_crash 17 [some (rv l0), some (iv l1), none, none, none] [iv (if (wIn l1 0 1000) = 0 then (1 : Int) else 0), rv l0] G c s Q X by
    refine v_if_eq (pc := 9) (tgt := 16) (dk dt_X12_crash 5 rfl) (by decide) (fun c2 => ?_) (fun c2 => ?_)
    · refine v_iconst (pc := 16) (dk dt_X12_crash 8 rfl) ⟨by decide, by decide⟩ ?_
      exact v_less2 (ls' := [some (rv l0), some (iv l1), none, none, none]) ⟨rfl, rfl, trivial⟩ (by have hk9 := k7; try simp only [if_pos c2] at hk9 ⊢; exact hk9)
    · refine v_iconst (pc := 12) (dk dt_X12_crash 6 rfl) ⟨by decide, by decide⟩ ?_
      refine v_goto (pc := 13) (tgt := 17) (dk dt_X12_crash 7 rfl) (by decide) ?_
      exact v_less2 (ls' := [some (rv l0), some (iv l1), none, none, none]) ⟨rfl, rfl, trivial⟩ (by have hk9 := k7; try simp only [if_neg c2] at hk9 ⊢; exact hk9)
  obtain ⟨v3, h⟩ := h
  refine v_putI (pc := 17) (dk dt_X12_crash 9 rfl) fl_X12_127 (Or.inl rfl) v3 ?_
  generalize hG4 : (sfd G 12 0 l0 (if (wIn l1 0 1000) = 0 then (1 : Int) else 0)) = G4
  replace h := h G4 hG4.symm
  refine v_aload_n (pc := 20) (dk dt_X12_crash 10 rfl) rfl rfl ?_
  obtain ⟨v5, h⟩ := h
  refine v_getI (pc := 21) (dk dt_X12_crash 11 rfl) fl_X12_127 v5 (fun _ => ?_)
  refine v_if_le (pc := 24) (tgt := 29) (dk dt_X12_crash 12 rfl) (by decide) (fun c6 => ?_) (fun c6 => ?_)
  · replace h := h.1 c6
    refine v_iconst (pc := 29) (dk dt_X12_crash 15 rfl) ⟨by decide, by decide⟩ ?_
    refine v_istore_n (pc := 30) (ls' := [some (rv l0), some (iv l1), some (iv 0), none, none]) (dk dt_X12_crash 16 rfl) rfl (Nat.le_of_ble_eq_true rfl) rfl ?_
    exact h
  · replace h := h.2 c6
    refine v_iconst (pc := 27) (dk dt_X12_crash 13 rfl) ⟨by decide, by decide⟩ ?_
    exact v_iret (pc := 28) (dk dt_X12_crash 14 rfl) rfl h
set_option maxRecDepth 20000 in
theorem i_X12_crash {E : EE} {l0 l1 : Int} {G : Gt} {c s : Nat} {Q X : Int → Gt → Prop} (h : (OkP E M_X12_in [iv l1, iv 0, iv 1000] G (wIn l1 0 1000) ∧ gcl G l0 = 13 ∧ ∀ G4 : Gt, G4 = (sfd G 12 0 l0 (if (wIn l1 0 1000) = 0 then (1 : Int) else 0)) → gcl G4 l0 = 13 ∧ (((gfd G4 12 0 l0) ≤ 0 → V E M_X12_crash 31 [some (rv l0), some (iv l1), some (iv 0), none, none] [] G4 c s Q X) ∧ (0 < (gfd G4 12 0 l0) → Q 0 G4)))) : Ok E M_X12_crash [rv l0, iv l1] G c s Q X := Ok.intro (k := 3) rfl rfl (Nat.le_of_ble_eq_true rfl) rfl (b_X12_crash_0 h)
set_option maxRecDepth 20000 in
theorem b_X12_crash_31 {E : EE} {l0 l1 l2 : Int} {G : Gt} {c s : Nat} {Q X : Int → Gt → Prop} (h : ((l1 ≤ l2 → (gcl G l0 = 13 ∧ Q (gfd G 12 14 l0) G)) ∧ (l2 < l1 → (gcl G l0 = 13 ∧ (((gfd G 12 14 l0) ≤ 0 → (gcl G l0 = 13 ∧ Q (gfd G 12 14 l0) G)) ∧ (0 < (gfd G 12 14 l0) → (gcl G l0 = 13 ∧ i32 ((gfd G 12 14 l0) - 1) ∧ gcl G l0 = 13 ∧ ∀ G9 : Gt, G9 = (sfd G 12 14 l0 ((gfd G 12 14 l0) - 1)) → gcl G9 l0 = 13 ∧ gcl G9 l0 = 13 ∧ gcl G9 (gfd G9 12 13 l0) = 15 ∧ 0 ≤ (gfd G9 12 14 l0) ∧ (gfd G9 12 14 l0) < gln G9 (gfd G9 12 13 l0) ∧ (((gel G9 (gfd G9 12 13 l0) (gfd G9 12 14 l0)) ≠ 0 → V E M_X12_crash 80 [some (rv l0), some (iv l1), some (iv l2), some (iv (gel G9 (gfd G9 12 13 l0) (gfd G9 12 14 l0))), some (iv 0)] [] G9 c s Q X) ∧ ((gel G9 (gfd G9 12 13 l0) (gfd G9 12 14 l0)) = 0 → (gcl G9 l0 = 13 ∧ i32 ((gfd G9 12 12 l0) - 1) ∧ gcl G9 l0 = 13 ∧ ∀ G19 : Gt, G19 = (sfd G9 12 12 l0 ((gfd G9 12 12 l0) - 1)) → V E M_X12_crash 80 [some (rv l0), some (iv l1), some (iv l2), some (iv (gel G9 (gfd G9 12 13 l0) (gfd G9 12 14 l0))), some (iv 0)] [] G19 c s Q X)))))))))) : V E M_X12_crash 31 [some (rv l0), some (iv l1), some (iv l2), none, none] [] G c s Q X := by
  refine v_iload_n (pc := 31) (dk dt_X12_crash 17 rfl) rfl rfl ?_
  refine v_iload_n (pc := 32) (dk dt_X12_crash 18 rfl) rfl rfl ?_
  refine v_icmp_ge (pc := 33) (tgt := 134) (dk dt_X12_crash 19 rfl) (by decide) (fun c1 => ?_) (fun c1 => ?_)
  · replace h := h.1 c1
    refine v_aload_n (pc := 134) (dk dt_X12_crash_1 31 rfl) rfl rfl ?_
    obtain ⟨v2, h⟩ := h
    refine v_getI (pc := 135) (dk dt_X12_crash_1 32 rfl) fl_X12_169 v2 (fun _ => ?_)
    exact v_iret (pc := 138) (dk dt_X12_crash_1 33 rfl) rfl h
  · replace h := h.2 c1
    refine v_aload_n (pc := 36) (dk dt_X12_crash 20 rfl) rfl rfl ?_
    obtain ⟨v3, h⟩ := h
    refine v_getI (pc := 37) (dk dt_X12_crash 21 rfl) fl_X12_169 v3 (fun _ => ?_)
    refine v_if_le (pc := 40) (tgt := 134) (dk dt_X12_crash 22 rfl) (by decide) (fun c4 => ?_) (fun c4 => ?_)
    · replace h := h.1 c4
      refine v_aload_n (pc := 134) (dk dt_X12_crash_1 31 rfl) rfl rfl ?_
      obtain ⟨v5, h⟩ := h
      refine v_getI (pc := 135) (dk dt_X12_crash_1 32 rfl) fl_X12_169 v5 (fun _ => ?_)
      exact v_iret (pc := 138) (dk dt_X12_crash_1 33 rfl) rfl h
    · replace h := h.2 c4
      refine v_aload_n (pc := 43) (dk dt_X12_crash 23 rfl) rfl rfl ?_
      refine v_dup (pc := 44) (dk dt_X12_crash 24 rfl) (by intro h9; cases h9) ?_
      obtain ⟨v6, h⟩ := h
      refine v_getI (pc := 45) (dk dt_X12_crash 25 rfl) fl_X12_169 v6 (fun _ => ?_)
      refine v_iconst (pc := 48) (dk dt_X12_crash 26 rfl) ⟨by decide, by decide⟩ ?_
      obtain ⟨v7, h⟩ := h
      refine v_isub (pc := 49) (dk dt_X12_crash 27 rfl) v7 ?_
      obtain ⟨v8, h⟩ := h
      refine v_putI (pc := 50) (dk dt_X12_crash 28 rfl) fl_X12_169 (Or.inl rfl) v8 ?_
      generalize hG9 : (sfd G 12 14 l0 ((gfd G 12 14 l0) - 1)) = G9
      replace h := h G9 hG9.symm
      refine v_aload_n (pc := 53) (dk dt_X12_crash 29 rfl) rfl rfl ?_
      obtain ⟨v10, h⟩ := h
      refine v_getR (pc := 54) (dk dt_X12_crash 30 rfl) fl_X12_42 v10 (fun _ => ?_)
      refine v_aload_n (pc := 57) (dk dt_X12_crash 31 rfl) rfl rfl ?_
      obtain ⟨v11, h⟩ := h
      refine v_getI (pc := 58) (dk dt_X12_crash 32 rfl) fl_X12_169 v11 (fun _ => ?_)
      obtain ⟨v12, h⟩ := h
      obtain ⟨v13, h⟩ := h
      obtain ⟨v14, h⟩ := h
      refine v_iald (pc := 61) (dk dt_X12_crash 33 rfl) (Or.inl v12) v13 v14 (fun _ => ?_)
      refine v_istore_n (pc := 62) (ls' := [some (rv l0), some (iv l1), some (iv l2), some (iv (gel G9 (gfd G9 12 13 l0) (gfd G9 12 14 l0))), none]) (dk dt_X12_crash 34 rfl) rfl (Nat.le_of_ble_eq_true rfl) rfl ?_
      refine v_iload_n (pc := 63) (dk dt_X12_crash 35 rfl) rfl rfl ?_
      refine v_if_ne (pc := 64) (tgt := 77) (dk dt_X12_crash 36 rfl) (by decide) (fun c15 => ?_) (fun c15 => ?_)
      · replace h := h.1 c15
        refine v_iconst (pc := 77) (dk dt_X12_crash_1 3 rfl) ⟨by decide, by decide⟩ ?_
        refine v_istore (pc := 78) (ls' := [some (rv l0), some (iv l1), some (iv l2), some (iv (gel G9 (gfd G9 12 13 l0) (gfd G9 12 14 l0))), some (iv 0)]) (dk dt_X12_crash_1 4 rfl) (Nat.le_of_ble_eq_true rfl) rfl ?_
        exact h
      · replace h := h.2 c15
        refine v_aload_n (pc := 67) (dk dt_X12_crash 37 rfl) rfl rfl ?_
        refine v_dup (pc := 68) (dk dt_X12_crash 38 rfl) (by intro h9; cases h9) ?_
        obtain ⟨v16, h⟩ := h
        refine v_getI (pc := 69) (dk dt_X12_crash 39 rfl) fl_X12_154 v16 (fun _ => ?_)
        refine v_iconst (pc := 72) (dk dt_X12_crash_1 0 rfl) ⟨by decide, by decide⟩ ?_
        obtain ⟨v17, h⟩ := h
        refine v_isub (pc := 73) (dk dt_X12_crash_1 1 rfl) v17 ?_
        obtain ⟨v18, h⟩ := h
        refine v_putI (pc := 74) (dk dt_X12_crash_1 2 rfl) fl_X12_154 (Or.inl rfl) v18 ?_
        generalize hG19 : (sfd G9 12 12 l0 ((gfd G9 12 12 l0) - 1)) = G19
        replace h := h G19 hG19.symm
        refine v_iconst (pc := 77) (dk dt_X12_crash_1 3 rfl) ⟨by decide, by decide⟩ ?_
        refine v_istore (pc := 78) (ls' := [some (rv l0), some (iv l1), some (iv l2), some (iv (gel G9 (gfd G9 12 13 l0) (gfd G9 12 14 l0))), some (iv 0)]) (dk dt_X12_crash_1 4 rfl) (Nat.le_of_ble_eq_true rfl) rfl ?_
        exact h
set_option maxRecDepth 20000 in
theorem b_X12_crash_80 {E : EE} {l0 l1 l2 l3 l4 : Int} {G : Gt} {c s : Nat} {Q X : Int → Gt → Prop} (h : (gcl G l0 = 13 ∧ (((gfd G 12 12 l0) ≤ l4 → (i32 (l2 + 1) ∧ V E M_X12_crash 31 [some (rv l0), some (iv l1), some (iv (l2 + 1)), none, none] [] G c s Q X)) ∧ (l4 < (gfd G 12 12 l0) → ((l3 ≤ 0 → (i32 (l2 + 1) ∧ V E M_X12_crash 31 [some (rv l0), some (iv l1), some (iv (l2 + 1)), none, none] [] G c s Q X)) ∧ (0 < l3 → (gcl G l0 = 13 ∧ gcl G l0 = 13 ∧ gcl G (gfd G 12 10 l0) = 15 ∧ 0 ≤ l4 ∧ l4 < gln G (gfd G 12 10 l0) ∧ ((gel G (gfd G 12 10 l0) l4) ≠ l3 → gcl G l0 = 13) ∧ ((gel G (gfd G 12 10 l0) l4) ≠ l3 → gcl G (gfd G 12 10 l0) = 15) ∧ ((gel G (gfd G 12 10 l0) l4) ≠ l3 → 0 ≤ l4) ∧ ((gel G (gfd G 12 10 l0) l4) ≠ l3 → l4 < gln G (gfd G 12 10 l0)) ∧ gcl G (gfd G 12 10 l0) = 15 ∧ 0 ≤ l4 ∧ l4 < gln G (gfd G 12 10 l0) ∧ ∀ G19 : Gt, G19 = (sel G (gfd G 12 10 l0) l4 (if (gel G (gfd G 12 10 l0) l4) = l3 then (0 : Int) else (gel G (gfd G 12 10 l0) l4))) → i32 (l4 + 1) ∧ V E M_X12_crash 80 [some (rv l0), some (iv l1), some (iv l2), some (iv l3), some (iv (l4 + 1))] [] G19 c s Q X))))))) : V E M_X12_crash 80 [some (rv l0), some (iv l1), some (iv l2), some (iv l3), some (iv l4)] [] G c s Q X := by
  refine v_iload (pc := 80) (dk dt_X12_crash_1 5 rfl) rfl ?_
  refine v_aload_n (pc := 82) (dk dt_X12_crash_1 6 rfl) rfl rfl ?_
  obtain ⟨v1, h⟩ := h
  refine v_getI (pc := 83) (dk dt_X12_crash_1 7 rfl) fl_X12_154 v1 (fun _ => ?_)
  refine v_icmp_ge (pc := 86) (tgt := 128) (dk dt_X12_crash_1 8 rfl) (by decide) (fun c2 => ?_) (fun c2 => ?_)
  · replace h := h.1 c2
    obtain ⟨v3, h⟩ := h
    refine v_iinc (pc := 128) (ls' := [some (rv l0), some (iv l1), some (iv (l2 + 1)), some (iv l3), some (iv l4)]) (dk dt_X12_crash_1 29 rfl) (Nat.le_of_ble_eq_true rfl) rfl v3 rfl ?_
    refine v_goto (pc := 131) (tgt := 31) (dk dt_X12_crash_1 30 rfl) (by decide) ?_
    exact v_less2 (ls' := [some (rv l0), some (iv l1), some (iv (l2 + 1)), none, none]) ⟨rfl, rfl, rfl, trivial⟩ h
  · replace h := h.2 c2
    refine v_iload_n (pc := 89) (dk dt_X12_crash_1 9 rfl) rfl rfl ?_
    refine v_if_le (pc := 90) (tgt := 128) (dk dt_X12_crash_1 10 rfl) (by decide) (fun c4 => ?_) (fun c4 => ?_)
    · replace h := h.1 c4
      obtain ⟨v5, h⟩ := h
      refine v_iinc (pc := 128) (ls' := [some (rv l0), some (iv l1), some (iv (l2 + 1)), some (iv l3), some (iv l4)]) (dk dt_X12_crash_1 29 rfl) (Nat.le_of_ble_eq_true rfl) rfl v5 rfl ?_
      refine v_goto (pc := 131) (tgt := 31) (dk dt_X12_crash_1 30 rfl) (by decide) ?_
      exact v_less2 (ls' := [some (rv l0), some (iv l1), some (iv (l2 + 1)), none, none]) ⟨rfl, rfl, rfl, trivial⟩ h
    · replace h := h.2 c4
      refine v_aload_n (pc := 93) (dk dt_X12_crash_1 11 rfl) rfl rfl ?_
      obtain ⟨v6, h⟩ := h
      refine v_getR (pc := 94) (dk dt_X12_crash_1 12 rfl) fl_X12_35 v6 (fun _ => ?_)
      refine v_iload (pc := 97) (dk dt_X12_crash_1 13 rfl) rfl ?_
      refine v_aload_n (pc := 99) (dk dt_X12_crash_1 14 rfl) rfl rfl ?_
      obtain ⟨v7, h⟩ := h
      refine v_getR (pc := 100) (dk dt_X12_crash_1 15 rfl) fl_X12_35 v7 (fun _ => ?_)
      refine v_iload (pc := 103) (dk dt_X12_crash_1 16 rfl) rfl ?_
      obtain ⟨v8, h⟩ := h
      obtain ⟨v9, h⟩ := h
      obtain ⟨v10, h⟩ := h
      refine v_iald (pc := 105) (dk dt_X12_crash_1 17 rfl) (Or.inl v8) v9 v10 (fun _ => ?_)
      refine v_iload_n (pc := 106) (dk dt_X12_crash_1 18 rfl) rfl rfl ?_
      obtain ⟨v12, v13, v14, v15, h⟩ := h
      suffices k21 : V E M_X12_crash 121 [some (rv l0), some (iv l1), some (iv l2), some (iv l3), some (iv l4)] [iv (if (gel G (gfd G 12 10 l0) l4) = l3 then (0 : Int) else (gel G (gfd G 12 10 l0) l4)), iv l4, rv (gfd G 12 10 l0)] G c s Q X by
        refine v_icmp_ne (pc := 107) (tgt := 114) (dk dt_X12_crash_1 19 rfl) (by decide) (fun c11 => ?_) (fun c11 => ?_)
        · refine v_aload_n (pc := 114) (dk dt_X12_crash_1 22 rfl) rfl rfl ?_
          refine v_getR (pc := 115) (dk dt_X12_crash_1 23 rfl) fl_X12_35 (v12 c11) (fun _ => ?_)
          refine v_iload (pc := 118) (dk dt_X12_crash_1 24 rfl) rfl ?_
          refine v_iald (pc := 120) (dk dt_X12_crash_1 25 rfl) (Or.inl (v13 c11)) (v14 c11) (v15 c11) (fun _ => ?_)
          exact v_less2 (ls' := [some (rv l0), some (iv l1), some (iv l2), some (iv l3), some (iv l4)]) ⟨rfl, rfl, rfl, rfl, rfl, trivial⟩ (by have hk9 := k21; try simp only [if_neg c11] at hk9 ⊢; exact hk9)
        · refine v_iconst (pc := 110) (dk dt_X12_crash_1 20 rfl) ⟨by decide, by decide⟩ ?_
          refine v_goto (pc := 111) (tgt := 121) (dk dt_X12_crash_1 21 rfl) (by decide) ?_
          exact v_less2 (ls' := [some (rv l0), some (iv l1), some (iv l2), some (iv l3), some (iv l4)]) ⟨rfl, rfl, rfl, rfl, rfl, trivial⟩ (by have hk9 := k21; try simp only [if_pos c11] at hk9 ⊢; exact hk9)
      obtain ⟨v16, h⟩ := h
      obtain ⟨v17, h⟩ := h
      obtain ⟨v18, h⟩ := h
      refine v_iast (pc := 121) (dk dt_X12_crash_1 26 rfl) v16 v17 v18 ?_
      generalize hG19 : (sel G (gfd G 12 10 l0) l4 (if (gel G (gfd G 12 10 l0) l4) = l3 then (0 : Int) else (gel G (gfd G 12 10 l0) l4))) = G19
      replace h := h G19 hG19.symm
      obtain ⟨v20, h⟩ := h
      refine v_iinc (pc := 122) (ls' := [some (rv l0), some (iv l1), some (iv l2), some (iv l3), some (iv (l4 + 1))]) (dk dt_X12_crash_1 27 rfl) (Nat.le_of_ble_eq_true rfl) rfl v20 rfl ?_
      refine v_goto (pc := 125) (tgt := 80) (dk dt_X12_crash_1 28 rfl) (by decide) ?_
      exact h
set_option maxRecDepth 20000 in
theorem b_X12_bits_0 {E : EE} {l0 l1 l2 : Int} {G : Gt} {c s : Nat} {Q X : Int → Gt → Prop} (h : V E M_X12_bits 5 [some (rv l0), some (iv l1), some (iv l2), some (iv (-1)), some (iv 0)] [] G c s Q X) : V E M_X12_bits 0 [some (rv l0), some (iv l1), some (iv l2), none, none] [] G c s Q X := by
  refine v_iconst (pc := 0) (dk dt_X12_bits 0 rfl) ⟨by decide, by decide⟩ ?_
  refine v_istore_n (pc := 1) (ls' := [some (rv l0), some (iv l1), some (iv l2), some (iv (-1)), none]) (dk dt_X12_bits 1 rfl) rfl (Nat.le_of_ble_eq_true rfl) rfl ?_
  refine v_iconst (pc := 2) (dk dt_X12_bits 2 rfl) ⟨by decide, by decide⟩ ?_
  refine v_istore (pc := 3) (ls' := [some (rv l0), some (iv l1), some (iv l2), some (iv (-1)), some (iv 0)]) (dk dt_X12_bits 3 rfl) (Nat.le_of_ble_eq_true rfl) rfl ?_
  exact h
set_option maxRecDepth 20000 in
theorem i_X12_bits {E : EE} {l0 l1 l2 : Int} {G : Gt} {c s : Nat} {Q X : Int → Gt → Prop} (h : V E M_X12_bits 5 [some (rv l0), some (iv l1), some (iv l2), some (iv (-1)), some (iv 0)] [] G c s Q X) : Ok E M_X12_bits [rv l0, iv l1, iv l2] G c s Q X := Ok.intro (k := 2) rfl rfl (Nat.le_of_ble_eq_true rfl) rfl (b_X12_bits_0 h)
set_option maxRecDepth 20000 in
theorem b_X12_bits_5 {E : EE} {l0 l1 l2 l3 l4 : Int} {G : Gt} {c s : Nat} {Q X : Int → Gt → Prop} (h : (gcl G l0 = 13 ∧ (((gfd G 12 19 l0) ≤ l4 → (gcl G l0 = 13 ∧ OkP E M_X12_isSeries [rv l0, iv l1] G (wIn l1 0 (gfd G 12 6 l0 - 1)) ∧ gcl G l0 = 13 ∧ ∀ G8 : Gt, G8 = (sfd G 12 0 l0 (if (wIn l1 0 (gfd G 12 6 l0 - 1)) = 0 then (1 : Int) else (if l3 = (-1) then (1 : Int) else 0))) → gcl G8 l0 = 13 ∧ Q (if (gfd G8 12 0 l0) ≤ 0 then (l3 : Int) else 0) G8)) ∧ (l4 < (gfd G 12 19 l0) → (gcl G l0 = 13 ∧ gcl G (gfd G 12 16 l0) = 15 ∧ 0 ≤ l4 ∧ l4 < gln G (gfd G 12 16 l0) ∧ ((gel G (gfd G 12 16 l0) l4) = l1 → gcl G l0 = 13) ∧ ((gel G (gfd G 12 16 l0) l4) = l1 → gcl G (gfd G 12 17 l0) = 15) ∧ ((gel G (gfd G 12 16 l0) l4) = l1 → 0 ≤ l4) ∧ ((gel G (gfd G 12 16 l0) l4) = l1 → l4 < gln G (gfd G 12 17 l0)) ∧ ((gel G (gfd G 12 16 l0) l4) = l1 → (gel G (gfd G 12 17 l0) l4) = l2 → gcl G l0 = 13) ∧ ((gel G (gfd G 12 16 l0) l4) = l1 → (gel G (gfd G 12 17 l0) l4) = l2 → gcl G (gfd G 12 18 l0) = 15) ∧ ((gel G (gfd G 12 16 l0) l4) = l1 → (gel G (gfd G 12 17 l0) l4) = l2 → 0 ≤ l4) ∧ ((gel G (gfd G 12 16 l0) l4) = l1 → (gel G (gfd G 12 17 l0) l4) = l2 → l4 < gln G (gfd G 12 18 l0)) ∧ i32 (l4 + 1) ∧ V E M_X12_bits 5 [some (rv l0), some (iv l1), some (iv l2), some (iv (if (gel G (gfd G 12 16 l0) l4) = l1 then ((if (gel G (gfd G 12 17 l0) l4) = l2 then ((gel G (gfd G 12 18 l0) l4) : Int) else l3) : Int) else l3)), some (iv (l4 + 1))] [] G c s Q X))))) : V E M_X12_bits 5 [some (rv l0), some (iv l1), some (iv l2), some (iv l3), some (iv l4)] [] G c s Q X := by
  refine v_iload (pc := 5) (dk dt_X12_bits 4 rfl) rfl ?_
  refine v_aload_n (pc := 7) (dk dt_X12_bits 5 rfl) rfl rfl ?_
  obtain ⟨v1, h⟩ := h
  refine v_getI (pc := 8) (dk dt_X12_bits 6 rfl) fl_X12_214 v1 (fun _ => ?_)
  refine v_icmp_ge (pc := 11) (tgt := 54) (dk dt_X12_bits 7 rfl) (by decide) (fun c2 => ?_) (fun c2 => ?_)
  · replace h := h.1 c2
    refine v_aload_n (pc := 54) (dk dt_X12_bits 29 rfl) rfl rfl ?_
    refine v_aload_n (pc := 55) (dk dt_X12_bits 30 rfl) rfl rfl ?_
    refine v_iload_n (pc := 56) (dk dt_X12_bits 31 rfl) rfl rfl ?_
    obtain ⟨v3, h⟩ := h
    obtain ⟨v4, h⟩ := h
    refine v_cvPZ (c := 12) (v := (wIn l1 0 (gfd G 12 6 l0 - 1))) (As := [iv l1]) (stk := [rv l0]) (pc := 57) (dk dt_X12_bits 32 rfl) ml_X12_186 rfl rfl (Nat.le_of_ble_eq_true rfl) rfl ⟨by decide, rfl⟩ v3 rfl v4 ?_
    suffices k26 : V E M_X12_bits 73 [some (rv l0), none, none, some (iv l3), none] [iv (if (wIn l1 0 (gfd G 12 6 l0 - 1)) = 0 then (1 : Int) else (if l3 = (-1) then (1 : Int) else 0)), rv l0] G c s Q X by
      refine v_if_eq (pc := 60) (tgt := 72) (dk dt_X12_bits 33 rfl) (by decide) (fun c5 => ?_) (fun c5 => ?_)
      · refine v_iconst (pc := 72) (dk dt_X12_bits 39 rfl) ⟨by decide, by decide⟩ ?_
        exact v_less2 (ls' := [some (rv l0), none, none, some (iv l3), none]) ⟨rfl, rfl, trivial⟩ (by have hk9 := k26; try simp only [if_pos c5] at hk9 ⊢; exact hk9)
      · refine v_iload_n (pc := 63) (dk dt_X12_bits 34 rfl) rfl rfl ?_
        refine v_iconst (pc := 64) (dk dt_X12_bits 35 rfl) ⟨by decide, by decide⟩ ?_
        refine v_icmp_eq (pc := 65) (tgt := 72) (dk dt_X12_bits 36 rfl) (by decide) (fun c6 => ?_) (fun c6 => ?_)
        · refine v_iconst (pc := 72) (dk dt_X12_bits 39 rfl) ⟨by decide, by decide⟩ ?_
          exact v_less2 (ls' := [some (rv l0), none, none, some (iv l3), none]) ⟨rfl, rfl, trivial⟩ (by have hk9 := k26; try simp only [if_neg c5] at hk9 ⊢; try simp only [if_pos c6] at hk9 ⊢; exact hk9)
        · refine v_iconst (pc := 68) (dk dt_X12_bits 37 rfl) ⟨by decide, by decide⟩ ?_
          refine v_goto (pc := 69) (tgt := 73) (dk dt_X12_bits 38 rfl) (by decide) ?_
          exact v_less2 (ls' := [some (rv l0), none, none, some (iv l3), none]) ⟨rfl, rfl, trivial⟩ (by have hk9 := k26; try simp only [if_neg c5] at hk9 ⊢; try simp only [if_neg c6] at hk9 ⊢; exact hk9)
    obtain ⟨v7, h⟩ := h
    refine v_putI (pc := 73) (dk dt_X12_bits_1 0 rfl) fl_X12_127 (Or.inl rfl) v7 ?_
    generalize hG8 : (sfd G 12 0 l0 (if (wIn l1 0 (gfd G 12 6 l0 - 1)) = 0 then (1 : Int) else (if l3 = (-1) then (1 : Int) else 0))) = G8
    replace h := h G8 hG8.symm
    refine v_aload_n (pc := 76) (dk dt_X12_bits_1 1 rfl) rfl rfl ?_
    obtain ⟨v9, h⟩ := h
    refine v_getI (pc := 77) (dk dt_X12_bits_1 2 rfl) fl_X12_127 v9 (fun _ => ?_)
    suffices k27 : V E M_X12_bits 88 [none, none, none, none, none] [iv (if (gfd G8 12 0 l0) ≤ 0 then (l3 : Int) else 0)] G8 c s Q X by
      refine v_if_le (pc := 80) (tgt := 87) (dk dt_X12_bits_1 3 rfl) (by decide) (fun c10 => ?_) (fun c10 => ?_)
      · refine v_iload_n (pc := 87) (dk dt_X12_bits_1 6 rfl) rfl rfl ?_
        exact v_less2 (ls' := [none, none, none, none, none]) trivial (by have hk9 := k27; try simp only [if_pos c10] at hk9 ⊢; exact hk9)
      · refine v_iconst (pc := 83) (dk dt_X12_bits_1 4 rfl) ⟨by decide, by decide⟩ ?_
        refine v_goto (pc := 84) (tgt := 88) (dk dt_X12_bits_1 5 rfl) (by decide) ?_
        exact v_less2 (ls' := [none, none, none, none, none]) trivial (by have hk9 := k27; try simp only [if_neg (Int.not_le.mpr c10)] at hk9 ⊢; exact hk9)
    exact v_iret (pc := 88) (dk dt_X12_bits_1 7 rfl) rfl h
  · replace h := h.2 c2
    refine v_aload_n (pc := 14) (dk dt_X12_bits 8 rfl) rfl rfl ?_
    obtain ⟨v11, h⟩ := h
    refine v_getR (pc := 15) (dk dt_X12_bits 9 rfl) fl_X12_45 v11 (fun _ => ?_)
    refine v_iload (pc := 18) (dk dt_X12_bits 10 rfl) rfl ?_
    obtain ⟨v12, h⟩ := h
    obtain ⟨v13, h⟩ := h
    obtain ⟨v14, h⟩ := h
    refine v_iald (pc := 20) (dk dt_X12_bits 11 rfl) (Or.inl v12) v13 v14 (fun _ => ?_)
    refine v_iload_n (pc := 21) (dk dt_X12_bits 12 rfl) rfl rfl ?_
    obtain ⟨v16, v17, v18, v19, v21, v22, v23, v24, h⟩ := h
    suffices k28 : V E M_X12_bits 47 [some (rv l0), some (iv l1), some (iv l2), none, some (iv l4)] [iv (if (gel G (gfd G 12 16 l0) l4) = l1 then ((if (gel G (gfd G 12 17 l0) l4) = l2 then ((gel G (gfd G 12 18 l0) l4) : Int) else l3) : Int) else l3)] G c s Q X by
      refine v_icmp_ne (pc := 22) (tgt := 46) (dk dt_X12_bits 13 rfl) (by decide) (fun c15 => ?_) (fun c15 => ?_)
      · refine v_iload_n (pc := 46) (dk dt_X12_bits 25 rfl) rfl rfl ?_
        exact v_less2 (ls' := [some (rv l0), some (iv l1), some (iv l2), none, some (iv l4)]) ⟨rfl, rfl, rfl, rfl, trivial⟩ (by have hk9 := k28; try simp only [if_neg c15] at hk9 ⊢; exact hk9)
      · refine v_aload_n (pc := 25) (dk dt_X12_bits 14 rfl) rfl rfl ?_
        refine v_getR (pc := 26) (dk dt_X12_bits 15 rfl) fl_X12_48 (v16 c15) (fun _ => ?_)
        refine v_iload (pc := 29) (dk dt_X12_bits 16 rfl) rfl ?_
        refine v_iald (pc := 31) (dk dt_X12_bits 17 rfl) (Or.inl (v17 c15)) (v18 c15) (v19 c15) (fun _ => ?_)
        refine v_iload_n (pc := 32) (dk dt_X12_bits 18 rfl) rfl rfl ?_
        refine v_icmp_ne (pc := 33) (tgt := 46) (dk dt_X12_bits 19 rfl) (by decide) (fun c20 => ?_) (fun c20 => ?_)
        · refine v_iload_n (pc := 46) (dk dt_X12_bits 25 rfl) rfl rfl ?_
          exact v_less2 (ls' := [some (rv l0), some (iv l1), some (iv l2), none, some (iv l4)]) ⟨rfl, rfl, rfl, rfl, trivial⟩ (by have hk9 := k28; try simp only [if_pos c15] at hk9 ⊢; try simp only [if_neg c20] at hk9 ⊢; exact hk9)
        · refine v_aload_n (pc := 36) (dk dt_X12_bits 20 rfl) rfl rfl ?_
          refine v_getR (pc := 37) (dk dt_X12_bits 21 rfl) fl_X12_51 (v21 c15 c20) (fun _ => ?_)
          refine v_iload (pc := 40) (dk dt_X12_bits 22 rfl) rfl ?_
          refine v_iald (pc := 42) (dk dt_X12_bits 23 rfl) (Or.inl (v22 c15 c20)) (v23 c15 c20) (v24 c15 c20) (fun _ => ?_)
          refine v_goto (pc := 43) (tgt := 47) (dk dt_X12_bits 24 rfl) (by decide) ?_
          exact v_less2 (ls' := [some (rv l0), some (iv l1), some (iv l2), none, some (iv l4)]) ⟨rfl, rfl, rfl, rfl, trivial⟩ (by have hk9 := k28; try simp only [if_pos c15] at hk9 ⊢; try simp only [if_pos c20] at hk9 ⊢; exact hk9)
    refine v_istore_n (pc := 47) (ls' := [some (rv l0), some (iv l1), some (iv l2), some (iv (if (gel G (gfd G 12 16 l0) l4) = l1 then ((if (gel G (gfd G 12 17 l0) l4) = l2 then ((gel G (gfd G 12 18 l0) l4) : Int) else l3) : Int) else l3)), some (iv l4)]) (dk dt_X12_bits 26 rfl) rfl (Nat.le_of_ble_eq_true rfl) rfl ?_
    obtain ⟨v25, h⟩ := h
    refine v_iinc (pc := 48) (ls' := [some (rv l0), some (iv l1), some (iv l2), some (iv (if (gel G (gfd G 12 16 l0) l4) = l1 then ((if (gel G (gfd G 12 17 l0) l4) = l2 then ((gel G (gfd G 12 18 l0) l4) : Int) else l3) : Int) else l3)), some (iv (l4 + 1))]) (dk dt_X12_bits 27 rfl) (Nat.le_of_ble_eq_true rfl) rfl v25 rfl ?_
    refine v_goto (pc := 51) (tgt := 5) (dk dt_X12_bits 28 rfl) (by decide) ?_
    exact h
set_option maxRecDepth 20000 in
theorem b_X12_select_0 {E : EE} {l0 l1 l2 l3 l4 : Int} {G : Gt} {c s : Nat} {Q X : Int → Gt → Prop} (h : (OkP E M_X12_in [iv l1, iv 0, iv 3] G (wIn l1 0 3) ∧ ((wIn l1 0 3) ≠ 0 → OkP E M_X12_in [iv l2, iv 0, iv 127] G (wIn l2 0 127)) ∧ ((wIn l1 0 3) ≠ 0 → (wIn l2 0 127) ≠ 0 → OkP E M_X12_in [iv l3, iv 0, iv 127] G (wIn l3 0 127)) ∧ ((wIn l1 0 3) ≠ 0 → (wIn l2 0 127) ≠ 0 → (wIn l3 0 127) ≠ 0 → OkP E M_X12_in [iv l4, iv 0, iv 127] G (wIn l4 0 127)) ∧ gcl G l0 = 13 ∧ ∀ G10 : Gt, G10 = (sfd G 12 0 l0 (if (wIn l1 0 3) = 0 then (1 : Int) else (if (wIn l2 0 127) = 0 then (2 : Int) else (if (wIn l3 0 127) = 0 then (2 : Int) else (if (wIn l4 0 127) = 0 then (2 : Int) else 0))))) → gcl G10 l0 = 13 ∧ (((gfd G10 12 0 l0) ≤ 0 → (gcl G10 l0 = 13 ∧ i32 (3 * l1) ∧ gcl G10 (gfd G10 12 20 l0) = 15 ∧ 0 ≤ (3 * l1) ∧ (3 * l1) < gln G10 (gfd G10 12 20 l0) ∧ ∀ G18 : Gt, G18 = (sel G10 (gfd G10 12 20 l0) (3 * l1) l2) → gcl G18 l0 = 13 ∧ i32 (3 * l1) ∧ i32 ((3 * l1) + 1) ∧ gcl G18 (gfd G18 12 20 l0) = 15 ∧ 0 ≤ ((3 * l1) + 1) ∧ ((3 * l1) + 1) < gln G18 (gfd G18 12 20 l0) ∧ ∀ G25 : Gt, G25 = (sel G18 (gfd G18 12 20 l0) ((3 * l1) + 1) l3) → gcl G25 l0 = 13 ∧ i32 (3 * l1) ∧ i32 ((3 * l1) + 2) ∧ gcl G25 (gfd G25 12 20 l0) = 15 ∧ 0 ≤ ((3 * l1) + 2) ∧ ((3 * l1) + 2) < gln G25 (gfd G25 12 20 l0) ∧ ∀ G32 : Gt, G32 = (sel G25 (gfd G25 12 20 l0) ((3 * l1) + 2) l4) → V E M_X12_select 100 [some (rv l0), some (iv l1), none, none, none, some (iv 0), some (iv 0)] [] G32 c s Q X)) ∧ (0 < (gfd G10 12 0 l0) → Q 0 G10)))) : V E M_X12_select 0 [some (rv l0), some (iv l1), some (iv l2), some (iv l3), some (iv l4), none, none] [] G c s Q X := by
  refine v_aload_n (pc := 0) (dk dt_X12_select 0 rfl) rfl rfl ?_
  refine v_iload_n (pc := 1) (dk dt_X12_select 1 rfl) rfl rfl ?_
  refine v_iconst (pc := 2) (dk dt_X12_select 2 rfl) ⟨by decide, by decide⟩ ?_
  refine v_iconst (pc := 3) (dk dt_X12_select 3 rfl) ⟨by decide, by decide⟩ ?_
  obtain ⟨v1, h⟩ := h
  refine v_csPZ (v := (wIn l1 0 3)) (As := [iv l1, iv 0, iv 3]) (stk := [rv l0]) (pc := 4) (dk dt_X12_select 4 rfl) ml_X12_172 rfl rfl (Nat.le_of_ble_eq_true rfl) rfl rfl v1 ?_
  obtain ⟨v3, v5, v7, h⟩ := h
  suffices k33 : V E M_X12_select 50 [some (rv l0), some (iv l1), some (iv l2), some (iv l3), some (iv l4), none, none] [iv (if (wIn l1 0 3) = 0 then (1 : Int) else (if (wIn l2 0 127) = 0 then (2 : Int) else (if (wIn l3 0 127) = 0 then (2 : Int) else (if (wIn l4 0 127) = 0 then (2 : Int) else 0)))), rv l0] G c s Q X by
    refine v_if_ne (pc := 7) (tgt := 14) (dk dt_X12_select 5 rfl) (by decide) (fun c2 => ?_) (fun c2 => ?_)
    · refine v_iload_n (pc := 14) (dk dt_X12_select 8 rfl) rfl rfl ?_
      refine v_iconst (pc := 15) (dk dt_X12_select 9 rfl) ⟨by decide, by decide⟩ ?_
      refine v_bipush (pc := 16) (dk dt_X12_select 10 rfl) (by decide) ⟨by decide, by decide⟩ ?_
      refine v_csPZ (v := (wIn l2 0 127)) (As := [iv l2, iv 0, iv 127]) (stk := [rv l0]) (pc := 18) (dk dt_X12_select 11 rfl) ml_X12_172 rfl rfl (Nat.le_of_ble_eq_true rfl) rfl rfl (v3 c2) ?_
      refine v_if_eq (pc := 21) (tgt := 49) (dk dt_X12_select 12 rfl) (by decide) (fun c4 => ?_) (fun c4 => ?_)
      · refine v_iconst (pc := 49) (dk dt_X12_select 25 rfl) ⟨by decide, by decide⟩ ?_
        exact v_less2 (ls' := [some (rv l0), some (iv l1), some (iv l2), some (iv l3), some (iv l4), none, none]) ⟨rfl, rfl, rfl, rfl, rfl, trivial⟩ (by have hk9 := k33; try simp only [if_neg c2] at hk9 ⊢; try simp only [if_pos c4] at hk9 ⊢; exact hk9)
      · refine v_iload_n (pc := 24) (dk dt_X12_select 13 rfl) rfl rfl ?_
        refine v_iconst (pc := 25) (dk dt_X12_select 14 rfl) ⟨by decide, by decide⟩ ?_
        refine v_bipush (pc := 26) (dk dt_X12_select 15 rfl) (by decide) ⟨by decide, by decide⟩ ?_
        refine v_csPZ (v := (wIn l3 0 127)) (As := [iv l3, iv 0, iv 127]) (stk := [rv l0]) (pc := 28) (dk dt_X12_select 16 rfl) ml_X12_172 rfl rfl (Nat.le_of_ble_eq_true rfl) rfl rfl (v5 c2 c4) ?_
        refine v_if_eq (pc := 31) (tgt := 49) (dk dt_X12_select 17 rfl) (by decide) (fun c6 => ?_) (fun c6 => ?_)
        · refine v_iconst (pc := 49) (dk dt_X12_select 25 rfl) ⟨by decide, by decide⟩ ?_
          exact v_less2 (ls' := [some (rv l0), some (iv l1), some (iv l2), some (iv l3), some (iv l4), none, none]) ⟨rfl, rfl, rfl, rfl, rfl, trivial⟩ (by have hk9 := k33; try simp only [if_neg c2] at hk9 ⊢; try simp only [if_neg c4] at hk9 ⊢; try simp only [if_pos c6] at hk9 ⊢; exact hk9)
        · refine v_iload (pc := 34) (dk dt_X12_select 18 rfl) rfl ?_
          refine v_iconst (pc := 36) (dk dt_X12_select 19 rfl) ⟨by decide, by decide⟩ ?_
          refine v_bipush (pc := 37) (dk dt_X12_select 20 rfl) (by decide) ⟨by decide, by decide⟩ ?_
          refine v_csPZ (v := (wIn l4 0 127)) (As := [iv l4, iv 0, iv 127]) (stk := [rv l0]) (pc := 39) (dk dt_X12_select 21 rfl) ml_X12_172 rfl rfl (Nat.le_of_ble_eq_true rfl) rfl rfl (v7 c2 c4 c6) ?_
          refine v_if_eq (pc := 42) (tgt := 49) (dk dt_X12_select 22 rfl) (by decide) (fun c8 => ?_) (fun c8 => ?_)
          · refine v_iconst (pc := 49) (dk dt_X12_select 25 rfl) ⟨by decide, by decide⟩ ?_
            exact v_less2 (ls' := [some (rv l0), some (iv l1), some (iv l2), some (iv l3), some (iv l4), none, none]) ⟨rfl, rfl, rfl, rfl, rfl, trivial⟩ (by have hk9 := k33; try simp only [if_neg c2] at hk9 ⊢; try simp only [if_neg c4] at hk9 ⊢; try simp only [if_neg c6] at hk9 ⊢; try simp only [if_pos c8] at hk9 ⊢; exact hk9)
          · refine v_iconst (pc := 45) (dk dt_X12_select 23 rfl) ⟨by decide, by decide⟩ ?_
            refine v_goto (pc := 46) (tgt := 50) (dk dt_X12_select 24 rfl) (by decide) ?_
            exact v_less2 (ls' := [some (rv l0), some (iv l1), some (iv l2), some (iv l3), some (iv l4), none, none]) ⟨rfl, rfl, rfl, rfl, rfl, trivial⟩ (by have hk9 := k33; try simp only [if_neg c2] at hk9 ⊢; try simp only [if_neg c4] at hk9 ⊢; try simp only [if_neg c6] at hk9 ⊢; try simp only [if_neg c8] at hk9 ⊢; exact hk9)
    · refine v_iconst (pc := 10) (dk dt_X12_select 6 rfl) ⟨by decide, by decide⟩ ?_
      refine v_goto (pc := 11) (tgt := 50) (dk dt_X12_select 7 rfl) (by decide) ?_
      exact v_less2 (ls' := [some (rv l0), some (iv l1), some (iv l2), some (iv l3), some (iv l4), none, none]) ⟨rfl, rfl, rfl, rfl, rfl, trivial⟩ (by have hk9 := k33; try simp only [if_pos c2] at hk9 ⊢; exact hk9)
  obtain ⟨v9, h⟩ := h
  refine v_putI (pc := 50) (dk dt_X12_select 26 rfl) fl_X12_127 (Or.inl rfl) v9 ?_
  generalize hG10 : (sfd G 12 0 l0 (if (wIn l1 0 3) = 0 then (1 : Int) else (if (wIn l2 0 127) = 0 then (2 : Int) else (if (wIn l3 0 127) = 0 then (2 : Int) else (if (wIn l4 0 127) = 0 then (2 : Int) else 0))))) = G10
  replace h := h G10 hG10.symm
  refine v_aload_n (pc := 53) (dk dt_X12_select 27 rfl) rfl rfl ?_
  obtain ⟨v11, h⟩ := h
  refine v_getI (pc := 54) (dk dt_X12_select 28 rfl) fl_X12_127 v11 (fun _ => ?_)
  refine v_if_le (pc := 57) (tgt := 62) (dk dt_X12_select 29 rfl) (by decide) (fun c12 => ?_) (fun c12 => ?_)
  · replace h := h.1 c12
    refine v_aload_n (pc := 62) (dk dt_X12_select 32 rfl) rfl rfl ?_
    obtain ⟨v13, h⟩ := h
    refine v_getR (pc := 63) (dk dt_X12_select 33 rfl) fl_X12_54 v13 (fun _ => ?_)
    refine v_iconst (pc := 66) (dk dt_X12_select 34 rfl) ⟨by decide, by decide⟩ ?_
    refine v_iload_n (pc := 67) (dk dt_X12_select 35 rfl) rfl rfl ?_
    obtain ⟨v14, h⟩ := h
    refine v_imul (pc := 68) (dk dt_X12_select 36 rfl) v14 ?_
    refine v_iload_n (pc := 69) (dk dt_X12_select 37 rfl) rfl rfl ?_
    obtain ⟨v15, h⟩ := h
    obtain ⟨v16, h⟩ := h
    obtain ⟨v17, h⟩ := h
    refine v_iast (pc := 70) (dk dt_X12_select 38 rfl) v15 v16 v17 ?_
    generalize hG18 : (sel G10 (gfd G10 12 20 l0) (3 * l1) l2) = G18
    replace h := h G18 hG18.symm
    refine v_aload_n (pc := 71) (dk dt_X12_select 39 rfl) rfl rfl ?_
    obtain ⟨v19, h⟩ := h
    refine v_getR (pc := 72) (dk dt_X12_select_1 0 rfl) fl_X12_54 v19 (fun _ => ?_)
    refine v_iconst (pc := 75) (dk dt_X12_select_1 1 rfl) ⟨by decide, by decide⟩ ?_
    refine v_iload_n (pc := 76) (dk dt_X12_select_1 2 rfl) rfl rfl ?_
    obtain ⟨v20, h⟩ := h
    refine v_imul (pc := 77) (dk dt_X12_select_1 3 rfl) v20 ?_
    refine v_iconst (pc := 78) (dk dt_X12_select_1 4 rfl) ⟨by decide, by decide⟩ ?_
    obtain ⟨v21, h⟩ := h
    refine v_iadd (pc := 79) (dk dt_X12_select_1 5 rfl) v21 ?_
    refine v_iload_n (pc := 80) (dk dt_X12_select_1 6 rfl) rfl rfl ?_
    obtain ⟨v22, h⟩ := h
    obtain ⟨v23, h⟩ := h
    obtain ⟨v24, h⟩ := h
    refine v_iast (pc := 81) (dk dt_X12_select_1 7 rfl) v22 v23 v24 ?_
    generalize hG25 : (sel G18 (gfd G18 12 20 l0) ((3 * l1) + 1) l3) = G25
    replace h := h G25 hG25.symm
    refine v_aload_n (pc := 82) (dk dt_X12_select_1 8 rfl) rfl rfl ?_
    obtain ⟨v26, h⟩ := h
    refine v_getR (pc := 83) (dk dt_X12_select_1 9 rfl) fl_X12_54 v26 (fun _ => ?_)
    refine v_iconst (pc := 86) (dk dt_X12_select_1 10 rfl) ⟨by decide, by decide⟩ ?_
    refine v_iload_n (pc := 87) (dk dt_X12_select_1 11 rfl) rfl rfl ?_
    obtain ⟨v27, h⟩ := h
    refine v_imul (pc := 88) (dk dt_X12_select_1 12 rfl) v27 ?_
    refine v_iconst (pc := 89) (dk dt_X12_select_1 13 rfl) ⟨by decide, by decide⟩ ?_
    obtain ⟨v28, h⟩ := h
    refine v_iadd (pc := 90) (dk dt_X12_select_1 14 rfl) v28 ?_
    refine v_iload (pc := 91) (dk dt_X12_select_1 15 rfl) rfl ?_
    obtain ⟨v29, h⟩ := h
    obtain ⟨v30, h⟩ := h
    obtain ⟨v31, h⟩ := h
    refine v_iast (pc := 93) (dk dt_X12_select_1 16 rfl) v29 v30 v31 ?_
    generalize hG32 : (sel G25 (gfd G25 12 20 l0) ((3 * l1) + 2) l4) = G32
    replace h := h G32 hG32.symm
    refine v_iconst (pc := 94) (dk dt_X12_select_1 17 rfl) ⟨by decide, by decide⟩ ?_
    refine v_istore (pc := 95) (ls' := [some (rv l0), some (iv l1), some (iv l2), some (iv l3), some (iv l4), some (iv 0), none]) (dk dt_X12_select_1 18 rfl) (Nat.le_of_ble_eq_true rfl) rfl ?_
    refine v_iconst (pc := 97) (dk dt_X12_select_1 19 rfl) ⟨by decide, by decide⟩ ?_
    refine v_istore (pc := 98) (ls' := [some (rv l0), some (iv l1), some (iv l2), some (iv l3), some (iv l4), some (iv 0), some (iv 0)]) (dk dt_X12_select_1 20 rfl) (Nat.le_of_ble_eq_true rfl) rfl ?_
    exact v_less2 (ls' := [some (rv l0), some (iv l1), none, none, none, some (iv 0), some (iv 0)]) ⟨rfl, rfl, rfl, rfl, trivial⟩ h
  · replace h := h.2 c12
    refine v_iconst (pc := 60) (dk dt_X12_select 30 rfl) ⟨by decide, by decide⟩ ?_
    exact v_iret (pc := 61) (dk dt_X12_select 31 rfl) rfl h
set_option maxRecDepth 20000 in
theorem i_X12_select {E : EE} {l0 l1 l2 l3 l4 : Int} {G : Gt} {c s : Nat} {Q X : Int → Gt → Prop} (h : (OkP E M_X12_in [iv l1, iv 0, iv 3] G (wIn l1 0 3) ∧ ((wIn l1 0 3) ≠ 0 → OkP E M_X12_in [iv l2, iv 0, iv 127] G (wIn l2 0 127)) ∧ ((wIn l1 0 3) ≠ 0 → (wIn l2 0 127) ≠ 0 → OkP E M_X12_in [iv l3, iv 0, iv 127] G (wIn l3 0 127)) ∧ ((wIn l1 0 3) ≠ 0 → (wIn l2 0 127) ≠ 0 → (wIn l3 0 127) ≠ 0 → OkP E M_X12_in [iv l4, iv 0, iv 127] G (wIn l4 0 127)) ∧ gcl G l0 = 13 ∧ ∀ G10 : Gt, G10 = (sfd G 12 0 l0 (if (wIn l1 0 3) = 0 then (1 : Int) else (if (wIn l2 0 127) = 0 then (2 : Int) else (if (wIn l3 0 127) = 0 then (2 : Int) else (if (wIn l4 0 127) = 0 then (2 : Int) else 0))))) → gcl G10 l0 = 13 ∧ (((gfd G10 12 0 l0) ≤ 0 → (gcl G10 l0 = 13 ∧ i32 (3 * l1) ∧ gcl G10 (gfd G10 12 20 l0) = 15 ∧ 0 ≤ (3 * l1) ∧ (3 * l1) < gln G10 (gfd G10 12 20 l0) ∧ ∀ G18 : Gt, G18 = (sel G10 (gfd G10 12 20 l0) (3 * l1) l2) → gcl G18 l0 = 13 ∧ i32 (3 * l1) ∧ i32 ((3 * l1) + 1) ∧ gcl G18 (gfd G18 12 20 l0) = 15 ∧ 0 ≤ ((3 * l1) + 1) ∧ ((3 * l1) + 1) < gln G18 (gfd G18 12 20 l0) ∧ ∀ G25 : Gt, G25 = (sel G18 (gfd G18 12 20 l0) ((3 * l1) + 1) l3) → gcl G25 l0 = 13 ∧ i32 (3 * l1) ∧ i32 ((3 * l1) + 2) ∧ gcl G25 (gfd G25 12 20 l0) = 15 ∧ 0 ≤ ((3 * l1) + 2) ∧ ((3 * l1) + 2) < gln G25 (gfd G25 12 20 l0) ∧ ∀ G32 : Gt, G32 = (sel G25 (gfd G25 12 20 l0) ((3 * l1) + 2) l4) → V E M_X12_select 100 [some (rv l0), some (iv l1), none, none, none, some (iv 0), some (iv 0)] [] G32 c s Q X)) ∧ (0 < (gfd G10 12 0 l0) → Q 0 G10)))) : Ok E M_X12_select [rv l0, iv l1, iv l2, iv l3, iv l4] G c s Q X := Ok.intro (k := 2) rfl rfl (Nat.le_of_ble_eq_true rfl) rfl (b_X12_select_0 h)
set_option maxRecDepth 20000 in
theorem b_X12_select_100 {E : EE} {l0 l1 l5 l6 : Int} {G : Gt} {c s : Nat} {Q X : Int → Gt → Prop} (h : (gcl G l0 = 13 ∧ (((gfd G 12 6 l0) ≤ l6 → Q l5 G) ∧ (l6 < (gfd G 12 6 l0) → (gcl G l0 = 13 ∧ OkP E M_X12_isSelected [rv l0, iv l1, iv l6] G (mSel G l0 l1 l6) ∧ i32 (l5 + (if (mSel G l0 l1 l6) = 0 then (0 : Int) else 1)) ∧ i32 (l6 + 1) ∧ V E M_X12_select 100 [some (rv l0), some (iv l1), none, none, none, some (iv (l5 + (if (mSel G l0 l1 l6) = 0 then (0 : Int) else 1))), some (iv (l6 + 1))] [] G c s Q X))))) : V E M_X12_select 100 [some (rv l0), some (iv l1), none, none, none, some (iv l5), some (iv l6)] [] G c s Q X := by
  refine v_iload (pc := 100) (dk dt_X12_select_1 21 rfl) rfl ?_
  refine v_aload_n (pc := 102) (dk dt_X12_select_1 22 rfl) rfl rfl ?_
  obtain ⟨v1, h⟩ := h
  refine v_getI (pc := 103) (dk dt_X12_select_1 23 rfl) fl_X12_142 v1 (fun _ => ?_)
  refine v_icmp_ge (pc := 106) (tgt := 135) (dk dt_X12_select_1 24 rfl) (by decide) (fun c2 => ?_) (fun c2 => ?_)
  · replace h := h.1 c2
    refine v_iload (pc := 135) (dk dt_X12_select_1 38 rfl) rfl ?_
    exact v_iret (pc := 137) (dk dt_X12_select_1 39 rfl) rfl h
  · replace h := h.2 c2
    refine v_iload (pc := 109) (dk dt_X12_select_1 25 rfl) rfl ?_
    refine v_aload_n (pc := 111) (dk dt_X12_select_1 26 rfl) rfl rfl ?_
    refine v_iload_n (pc := 112) (dk dt_X12_select_1 27 rfl) rfl rfl ?_
    refine v_iload (pc := 113) (dk dt_X12_select_1 28 rfl) rfl ?_
    obtain ⟨v3, h⟩ := h
    obtain ⟨v4, h⟩ := h
    refine v_cvPZ (c := 12) (v := (mSel G l0 l1 l6)) (As := [iv l1, iv l6]) (stk := [iv l5]) (pc := 115) (dk dt_X12_select_1 29 rfl) ml_X12_193 rfl rfl (Nat.le_of_ble_eq_true rfl) rfl ⟨by decide, rfl⟩ v3 rfl v4 ?_
    suffices k8 : V E M_X12_select 126 [some (rv l0), some (iv l1), none, none, none, none, some (iv l6)] [iv (if (mSel G l0 l1 l6) = 0 then (0 : Int) else 1), iv l5] G c s Q X by
      refine v_if_eq (pc := 118) (tgt := 125) (dk dt_X12_select_1 30 rfl) (by decide) (fun c5 => ?_) (fun c5 => ?_)
      · refine v_iconst (pc := 125) (dk dt_X12_select_1 33 rfl) ⟨by decide, by decide⟩ ?_
        exact v_less2 (ls' := [some (rv l0), some (iv l1), none, none, none, none, some (iv l6)]) ⟨rfl, rfl, rfl, trivial⟩ (by have hk9 := k8; try simp only [if_pos c5] at hk9 ⊢; exact hk9)
      · refine v_iconst (pc := 121) (dk dt_X12_select_1 31 rfl) ⟨by decide, by decide⟩ ?_
        refine v_goto (pc := 122) (tgt := 126) (dk dt_X12_select_1 32 rfl) (by decide) ?_
        exact v_less2 (ls' := [some (rv l0), some (iv l1), none, none, none, none, some (iv l6)]) ⟨rfl, rfl, rfl, trivial⟩ (by have hk9 := k8; try simp only [if_neg c5] at hk9 ⊢; exact hk9)
    obtain ⟨v6, h⟩ := h
    refine v_iadd (pc := 126) (dk dt_X12_select_1 34 rfl) v6 ?_
    refine v_istore (pc := 127) (ls' := [some (rv l0), some (iv l1), none, none, none, some (iv (l5 + (if (mSel G l0 l1 l6) = 0 then (0 : Int) else 1))), some (iv l6)]) (dk dt_X12_select_1 35 rfl) (Nat.le_of_ble_eq_true rfl) rfl ?_
    obtain ⟨v7, h⟩ := h
    refine v_iinc (pc := 129) (ls' := [some (rv l0), some (iv l1), none, none, none, some (iv (l5 + (if (mSel G l0 l1 l6) = 0 then (0 : Int) else 1))), some (iv (l6 + 1))]) (dk dt_X12_select_1 36 rfl) (Nat.le_of_ble_eq_true rfl) rfl v7 rfl ?_
    refine v_goto (pc := 132) (tgt := 100) (dk dt_X12_select_1 37 rfl) (by decide) ?_
    exact h
set_option maxRecDepth 20000 in
theorem b_X12_left_0 {E : EE} {l0 l1 : Int} {G : Gt} {c s : Nat} {Q X : Int → Gt → Prop} (h : V E M_X12_left 4 [some (rv l0), some (iv l1), some (iv 0), some (iv 0), none] [] G c s Q X) : V E M_X12_left 0 [some (rv l0), some (iv l1), none, none, none] [] G c s Q X := by
  refine v_iconst (pc := 0) (dk dt_X12_left 0 rfl) ⟨by decide, by decide⟩ ?_
  refine v_istore_n (pc := 1) (ls' := [some (rv l0), some (iv l1), some (iv 0), none, none]) (dk dt_X12_left 1 rfl) rfl (Nat.le_of_ble_eq_true rfl) rfl ?_
  refine v_iconst (pc := 2) (dk dt_X12_left 2 rfl) ⟨by decide, by decide⟩ ?_
  refine v_istore_n (pc := 3) (ls' := [some (rv l0), some (iv l1), some (iv 0), some (iv 0), none]) (dk dt_X12_left 3 rfl) rfl (Nat.le_of_ble_eq_true rfl) rfl ?_
  exact h
set_option maxRecDepth 20000 in
theorem i_X12_left {E : EE} {l0 l1 : Int} {G : Gt} {c s : Nat} {Q X : Int → Gt → Prop} (h : V E M_X12_left 4 [some (rv l0), some (iv l1), some (iv 0), some (iv 0), none] [] G c s Q X) : Ok E M_X12_left [rv l0, iv l1] G c s Q X := Ok.intro (k := 3) rfl rfl (Nat.le_of_ble_eq_true rfl) rfl (b_X12_left_0 h)
set_option maxRecDepth 20000 in
theorem b_X12_left_4 {E : EE} {l0 l1 l2 l3 : Int} {G : Gt} {c s : Nat} {Q X : Int → Gt → Prop} (h : (gcl G l0 = 13 ∧ gcl G (gfd G 12 22 l0) = 15 ∧ 0 ≤ l1 ∧ l1 < gln G (gfd G 12 22 l0) ∧ (((gel G (gfd G 12 22 l0) l1) ≤ l3 → Q l2 G) ∧ (l3 < (gel G (gfd G 12 22 l0) l1) → (gcl G l0 = 13 ∧ i32 (60 * l1) ∧ i32 (6 * l3) ∧ i32 ((60 * l1) + (6 * l3)) ∧ gcl G (gfd G 12 21 l0) = 15 ∧ 0 ≤ ((60 * l1) + (6 * l3)) ∧ ((60 * l1) + (6 * l3)) < gln G (gfd G 12 21 l0) ∧ (8 ≤ (gel G (gfd G 12 21 l0) ((60 * l1) + (6 * l3))) → OkP E M_X12_in [iv (gel G (gfd G 12 21 l0) ((60 * l1) + (6 * l3))), iv 10, iv 14] G (wIn (gel G (gfd G 12 21 l0) ((60 * l1) + (6 * l3))) 10 14)) ∧ i32 (l2 + (if 8 ≤ (gel G (gfd G 12 21 l0) ((60 * l1) + (6 * l3))) then ((if (wIn (gel G (gfd G 12 21 l0) ((60 * l1) + (6 * l3))) 10 14) = 0 then (0 : Int) else (-1)) : Int) else 1)) ∧ i32 (l3 + 1) ∧ V E M_X12_left 4 [some (rv l0), some (iv l1), some (iv (l2 + (if 8 ≤ (gel G (gfd G 12 21 l0) ((60 * l1) + (6 * l3))) then ((if (wIn (gel G (gfd G 12 21 l0) ((60 * l1) + (6 * l3))) 10 14) = 0 then (0 : Int) else (-1)) : Int) else 1))), some (iv (l3 + 1)), none] [] G c s Q X))))) : V E M_X12_left 4 [some (rv l0), some (iv l1), some (iv l2), some (iv l3), none] [] G c s Q X := by
  refine v_iload_n (pc := 4) (dk dt_X12_left 4 rfl) rfl rfl ?_
  refine v_aload_n (pc := 5) (dk dt_X12_left 5 rfl) rfl rfl ?_
  obtain ⟨v1, h⟩ := h
  refine v_getR (pc := 6) (dk dt_X12_left 6 rfl) fl_X12_60 v1 (fun _ => ?_)
  refine v_iload_n (pc := 9) (dk dt_X12_left 7 rfl) rfl rfl ?_
  obtain ⟨v2, h⟩ := h
  obtain ⟨v3, h⟩ := h
  obtain ⟨v4, h⟩ := h
  refine v_iald (pc := 10) (dk dt_X12_left 8 rfl) (Or.inl v2) v3 v4 (fun _ => ?_)
  refine v_icmp_ge (pc := 11) (tgt := 67) (dk dt_X12_left 9 rfl) (by decide) (fun c5 => ?_) (fun c5 => ?_)
  · replace h := h.1 c5
    refine v_iload_n (pc := 67) (dk dt_X12_left 39 rfl) rfl rfl ?_
    exact v_iret (pc := 68) (dk dt_X12_left_1 0 rfl) rfl h
  · replace h := h.2 c5
    refine v_aload_n (pc := 14) (dk dt_X12_left 10 rfl) rfl rfl ?_
    obtain ⟨v6, h⟩ := h
    refine v_getR (pc := 15) (dk dt_X12_left 11 rfl) fl_X12_57 v6 (fun _ => ?_)
    refine v_bipush (pc := 18) (dk dt_X12_left 12 rfl) (by decide) ⟨by decide, by decide⟩ ?_
    refine v_iload_n (pc := 20) (dk dt_X12_left 13 rfl) rfl rfl ?_
    obtain ⟨v7, h⟩ := h
    refine v_imul (pc := 21) (dk dt_X12_left 14 rfl) v7 ?_
    refine v_bipush (pc := 22) (dk dt_X12_left 15 rfl) (by decide) ⟨by decide, by decide⟩ ?_
    refine v_iload_n (pc := 24) (dk dt_X12_left 16 rfl) rfl rfl ?_
    obtain ⟨v8, h⟩ := h
    refine v_imul (pc := 25) (dk dt_X12_left 17 rfl) v8 ?_
    obtain ⟨v9, h⟩ := h
    refine v_iadd (pc := 26) (dk dt_X12_left 18 rfl) v9 ?_
    obtain ⟨v10, h⟩ := h
    obtain ⟨v11, h⟩ := h
    obtain ⟨v12, h⟩ := h
    refine v_iald (pc := 27) (dk dt_X12_left 19 rfl) (Or.inl v10) v11 v12 (fun _ => ?_)
    refine v_istore (pc := 28) (ls' := [some (rv l0), some (iv l1), some (iv l2), some (iv l3), some (iv (gel G (gfd G 12 21 l0) ((60 * l1) + (6 * l3))))]) (dk dt_X12_left 20 rfl) (Nat.le_of_ble_eq_true rfl) rfl ?_
    refine v_iload_n (pc := 30) (dk dt_X12_left 21 rfl) rfl rfl ?_
    refine v_iload (pc := 31) (dk dt_X12_left 22 rfl) rfl ?_
    refine v_bipush (pc := 33) (dk dt_X12_left 23 rfl) (by decide) ⟨by decide, by decide⟩ ?_
    obtain ⟨v14, h⟩ := h
    suffices k18 : V E M_X12_left 59 [some (rv l0), some (iv l1), none, some (iv l3), none] [iv (if 8 ≤ (gel G (gfd G 12 21 l0) ((60 * l1) + (6 * l3))) then ((if (wIn (gel G (gfd G 12 21 l0) ((60 * l1) + (6 * l3))) 10 14) = 0 then (0 : Int) else (-1)) : Int) else 1), iv l2] G c s Q X by
      refine v_icmp_ge (pc := 35) (tgt := 42) (dk dt_X12_left 24 rfl) (by decide) (fun c13 => ?_) (fun c13 => ?_)
      · refine v_iload (pc := 42) (dk dt_X12_left 27 rfl) rfl ?_
        refine v_bipush (pc := 44) (dk dt_X12_left 28 rfl) (by decide) ⟨by decide, by decide⟩ ?_
        refine v_bipush (pc := 46) (dk dt_X12_left 29 rfl) (by decide) ⟨by decide, by decide⟩ ?_
        refine v_csPZ (v := (wIn (gel G (gfd G 12 21 l0) ((60 * l1) + (6 * l3))) 10 14)) (As := [iv (gel G (gfd G 12 21 l0) ((60 * l1) + (6 * l3))), iv 10, iv 14]) (stk := [iv l2]) (pc := 48) (dk dt_X12_left 30 rfl) ml_X12_172 rfl rfl (Nat.le_of_ble_eq_true rfl) rfl rfl (v14 c13) ?_
        refine v_if_eq (pc := 51) (tgt := 58) (dk dt_X12_left 31 rfl) (by decide) (fun c15 => ?_) (fun c15 => ?_)
        · refine v_iconst (pc := 58) (dk dt_X12_left 34 rfl) ⟨by decide, by decide⟩ ?_
          exact v_less2 (ls' := [some (rv l0), some (iv l1), none, some (iv l3), none]) ⟨rfl, rfl, rfl, trivial⟩ (by have hk9 := k18; try simp only [if_pos c13] at hk9 ⊢; try simp only [if_pos c15] at hk9 ⊢; exact hk9)
        · refine v_iconst (pc := 54) (dk dt_X12_left 32 rfl) ⟨by decide, by decide⟩ ?_
          refine v_goto (pc := 55) (tgt := 59) (dk dt_X12_left 33 rfl) (by decide) ?_
          exact v_less2 (ls' := [some (rv l0), some (iv l1), none, some (iv l3), none]) ⟨rfl, rfl, rfl, trivial⟩ (by have hk9 := k18; try simp only [if_pos c13] at hk9 ⊢; try simp only [if_neg c15] at hk9 ⊢; exact hk9)
      · refine v_iconst (pc := 38) (dk dt_X12_left 25 rfl) ⟨by decide, by decide⟩ ?_
        refine v_goto (pc := 39) (tgt := 59) (dk dt_X12_left 26 rfl) (by decide) ?_
        exact v_less2 (ls' := [some (rv l0), some (iv l1), none, some (iv l3), none]) ⟨rfl, rfl, rfl, trivial⟩ (by have hk9 := k18; try simp only [if_neg (Int.not_le.mpr c13)] at hk9 ⊢; exact hk9)
    obtain ⟨v16, h⟩ := h
    refine v_iadd (pc := 59) (dk dt_X12_left 35 rfl) v16 ?_
    refine v_istore_n (pc := 60) (ls' := [some (rv l0), some (iv l1), some (iv (l2 + (if 8 ≤ (gel G (gfd G 12 21 l0) ((60 * l1) + (6 * l3))) then ((if (wIn (gel G (gfd G 12 21 l0) ((60 * l1) + (6 * l3))) 10 14) = 0 then (0 : Int) else (-1)) : Int) else 1))), some (iv l3), none]) (dk dt_X12_left 36 rfl) rfl (Nat.le_of_ble_eq_true rfl) rfl ?_
    obtain ⟨v17, h⟩ := h
    refine v_iinc (pc := 61) (ls' := [some (rv l0), some (iv l1), some (iv (l2 + (if 8 ≤ (gel G (gfd G 12 21 l0) ((60 * l1) + (6 * l3))) then ((if (wIn (gel G (gfd G 12 21 l0) ((60 * l1) + (6 * l3))) 10 14) = 0 then (0 : Int) else (-1)) : Int) else 1))), some (iv (l3 + 1)), none]) (dk dt_X12_left 37 rfl) (Nat.le_of_ble_eq_true rfl) rfl v17 rfl ?_
    refine v_goto (pc := 64) (tgt := 4) (dk dt_X12_left 38 rfl) (by decide) ?_
    exact h
set_option maxRecDepth 20000 in
theorem b_X12_word_0 {E : EE} {l0 l1 l2 l3 : Int} {G : Gt} {c s : Nat} {Q X : Int → Gt → Prop} (h : (OkP E M_X12_in [iv l1, iv 0, iv 15] G (wIn l1 0 15) ∧ ∀ J2 : Int → Prop, (∀ (x3 : Int), ((8 ≤ l1 → OkP E M_X12_in [iv l1, iv 10, iv 14] G (wIn l1 10 14)) ∧ ∀ J7 : Int → Gt → Nat → Nat → Prop, (∀ (x8 : Int) (G9 : Gt) (c10 s11 : Nat), (gcl G9 l0 = 13 ∧ ∀ G13 : Gt, G13 = (sfd G9 12 0 l0 x8) → gcl G13 l0 = 13 ∧ (((gfd G13 12 0 l0) ≤ 0 → (gcl G13 l0 = 13 ∧ gcl G13 (gfd G13 12 22 l0) = 15 ∧ 0 < gln G13 (gfd G13 12 22 l0) ∧ i32 (6 * (gel G13 (gfd G13 12 22 l0) 0)) ∧ gcl G13 l0 = 13 ∧ gcl G13 (gfd G13 12 21 l0) = 15 ∧ 0 ≤ (6 * (gel G13 (gfd G13 12 22 l0) 0)) ∧ (6 * (gel G13 (gfd G13 12 22 l0) 0)) < gln G13 (gfd G13 12 21 l0) ∧ ∀ G24 : Gt, G24 = (sel G13 (gfd G13 12 21 l0) (6 * (gel G13 (gfd G13 12 22 l0) 0)) l1) → gcl G24 l0 = 13 ∧ i32 ((6 * (gel G13 (gfd G13 12 22 l0) 0)) + 1) ∧ gcl G24 (gfd G24 12 21 l0) = 15 ∧ 0 ≤ ((6 * (gel G13 (gfd G13 12 22 l0) 0)) + 1) ∧ ((6 * (gel G13 (gfd G13 12 22 l0) 0)) + 1) < gln G24 (gfd G24 12 21 l0) ∧ ∀ G30 : Gt, G30 = (sel G24 (gfd G24 12 21 l0) ((6 * (gel G13 (gfd G13 12 22 l0) 0)) + 1) l2) → gcl G30 l0 = 13 ∧ i32 ((6 * (gel G13 (gfd G13 12 22 l0) 0)) + 2) ∧ gcl G30 (gfd G30 12 21 l0) = 15 ∧ 0 ≤ ((6 * (gel G13 (gfd G13 12 22 l0) 0)) + 2) ∧ ((6 * (gel G13 (gfd G13 12 22 l0) 0)) + 2) < gln G30 (gfd G30 12 21 l0) ∧ ∀ G36 : Gt, G36 = (sel G30 (gfd G30 12 21 l0) ((6 * (gel G13 (gfd G13 12 22 l0) 0)) + 2) l3) → V E M_X12_word 240 [some (rv l0), some (iv l1), some (iv l2), none, none, none, some (iv (6 * (gel G13 (gfd G13 12 22 l0) 0))), some (iv 0)] [] G36 c10 s11 Q X)) ∧ (0 < (gfd G13 12 0 l0) → Q 0 G13))) → J7 x8 G9 c10 s11) → ((x3 ≠ 0 → (gcl G l0 = 13 ∧ gcl G (gfd G 12 22 l0) = 15 ∧ 0 < gln G (gfd G 12 22 l0) ∧ ∀ J41 : Gt → Nat → Nat → Prop, (∀ (G42 : Gt) (c43 s44 : Nat), J7 2 G42 c43 s44 → J41 G42 c43 s44) → (((gel G (gfd G 12 22 l0) 0) = 10 → J41 G c s) ∧ ((gel G (gfd G 12 22 l0) 0) ≠ 10 → (gcl G l0 = 13 ∧ Call E M_X12_left [rv l0, iv 0] G c s X (fun r47 G48 c49 s50 => (((if 8 ≤ l1 then ((if (wIn l1 10 14) = 0 then (1 : Int) else 2) : Int) else 0) ≤ r47 → J7 0 G48 c49 s50) ∧ (r47 < (if 8 ≤ l1 then ((if (wIn l1 10 14) = 0 then (1 : Int) else 2) : Int) else 0) → J41 G48 c49 s50)))))))) ∧ (x3 = 0 → J7 1 G c s))) → J2 x3) → (((wIn l1 0 15) = 0 → J2 (wIn l1 0 15)) ∧ ((wIn l1 0 15) ≠ 0 → ((l1 ≠ 0 → 7 < l1 → l1 ≠ 15 → OkP E M_X12_in [iv l2, iv 0, iv 7] G (wIn l2 0 7)) ∧ (l1 ≠ 0 → 7 < l1 → l1 = 15 → OkP E M_X12_in [iv l2, iv 0, iv 1000] G (wIn l2 0 1000)) ∧ (l1 ≠ 0 → l1 ≤ 7 → OkP E M_X12_in [iv l2, iv 0, iv 3] G (wIn l2 0 3)) ∧ (l1 = 0 → OkP E M_X12_in [iv l2, iv (-1000000), iv 1000000] G (wIn l2 (-1000000) 1000000)) ∧ ((if l1 = 0 then ((wIn l2 (-1000000) 1000000) : Int) else (if 7 < l1 then ((if l1 = 15 then ((wIn l2 0 1000) : Int) else (wIn l2 0 7)) : Int) else (wIn l2 0 3))) ≠ 0 → l1 ≠ 1 → 0 < l1 → l1 ≤ 7 → OkP E M_X12_in [iv l3, iv 1, iv 1000] G (wIn l3 1 1000)) ∧ ((if l1 = 0 then ((wIn l2 (-1000000) 1000000) : Int) else (if 7 < l1 then ((if l1 = 15 then ((wIn l2 0 1000) : Int) else (wIn l2 0 7)) : Int) else (wIn l2 0 3))) ≠ 0 → l1 = 1 → OkP E M_X12_in [iv l3, iv 0, iv 1000] G (wIn l3 0 1000)) ∧ J2 (if (if l1 = 0 then ((wIn l2 (-1000000) 1000000) : Int) else (if 7 < l1 then ((if l1 = 15 then ((wIn l2 0 1000) : Int) else (wIn l2 0 7)) : Int) else (wIn l2 0 3))) = 0 then (0 : Int) else (if l1 = 1 then ((if (wIn l3 0 1000) = 0 then (0 : Int) else 1) : Int) else (if l1 ≤ 0 then (1 : Int) else (if 7 < l1 then (1 : Int) else (if (wIn l3 1 1000) = 0 then (0 : Int) else 1)))))))))) : V E M_X12_word 0 [some (rv l0), some (iv l1), some (iv l2), some (iv l3), none, none, none, none] [] G c s Q X := by
  refine v_iload_n (pc := 0) (dk dt_X12_word 0 rfl) rfl rfl ?_
  refine v_iconst (pc := 1) (dk dt_X12_word 1 rfl) ⟨by decide, by decide⟩ ?_
  refine v_bipush (pc := 2) (dk dt_X12_word 2 rfl) (by decide) ⟨by decide, by decide⟩ ?_
  obtain ⟨v1, h⟩ := h
  refine v_csPZ (v := (wIn l1 0 15)) (As := [iv l1, iv 0, iv 15]) (stk := []) (pc := 4) (dk dt_X12_word 3 rfl) ml_X12_172 rfl rfl (Nat.le_of_ble_eq_true rfl) rfl rfl v1 ?_
  refine v_istore (pc := 7) (ls' := [some (rv l0), some (iv l1), some (iv l2), some (iv l3), some (iv (wIn l1 0 15)), none, none, none]) (dk dt_X12_word 4 rfl) (Nat.le_of_ble_eq_true rfl) rfl ?_
  refine v_iload (pc := 9) (dk dt_X12_word 5 rfl) rfl ?_
  obtain ⟨J2, dJ2⟩ : ∃ J9 : Int → Prop, J9 = fun x3 => V E M_X12_word 122 [some (rv l0), some (iv l1), some (iv l2), some (iv l3), some (iv x3), none, none, none] [] G c s Q X := ⟨_, rfl⟩
  have hJ2 : ∀ (x3 : Int), ((8 ≤ l1 → OkP E M_X12_in [iv l1, iv 10, iv 14] G (wIn l1 10 14)) ∧ ∀ J7 : Int → Gt → Nat → Nat → Prop, (∀ (x8 : Int) (G9 : Gt) (c10 s11 : Nat), (gcl G9 l0 = 13 ∧ ∀ G13 : Gt, G13 = (sfd G9 12 0 l0 x8) → gcl G13 l0 = 13 ∧ (((gfd G13 12 0 l0) ≤ 0 → (gcl G13 l0 = 13 ∧ gcl G13 (gfd G13 12 22 l0) = 15 ∧ 0 < gln G13 (gfd G13 12 22 l0) ∧ i32 (6 * (gel G13 (gfd G13 12 22 l0) 0)) ∧ gcl G13 l0 = 13 ∧ gcl G13 (gfd G13 12 21 l0) = 15 ∧ 0 ≤ (6 * (gel G13 (gfd G13 12 22 l0) 0)) ∧ (6 * (gel G13 (gfd G13 12 22 l0) 0)) < gln G13 (gfd G13 12 21 l0) ∧ ∀ G24 : Gt, G24 = (sel G13 (gfd G13 12 21 l0) (6 * (gel G13 (gfd G13 12 22 l0) 0)) l1) → gcl G24 l0 = 13 ∧ i32 ((6 * (gel G13 (gfd G13 12 22 l0) 0)) + 1) ∧ gcl G24 (gfd G24 12 21 l0) = 15 ∧ 0 ≤ ((6 * (gel G13 (gfd G13 12 22 l0) 0)) + 1) ∧ ((6 * (gel G13 (gfd G13 12 22 l0) 0)) + 1) < gln G24 (gfd G24 12 21 l0) ∧ ∀ G30 : Gt, G30 = (sel G24 (gfd G24 12 21 l0) ((6 * (gel G13 (gfd G13 12 22 l0) 0)) + 1) l2) → gcl G30 l0 = 13 ∧ i32 ((6 * (gel G13 (gfd G13 12 22 l0) 0)) + 2) ∧ gcl G30 (gfd G30 12 21 l0) = 15 ∧ 0 ≤ ((6 * (gel G13 (gfd G13 12 22 l0) 0)) + 2) ∧ ((6 * (gel G13 (gfd G13 12 22 l0) 0)) + 2) < gln G30 (gfd G30 12 21 l0) ∧ ∀ G36 : Gt, G36 = (sel G30 (gfd G30 12 21 l0) ((6 * (gel G13 (gfd G13 12 22 l0) 0)) + 2) l3) → V E M_X12_word 240 [some (rv l0), some (iv l1), some (iv l2), none, none, none, some (iv (6 * (gel G13 (gfd G13 12 22 l0) 0))), some (iv 0)] [] G36 c10 s11 Q X)) ∧ (0 < (gfd G13 12 0 l0) → Q 0 G13))) → J7 x8 G9 c10 s11) → ((x3 ≠ 0 → (gcl G l0 = 13 ∧ gcl G (gfd G 12 22 l0) = 15 ∧ 0 < gln G (gfd G 12 22 l0) ∧ ∀ J41 : Gt → Nat → Nat → Prop, (∀ (G42 : Gt) (c43 s44 : Nat), J7 2 G42 c43 s44 → J41 G42 c43 s44) → (((gel G (gfd G 12 22 l0) 0) = 10 → J41 G c s) ∧ ((gel G (gfd G 12 22 l0) 0) ≠ 10 → (gcl G l0 = 13 ∧ Call E M_X12_left [rv l0, iv 0] G c s X (fun r47 G48 c49 s50 => (((if 8 ≤ l1 then ((if (wIn l1 10 14) = 0 then (1 : Int) else 2) : Int) else 0) ≤ r47 → J7 0 G48 c49 s50) ∧ (r47 < (if 8 ≤ l1 then ((if (wIn l1 10 14) = 0 then (1 : Int) else 2) : Int) else 0) → J41 G48 c49 s50)))))))) ∧ (x3 = 0 → J7 1 G c s))) → J2 x3 := by
    intro x3 h
    rw [dJ2]
    refine v_iload_n (pc := 122) (dk dt_X12_word_1 20 rfl) rfl rfl ?_
    refine v_bipush (pc := 123) (dk dt_X12_word_1 21 rfl) (by decide) ⟨by decide, by decide⟩ ?_
    obtain ⟨v5, h⟩ := h
    suffices k68 : V E M_X12_word 148 [some (rv l0), some (iv l1), some (iv l2), some (iv l3), some (iv x3), none, none, none] [iv (if 8 ≤ l1 then ((if (wIn l1 10 14) = 0 then (1 : Int) else 2) : Int) else 0)] G c s Q X by
      refine v_icmp_ge (pc := 125) (tgt := 132) (dk dt_X12_word_1 22 rfl) (by decide) (fun c4 => ?_) (fun c4 => ?_)
      · refine v_iload_n (pc := 132) (dk dt_X12_word_1 25 rfl) rfl rfl ?_
        refine v_bipush (pc := 133) (dk dt_X12_word_1 26 rfl) (by decide) ⟨by decide, by decide⟩ ?_
        refine v_bipush (pc := 135) (dk dt_X12_word_1 27 rfl) (by decide) ⟨by decide, by decide⟩ ?_
        refine v_csPZ (v := (wIn l1 10 14)) (As := [iv l1, iv 10, iv 14]) (stk := []) (pc := 137) (dk dt_X12_word_1 28 rfl) ml_X12_172 rfl rfl (Nat.le_of_ble_eq_true rfl) rfl rfl (v5 c4) ?_
        refine v_if_eq (pc := 140) (tgt := 147) (dk dt_X12_word_1 29 rfl) (by decide) (fun c6 => ?_) (fun c6 => ?_)
        · refine v_iconst (pc := 147) (dk dt_X12_word_1 32 rfl) ⟨by decide, by decide⟩ ?_
          exact v_less2 (ls' := [some (rv l0), some (iv l1), some (iv l2), some (iv l3), some (iv x3), none, none, none]) ⟨rfl, rfl, rfl, rfl, rfl, trivial⟩ (by have hk9 := k68; try simp only [if_pos c4] at hk9 ⊢; try simp only [if_pos c6] at hk9 ⊢; exact hk9)
        · refine v_iconst (pc := 143) (dk dt_X12_word_1 30 rfl) ⟨by decide, by decide⟩ ?_
          refine v_goto (pc := 144) (tgt := 148) (dk dt_X12_word_1 31 rfl) (by decide) ?_
          exact v_less2 (ls' := [some (rv l0), some (iv l1), some (iv l2), some (iv l3), some (iv x3), none, none, none]) ⟨rfl, rfl, rfl, rfl, rfl, trivial⟩ (by have hk9 := k68; try simp only [if_pos c4] at hk9 ⊢; try simp only [if_neg c6] at hk9 ⊢; exact hk9)
      · refine v_iconst (pc := 128) (dk dt_X12_word_1 23 rfl) ⟨by decide, by decide⟩ ?_
        refine v_goto (pc := 129) (tgt := 148) (dk dt_X12_word_1 24 rfl) (by decide) ?_
        exact v_less2 (ls' := [some (rv l0), some (iv l1), some (iv l2), some (iv l3), some (iv x3), none, none, none]) ⟨rfl, rfl, rfl, rfl, rfl, trivial⟩ (by have hk9 := k68; try simp only [if_neg (Int.not_le.mpr c4)] at hk9 ⊢; exact hk9)
    refine v_istore (pc := 148) (ls' := [some (rv l0), some (iv l1), some (iv l2), some (iv l3), some (iv x3), some (iv (if 8 ≤ l1 then ((if (wIn l1 10 14) = 0 then (1 : Int) else 2) : Int) else 0)), none, none]) (dk dt_X12_word_1 33 rfl) (Nat.le_of_ble_eq_true rfl) rfl ?_
    refine v_aload_n (pc := 150) (dk dt_X12_word_1 34 rfl) rfl rfl ?_
    refine v_iload (pc := 151) (dk dt_X12_word_1 35 rfl) rfl ?_
    obtain ⟨J7, dJ7⟩ : ∃ J9 : Int → Gt → Nat → Nat → Prop, J9 = fun x8 G9 c10 s11 => V E M_X12_word 186 [some (rv l0), some (iv l1), some (iv l2), some (iv l3), none, none, none, none] [iv x8, rv l0] G9 c10 s11 Q X := ⟨_, rfl⟩
    have hJ7 : ∀ (x8 : Int) (G9 : Gt) (c10 s11 : Nat), (gcl G9 l0 = 13 ∧ ∀ G13 : Gt, G13 = (sfd G9 12 0 l0 x8) → gcl G13 l0 = 13 ∧ (((gfd G13 12 0 l0) ≤ 0 → (gcl G13 l0 = 13 ∧ gcl G13 (gfd G13 12 22 l0) = 15 ∧ 0 < gln G13 (gfd G13 12 22 l0) ∧ i32 (6 * (gel G13 (gfd G13 12 22 l0) 0)) ∧ gcl G13 l0 = 13 ∧ gcl G13 (gfd G13 12 21 l0) = 15 ∧ 0 ≤ (6 * (gel G13 (gfd G13 12 22 l0) 0)) ∧ (6 * (gel G13 (gfd G13 12 22 l0) 0)) < gln G13 (gfd G13 12 21 l0) ∧ ∀ G24 : Gt, G24 = (sel G13 (gfd G13 12 21 l0) (6 * (gel G13 (gfd G13 12 22 l0) 0)) l1) → gcl G24 l0 = 13 ∧ i32 ((6 * (gel G13 (gfd G13 12 22 l0) 0)) + 1) ∧ gcl G24 (gfd G24 12 21 l0) = 15 ∧ 0 ≤ ((6 * (gel G13 (gfd G13 12 22 l0) 0)) + 1) ∧ ((6 * (gel G13 (gfd G13 12 22 l0) 0)) + 1) < gln G24 (gfd G24 12 21 l0) ∧ ∀ G30 : Gt, G30 = (sel G24 (gfd G24 12 21 l0) ((6 * (gel G13 (gfd G13 12 22 l0) 0)) + 1) l2) → gcl G30 l0 = 13 ∧ i32 ((6 * (gel G13 (gfd G13 12 22 l0) 0)) + 2) ∧ gcl G30 (gfd G30 12 21 l0) = 15 ∧ 0 ≤ ((6 * (gel G13 (gfd G13 12 22 l0) 0)) + 2) ∧ ((6 * (gel G13 (gfd G13 12 22 l0) 0)) + 2) < gln G30 (gfd G30 12 21 l0) ∧ ∀ G36 : Gt, G36 = (sel G30 (gfd G30 12 21 l0) ((6 * (gel G13 (gfd G13 12 22 l0) 0)) + 2) l3) → V E M_X12_word 240 [some (rv l0), some (iv l1), some (iv l2), none, none, none, some (iv (6 * (gel G13 (gfd G13 12 22 l0) 0))), some (iv 0)] [] G36 c10 s11 Q X)) ∧ (0 < (gfd G13 12 0 l0) → Q 0 G13))) → J7 x8 G9 c10 s11 := by
      intro x8 G9 c10 s11 h
      rw [dJ7]
      obtain ⟨v12, h⟩ := h
      refine v_putI (pc := 186) (dk dt_X12_word_2 13 rfl) fl_X12_127 (Or.inl rfl) v12 ?_
      generalize hG13 : (sfd G9 12 0 l0 x8) = G13
      replace h := h G13 hG13.symm
      refine v_aload_n (pc := 189) (dk dt_X12_word_2 14 rfl) rfl rfl ?_
      obtain ⟨v14, h⟩ := h
      refine v_getI (pc := 190) (dk dt_X12_word_2 15 rfl) fl_X12_127 v14 (fun _ => ?_)
      refine v_if_le (pc := 193) (tgt := 198) (dk dt_X12_word_2 16 rfl) (by decide) (fun c15 => ?_) (fun c15 => ?_)
      · replace h := h.1 c15
        refine v_bipush (pc := 198) (dk dt_X12_word_2 19 rfl) (by decide) ⟨by decide, by decide⟩ ?_
        refine v_aload_n (pc := 200) (dk dt_X12_word_2 20 rfl) rfl rfl ?_
        obtain ⟨v16, h⟩ := h
        refine v_getR (pc := 201) (dk dt_X12_word_2 21 rfl) fl_X12_60 v16 (fun _ => ?_)
        refine v_iconst (pc := 204) (dk dt_X12_word_2 22 rfl) ⟨by decide, by decide⟩ ?_
        obtain ⟨v17, h⟩ := h
        obtain ⟨v18, h⟩ := h
        refine v_iald (pc := 205) (dk dt_X12_word_2 23 rfl) (Or.inl v17) (by decide) v18 (fun _ => ?_)
        obtain ⟨v19, h⟩ := h
        refine v_imul (pc := 206) (dk dt_X12_word_2 24 rfl) v19 ?_
        refine v_istore (pc := 207) (ls' := [some (rv l0), some (iv l1), some (iv l2), some (iv l3), none, none, some (iv (6 * (gel G13 (gfd G13 12 22 l0) 0))), none]) (dk dt_X12_word_2 25 rfl) (Nat.le_of_ble_eq_true rfl) rfl ?_
        refine v_aload_n (pc := 209) (dk dt_X12_word_2 26 rfl) rfl rfl ?_
        obtain ⟨v20, h⟩ := h
        refine v_getR (pc := 210) (dk dt_X12_word_2 27 rfl) fl_X12_57 v20 (fun _ => ?_)
        refine v_iload (pc := 213) (dk dt_X12_word_2 28 rfl) rfl ?_
        refine v_iload_n (pc := 215) (dk dt_X12_word_2 29 rfl) rfl rfl ?_
        obtain ⟨v21, h⟩ := h
        obtain ⟨v22, h⟩ := h
        obtain ⟨v23, h⟩ := h
        refine v_iast (pc := 216) (dk dt_X12_word_2 30 rfl) v21 v22 v23 ?_
        generalize hG24 : (sel G13 (gfd G13 12 21 l0) (6 * (gel G13 (gfd G13 12 22 l0) 0)) l1) = G24
        replace h := h G24 hG24.symm
        refine v_aload_n (pc := 217) (dk dt_X12_word_2 31 rfl) rfl rfl ?_
        obtain ⟨v25, h⟩ := h
        refine v_getR (pc := 218) (dk dt_X12_word_2 32 rfl) fl_X12_57 v25 (fun _ => ?_)
        refine v_iload (pc := 221) (dk dt_X12_word_2 33 rfl) rfl ?_
        refine v_iconst (pc := 223) (dk dt_X12_word_2 34 rfl) ⟨by decide, by decide⟩ ?_
        obtain ⟨v26, h⟩ := h
        refine v_iadd (pc := 224) (dk dt_X12_word_2 35 rfl) v26 ?_
        refine v_iload_n (pc := 225) (dk dt_X12_word_2 36 rfl) rfl rfl ?_
        obtain ⟨v27, h⟩ := h
        obtain ⟨v28, h⟩ := h
        obtain ⟨v29, h⟩ := h
        refine v_iast (pc := 226) (dk dt_X12_word_2 37 rfl) v27 v28 v29 ?_
        generalize hG30 : (sel G24 (gfd G24 12 21 l0) ((6 * (gel G13 (gfd G13 12 22 l0) 0)) + 1) l2) = G30
        replace h := h G30 hG30.symm
        refine v_aload_n (pc := 227) (dk dt_X12_word_2 38 rfl) rfl rfl ?_
        obtain ⟨v31, h⟩ := h
        refine v_getR (pc := 228) (dk dt_X12_word_2 39 rfl) fl_X12_57 v31 (fun _ => ?_)
        refine v_iload (pc := 231) (dk dt_X12_word_3 0 rfl) rfl ?_
        refine v_iconst (pc := 233) (dk dt_X12_word_3 1 rfl) ⟨by decide, by decide⟩ ?_
        obtain ⟨v32, h⟩ := h
        refine v_iadd (pc := 234) (dk dt_X12_word_3 2 rfl) v32 ?_
        refine v_iload_n (pc := 235) (dk dt_X12_word_3 3 rfl) rfl rfl ?_
        obtain ⟨v33, h⟩ := h
        obtain ⟨v34, h⟩ := h
        obtain ⟨v35, h⟩ := h
        refine v_iast (pc := 236) (dk dt_X12_word_3 4 rfl) v33 v34 v35 ?_
        generalize hG36 : (sel G30 (gfd G30 12 21 l0) ((6 * (gel G13 (gfd G13 12 22 l0) 0)) + 2) l3) = G36
        replace h := h G36 hG36.symm
        refine v_iconst (pc := 237) (dk dt_X12_word_3 5 rfl) ⟨by decide, by decide⟩ ?_
        refine v_istore (pc := 238) (ls' := [some (rv l0), some (iv l1), some (iv l2), some (iv l3), none, none, some (iv (6 * (gel G13 (gfd G13 12 22 l0) 0))), some (iv 0)]) (dk dt_X12_word_3 6 rfl) (Nat.le_of_ble_eq_true rfl) rfl ?_
        exact v_less2 (ls' := [some (rv l0), some (iv l1), some (iv l2), none, none, none, some (iv (6 * (gel G13 (gfd G13 12 22 l0) 0))), some (iv 0)]) ⟨rfl, rfl, rfl, rfl, rfl, trivial⟩ h
      · replace h := h.2 c15
        refine v_iconst (pc := 196) (dk dt_X12_word_2 17 rfl) ⟨by decide, by decide⟩ ?_
        exact v_iret (pc := 197) (dk dt_X12_word_2 18 rfl) rfl h
    replace h := h _ hJ7
    refine v_if_ne (pc := 153) (tgt := 160) (dk dt_X12_word_1 36 rfl) (by decide) (fun c37 => ?_) (fun c37 => ?_)
    · replace h := h.1 c37
      refine v_aload_n (pc := 160) (dk dt_X12_word_1 39 rfl) rfl rfl ?_
      obtain ⟨v38, h⟩ := h
      refine v_getR (pc := 161) (dk dt_X12_word_2 0 rfl) fl_X12_60 v38 (fun _ => ?_)
      refine v_iconst (pc := 164) (dk dt_X12_word_2 1 rfl) ⟨by decide, by decide⟩ ?_
      obtain ⟨v39, h⟩ := h
      obtain ⟨v40, h⟩ := h
      refine v_iald (pc := 165) (dk dt_X12_word_2 2 rfl) (Or.inl v39) (by decide) v40 (fun _ => ?_)
      refine v_bipush (pc := 166) (dk dt_X12_word_2 3 rfl) (by decide) ⟨by decide, by decide⟩ ?_
      obtain ⟨J41, dJ41⟩ : ∃ J9 : Gt → Nat → Nat → Prop, J9 = fun G42 c43 s44 => V E M_X12_word 181 [some (rv l0), some (iv l1), some (iv l2), some (iv l3), none, none, none, none] [rv l0] G42 c43 s44 Q X := ⟨_, rfl⟩
      have hJ41 : ∀ (G42 : Gt) (c43 s44 : Nat), J7 2 G42 c43 s44 → J41 G42 c43 s44 := by
        intro G42 c43 s44 h
        rw [dJ41]
        refine v_iconst (pc := 181) (dk dt_X12_word_2 10 rfl) ⟨by decide, by decide⟩ ?_
        refine v_goto (pc := 182) (tgt := 186) (dk dt_X12_word_2 11 rfl) (by decide) ?_
        rw [dJ7] at h
        exact h
      replace h := h _ hJ41
      refine v_icmp_eq (pc := 168) (tgt := 181) (dk dt_X12_word_2 4 rfl) (by decide) (fun c45 => ?_) (fun c45 => ?_)
      · replace h := h.1 c45
        rw [dJ41] at h
        exact v_less2 (ls' := [some (rv l0), some (iv l1), some (iv l2), some (iv l3), none, none, none, none]) ⟨rfl, rfl, rfl, rfl, trivial⟩ h
      · replace h := h.2 c45
        refine v_aload_n (pc := 171) (dk dt_X12_word_2 5 rfl) rfl rfl ?_
        refine v_iconst (pc := 172) (dk dt_X12_word_2 6 rfl) ⟨by decide, by decide⟩ ?_
        obtain ⟨v46, h⟩ := h
        refine v_cvI (c := 12) (As := [iv 0]) (stk := [rv l0]) (pc := 173) (dk dt_X12_word_2 7 rfl) ml_X12_230 rfl rfl (Nat.le_of_ble_eq_true rfl) rfl ⟨by decide, rfl⟩ v46 rfl (Call.mono h (fun r47 G48 c49 s50 h => ?_))
        refine v_iload (pc := 176) (dk dt_X12_word_2 8 rfl) rfl ?_
        refine v_icmp_ge (pc := 178) (tgt := 185) (dk dt_X12_word_2 9 rfl) (by decide) (fun c51 => ?_) (fun c51 => ?_)
        · replace h := h.1 c51
          refine v_iconst (pc := 185) (dk dt_X12_word_2 12 rfl) ⟨by decide, by decide⟩ ?_
          rw [dJ7] at h
          exact v_less2 (ls' := [some (rv l0), some (iv l1), some (iv l2), some (iv l3), none, none, none, none]) ⟨rfl, rfl, rfl, rfl, trivial⟩ h
        · replace h := h.2 c51
          rw [dJ41] at h
          exact v_less2 (ls' := [some (rv l0), some (iv l1), some (iv l2), some (iv l3), none, none, none, none]) ⟨rfl, rfl, rfl, rfl, trivial⟩ h
    · replace h := h.2 c37
      refine v_iconst (pc := 156) (dk dt_X12_word_1 37 rfl) ⟨by decide, by decide⟩ ?_
      refine v_goto (pc := 157) (tgt := 186) (dk dt_X12_word_1 38 rfl) (by decide) ?_
      rw [dJ7] at h
      exact v_less2 (ls' := [some (rv l0), some (iv l1), some (iv l2), some (iv l3), none, none, none, none]) ⟨rfl, rfl, rfl, rfl, trivial⟩ h
  replace h := h _ hJ2
  refine v_if_eq (pc := 11) (tgt := 122) (dk dt_X12_word 6 rfl) (by decide) (fun c52 => ?_) (fun c52 => ?_)
  · replace h := h.1 c52
    rw [dJ2] at h
    exact h
  · replace h := h.2 c52
    refine v_iload_n (pc := 14) (dk dt_X12_word 7 rfl) rfl rfl ?_
    obtain ⟨v56, v57, v58, v59, h⟩ := h
    suffices k69 : V E M_X12_word 68 [some (rv l0), some (iv l1), some (iv l2), some (iv l3), none, none, none, none] [iv (if l1 = 0 then ((wIn l2 (-1000000) 1000000) : Int) else (if 7 < l1 then ((if l1 = 15 then ((wIn l2 0 1000) : Int) else (wIn l2 0 7)) : Int) else (wIn l2 0 3)))] G c s Q X by
      refine v_if_ne (pc := 15) (tgt := 29) (dk dt_X12_word 8 rfl) (by decide) (fun c53 => ?_) (fun c53 => ?_)
      · refine v_iload_n (pc := 29) (dk dt_X12_word 14 rfl) rfl rfl ?_
        refine v_bipush (pc := 30) (dk dt_X12_word 15 rfl) (by decide) ⟨by decide, by decide⟩ ?_
        refine v_icmp_gt (pc := 32) (tgt := 44) (dk dt_X12_word 16 rfl) (by decide) (fun c54 => ?_) (fun c54 => ?_)
        · refine v_iload_n (pc := 44) (dk dt_X12_word 22 rfl) rfl rfl ?_
          refine v_bipush (pc := 45) (dk dt_X12_word 23 rfl) (by decide) ⟨by decide, by decide⟩ ?_
          refine v_icmp_ne (pc := 47) (tgt := 61) (dk dt_X12_word 24 rfl) (by decide) (fun c55 => ?_) (fun c55 => ?_)
          · refine v_iload_n (pc := 61) (dk dt_X12_word 30 rfl) rfl rfl ?_
            refine v_iconst (pc := 62) (dk dt_X12_word 31 rfl) ⟨by decide, by decide⟩ ?_
            refine v_bipush (pc := 63) (dk dt_X12_word 32 rfl) (by decide) ⟨by decide, by decide⟩ ?_
            refine v_csPZ (v := (wIn l2 0 7)) (As := [iv l2, iv 0, iv 7]) (stk := []) (pc := 65) (dk dt_X12_word 33 rfl) ml_X12_172 rfl rfl (Nat.le_of_ble_eq_true rfl) rfl rfl (v56 c53 c54 c55) ?_
            exact v_less2 (ls' := [some (rv l0), some (iv l1), some (iv l2), some (iv l3), none, none, none, none]) ⟨rfl, rfl, rfl, rfl, trivial⟩ (by have hk9 := k69; try simp only [if_neg c53] at hk9 ⊢; try simp only [if_pos c54] at hk9 ⊢; try simp only [if_neg c55] at hk9 ⊢; exact hk9)
          · refine v_iload_n (pc := 50) (dk dt_X12_word 25 rfl) rfl rfl ?_
            refine v_iconst (pc := 51) (dk dt_X12_word 26 rfl) ⟨by decide, by decide⟩ ?_
            refine v_sipush (pc := 52) (dk dt_X12_word 27 rfl) (by decide) ⟨by decide, by decide⟩ ?_
            refine v_csPZ (v := (wIn l2 0 1000)) (As := [iv l2, iv 0, iv 1000]) (stk := []) (pc := 55) (dk dt_X12_word 28 rfl) ml_X12_172 rfl rfl (Nat.le_of_ble_eq_true rfl) rfl rfl (v57 c53 c54 c55) ?_
            refine v_goto (pc := 58) (tgt := 68) (dk dt_X12_word 29 rfl) (by decide) ?_
            exact v_less2 (ls' := [some (rv l0), some (iv l1), some (iv l2), some (iv l3), none, none, none, none]) ⟨rfl, rfl, rfl, rfl, trivial⟩ (by have hk9 := k69; try simp only [if_neg c53] at hk9 ⊢; try simp only [if_pos c54] at hk9 ⊢; try simp only [if_pos c55] at hk9 ⊢; exact hk9)
        · refine v_iload_n (pc := 35) (dk dt_X12_word 17 rfl) rfl rfl ?_
          refine v_iconst (pc := 36) (dk dt_X12_word 18 rfl) ⟨by decide, by decide⟩ ?_
          refine v_iconst (pc := 37) (dk dt_X12_word 19 rfl) ⟨by decide, by decide⟩ ?_
          refine v_csPZ (v := (wIn l2 0 3)) (As := [iv l2, iv 0, iv 3]) (stk := []) (pc := 38) (dk dt_X12_word 20 rfl) ml_X12_172 rfl rfl (Nat.le_of_ble_eq_true rfl) rfl rfl (v58 c53 c54) ?_
          refine v_goto (pc := 41) (tgt := 68) (dk dt_X12_word 21 rfl) (by decide) ?_
          exact v_less2 (ls' := [some (rv l0), some (iv l1), some (iv l2), some (iv l3), none, none, none, none]) ⟨rfl, rfl, rfl, rfl, trivial⟩ (by have hk9 := k69; try simp only [if_neg c53] at hk9 ⊢; try simp only [if_neg (Int.not_lt.mpr c54)] at hk9 ⊢; exact hk9)
      · refine v_iload_n (pc := 18) (dk dt_X12_word 9 rfl) rfl rfl ?_
        refine v_ldc (pc := 19) (dk dt_X12_word 10 rfl) co_X12_180 ⟨by decide, by decide⟩ ?_
        refine v_ldc (pc := 21) (dk dt_X12_word 11 rfl) co_X12_181 ⟨by decide, by decide⟩ ?_
        refine v_csPZ (v := (wIn l2 (-1000000) 1000000)) (As := [iv l2, iv (-1000000), iv 1000000]) (stk := []) (pc := 23) (dk dt_X12_word 12 rfl) ml_X12_172 rfl rfl (Nat.le_of_ble_eq_true rfl) rfl rfl (v59 c53) ?_
        refine v_goto (pc := 26) (tgt := 68) (dk dt_X12_word 13 rfl) (by decide) ?_
        exact v_less2 (ls' := [some (rv l0), some (iv l1), some (iv l2), some (iv l3), none, none, none, none]) ⟨rfl, rfl, rfl, rfl, trivial⟩ (by have hk9 := k69; try simp only [if_pos c53] at hk9 ⊢; exact hk9)
    refine v_istore (pc := 68) (ls' := [some (rv l0), some (iv l1), some (iv l2), some (iv l3), some (iv (if l1 = 0 then ((wIn l2 (-1000000) 1000000) : Int) else (if 7 < l1 then ((if l1 = 15 then ((wIn l2 0 1000) : Int) else (wIn l2 0 7)) : Int) else (wIn l2 0 3)))), none, none, none]) (dk dt_X12_word 34 rfl) (Nat.le_of_ble_eq_true rfl) rfl ?_
    refine v_iload (pc := 70) (dk dt_X12_word 35 rfl) rfl ?_
    obtain ⟨v64, v66, h⟩ := h
    suffices k70 : V E M_X12_word 120 [some (rv l0), some (iv l1), some (iv l2), some (iv l3), none, none, none, none] [iv (if (if l1 = 0 then ((wIn l2 (-1000000) 1000000) : Int) else (if 7 < l1 then ((if l1 = 15 then ((wIn l2 0 1000) : Int) else (wIn l2 0 7)) : Int) else (wIn l2 0 3))) = 0 then (0 : Int) else (if l1 = 1 then ((if (wIn l3 0 1000) = 0 then (0 : Int) else 1) : Int) else (if l1 ≤ 0 then (1 : Int) else (if 7 < l1 then (1 : Int) else (if (wIn l3 1 1000) = 0 then (0 : Int) else 1)))))] G c s Q X by
      refine v_if_eq (pc := 72) (tgt := 119) (dk dt_X12_word 36 rfl) (by decide) (fun c60 => ?_) (fun c60 => ?_)
      · refine v_iconst (pc := 119) (dk dt_X12_word_1 18 rfl) ⟨by decide, by decide⟩ ?_
        exact v_less2 (ls' := [some (rv l0), some (iv l1), some (iv l2), some (iv l3), none, none, none, none]) ⟨rfl, rfl, rfl, rfl, trivial⟩ (by have hk9 := k70; try simp only [if_pos c60] at hk9 ⊢; exact hk9)
      · refine v_iload_n (pc := 75) (dk dt_X12_word 37 rfl) rfl rfl ?_
        refine v_iconst (pc := 76) (dk dt_X12_word 38 rfl) ⟨by decide, by decide⟩ ?_
        refine v_icmp_ne (pc := 77) (tgt := 94) (dk dt_X12_word 39 rfl) (by decide) (fun c61 => ?_) (fun c61 => ?_)
        · refine v_iload_n (pc := 94) (dk dt_X12_word_1 6 rfl) rfl rfl ?_
          refine v_if_le (pc := 95) (tgt := 115) (dk dt_X12_word_1 7 rfl) (by decide) (fun c62 => ?_) (fun c62 => ?_)
          · refine v_iconst (pc := 115) (dk dt_X12_word_1 16 rfl) ⟨by decide, by decide⟩ ?_
            refine v_goto (pc := 116) (tgt := 120) (dk dt_X12_word_1 17 rfl) (by decide) ?_
            exact v_less2 (ls' := [some (rv l0), some (iv l1), some (iv l2), some (iv l3), none, none, none, none]) ⟨rfl, rfl, rfl, rfl, trivial⟩ (by have hk9 := k70; try simp only [if_neg c60] at hk9 ⊢; try simp only [if_neg c61] at hk9 ⊢; try simp only [if_pos c62] at hk9 ⊢; exact hk9)
          · refine v_iload_n (pc := 98) (dk dt_X12_word_1 8 rfl) rfl rfl ?_
            refine v_bipush (pc := 99) (dk dt_X12_word_1 9 rfl) (by decide) ⟨by decide, by decide⟩ ?_
            refine v_icmp_gt (pc := 101) (tgt := 115) (dk dt_X12_word_1 10 rfl) (by decide) (fun c63 => ?_) (fun c63 => ?_)
            · refine v_iconst (pc := 115) (dk dt_X12_word_1 16 rfl) ⟨by decide, by decide⟩ ?_
              refine v_goto (pc := 116) (tgt := 120) (dk dt_X12_word_1 17 rfl) (by decide) ?_
              exact v_less2 (ls' := [some (rv l0), some (iv l1), some (iv l2), some (iv l3), none, none, none, none]) ⟨rfl, rfl, rfl, rfl, trivial⟩ (by have hk9 := k70; try simp only [if_neg c60] at hk9 ⊢; try simp only [if_neg c61] at hk9 ⊢; try simp only [if_neg (Int.not_le.mpr c62)] at hk9 ⊢; try simp only [if_pos c63] at hk9 ⊢; exact hk9)
            · refine v_iload_n (pc := 104) (dk dt_X12_word_1 11 rfl) rfl rfl ?_
              refine v_iconst (pc := 105) (dk dt_X12_word_1 12 rfl) ⟨by decide, by decide⟩ ?_
              refine v_sipush (pc := 106) (dk dt_X12_word_1 13 rfl) (by decide) ⟨by decide, by decide⟩ ?_
              refine v_csPZ (v := (wIn l3 1 1000)) (As := [iv l3, iv 1, iv 1000]) (stk := []) (pc := 109) (dk dt_X12_word_1 14 rfl) ml_X12_172 rfl rfl (Nat.le_of_ble_eq_true rfl) rfl rfl (v64 c60 c61 c62 c63) ?_
              refine v_if_eq (pc := 112) (tgt := 119) (dk dt_X12_word_1 15 rfl) (by decide) (fun c65 => ?_) (fun c65 => ?_)
              · refine v_iconst (pc := 119) (dk dt_X12_word_1 18 rfl) ⟨by decide, by decide⟩ ?_
                exact v_less2 (ls' := [some (rv l0), some (iv l1), some (iv l2), some (iv l3), none, none, none, none]) ⟨rfl, rfl, rfl, rfl, trivial⟩ (by have hk9 := k70; try simp only [if_neg c60] at hk9 ⊢; try simp only [if_neg c61] at hk9 ⊢; try simp only [if_neg (Int.not_le.mpr c62)] at hk9 ⊢; try simp only [if_neg (Int.not_lt.mpr c63)] at hk9 ⊢; try simp only [if_pos c65] at hk9 ⊢; exact hk9)
              · refine v_iconst (pc := 115) (dk dt_X12_word_1 16 rfl) ⟨by decide, by decide⟩ ?_
                refine v_goto (pc := 116) (tgt := 120) (dk dt_X12_word_1 17 rfl) (by decide) ?_
                exact v_less2 (ls' := [some (rv l0), some (iv l1), some (iv l2), some (iv l3), none, none, none, none]) ⟨rfl, rfl, rfl, rfl, trivial⟩ (by have hk9 := k70; try simp only [if_neg c60] at hk9 ⊢; try simp only [if_neg c61] at hk9 ⊢; try simp only [if_neg (Int.not_le.mpr c62)] at hk9 ⊢; try simp only [if_neg (Int.not_lt.mpr c63)] at hk9 ⊢; try simp only [if_neg c65] at hk9 ⊢; exact hk9)
        · refine v_iload_n (pc := 80) (dk dt_X12_word_1 0 rfl) rfl rfl ?_
          refine v_iconst (pc := 81) (dk dt_X12_word_1 1 rfl) ⟨by decide, by decide⟩ ?_
          refine v_sipush (pc := 82) (dk dt_X12_word_1 2 rfl) (by decide) ⟨by decide, by decide⟩ ?_
          refine v_csPZ (v := (wIn l3 0 1000)) (As := [iv l3, iv 0, iv 1000]) (stk := []) (pc := 85) (dk dt_X12_word_1 3 rfl) ml_X12_172 rfl rfl (Nat.le_of_ble_eq_true rfl) rfl rfl (v66 c60 c61) ?_
          refine v_if_eq (pc := 88) (tgt := 119) (dk dt_X12_word_1 4 rfl) (by decide) (fun c67 => ?_) (fun c67 => ?_)
          · refine v_iconst (pc := 119) (dk dt_X12_word_1 18 rfl) ⟨by decide, by decide⟩ ?_
            exact v_less2 (ls' := [some (rv l0), some (iv l1), some (iv l2), some (iv l3), none, none, none, none]) ⟨rfl, rfl, rfl, rfl, trivial⟩ (by have hk9 := k70; try simp only [if_neg c60] at hk9 ⊢; try simp only [if_pos c61] at hk9 ⊢; try simp only [if_pos c67] at hk9 ⊢; exact hk9)
          · refine v_goto (pc := 91) (tgt := 115) (dk dt_X12_word_1 5 rfl) (by decide) ?_
            refine v_iconst (pc := 115) (dk dt_X12_word_1 16 rfl) ⟨by decide, by decide⟩ ?_
            refine v_goto (pc := 116) (tgt := 120) (dk dt_X12_word_1 17 rfl) (by decide) ?_
            exact v_less2 (ls' := [some (rv l0), some (iv l1), some (iv l2), some (iv l3), none, none, none, none]) ⟨rfl, rfl, rfl, rfl, trivial⟩ (by have hk9 := k70; try simp only [if_neg c60] at hk9 ⊢; try simp only [if_pos c61] at hk9 ⊢; try simp only [if_neg c67] at hk9 ⊢; exact hk9)
    refine v_istore (pc := 120) (ls' := [some (rv l0), some (iv l1), some (iv l2), some (iv l3), some (iv (if (if l1 = 0 then ((wIn l2 (-1000000) 1000000) : Int) else (if 7 < l1 then ((if l1 = 15 then ((wIn l2 0 1000) : Int) else (wIn l2 0 7)) : Int) else (wIn l2 0 3))) = 0 then (0 : Int) else (if l1 = 1 then ((if (wIn l3 0 1000) = 0 then (0 : Int) else 1) : Int) else (if l1 ≤ 0 then (1 : Int) else (if 7 < l1 then (1 : Int) else (if (wIn l3 1 1000) = 0 then (0 : Int) else 1)))))), none, none, none]) (dk dt_X12_word_1 19 rfl) (Nat.le_of_ble_eq_true rfl) rfl ?_
    rw [dJ2] at h
    exact h
set_option maxRecDepth 20000 in
theorem i_X12_word {E : EE} {l0 l1 l2 l3 : Int} {G : Gt} {c s : Nat} {Q X : Int → Gt → Prop} (h : (OkP E M_X12_in [iv l1, iv 0, iv 15] G (wIn l1 0 15) ∧ ∀ J2 : Int → Prop, (∀ (x3 : Int), ((8 ≤ l1 → OkP E M_X12_in [iv l1, iv 10, iv 14] G (wIn l1 10 14)) ∧ ∀ J7 : Int → Gt → Nat → Nat → Prop, (∀ (x8 : Int) (G9 : Gt) (c10 s11 : Nat), (gcl G9 l0 = 13 ∧ ∀ G13 : Gt, G13 = (sfd G9 12 0 l0 x8) → gcl G13 l0 = 13 ∧ (((gfd G13 12 0 l0) ≤ 0 → (gcl G13 l0 = 13 ∧ gcl G13 (gfd G13 12 22 l0) = 15 ∧ 0 < gln G13 (gfd G13 12 22 l0) ∧ i32 (6 * (gel G13 (gfd G13 12 22 l0) 0)) ∧ gcl G13 l0 = 13 ∧ gcl G13 (gfd G13 12 21 l0) = 15 ∧ 0 ≤ (6 * (gel G13 (gfd G13 12 22 l0) 0)) ∧ (6 * (gel G13 (gfd G13 12 22 l0) 0)) < gln G13 (gfd G13 12 21 l0) ∧ ∀ G24 : Gt, G24 = (sel G13 (gfd G13 12 21 l0) (6 * (gel G13 (gfd G13 12 22 l0) 0)) l1) → gcl G24 l0 = 13 ∧ i32 ((6 * (gel G13 (gfd G13 12 22 l0) 0)) + 1) ∧ gcl G24 (gfd G24 12 21 l0) = 15 ∧ 0 ≤ ((6 * (gel G13 (gfd G13 12 22 l0) 0)) + 1) ∧ ((6 * (gel G13 (gfd G13 12 22 l0) 0)) + 1) < gln G24 (gfd G24 12 21 l0) ∧ ∀ G30 : Gt, G30 = (sel G24 (gfd G24 12 21 l0) ((6 * (gel G13 (gfd G13 12 22 l0) 0)) + 1) l2) → gcl G30 l0 = 13 ∧ i32 ((6 * (gel G13 (gfd G13 12 22 l0) 0)) + 2) ∧ gcl G30 (gfd G30 12 21 l0) = 15 ∧ 0 ≤ ((6 * (gel G13 (gfd G13 12 22 l0) 0)) + 2) ∧ ((6 * (gel G13 (gfd G13 12 22 l0) 0)) + 2) < gln G30 (gfd G30 12 21 l0) ∧ ∀ G36 : Gt, G36 = (sel G30 (gfd G30 12 21 l0) ((6 * (gel G13 (gfd G13 12 22 l0) 0)) + 2) l3) → V E M_X12_word 240 [some (rv l0), some (iv l1), some (iv l2), none, none, none, some (iv (6 * (gel G13 (gfd G13 12 22 l0) 0))), some (iv 0)] [] G36 c10 s11 Q X)) ∧ (0 < (gfd G13 12 0 l0) → Q 0 G13))) → J7 x8 G9 c10 s11) → ((x3 ≠ 0 → (gcl G l0 = 13 ∧ gcl G (gfd G 12 22 l0) = 15 ∧ 0 < gln G (gfd G 12 22 l0) ∧ ∀ J41 : Gt → Nat → Nat → Prop, (∀ (G42 : Gt) (c43 s44 : Nat), J7 2 G42 c43 s44 → J41 G42 c43 s44) → (((gel G (gfd G 12 22 l0) 0) = 10 → J41 G c s) ∧ ((gel G (gfd G 12 22 l0) 0) ≠ 10 → (gcl G l0 = 13 ∧ Call E M_X12_left [rv l0, iv 0] G c s X (fun r47 G48 c49 s50 => (((if 8 ≤ l1 then ((if (wIn l1 10 14) = 0 then (1 : Int) else 2) : Int) else 0) ≤ r47 → J7 0 G48 c49 s50) ∧ (r47 < (if 8 ≤ l1 then ((if (wIn l1 10 14) = 0 then (1 : Int) else 2) : Int) else 0) → J41 G48 c49 s50)))))))) ∧ (x3 = 0 → J7 1 G c s))) → J2 x3) → (((wIn l1 0 15) = 0 → J2 (wIn l1 0 15)) ∧ ((wIn l1 0 15) ≠ 0 → ((l1 ≠ 0 → 7 < l1 → l1 ≠ 15 → OkP E M_X12_in [iv l2, iv 0, iv 7] G (wIn l2 0 7)) ∧ (l1 ≠ 0 → 7 < l1 → l1 = 15 → OkP E M_X12_in [iv l2, iv 0, iv 1000] G (wIn l2 0 1000)) ∧ (l1 ≠ 0 → l1 ≤ 7 → OkP E M_X12_in [iv l2, iv 0, iv 3] G (wIn l2 0 3)) ∧ (l1 = 0 → OkP E M_X12_in [iv l2, iv (-1000000), iv 1000000] G (wIn l2 (-1000000) 1000000)) ∧ ((if l1 = 0 then ((wIn l2 (-1000000) 1000000) : Int) else (if 7 < l1 then ((if l1 = 15 then ((wIn l2 0 1000) : Int) else (wIn l2 0 7)) : Int) else (wIn l2 0 3))) ≠ 0 → l1 ≠ 1 → 0 < l1 → l1 ≤ 7 → OkP E M_X12_in [iv l3, iv 1, iv 1000] G (wIn l3 1 1000)) ∧ ((if l1 = 0 then ((wIn l2 (-1000000) 1000000) : Int) else (if 7 < l1 then ((if l1 = 15 then ((wIn l2 0 1000) : Int) else (wIn l2 0 7)) : Int) else (wIn l2 0 3))) ≠ 0 → l1 = 1 → OkP E M_X12_in [iv l3, iv 0, iv 1000] G (wIn l3 0 1000)) ∧ J2 (if (if l1 = 0 then ((wIn l2 (-1000000) 1000000) : Int) else (if 7 < l1 then ((if l1 = 15 then ((wIn l2 0 1000) : Int) else (wIn l2 0 7)) : Int) else (wIn l2 0 3))) = 0 then (0 : Int) else (if l1 = 1 then ((if (wIn l3 0 1000) = 0 then (0 : Int) else 1) : Int) else (if l1 ≤ 0 then (1 : Int) else (if 7 < l1 then (1 : Int) else (if (wIn l3 1 1000) = 0 then (0 : Int) else 1)))))))))) : Ok E M_X12_word [rv l0, iv l1, iv l2, iv l3] G c s Q X := Ok.intro (k := 4) rfl rfl (Nat.le_of_ble_eq_true rfl) rfl (b_X12_word_0 h)
set_option maxRecDepth 20000 in
theorem b_X12_word_240 {E : EE} {l0 l1 l2 l6 l7 : Int} {G : Gt} {c s : Nat} {Q X : Int → Gt → Prop} (h : ((3 ≤ l7 → (gcl G l0 = 13 ∧ gcl G (gfd G 12 22 l0) = 15 ∧ 0 < gln G (gfd G 12 22 l0) ∧ i32 ((gel G (gfd G 12 22 l0) 0) + 1) ∧ gcl G (gfd G 12 22 l0) = 15 ∧ 0 < gln G (gfd G 12 22 l0) ∧ ∀ G8 : Gt, G8 = (sel G (gfd G 12 22 l0) 0 ((gel G (gfd G 12 22 l0) 0) + 1)) → gcl G8 l0 = 13 ∧ gcl G8 (gfd G8 12 22 l0) = 15 ∧ 0 < gln G8 (gfd G8 12 22 l0) ∧ Q (gel G8 (gfd G8 12 22 l0) 0) G8)) ∧ (l7 < 3 → (gcl G l0 = 13 ∧ i32 (l6 + 3) ∧ i32 ((l6 + 3) + l7) ∧ OkP E M_X12_in [iv l1, iv 1, iv 7] G (wIn l1 1 7) ∧ ((wIn l1 1 7) ≠ 0 → gcl G l0 = 13) ∧ ((wIn l1 1 7) ≠ 0 → i32 (3 * l2)) ∧ ((wIn l1 1 7) ≠ 0 → i32 ((3 * l2) + l7)) ∧ ((wIn l1 1 7) ≠ 0 → gcl G (gfd G 12 20 l0) = 15) ∧ ((wIn l1 1 7) ≠ 0 → 0 ≤ ((3 * l2) + l7)) ∧ ((wIn l1 1 7) ≠ 0 → ((3 * l2) + l7) < gln G (gfd G 12 20 l0)) ∧ gcl G (gfd G 12 21 l0) = 15 ∧ 0 ≤ ((l6 + 3) + l7) ∧ ((l6 + 3) + l7) < gln G (gfd G 12 21 l0) ∧ ∀ G26 : Gt, G26 = (sel G (gfd G 12 21 l0) ((l6 + 3) + l7) (if (wIn l1 1 7) = 0 then (0 : Int) else (gel G (gfd G 12 20 l0) ((3 * l2) + l7)))) → i32 (l7 + 1) ∧ V E M_X12_word 240 [some (rv l0), some (iv l1), some (iv l2), none, none, none, some (iv l6), some (iv (l7 + 1))] [] G26 c s Q X)))) : V E M_X12_word 240 [some (rv l0), some (iv l1), some (iv l2), none, none, none, some (iv l6), some (iv l7)] [] G c s Q X := by
  refine v_iload (pc := 240) (dk dt_X12_word_3 7 rfl) rfl ?_
  refine v_iconst (pc := 242) (dk dt_X12_word_3 8 rfl) ⟨by decide, by decide⟩ ?_
  refine v_icmp_ge (pc := 243) (tgt := 289) (dk dt_X12_word_3 9 rfl) (by decide) (fun c1 => ?_) (fun c1 => ?_)
  · replace h := h.1 c1
    refine v_aload_n (pc := 289) (dk dt_X12_word_3 35 rfl) rfl rfl ?_
    obtain ⟨v2, h⟩ := h
    refine v_getR (pc := 290) (dk dt_X12_word_3 36 rfl) fl_X12_60 v2 (fun _ => ?_)
    refine v_iconst (pc := 293) (dk dt_X12_word_3 37 rfl) ⟨by decide, by decide⟩ ?_
    refine v_dup2 (pc := 294) (dk dt_X12_word_3 38 rfl) (by intro h9; cases h9) (by intro h9; cases h9) ?_
    obtain ⟨v3, h⟩ := h
    obtain ⟨v4, h⟩ := h
    refine v_iald (pc := 295) (dk dt_X12_word_3 39 rfl) (Or.inl v3) (by decide) v4 (fun _ => ?_)
    refine v_iconst (pc := 296) (dk dt_X12_word_4 0 rfl) ⟨by decide, by decide⟩ ?_
    obtain ⟨v5, h⟩ := h
    refine v_iadd (pc := 297) (dk dt_X12_word_4 1 rfl) v5 ?_
    obtain ⟨v6, h⟩ := h
    obtain ⟨v7, h⟩ := h
    refine v_iast (pc := 298) (dk dt_X12_word_4 2 rfl) v6 (by decide) v7 ?_
    generalize hG8 : (sel G (gfd G 12 22 l0) 0 ((gel G (gfd G 12 22 l0) 0) + 1)) = G8
    replace h := h G8 hG8.symm
    refine v_aload_n (pc := 299) (dk dt_X12_word_4 3 rfl) rfl rfl ?_
    obtain ⟨v9, h⟩ := h
    refine v_getR (pc := 300) (dk dt_X12_word_4 4 rfl) fl_X12_60 v9 (fun _ => ?_)
    refine v_iconst (pc := 303) (dk dt_X12_word_4 5 rfl) ⟨by decide, by decide⟩ ?_
    obtain ⟨v10, h⟩ := h
    obtain ⟨v11, h⟩ := h
    refine v_iald (pc := 304) (dk dt_X12_word_4 6 rfl) (Or.inl v10) (by decide) v11 (fun _ => ?_)
    exact v_iret (pc := 305) (dk dt_X12_word_4 7 rfl) rfl h
  · replace h := h.2 c1
    refine v_aload_n (pc := 246) (dk dt_X12_word_3 10 rfl) rfl rfl ?_
    obtain ⟨v12, h⟩ := h
    refine v_getR (pc := 247) (dk dt_X12_word_3 11 rfl) fl_X12_57 v12 (fun _ => ?_)
    refine v_iload (pc := 250) (dk dt_X12_word_3 12 rfl) rfl ?_
    refine v_iconst (pc := 252) (dk dt_X12_word_3 13 rfl) ⟨by decide, by decide⟩ ?_
    obtain ⟨v13, h⟩ := h
    refine v_iadd (pc := 253) (dk dt_X12_word_3 14 rfl) v13 ?_
    refine v_iload (pc := 254) (dk dt_X12_word_3 15 rfl) rfl ?_
    obtain ⟨v14, h⟩ := h
    refine v_iadd (pc := 256) (dk dt_X12_word_3 16 rfl) v14 ?_
    refine v_iload_n (pc := 257) (dk dt_X12_word_3 17 rfl) rfl rfl ?_
    refine v_iconst (pc := 258) (dk dt_X12_word_3 18 rfl) ⟨by decide, by decide⟩ ?_
    refine v_bipush (pc := 259) (dk dt_X12_word_3 19 rfl) (by decide) ⟨by decide, by decide⟩ ?_
    obtain ⟨v15, h⟩ := h
    refine v_csPZ (v := (wIn l1 1 7)) (As := [iv l1, iv 1, iv 7]) (stk := [iv ((l6 + 3) + l7), rv (gfd G 12 21 l0)]) (pc := 261) (dk dt_X12_word_3 20 rfl) ml_X12_172 rfl rfl (Nat.le_of_ble_eq_true rfl) rfl rfl v15 ?_
    obtain ⟨v17, v18, v19, v20, v21, v22, h⟩ := h
    suffices k28 : V E M_X12_word 282 [some (rv l0), some (iv l1), some (iv l2), none, none, none, some (iv l6), some (iv l7)] [iv (if (wIn l1 1 7) = 0 then (0 : Int) else (gel G (gfd G 12 20 l0) ((3 * l2) + l7))), iv ((l6 + 3) + l7), rv (gfd G 12 21 l0)] G c s Q X by
      refine v_if_eq (pc := 264) (tgt := 281) (dk dt_X12_word_3 21 rfl) (by decide) (fun c16 => ?_) (fun c16 => ?_)
      · refine v_iconst (pc := 281) (dk dt_X12_word_3 31 rfl) ⟨by decide, by decide⟩ ?_
        exact v_less2 (ls' := [some (rv l0), some (iv l1), some (iv l2), none, none, none, some (iv l6), some (iv l7)]) ⟨rfl, rfl, rfl, rfl, rfl, trivial⟩ (by have hk9 := k28; try simp only [if_pos c16] at hk9 ⊢; exact hk9)
      · refine v_aload_n (pc := 267) (dk dt_X12_word_3 22 rfl) rfl rfl ?_
        refine v_getR (pc := 268) (dk dt_X12_word_3 23 rfl) fl_X12_54 (v17 c16) (fun _ => ?_)
        refine v_iconst (pc := 271) (dk dt_X12_word_3 24 rfl) ⟨by decide, by decide⟩ ?_
        refine v_iload_n (pc := 272) (dk dt_X12_word_3 25 rfl) rfl rfl ?_
        refine v_imul (pc := 273) (dk dt_X12_word_3 26 rfl) (v18 c16) ?_
        refine v_iload (pc := 274) (dk dt_X12_word_3 27 rfl) rfl ?_
        refine v_iadd (pc := 276) (dk dt_X12_word_3 28 rfl) (v19 c16) ?_
        refine v_iald (pc := 277) (dk dt_X12_word_3 29 rfl) (Or.inl (v20 c16)) (v21 c16) (v22 c16) (fun _ => ?_)
        refine v_goto (pc := 278) (tgt := 282) (dk dt_X12_word_3 30 rfl) (by decide) ?_
        exact v_less2 (ls' := [some (rv l0), some (iv l1), some (iv l2), none, none, none, some (iv l6), some (iv l7)]) ⟨rfl, rfl, rfl, rfl, rfl, trivial⟩ (by have hk9 := k28; try simp only [if_neg c16] at hk9 ⊢; exact hk9)
    obtain ⟨v23, h⟩ := h
    obtain ⟨v24, h⟩ := h
    obtain ⟨v25, h⟩ := h
    refine v_iast (pc := 282) (dk dt_X12_word_3 32 rfl) v23 v24 v25 ?_
    generalize hG26 : (sel G (gfd G 12 21 l0) ((l6 + 3) + l7) (if (wIn l1 1 7) = 0 then (0 : Int) else (gel G (gfd G 12 20 l0) ((3 * l2) + l7)))) = G26
    replace h := h G26 hG26.symm
    obtain ⟨v27, h⟩ := h
    refine v_iinc (pc := 283) (ls' := [some (rv l0), some (iv l1), some (iv l2), none, none, none, some (iv l6), some (iv (l7 + 1))]) (dk dt_X12_word_3 33 rfl) (Nat.le_of_ble_eq_true rfl) rfl v27 rfl ?_
    refine v_goto (pc := 286) (tgt := 240) (dk dt_X12_word_3 34 rfl) (by decide) ?_
    exact h
set_option maxRecDepth 20000 in
theorem b_X12_clear_0 {E : EE} {l0 : Int} {G : Gt} {c s : Nat} {Q X : Int → Gt → Prop} (h : (gcl G l0 = 13 ∧ ∀ G2 : Gt, G2 = (sfd G 12 0 l0 0) → gcl G2 l0 = 13 ∧ gcl G2 (gfd G2 12 22 l0) = 15 ∧ 0 < gln G2 (gfd G2 12 22 l0) ∧ gcl G2 l0 = 13 ∧ gcl G2 (gfd G2 12 22 l0) = 15 ∧ 0 < gln G2 (gfd G2 12 22 l0) ∧ ∀ G9 : Gt, G9 = (sel G2 (gfd G2 12 22 l0) 0 0) → Q (gel G2 (gfd G2 12 22 l0) 0) G9)) : V E M_X12_clear 0 [some (rv l0), none] [] G c s Q X := by
  refine v_aload_n (pc := 0) (dk dt_X12_clear 0 rfl) rfl rfl ?_
  refine v_iconst (pc := 1) (dk dt_X12_clear 1 rfl) ⟨by decide, by decide⟩ ?_
  obtain ⟨v1, h⟩ := h
  refine v_putI (pc := 2) (dk dt_X12_clear 2 rfl) fl_X12_127 (Or.inl rfl) v1 ?_
  generalize hG2 : (sfd G 12 0 l0 0) = G2
  replace h := h G2 hG2.symm
  refine v_aload_n (pc := 5) (dk dt_X12_clear 3 rfl) rfl rfl ?_
  obtain ⟨v3, h⟩ := h
  refine v_getR (pc := 6) (dk dt_X12_clear 4 rfl) fl_X12_60 v3 (fun _ => ?_)
  refine v_iconst (pc := 9) (dk dt_X12_clear 5 rfl) ⟨by decide, by decide⟩ ?_
  obtain ⟨v4, h⟩ := h
  obtain ⟨v5, h⟩ := h
  refine v_iald (pc := 10) (dk dt_X12_clear 6 rfl) (Or.inl v4) (by decide) v5 (fun _ => ?_)
  refine v_istore_n (pc := 11) (ls' := [some (rv l0), some (iv (gel G2 (gfd G2 12 22 l0) 0))]) (dk dt_X12_clear 7 rfl) rfl (Nat.le_of_ble_eq_true rfl) rfl ?_
  refine v_aload_n (pc := 12) (dk dt_X12_clear 8 rfl) rfl rfl ?_
  obtain ⟨v6, h⟩ := h
  refine v_getR (pc := 13) (dk dt_X12_clear 9 rfl) fl_X12_60 v6 (fun _ => ?_)
  refine v_iconst (pc := 16) (dk dt_X12_clear 10 rfl) ⟨by decide, by decide⟩ ?_
  refine v_iconst (pc := 17) (dk dt_X12_clear 11 rfl) ⟨by decide, by decide⟩ ?_
  obtain ⟨v7, h⟩ := h
  obtain ⟨v8, h⟩ := h
  refine v_iast (pc := 18) (dk dt_X12_clear 12 rfl) v7 (by decide) v8 ?_
  generalize hG9 : (sel G2 (gfd G2 12 22 l0) 0 0) = G9
  replace h := h G9 hG9.symm
  refine v_iload_n (pc := 19) (dk dt_X12_clear 13 rfl) rfl rfl ?_
  exact v_iret (pc := 20) (dk dt_X12_clear 14 rfl) rfl h
set_option maxRecDepth 20000 in
theorem i_X12_clear {E : EE} {l0 : Int} {G : Gt} {c s : Nat} {Q X : Int → Gt → Prop} (h : (gcl G l0 = 13 ∧ ∀ G2 : Gt, G2 = (sfd G 12 0 l0 0) → gcl G2 l0 = 13 ∧ gcl G2 (gfd G2 12 22 l0) = 15 ∧ 0 < gln G2 (gfd G2 12 22 l0) ∧ gcl G2 l0 = 13 ∧ gcl G2 (gfd G2 12 22 l0) = 15 ∧ 0 < gln G2 (gfd G2 12 22 l0) ∧ ∀ G9 : Gt, G9 = (sel G2 (gfd G2 12 22 l0) 0 0) → Q (gel G2 (gfd G2 12 22 l0) 0) G9)) : Ok E M_X12_clear [rv l0] G c s Q X := Ok.intro (k := 1) rfl rfl (Nat.le_of_ble_eq_true rfl) rfl (b_X12_clear_0 h)
set_option maxRecDepth 20000 in
theorem b_X12_bounded_0 {E : EE} {l0 : Int} {G : Gt} {c s : Nat} {Q X : Int → Gt → Prop} (h : Q (if l0 ≤ 100000000000000 then ((if (-100000000000000) ≤ l0 then (l0 : Int) else (-100000000000000)) : Int) else 100000000000000) G) : V E M_X12_bounded 0 [some (jv l0), none] [] G c s Q X := by
  refine v_lload_n (pc := 0) (dk dt_X12_bounded 0 rfl) rfl rfl ?_
  refine v_ldc2 (pc := 1) (dk dt_X12_bounded 1 rfl) co_X12_233 ⟨by decide, by decide⟩ ?_
  suffices k3 : V E M_X12_bounded 29 [none, none] [jv (if l0 ≤ 100000000000000 then ((if (-100000000000000) ≤ l0 then (l0 : Int) else (-100000000000000)) : Int) else 100000000000000)] G c s Q X by
    refine v_lcmp_le (pc := 4) (tgt := 14) (dk dt_X12_bounded 2 rfl) (dk dt_X12_bounded 3 rfl) (by decide) (fun c1 => ?_) (fun c1 => ?_)
    · refine v_lload_n (pc := 14) (dk dt_X12_bounded 6 rfl) rfl rfl ?_
      refine v_ldc2 (pc := 15) (dk dt_X12_bounded 7 rfl) co_X12_235 ⟨by decide, by decide⟩ ?_
      refine v_lcmp_ge (pc := 18) (tgt := 28) (dk dt_X12_bounded 8 rfl) (dk dt_X12_bounded 9 rfl) (by decide) (fun c2 => ?_) (fun c2 => ?_)
      · refine v_lload_n (pc := 28) (dk dt_X12_bounded 12 rfl) rfl rfl ?_
        exact v_less2 (ls' := [none, none]) trivial (by have hk9 := k3; try simp only [if_pos c1] at hk9 ⊢; try simp only [if_pos c2] at hk9 ⊢; exact hk9)
      · refine v_ldc2 (pc := 22) (dk dt_X12_bounded 10 rfl) co_X12_235 ⟨by decide, by decide⟩ ?_
        refine v_goto (pc := 25) (tgt := 29) (dk dt_X12_bounded 11 rfl) (by decide) ?_
        exact v_less2 (ls' := [none, none]) trivial (by have hk9 := k3; try simp only [if_pos c1] at hk9 ⊢; try simp only [if_neg (Int.not_le.mpr c2)] at hk9 ⊢; exact hk9)
    · refine v_ldc2 (pc := 8) (dk dt_X12_bounded 4 rfl) co_X12_233 ⟨by decide, by decide⟩ ?_
      refine v_goto (pc := 11) (tgt := 29) (dk dt_X12_bounded 5 rfl) (by decide) ?_
      exact v_less2 (ls' := [none, none]) trivial (by have hk9 := k3; try simp only [if_neg (Int.not_le.mpr c1)] at hk9 ⊢; exact hk9)
  exact v_lret (pc := 29) (dk dt_X12_bounded 13 rfl) rfl h
set_option maxRecDepth 20000 in
theorem i_X12_bounded {E : EE} {l0 : Int} {G : Gt} {c s : Nat} {Q X : Int → Gt → Prop} (h : Q (if l0 ≤ 100000000000000 then ((if (-100000000000000) ≤ l0 then (l0 : Int) else (-100000000000000)) : Int) else 100000000000000) G) : Ok E M_X12_bounded [jv l0] G c s Q X := Ok.intro (k := 0) rfl rfl (Nat.le_of_ble_eq_true rfl) rfl (b_X12_bounded_0 h)
set_option maxRecDepth 20000 in
theorem b_X12_nextSeries_0 {E : EE} {l0 l1 l2 : Int} {G : Gt} {c s : Nat} {Q X : Int → Gt → Prop} (h : V E M_X12_nextSeries 5 [some (rv l0), some (iv l1), some (iv l2), some (iv (-1)), some (iv 0), none] [] G c s Q X) : V E M_X12_nextSeries 0 [some (rv l0), some (iv l1), some (iv l2), none, none, none] [] G c s Q X := by
  refine v_iconst (pc := 0) (dk dt_X12_nextSeries 0 rfl) ⟨by decide, by decide⟩ ?_
  refine v_istore_n (pc := 1) (ls' := [some (rv l0), some (iv l1), some (iv l2), some (iv (-1)), none, none]) (dk dt_X12_nextSeries 1 rfl) rfl (Nat.le_of_ble_eq_true rfl) rfl ?_
  refine v_iconst (pc := 2) (dk dt_X12_nextSeries 2 rfl) ⟨by decide, by decide⟩ ?_
  refine v_istore (pc := 3) (ls' := [some (rv l0), some (iv l1), some (iv l2), some (iv (-1)), some (iv 0), none]) (dk dt_X12_nextSeries 3 rfl) (Nat.le_of_ble_eq_true rfl) rfl ?_
  exact h
set_option maxRecDepth 20000 in
theorem i_X12_nextSeries {E : EE} {l0 l1 l2 : Int} {G : Gt} {c s : Nat} {Q X : Int → Gt → Prop} (h : V E M_X12_nextSeries 5 [some (rv l0), some (iv l1), some (iv l2), some (iv (-1)), some (iv 0), none] [] G c s Q X) : Ok E M_X12_nextSeries [rv l0, iv l1, iv l2] G c s Q X := Ok.intro (k := 3) rfl rfl (Nat.le_of_ble_eq_true rfl) rfl (b_X12_nextSeries_0 h)
set_option maxRecDepth 20000 in
theorem b_X12_nextSeries_5 {E : EE} {l0 l1 l2 l3 l4 : Int} {G : Gt} {c s : Nat} {Q X : Int → Gt → Prop} (h : (gcl G l0 = 13 ∧ (((gfd G 12 6 l0) ≤ l4 → Q l3 G) ∧ (l4 < (gfd G 12 6 l0) → (gcl G l0 = 13 ∧ OkP E M_X12_codeOfSeries [rv l0, iv l4] G (mCode G l0 l4) ∧ (l2 < (mCode G l0 l4) → gcl G l0 = 13) ∧ (l2 < (mCode G l0 l4) → i32 (l1 + 3)) ∧ (l2 < (mCode G l0 l4) → gcl G (gfd G 12 21 l0) = 15) ∧ (l2 < (mCode G l0 l4) → 0 ≤ (l1 + 3)) ∧ (l2 < (mCode G l0 l4) → (l1 + 3) < gln G (gfd G 12 21 l0)) ∧ (l2 < (mCode G l0 l4) → gcl G l0 = 13) ∧ (l2 < (mCode G l0 l4) → i32 (l1 + 4)) ∧ (l2 < (mCode G l0 l4) → gcl G (gfd G 12 21 l0) = 15) ∧ (l2 < (mCode G l0 l4) → 0 ≤ (l1 + 4)) ∧ (l2 < (mCode G l0 l4) → (l1 + 4) < gln G (gfd G 12 21 l0)) ∧ (l2 < (mCode G l0 l4) → gcl G l0 = 13) ∧ (l2 < (mCode G l0 l4) → i32 (l1 + 5)) ∧ (l2 < (mCode G l0 l4) → gcl G (gfd G 12 21 l0) = 15) ∧ (l2 < (mCode G l0 l4) → 0 ≤ (l1 + 5)) ∧ (l2 < (mCode G l0 l4) → (l1 + 5) < gln G (gfd G 12 21 l0)) ∧ (l2 < (mCode G l0 l4) → gcl G l0 = 13) ∧ (l2 < (mCode G l0 l4) → OkP E M_X12_codeOfSeries [rv l0, iv l4] G (mCode G l0 l4)) ∧ (l2 < (mCode G l0 l4) → OkP E M_X12_isIn [iv (gel G (gfd G 12 21 l0) (l1 + 3)), iv (gel G (gfd G 12 21 l0) (l1 + 4)), iv (gel G (gfd G 12 21 l0) (l1 + 5)), iv (mCode G l0 l4)] G (mIn (gel G (gfd G 12 21 l0) (l1 + 3)) (gel G (gfd G 12 21 l0) (l1 + 4)) (gel G (gfd G 12 21 l0) (l1 + 5)) (mCode G l0 l4))) ∧ ((if (mCode G l0 l4) ≤ l2 then (0 : Int) else (if (mIn (gel G (gfd G 12 21 l0) (l1 + 3)) (gel G (gfd G 12 21 l0) (l1 + 4)) (gel G (gfd G 12 21 l0) (l1 + 5)) (mCode G l0 l4)) = 0 then (0 : Int) else 1)) ≠ 0 → l3 ≠ (-1) → gcl G l0 = 13) ∧ ((if (mCode G l0 l4) ≤ l2 then (0 : Int) else (if (mIn (gel G (gfd G 12 21 l0) (l1 + 3)) (gel G (gfd G 12 21 l0) (l1 + 4)) (gel G (gfd G 12 21 l0) (l1 + 5)) (mCode G l0 l4)) = 0 then (0 : Int) else 1)) ≠ 0 → l3 ≠ (-1) → OkP E M_X12_codeOfSeries [rv l0, iv l4] G (mCode G l0 l4)) ∧ ((if (mCode G l0 l4) ≤ l2 then (0 : Int) else (if (mIn (gel G (gfd G 12 21 l0) (l1 + 3)) (gel G (gfd G 12 21 l0) (l1 + 4)) (gel G (gfd G 12 21 l0) (l1 + 5)) (mCode G l0 l4)) = 0 then (0 : Int) else 1)) ≠ 0 → l3 ≠ (-1) → gcl G l0 = 13) ∧ ((if (mCode G l0 l4) ≤ l2 then (0 : Int) else (if (mIn (gel G (gfd G 12 21 l0) (l1 + 3)) (gel G (gfd G 12 21 l0) (l1 + 4)) (gel G (gfd G 12 21 l0) (l1 + 5)) (mCode G l0 l4)) = 0 then (0 : Int) else 1)) ≠ 0 → l3 ≠ (-1) → OkP E M_X12_codeOfSeries [rv l0, iv l3] G (mCode G l0 l3)) ∧ i32 (l4 + 1) ∧ V E M_X12_nextSeries 5 [some (rv l0), some (iv l1), some (iv l2), some (iv (if (if (mCode G l0 l4) ≤ l2 then (0 : Int) else (if (mIn (gel G (gfd G 12 21 l0) (l1 + 3)) (gel G (gfd G 12 21 l0) (l1 + 4)) (gel G (gfd G 12 21 l0) (l1 + 5)) (mCode G l0 l4)) = 0 then (0 : Int) else 1)) = 0 then (l3 : Int) else (if l3 = (-1) then (l4 : Int) else (if (mCode G l0 l3) ≤ (mCode G l0 l4) then (l3 : Int) else l4)))), some (iv (l4 + 1)), none] [] G c s Q X))))) : V E M_X12_nextSeries 5 [some (rv l0), some (iv l1), some (iv l2), some (iv l3), some (iv l4), none] [] G c s Q X := by
  refine v_iload (pc := 5) (dk dt_X12_nextSeries 4 rfl) rfl ?_
  refine v_aload_n (pc := 7) (dk dt_X12_nextSeries 5 rfl) rfl rfl ?_
  obtain ⟨v1, h⟩ := h
  refine v_getI (pc := 8) (dk dt_X12_nextSeries 6 rfl) fl_X12_142 v1 (fun _ => ?_)
  refine v_icmp_ge (pc := 11) (tgt := 104) (dk dt_X12_nextSeries 7 rfl) (by decide) (fun c2 => ?_) (fun c2 => ?_)
  · replace h := h.1 c2
    refine v_iload_n (pc := 104) (dk dt_X12_nextSeries_1 18 rfl) rfl rfl ?_
    exact v_iret (pc := 105) (dk dt_X12_nextSeries_1 19 rfl) rfl h
  · replace h := h.2 c2
    refine v_aload_n (pc := 14) (dk dt_X12_nextSeries 8 rfl) rfl rfl ?_
    refine v_iload (pc := 15) (dk dt_X12_nextSeries 9 rfl) rfl ?_
    obtain ⟨v3, h⟩ := h
    obtain ⟨v4, h⟩ := h
    refine v_cvPI (c := 12) (v := (mCode G l0 l4)) (As := [iv l4]) (stk := []) (pc := 17) (dk dt_X12_nextSeries 10 rfl) ml_X12_134 rfl rfl (Nat.le_of_ble_eq_true rfl) rfl ⟨by decide, rfl⟩ v3 rfl v4 ?_
    refine v_iload_n (pc := 20) (dk dt_X12_nextSeries 11 rfl) rfl rfl ?_
    obtain ⟨v6, v7, v8, v9, v10, v11, v12, v13, v14, v15, v16, v17, v18, v19, v20, v21, v22, v23, h⟩ := h
    suffices k33 : V E M_X12_nextSeries 65 [some (rv l0), some (iv l1), some (iv l2), some (iv l3), some (iv l4), none] [iv (if (mCode G l0 l4) ≤ l2 then (0 : Int) else (if (mIn (gel G (gfd G 12 21 l0) (l1 + 3)) (gel G (gfd G 12 21 l0) (l1 + 4)) (gel G (gfd G 12 21 l0) (l1 + 5)) (mCode G l0 l4)) = 0 then (0 : Int) else 1))] G c s Q X by
      refine v_icmp_le (pc := 21) (tgt := 64) (dk dt_X12_nextSeries 12 rfl) (by decide) (fun c5 => ?_) (fun c5 => ?_)
      · refine v_iconst (pc := 64) (dk dt_X12_nextSeries 38 rfl) ⟨by decide, by decide⟩ ?_
        exact v_less2 (ls' := [some (rv l0), some (iv l1), some (iv l2), some (iv l3), some (iv l4), none]) ⟨rfl, rfl, rfl, rfl, rfl, trivial⟩ (by have hk9 := k33; try simp only [if_pos c5] at hk9 ⊢; exact hk9)
      · refine v_aload_n (pc := 24) (dk dt_X12_nextSeries 13 rfl) rfl rfl ?_
        refine v_getR (pc := 25) (dk dt_X12_nextSeries 14 rfl) fl_X12_57 (v6 c5) (fun _ => ?_)
        refine v_iload_n (pc := 28) (dk dt_X12_nextSeries 15 rfl) rfl rfl ?_
        refine v_iconst (pc := 29) (dk dt_X12_nextSeries 16 rfl) ⟨by decide, by decide⟩ ?_
        refine v_iadd (pc := 30) (dk dt_X12_nextSeries 17 rfl) (v7 c5) ?_
        refine v_iald (pc := 31) (dk dt_X12_nextSeries 18 rfl) (Or.inl (v8 c5)) (v9 c5) (v10 c5) (fun _ => ?_)
        refine v_aload_n (pc := 32) (dk dt_X12_nextSeries 19 rfl) rfl rfl ?_
        refine v_getR (pc := 33) (dk dt_X12_nextSeries 20 rfl) fl_X12_57 (v11 c5) (fun _ => ?_)
        refine v_iload_n (pc := 36) (dk dt_X12_nextSeries 21 rfl) rfl rfl ?_
        refine v_iconst (pc := 37) (dk dt_X12_nextSeries 22 rfl) ⟨by decide, by decide⟩ ?_
        refine v_iadd (pc := 38) (dk dt_X12_nextSeries 23 rfl) (v12 c5) ?_
        refine v_iald (pc := 39) (dk dt_X12_nextSeries 24 rfl) (Or.inl (v13 c5)) (v14 c5) (v15 c5) (fun _ => ?_)
        refine v_aload_n (pc := 40) (dk dt_X12_nextSeries 25 rfl) rfl rfl ?_
        refine v_getR (pc := 41) (dk dt_X12_nextSeries 26 rfl) fl_X12_57 (v16 c5) (fun _ => ?_)
        refine v_iload_n (pc := 44) (dk dt_X12_nextSeries 27 rfl) rfl rfl ?_
        refine v_iconst (pc := 45) (dk dt_X12_nextSeries 28 rfl) ⟨by decide, by decide⟩ ?_
        refine v_iadd (pc := 46) (dk dt_X12_nextSeries 29 rfl) (v17 c5) ?_
        refine v_iald (pc := 47) (dk dt_X12_nextSeries 30 rfl) (Or.inl (v18 c5)) (v19 c5) (v20 c5) (fun _ => ?_)
        refine v_aload_n (pc := 48) (dk dt_X12_nextSeries 31 rfl) rfl rfl ?_
        refine v_iload (pc := 49) (dk dt_X12_nextSeries 32 rfl) rfl ?_
        refine v_cvPI (c := 12) (v := (mCode G l0 l4)) (As := [iv l4]) (stk := [iv (gel G (gfd G 12 21 l0) (l1 + 5)), iv (gel G (gfd G 12 21 l0) (l1 + 4)), iv (gel G (gfd G 12 21 l0) (l1 + 3))]) (pc := 51) (dk dt_X12_nextSeries 33 rfl) ml_X12_134 rfl rfl (Nat.le_of_ble_eq_true rfl) rfl ⟨by decide, rfl⟩ (v21 c5) rfl (v22 c5) ?_
        refine v_csPZ (v := (mIn (gel G (gfd G 12 21 l0) (l1 + 3)) (gel G (gfd G 12 21 l0) (l1 + 4)) (gel G (gfd G 12 21 l0) (l1 + 5)) (mCode G l0 l4))) (As := [iv (gel G (gfd G 12 21 l0) (l1 + 3)), iv (gel G (gfd G 12 21 l0) (l1 + 4)), iv (gel G (gfd G 12 21 l0) (l1 + 5)), iv (mCode G l0 l4)]) (stk := []) (pc := 54) (dk dt_X12_nextSeries 34 rfl) ml_X12_138 rfl rfl (Nat.le_of_ble_eq_true rfl) rfl rfl (v23 c5) ?_
        refine v_if_eq (pc := 57) (tgt := 64) (dk dt_X12_nextSeries 35 rfl) (by decide) (fun c24 => ?_) (fun c24 => ?_)
        · refine v_iconst (pc := 64) (dk dt_X12_nextSeries 38 rfl) ⟨by decide, by decide⟩ ?_
          exact v_less2 (ls' := [some (rv l0), some (iv l1), some (iv l2), some (iv l3), some (iv l4), none]) ⟨rfl, rfl, rfl, rfl, rfl, trivial⟩ (by have hk9 := k33; try simp only [if_neg (Int.not_le.mpr c5)] at hk9 ⊢; try simp only [if_pos c24] at hk9 ⊢; exact hk9)
        · refine v_iconst (pc := 60) (dk dt_X12_nextSeries 36 rfl) ⟨by decide, by decide⟩ ?_
          refine v_goto (pc := 61) (tgt := 65) (dk dt_X12_nextSeries 37 rfl) (by decide) ?_
          exact v_less2 (ls' := [some (rv l0), some (iv l1), some (iv l2), some (iv l3), some (iv l4), none]) ⟨rfl, rfl, rfl, rfl, rfl, trivial⟩ (by have hk9 := k33; try simp only [if_neg (Int.not_le.mpr c5)] at hk9 ⊢; try simp only [if_neg c24] at hk9 ⊢; exact hk9)
    refine v_istore (pc := 65) (ls' := [some (rv l0), some (iv l1), some (iv l2), some (iv l3), some (iv l4), some (iv (if (mCode G l0 l4) ≤ l2 then (0 : Int) else (if (mIn (gel G (gfd G 12 21 l0) (l1 + 3)) (gel G (gfd G 12 21 l0) (l1 + 4)) (gel G (gfd G 12 21 l0) (l1 + 5)) (mCode G l0 l4)) = 0 then (0 : Int) else 1)))]) (dk dt_X12_nextSeries 39 rfl) (Nat.le_of_ble_eq_true rfl) rfl ?_
    refine v_iload (pc := 67) (dk dt_X12_nextSeries_1 0 rfl) rfl ?_
    obtain ⟨v27, v28, v29, v30, h⟩ := h
    suffices k34 : V E M_X12_nextSeries 97 [some (rv l0), some (iv l1), some (iv l2), none, some (iv l4), none] [iv (if (if (mCode G l0 l4) ≤ l2 then (0 : Int) else (if (mIn (gel G (gfd G 12 21 l0) (l1 + 3)) (gel G (gfd G 12 21 l0) (l1 + 4)) (gel G (gfd G 12 21 l0) (l1 + 5)) (mCode G l0 l4)) = 0 then (0 : Int) else 1)) = 0 then (l3 : Int) else (if l3 = (-1) then (l4 : Int) else (if (mCode G l0 l3) ≤ (mCode G l0 l4) then (l3 : Int) else l4)))] G c s Q X by
      refine v_if_eq (pc := 69) (tgt := 96) (dk dt_X12_nextSeries_1 1 rfl) (by decide) (fun c25 => ?_) (fun c25 => ?_)
      · refine v_iload_n (pc := 96) (dk dt_X12_nextSeries_1 14 rfl) rfl rfl ?_
        exact v_less2 (ls' := [some (rv l0), some (iv l1), some (iv l2), none, some (iv l4), none]) ⟨rfl, rfl, rfl, rfl, trivial⟩ (by have hk9 := k34; try simp only [if_pos c25] at hk9 ⊢; exact hk9)
      · refine v_iload_n (pc := 72) (dk dt_X12_nextSeries_1 2 rfl) rfl rfl ?_
        refine v_iconst (pc := 73) (dk dt_X12_nextSeries_1 3 rfl) ⟨by decide, by decide⟩ ?_
        refine v_icmp_eq (pc := 74) (tgt := 91) (dk dt_X12_nextSeries_1 4 rfl) (by decide) (fun c26 => ?_) (fun c26 => ?_)
        · refine v_iload (pc := 91) (dk dt_X12_nextSeries_1 12 rfl) rfl ?_
          refine v_goto (pc := 93) (tgt := 97) (dk dt_X12_nextSeries_1 13 rfl) (by decide) ?_
          exact v_less2 (ls' := [some (rv l0), some (iv l1), some (iv l2), none, some (iv l4), none]) ⟨rfl, rfl, rfl, rfl, trivial⟩ (by have hk9 := k34; try simp only [if_neg c25] at hk9 ⊢; try simp only [if_pos c26] at hk9 ⊢; exact hk9)
        · refine v_aload_n (pc := 77) (dk dt_X12_nextSeries_1 5 rfl) rfl rfl ?_
          refine v_iload (pc := 78) (dk dt_X12_nextSeries_1 6 rfl) rfl ?_
          refine v_cvPI (c := 12) (v := (mCode G l0 l4)) (As := [iv l4]) (stk := []) (pc := 80) (dk dt_X12_nextSeries_1 7 rfl) ml_X12_134 rfl rfl (Nat.le_of_ble_eq_true rfl) rfl ⟨by decide, rfl⟩ (v27 c25 c26) rfl (v28 c25 c26) ?_
          refine v_aload_n (pc := 83) (dk dt_X12_nextSeries_1 8 rfl) rfl rfl ?_
          refine v_iload_n (pc := 84) (dk dt_X12_nextSeries_1 9 rfl) rfl rfl ?_
          refine v_cvPI (c := 12) (v := (mCode G l0 l3)) (As := [iv l3]) (stk := [iv (mCode G l0 l4)]) (pc := 85) (dk dt_X12_nextSeries_1 10 rfl) ml_X12_134 rfl rfl (Nat.le_of_ble_eq_true rfl) rfl ⟨by decide, rfl⟩ (v29 c25 c26) rfl (v30 c25 c26) ?_
          refine v_icmp_ge (pc := 88) (tgt := 96) (dk dt_X12_nextSeries_1 11 rfl) (by decide) (fun c31 => ?_) (fun c31 => ?_)
          · refine v_iload_n (pc := 96) (dk dt_X12_nextSeries_1 14 rfl) rfl rfl ?_
            exact v_less2 (ls' := [some (rv l0), some (iv l1), some (iv l2), none, some (iv l4), none]) ⟨rfl, rfl, rfl, rfl, trivial⟩ (by have hk9 := k34; try simp only [if_neg c25] at hk9 ⊢; try simp only [if_neg c26] at hk9 ⊢; try simp only [if_pos c31] at hk9 ⊢; exact hk9)
          · refine v_iload (pc := 91) (dk dt_X12_nextSeries_1 12 rfl) rfl ?_
            refine v_goto (pc := 93) (tgt := 97) (dk dt_X12_nextSeries_1 13 rfl) (by decide) ?_
            exact v_less2 (ls' := [some (rv l0), some (iv l1), some (iv l2), none, some (iv l4), none]) ⟨rfl, rfl, rfl, rfl, trivial⟩ (by have hk9 := k34; try simp only [if_neg c25] at hk9 ⊢; try simp only [if_neg c26] at hk9 ⊢; try simp only [if_neg (Int.not_le.mpr c31)] at hk9 ⊢; exact hk9)
    refine v_istore_n (pc := 97) (ls' := [some (rv l0), some (iv l1), some (iv l2), some (iv (if (if (mCode G l0 l4) ≤ l2 then (0 : Int) else (if (mIn (gel G (gfd G 12 21 l0) (l1 + 3)) (gel G (gfd G 12 21 l0) (l1 + 4)) (gel G (gfd G 12 21 l0) (l1 + 5)) (mCode G l0 l4)) = 0 then (0 : Int) else 1)) = 0 then (l3 : Int) else (if l3 = (-1) then (l4 : Int) else (if (mCode G l0 l3) ≤ (mCode G l0 l4) then (l3 : Int) else l4)))), some (iv l4), none]) (dk dt_X12_nextSeries_1 15 rfl) rfl (Nat.le_of_ble_eq_true rfl) rfl ?_
    obtain ⟨v32, h⟩ := h
    refine v_iinc (pc := 98) (ls' := [some (rv l0), some (iv l1), some (iv l2), some (iv (if (if (mCode G l0 l4) ≤ l2 then (0 : Int) else (if (mIn (gel G (gfd G 12 21 l0) (l1 + 3)) (gel G (gfd G 12 21 l0) (l1 + 4)) (gel G (gfd G 12 21 l0) (l1 + 5)) (mCode G l0 l4)) = 0 then (0 : Int) else 1)) = 0 then (l3 : Int) else (if l3 = (-1) then (l4 : Int) else (if (mCode G l0 l3) ≤ (mCode G l0 l4) then (l3 : Int) else l4)))), some (iv (l4 + 1)), none]) (dk dt_X12_nextSeries_1 16 rfl) (Nat.le_of_ble_eq_true rfl) rfl v32 rfl ?_
    refine v_goto (pc := 101) (tgt := 5) (dk dt_X12_nextSeries_1 17 rfl) (by decide) ?_
    exact h
set_option maxRecDepth 20000 in
theorem b_X12_add_0 {E : EE} {l0 l1 l2 : Int} {G : Gt} {c s : Nat} {Q X : Int → Gt → Prop} (h : (gcl G l0 = 13 ∧ i32 ((gfd G 12 33 l0) - 1) ∧ i32 (12 * ((gfd G 12 33 l0) - 1)) ∧ gcl G l0 = 13 ∧ gcl G l0 = 13 ∧ i32 ((gfd G 12 33 l0) - 1) ∧ gcl G (gfd G 12 30 l0) = 15 ∧ 0 ≤ ((gfd G 12 33 l0) - 1) ∧ ((gfd G 12 33 l0) - 1) < gln G (gfd G 12 30 l0) ∧ i32 ((12 * ((gfd G 12 33 l0) - 1)) + (gel G (gfd G 12 30 l0) ((gfd G 12 33 l0) - 1))) ∧ gcl G l0 = 13 ∧ gcl G (gfd G 12 31 l0) = 15 ∧ 0 ≤ ((12 * ((gfd G 12 33 l0) - 1)) + (gel G (gfd G 12 30 l0) ((gfd G 12 33 l0) - 1))) ∧ ((12 * ((gfd G 12 33 l0) - 1)) + (gel G (gfd G 12 30 l0) ((gfd G 12 33 l0) - 1))) < gln G (gfd G 12 31 l0) ∧ ∀ G15 : Gt, G15 = (sel G (gfd G 12 31 l0) ((12 * ((gfd G 12 33 l0) - 1)) + (gel G (gfd G 12 30 l0) ((gfd G 12 33 l0) - 1))) l1) → gcl G15 l0 = 13 ∧ OkP E M_X12_bounded [jv l2] G15 (wBd l2) ∧ gcl G15 (gfd G15 12 32 l0) = 16 ∧ 0 ≤ ((12 * ((gfd G 12 33 l0) - 1)) + (gel G (gfd G 12 30 l0) ((gfd G 12 33 l0) - 1))) ∧ ((12 * ((gfd G 12 33 l0) - 1)) + (gel G (gfd G 12 30 l0) ((gfd G 12 33 l0) - 1))) < gln G15 (gfd G15 12 32 l0) ∧ ∀ G21 : Gt, G21 = (sel G15 (gfd G15 12 32 l0) ((12 * ((gfd G 12 33 l0) - 1)) + (gel G (gfd G 12 30 l0) ((gfd G 12 33 l0) - 1))) (wBd l2)) → gcl G21 l0 = 13 ∧ gcl G21 l0 = 13 ∧ i32 ((gfd G21 12 33 l0) - 1) ∧ gcl G21 (gfd G21 12 30 l0) = 15 ∧ 0 ≤ ((gfd G21 12 33 l0) - 1) ∧ ((gfd G21 12 33 l0) - 1) < gln G21 (gfd G21 12 30 l0) ∧ i32 ((gel G21 (gfd G21 12 30 l0) ((gfd G21 12 33 l0) - 1)) + 1) ∧ gcl G21 (gfd G21 12 30 l0) = 15 ∧ 0 ≤ ((gfd G21 12 33 l0) - 1) ∧ ((gfd G21 12 33 l0) - 1) < gln G21 (gfd G21 12 30 l0) ∧ ∀ G32 : Gt, G32 = (sel G21 (gfd G21 12 30 l0) ((gfd G21 12 33 l0) - 1) ((gel G21 (gfd G21 12 30 l0) ((gfd G21 12 33 l0) - 1)) + 1)) → Q 0 G32)) : V E M_X12_add 0 [some (rv l0), some (iv l1), some (jv l2), none, none] [] G c s Q X := by
  refine v_bipush (pc := 0) (dk dt_X12_add 0 rfl) (by decide) ⟨by decide, by decide⟩ ?_
  refine v_aload_n (pc := 2) (dk dt_X12_add 1 rfl) rfl rfl ?_
  obtain ⟨v1, h⟩ := h
  refine v_getI (pc := 3) (dk dt_X12_add 2 rfl) fl_X12_237 v1 (fun _ => ?_)
  refine v_iconst (pc := 6) (dk dt_X12_add 3 rfl) ⟨by decide, by decide⟩ ?_
  obtain ⟨v2, h⟩ := h
  refine v_isub (pc := 7) (dk dt_X12_add 4 rfl) v2 ?_
  obtain ⟨v3, h⟩ := h
  refine v_imul (pc := 8) (dk dt_X12_add 5 rfl) v3 ?_
  refine v_aload_n (pc := 9) (dk dt_X12_add 6 rfl) rfl rfl ?_
  obtain ⟨v4, h⟩ := h
  refine v_getR (pc := 10) (dk dt_X12_add 7 rfl) fl_X12_81 v4 (fun _ => ?_)
  refine v_aload_n (pc := 13) (dk dt_X12_add 8 rfl) rfl rfl ?_
  obtain ⟨v5, h⟩ := h
  refine v_getI (pc := 14) (dk dt_X12_add 9 rfl) fl_X12_237 v5 (fun _ => ?_)
  refine v_iconst (pc := 17) (dk dt_X12_add 10 rfl) ⟨by decide, by decide⟩ ?_
  obtain ⟨v6, h⟩ := h
  refine v_isub (pc := 18) (dk dt_X12_add 11 rfl) v6 ?_
  obtain ⟨v7, h⟩ := h
  obtain ⟨v8, h⟩ := h
  obtain ⟨v9, h⟩ := h
  refine v_iald (pc := 19) (dk dt_X12_add 12 rfl) (Or.inl v7) v8 v9 (fun _ => ?_)
  obtain ⟨v10, h⟩ := h
  refine v_iadd (pc := 20) (dk dt_X12_add 13 rfl) v10 ?_
  refine v_istore (pc := 21) (ls' := [some (rv l0), some (iv l1), some (jv l2), none, some (iv ((12 * ((gfd G 12 33 l0) - 1)) + (gel G (gfd G 12 30 l0) ((gfd G 12 33 l0) - 1))))]) (dk dt_X12_add 14 rfl) (Nat.le_of_ble_eq_true rfl) rfl ?_
  refine v_aload_n (pc := 23) (dk dt_X12_add 15 rfl) rfl rfl ?_
  obtain ⟨v11, h⟩ := h
  refine v_getR (pc := 24) (dk dt_X12_add 16 rfl) fl_X12_84 v11 (fun _ => ?_)
  refine v_iload (pc := 27) (dk dt_X12_add 17 rfl) rfl ?_
  refine v_iload_n (pc := 29) (dk dt_X12_add 18 rfl) rfl rfl ?_
  obtain ⟨v12, h⟩ := h
  obtain ⟨v13, h⟩ := h
  obtain ⟨v14, h⟩ := h
  refine v_iast (pc := 30) (dk dt_X12_add 19 rfl) v12 v13 v14 ?_
  generalize hG15 : (sel G (gfd G 12 31 l0) ((12 * ((gfd G 12 33 l0) - 1)) + (gel G (gfd G 12 30 l0) ((gfd G 12 33 l0) - 1))) l1) = G15
  replace h := h G15 hG15.symm
  refine v_aload_n (pc := 31) (dk dt_X12_add 20 rfl) rfl rfl ?_
  obtain ⟨v16, h⟩ := h
  refine v_getR (pc := 32) (dk dt_X12_add 21 rfl) fl_X12_87 v16 (fun _ => ?_)
  refine v_iload (pc := 35) (dk dt_X12_add 22 rfl) rfl ?_
  refine v_lload_n (pc := 37) (dk dt_X12_add 23 rfl) rfl rfl ?_
  obtain ⟨v17, h⟩ := h
  refine v_csPJ (v := (wBd l2)) (As := [jv l2]) (stk := [iv ((12 * ((gfd G 12 33 l0) - 1)) + (gel G (gfd G 12 30 l0) ((gfd G 12 33 l0) - 1))), rv (gfd G15 12 32 l0)]) (pc := 38) (dk dt_X12_add 24 rfl) ml_X12_240 rfl rfl (Nat.le_of_ble_eq_true rfl) rfl rfl v17 ?_
  obtain ⟨v18, h⟩ := h
  obtain ⟨v19, h⟩ := h
  obtain ⟨v20, h⟩ := h
  refine v_last (pc := 41) (dk dt_X12_add 25 rfl) v18 v19 v20 ?_
  generalize hG21 : (sel G15 (gfd G15 12 32 l0) ((12 * ((gfd G 12 33 l0) - 1)) + (gel G (gfd G 12 30 l0) ((gfd G 12 33 l0) - 1))) (wBd l2)) = G21
  replace h := h G21 hG21.symm
  refine v_aload_n (pc := 42) (dk dt_X12_add 26 rfl) rfl rfl ?_
  obtain ⟨v22, h⟩ := h
  refine v_getR (pc := 43) (dk dt_X12_add 27 rfl) fl_X12_81 v22 (fun _ => ?_)
  refine v_aload_n (pc := 46) (dk dt_X12_add 28 rfl) rfl rfl ?_
  obtain ⟨v23, h⟩ := h
  refine v_getI (pc := 47) (dk dt_X12_add 29 rfl) fl_X12_237 v23 (fun _ => ?_)
  refine v_iconst (pc := 50) (dk dt_X12_add 30 rfl) ⟨by decide, by decide⟩ ?_
  obtain ⟨v24, h⟩ := h
  refine v_isub (pc := 51) (dk dt_X12_add 31 rfl) v24 ?_
  refine v_dup2 (pc := 52) (dk dt_X12_add 32 rfl) (by intro h9; cases h9) (by intro h9; cases h9) ?_
  obtain ⟨v25, h⟩ := h
  obtain ⟨v26, h⟩ := h
  obtain ⟨v27, h⟩ := h
  refine v_iald (pc := 53) (dk dt_X12_add 33 rfl) (Or.inl v25) v26 v27 (fun _ => ?_)
  refine v_iconst (pc := 54) (dk dt_X12_add 34 rfl) ⟨by decide, by decide⟩ ?_
  obtain ⟨v28, h⟩ := h
  refine v_iadd (pc := 55) (dk dt_X12_add 35 rfl) v28 ?_
  obtain ⟨v29, h⟩ := h
  obtain ⟨v30, h⟩ := h
  obtain ⟨v31, h⟩ := h
  refine v_iast (pc := 56) (dk dt_X12_add 36 rfl) v29 v30 v31 ?_
  generalize hG32 : (sel G21 (gfd G21 12 30 l0) ((gfd G21 12 33 l0) - 1) ((gel G21 (gfd G21 12 30 l0) ((gfd G21 12 33 l0) - 1)) + 1)) = G32
  replace h := h G32 hG32.symm
  exact v_vret (pc := 57) (dk dt_X12_add 37 rfl) rfl h
set_option maxRecDepth 20000 in
theorem i_X12_add {E : EE} {l0 l1 l2 : Int} {G : Gt} {c s : Nat} {Q X : Int → Gt → Prop} (h : (gcl G l0 = 13 ∧ i32 ((gfd G 12 33 l0) - 1) ∧ i32 (12 * ((gfd G 12 33 l0) - 1)) ∧ gcl G l0 = 13 ∧ gcl G l0 = 13 ∧ i32 ((gfd G 12 33 l0) - 1) ∧ gcl G (gfd G 12 30 l0) = 15 ∧ 0 ≤ ((gfd G 12 33 l0) - 1) ∧ ((gfd G 12 33 l0) - 1) < gln G (gfd G 12 30 l0) ∧ i32 ((12 * ((gfd G 12 33 l0) - 1)) + (gel G (gfd G 12 30 l0) ((gfd G 12 33 l0) - 1))) ∧ gcl G l0 = 13 ∧ gcl G (gfd G 12 31 l0) = 15 ∧ 0 ≤ ((12 * ((gfd G 12 33 l0) - 1)) + (gel G (gfd G 12 30 l0) ((gfd G 12 33 l0) - 1))) ∧ ((12 * ((gfd G 12 33 l0) - 1)) + (gel G (gfd G 12 30 l0) ((gfd G 12 33 l0) - 1))) < gln G (gfd G 12 31 l0) ∧ ∀ G15 : Gt, G15 = (sel G (gfd G 12 31 l0) ((12 * ((gfd G 12 33 l0) - 1)) + (gel G (gfd G 12 30 l0) ((gfd G 12 33 l0) - 1))) l1) → gcl G15 l0 = 13 ∧ OkP E M_X12_bounded [jv l2] G15 (wBd l2) ∧ gcl G15 (gfd G15 12 32 l0) = 16 ∧ 0 ≤ ((12 * ((gfd G 12 33 l0) - 1)) + (gel G (gfd G 12 30 l0) ((gfd G 12 33 l0) - 1))) ∧ ((12 * ((gfd G 12 33 l0) - 1)) + (gel G (gfd G 12 30 l0) ((gfd G 12 33 l0) - 1))) < gln G15 (gfd G15 12 32 l0) ∧ ∀ G21 : Gt, G21 = (sel G15 (gfd G15 12 32 l0) ((12 * ((gfd G 12 33 l0) - 1)) + (gel G (gfd G 12 30 l0) ((gfd G 12 33 l0) - 1))) (wBd l2)) → gcl G21 l0 = 13 ∧ gcl G21 l0 = 13 ∧ i32 ((gfd G21 12 33 l0) - 1) ∧ gcl G21 (gfd G21 12 30 l0) = 15 ∧ 0 ≤ ((gfd G21 12 33 l0) - 1) ∧ ((gfd G21 12 33 l0) - 1) < gln G21 (gfd G21 12 30 l0) ∧ i32 ((gel G21 (gfd G21 12 30 l0) ((gfd G21 12 33 l0) - 1)) + 1) ∧ gcl G21 (gfd G21 12 30 l0) = 15 ∧ 0 ≤ ((gfd G21 12 33 l0) - 1) ∧ ((gfd G21 12 33 l0) - 1) < gln G21 (gfd G21 12 30 l0) ∧ ∀ G32 : Gt, G32 = (sel G21 (gfd G21 12 30 l0) ((gfd G21 12 33 l0) - 1) ((gel G21 (gfd G21 12 30 l0) ((gfd G21 12 33 l0) - 1)) + 1)) → Q 0 G32)) : Ok E M_X12_add [rv l0, iv l1, jv l2] G c s Q X := Ok.intro (k := 1) rfl rfl (Nat.le_of_ble_eq_true rfl) rfl (b_X12_add_0 h)
set_option maxRecDepth 20000 in
theorem b_X12_open_0 {E : EE} {l0 l1 : Int} {G : Gt} {c s : Nat} {Q X : Int → Gt → Prop} (h : (gcl G l0 = 13 ∧ gcl G l0 = 13 ∧ gcl G (gfd G 12 29 l0) = 17 ∧ 0 ≤ (gfd G 12 33 l0) ∧ (gfd G 12 33 l0) < gln G (gfd G 12 29 l0) ∧ (l1 = 0 ∨ l1 = 1) ∧ ∀ G7 : Gt, G7 = (sel G (gfd G 12 29 l0) (gfd G 12 33 l0) l1) → gcl G7 l0 = 13 ∧ gcl G7 l0 = 13 ∧ gcl G7 (gfd G7 12 30 l0) = 15 ∧ 0 ≤ (gfd G7 12 33 l0) ∧ (gfd G7 12 33 l0) < gln G7 (gfd G7 12 30 l0) ∧ ∀ G13 : Gt, G13 = (sel G7 (gfd G7 12 30 l0) (gfd G7 12 33 l0) 0) → gcl G13 l0 = 13 ∧ i32 ((gfd G13 12 33 l0) + 1) ∧ gcl G13 l0 = 13 ∧ ∀ G17 : Gt, G17 = (sfd G13 12 33 l0 ((gfd G13 12 33 l0) + 1)) → Q 0 G17)) : V E M_X12_open 0 [some (rv l0), some (iv l1)] [] G c s Q X := by
  refine v_aload_n (pc := 0) (dk dt_X12_open 0 rfl) rfl rfl ?_
  obtain ⟨v1, h⟩ := h
  refine v_getR (pc := 1) (dk dt_X12_open 1 rfl) fl_X12_78 v1 (fun _ => ?_)
  refine v_aload_n (pc := 4) (dk dt_X12_open 2 rfl) rfl rfl ?_
  obtain ⟨v2, h⟩ := h
  refine v_getI (pc := 5) (dk dt_X12_open 3 rfl) fl_X12_237 v2 (fun _ => ?_)
  refine v_iload_n (pc := 8) (dk dt_X12_open 4 rfl) rfl rfl ?_
  obtain ⟨v3, h⟩ := h
  obtain ⟨v4, h⟩ := h
  obtain ⟨v5, h⟩ := h
  obtain ⟨v6, h⟩ := h
  refine v_zast (pc := 9) (dk dt_X12_open 5 rfl) v3 v4 v5 v6 ?_
  generalize hG7 : (sel G (gfd G 12 29 l0) (gfd G 12 33 l0) l1) = G7
  replace h := h G7 hG7.symm
  refine v_aload_n (pc := 10) (dk dt_X12_open 6 rfl) rfl rfl ?_
  obtain ⟨v8, h⟩ := h
  refine v_getR (pc := 11) (dk dt_X12_open 7 rfl) fl_X12_81 v8 (fun _ => ?_)
  refine v_aload_n (pc := 14) (dk dt_X12_open 8 rfl) rfl rfl ?_
  obtain ⟨v9, h⟩ := h
  refine v_getI (pc := 15) (dk dt_X12_open 9 rfl) fl_X12_237 v9 (fun _ => ?_)
  refine v_iconst (pc := 18) (dk dt_X12_open 10 rfl) ⟨by decide, by decide⟩ ?_
  obtain ⟨v10, h⟩ := h
  obtain ⟨v11, h⟩ := h
  obtain ⟨v12, h⟩ := h
  refine v_iast (pc := 19) (dk dt_X12_open 11 rfl) v10 v11 v12 ?_
  generalize hG13 : (sel G7 (gfd G7 12 30 l0) (gfd G7 12 33 l0) 0) = G13
  replace h := h G13 hG13.symm
  refine v_aload_n (pc := 20) (dk dt_X12_open 12 rfl) rfl rfl ?_
  refine v_dup (pc := 21) (dk dt_X12_open 13 rfl) (by intro h9; cases h9) ?_
  obtain ⟨v14, h⟩ := h
  refine v_getI (pc := 22) (dk dt_X12_open 14 rfl) fl_X12_237 v14 (fun _ => ?_)
  refine v_iconst (pc := 25) (dk dt_X12_open 15 rfl) ⟨by decide, by decide⟩ ?_
  obtain ⟨v15, h⟩ := h
  refine v_iadd (pc := 26) (dk dt_X12_open 16 rfl) v15 ?_
  obtain ⟨v16, h⟩ := h
  refine v_putI (pc := 27) (dk dt_X12_open 17 rfl) fl_X12_237 (Or.inl rfl) v16 ?_
  generalize hG17 : (sfd G13 12 33 l0 ((gfd G13 12 33 l0) + 1)) = G17
  replace h := h G17 hG17.symm
  exact v_vret (pc := 30) (dk dt_X12_open 18 rfl) rfl h
set_option maxRecDepth 20000 in
theorem i_X12_open {E : EE} {l0 l1 : Int} {G : Gt} {c s : Nat} {Q X : Int → Gt → Prop} (h : (gcl G l0 = 13 ∧ gcl G l0 = 13 ∧ gcl G (gfd G 12 29 l0) = 17 ∧ 0 ≤ (gfd G 12 33 l0) ∧ (gfd G 12 33 l0) < gln G (gfd G 12 29 l0) ∧ (l1 = 0 ∨ l1 = 1) ∧ ∀ G7 : Gt, G7 = (sel G (gfd G 12 29 l0) (gfd G 12 33 l0) l1) → gcl G7 l0 = 13 ∧ gcl G7 l0 = 13 ∧ gcl G7 (gfd G7 12 30 l0) = 15 ∧ 0 ≤ (gfd G7 12 33 l0) ∧ (gfd G7 12 33 l0) < gln G7 (gfd G7 12 30 l0) ∧ ∀ G13 : Gt, G13 = (sel G7 (gfd G7 12 30 l0) (gfd G7 12 33 l0) 0) → gcl G13 l0 = 13 ∧ i32 ((gfd G13 12 33 l0) + 1) ∧ gcl G13 l0 = 13 ∧ ∀ G17 : Gt, G17 = (sfd G13 12 33 l0 ((gfd G13 12 33 l0) + 1)) → Q 0 G17)) : Ok E M_X12_open [rv l0, iv l1] G c s Q X := Ok.intro (k := 0) rfl rfl (Nat.le_of_ble_eq_true rfl) rfl (b_X12_open_0 h)
set_option maxRecDepth 20000 in
theorem b_X12_looksAt_0 {E : EE} {l0 l1 l2 l3 : Int} {G : Gt} {c s : Nat} {Q X : Int → Gt → Prop} (h : (gcl G l0 = 13 ∧ gcl G (gfd G 12 21 l0) = 15 ∧ 0 ≤ l1 ∧ l1 < gln G (gfd G 12 21 l0) ∧ (((gel G (gfd G 12 21 l0) l1) ≠ 1 → (gcl G l0 = 13 ∧ i32 (l1 + 2) ∧ gcl G (gfd G 12 21 l0) = 15 ∧ 0 ≤ (l1 + 2) ∧ (l1 + 2) < gln G (gfd G 12 21 l0) ∧ i32 (l3 - (gel G (gfd G 12 21 l0) (l1 + 2))) ∧ ((-1) < (l3 - (gel G (gfd G 12 21 l0) (l1 + 2))) → i32 (l3 - (gel G (gfd G 12 21 l0) (l1 + 2)))) ∧ gcl G l0 = 13 ∧ Call E M_X12_nextTime [rv l0, iv l2, iv (if (l3 - (gel G (gfd G 12 21 l0) (l1 + 2))) ≤ (-1) then ((-1) : Int) else (l3 - (gel G (gfd G 12 21 l0) (l1 + 2))))] G c s X (fun r15 G16 c17 s18 => V E M_X12_looksAt 231 [some (rv l0), none, some (iv l2), some (iv l3), some (iv (gel G (gfd G 12 21 l0) l1)), some (iv (gel G (gfd G 12 21 l0) (l1 + 2))), some (iv 0), some (jv 0), none, some (jv 0), none, some (jv 0), none, some (jv 0), none, some (jv 0), none, some (iv 0), some (iv 0), some (iv 0), some (iv r15), none, none, none, none, none, none] [] G16 c17 s18 Q X))) ∧ ((gel G (gfd G 12 21 l0) l1) = 1 → (gcl G l0 = 13 ∧ i32 (l1 + 2) ∧ gcl G (gfd G 12 21 l0) = 15 ∧ 0 ≤ (l1 + 2) ∧ (l1 + 2) < gln G (gfd G 12 21 l0) ∧ i32 (l3 - (gel G (gfd G 12 21 l0) (l1 + 2))) ∧ V E M_X12_looksAt 32 [some (rv l0), none, some (iv l2), none, none, some (iv (l3 - (gel G (gfd G 12 21 l0) (l1 + 2)))), some (iv (-1)), some (iv 0), none, none, none, none, none, none, none, none, none, none, none, none, none, none, none, none, none, none, none] [] G c s Q X))))) : V E M_X12_looksAt 0 [some (rv l0), some (iv l1), some (iv l2), some (iv l3), none, none, none, none, none, none, none, none, none, none, none, none, none, none, none, none, none, none, none, none, none, none, none] [] G c s Q X := by
  refine v_aload_n (pc := 0) (dk dt_X12_looksAt 0 rfl) rfl rfl ?_
  obtain ⟨v1, h⟩ := h
  refine v_getR (pc := 1) (dk dt_X12_looksAt 1 rfl) fl_X12_57 v1 (fun _ => ?_)
  refine v_iload_n (pc := 4) (dk dt_X12_looksAt 2 rfl) rfl rfl ?_
  obtain ⟨v2, h⟩ := h
  obtain ⟨v3, h⟩ := h
  obtain ⟨v4, h⟩ := h
  refine v_iald (pc := 5) (dk dt_X12_looksAt 3 rfl) (Or.inl v2) v3 v4 (fun _ => ?_)
  refine v_istore (pc := 6) (ls' := [some (rv l0), some (iv l1), some (iv l2), some (iv l3), some (iv (gel G (gfd G 12 21 l0) l1)), none, none, none, none, none, none, none, none, none, none, none, none, none, none, none, none, none, none, none, none, none, none]) (dk dt_X12_looksAt 4 rfl) (Nat.le_of_ble_eq_true rfl) rfl ?_
  refine v_iload (pc := 8) (dk dt_X12_looksAt 5 rfl) rfl ?_
  refine v_iconst (pc := 10) (dk dt_X12_looksAt 6 rfl) ⟨by decide, by decide⟩ ?_
  refine v_icmp_ne (pc := 11) (tgt := 171) (dk dt_X12_looksAt 7 rfl) (by decide) (fun c5 => ?_) (fun c5 => ?_)
  · replace h := h.1 c5
    refine v_aload_n (pc := 171) (dk dt_X12_looksAt_2 11 rfl) rfl rfl ?_
    obtain ⟨v6, h⟩ := h
    refine v_getR (pc := 172) (dk dt_X12_looksAt_2 12 rfl) fl_X12_57 v6 (fun _ => ?_)
    refine v_iload_n (pc := 175) (dk dt_X12_looksAt_2 13 rfl) rfl rfl ?_
    refine v_iconst (pc := 176) (dk dt_X12_looksAt_2 14 rfl) ⟨by decide, by decide⟩ ?_
    obtain ⟨v7, h⟩ := h
    refine v_iadd (pc := 177) (dk dt_X12_looksAt_2 15 rfl) v7 ?_
    obtain ⟨v8, h⟩ := h
    obtain ⟨v9, h⟩ := h
    obtain ⟨v10, h⟩ := h
    refine v_iald (pc := 178) (dk dt_X12_looksAt_2 16 rfl) (Or.inl v8) v9 v10 (fun _ => ?_)
    refine v_istore (pc := 179) (ls' := [some (rv l0), some (iv l1), some (iv l2), some (iv l3), some (iv (gel G (gfd G 12 21 l0) l1)), some (iv (gel G (gfd G 12 21 l0) (l1 + 2))), none, none, none, none, none, none, none, none, none, none, none, none, none, none, none, none, none, none, none, none, none]) (dk dt_X12_looksAt_2 17 rfl) (Nat.le_of_ble_eq_true rfl) rfl ?_
    refine v_iconst (pc := 181) (dk dt_X12_looksAt_2 18 rfl) ⟨by decide, by decide⟩ ?_
    refine v_istore (pc := 182) (ls' := [some (rv l0), some (iv l1), some (iv l2), some (iv l3), some (iv (gel G (gfd G 12 21 l0) l1)), some (iv (gel G (gfd G 12 21 l0) (l1 + 2))), some (iv 0), none, none, none, none, none, none, none, none, none, none, none, none, none, none, none, none, none, none, none, none]) (dk dt_X12_looksAt_2 19 rfl) (Nat.le_of_ble_eq_true rfl) rfl ?_
    refine v_lconst (x := 0) (pc := 184) (dk dt_X12_looksAt_2 20 rfl) (by decide) ⟨by decide, by decide⟩ ?_
    refine v_lstore (pc := 185) (ls' := [some (rv l0), some (iv l1), some (iv l2), some (iv l3), some (iv (gel G (gfd G 12 21 l0) l1)), some (iv (gel G (gfd G 12 21 l0) (l1 + 2))), some (iv 0), some (jv 0), none, none, none, none, none, none, none, none, none, none, none, none, none, none, none, none, none, none, none]) (dk dt_X12_looksAt_2 21 rfl) (Nat.le_of_ble_eq_true rfl) rfl ?_
    refine v_lconst (x := 0) (pc := 187) (dk dt_X12_looksAt_2 22 rfl) (by decide) ⟨by decide, by decide⟩ ?_
    refine v_lstore (pc := 188) (ls' := [some (rv l0), some (iv l1), some (iv l2), some (iv l3), some (iv (gel G (gfd G 12 21 l0) l1)), some (iv (gel G (gfd G 12 21 l0) (l1 + 2))), some (iv 0), some (jv 0), none, some (jv 0), none, none, none, none, none, none, none, none, none, none, none, none, none, none, none, none, none]) (dk dt_X12_looksAt_2 23 rfl) (Nat.le_of_ble_eq_true rfl) rfl ?_
    refine v_lconst (x := 0) (pc := 190) (dk dt_X12_looksAt_2 24 rfl) (by decide) ⟨by decide, by decide⟩ ?_
    refine v_lstore (pc := 191) (ls' := [some (rv l0), some (iv l1), some (iv l2), some (iv l3), some (iv (gel G (gfd G 12 21 l0) l1)), some (iv (gel G (gfd G 12 21 l0) (l1 + 2))), some (iv 0), some (jv 0), none, some (jv 0), none, some (jv 0), none, none, none, none, none, none, none, none, none, none, none, none, none, none, none]) (dk dt_X12_looksAt_2 25 rfl) (Nat.le_of_ble_eq_true rfl) rfl ?_
    refine v_lconst (x := 0) (pc := 193) (dk dt_X12_looksAt_2 26 rfl) (by decide) ⟨by decide, by decide⟩ ?_
    refine v_lstore (pc := 194) (ls' := [some (rv l0), some (iv l1), some (iv l2), some (iv l3), some (iv (gel G (gfd G 12 21 l0) l1)), some (iv (gel G (gfd G 12 21 l0) (l1 + 2))), some (iv 0), some (jv 0), none, some (jv 0), none, some (jv 0), none, some (jv 0), none, none, none, none, none, none, none, none, none, none, none, none, none]) (dk dt_X12_looksAt_2 27 rfl) (Nat.le_of_ble_eq_true rfl) rfl ?_
    refine v_lconst (x := 0) (pc := 196) (dk dt_X12_looksAt_2 28 rfl) (by decide) ⟨by decide, by decide⟩ ?_
    refine v_lstore (pc := 197) (ls' := [some (rv l0), some (iv l1), some (iv l2), some (iv l3), some (iv (gel G (gfd G 12 21 l0) l1)), some (iv (gel G (gfd G 12 21 l0) (l1 + 2))), some (iv 0), some (jv 0), none, some (jv 0), none, some (jv 0), none, some (jv 0), none, some (jv 0), none, none, none, none, none, none, none, none, none, none, none]) (dk dt_X12_looksAt_2 29 rfl) (Nat.le_of_ble_eq_true rfl) rfl ?_
    refine v_iconst (pc := 199) (dk dt_X12_looksAt_2 30 rfl) ⟨by decide, by decide⟩ ?_
    refine v_istore (pc := 200) (ls' := [some (rv l0), some (iv l1), some (iv l2), some (iv l3), some (iv (gel G (gfd G 12 21 l0) l1)), some (iv (gel G (gfd G 12 21 l0) (l1 + 2))), some (iv 0), some (jv 0), none, some (jv 0), none, some (jv 0), none, some (jv 0), none, some (jv 0), none, some (iv 0), none, none, none, none, none, none, none, none, none]) (dk dt_X12_looksAt_2 31 rfl) (Nat.le_of_ble_eq_true rfl) rfl ?_
    refine v_iconst (pc := 202) (dk dt_X12_looksAt_2 32 rfl) ⟨by decide, by decide⟩ ?_
    refine v_istore (pc := 203) (ls' := [some (rv l0), some (iv l1), some (iv l2), some (iv l3), some (iv (gel G (gfd G 12 21 l0) l1)), some (iv (gel G (gfd G 12 21 l0) (l1 + 2))), some (iv 0), some (jv 0), none, some (jv 0), none, some (jv 0), none, some (jv 0), none, some (jv 0), none, some (iv 0), some (iv 0), none, none, none, none, none, none, none, none]) (dk dt_X12_looksAt_2 33 rfl) (Nat.le_of_ble_eq_true rfl) rfl ?_
    refine v_iconst (pc := 205) (dk dt_X12_looksAt_2 34 rfl) ⟨by decide, by decide⟩ ?_
    refine v_istore (pc := 206) (ls' := [some (rv l0), some (iv l1), some (iv l2), some (iv l3), some (iv (gel G (gfd G 12 21 l0) l1)), some (iv (gel G (gfd G 12 21 l0) (l1 + 2))), some (iv 0), some (jv 0), none, some (jv 0), none, some (jv 0), none, some (jv 0), none, some (jv 0), none, some (iv 0), some (iv 0), some (iv 0), none, none, none, none, none, none, none]) (dk dt_X12_looksAt_2 35 rfl) (Nat.le_of_ble_eq_true rfl) rfl ?_
    refine v_aload_n (pc := 208) (dk dt_X12_looksAt_2 36 rfl) rfl rfl ?_
    refine v_iload_n (pc := 209) (dk dt_X12_looksAt_2 37 rfl) rfl rfl ?_
    refine v_iload_n (pc := 210) (dk dt_X12_looksAt_2 38 rfl) rfl rfl ?_
    refine v_iload (pc := 211) (dk dt_X12_looksAt_2 39 rfl) rfl ?_
    obtain ⟨v11, h⟩ := h
    refine v_isub (pc := 213) (dk dt_X12_looksAt_3 0 rfl) v11 ?_
    refine v_iconst (pc := 214) (dk dt_X12_looksAt_3 1 rfl) ⟨by decide, by decide⟩ ?_
    obtain ⟨v13, h⟩ := h
    suffices k25 : V E M_X12_looksAt 226 [some (rv l0), none, some (iv l2), some (iv l3), some (iv (gel G (gfd G 12 21 l0) l1)), some (iv (gel G (gfd G 12 21 l0) (l1 + 2))), some (iv 0), some (jv 0), none, some (jv 0), none, some (jv 0), none, some (jv 0), none, some (jv 0), none, some (iv 0), some (iv 0), some (iv 0), none, none, none, none, none, none, none] [iv (if (l3 - (gel G (gfd G 12 21 l0) (l1 + 2))) ≤ (-1) then ((-1) : Int) else (l3 - (gel G (gfd G 12 21 l0) (l1 + 2)))), iv l2, rv l0] G c s Q X by
      refine v_icmp_le (pc := 215) (tgt := 225) (dk dt_X12_looksAt_3 2 rfl) (by decide) (fun c12 => ?_) (fun c12 => ?_)
      · refine v_iconst (pc := 225) (dk dt_X12_looksAt_3 7 rfl) ⟨by decide, by decide⟩ ?_
        exact v_less2 (ls' := [some (rv l0), none, some (iv l2), some (iv l3), some (iv (gel G (gfd G 12 21 l0) l1)), some (iv (gel G (gfd G 12 21 l0) (l1 + 2))), some (iv 0), some (jv 0), none, some (jv 0), none, some (jv 0), none, some (jv 0), none, some (jv 0), none, some (iv 0), some (iv 0), some (iv 0), none, none, none, none, none, none, none]) ⟨rfl, rfl, rfl, rfl, rfl, rfl, rfl, rfl, rfl, rfl, rfl, rfl, rfl, rfl, trivial⟩ (by have hk9 := k25; try simp only [if_pos c12] at hk9 ⊢; exact hk9)
      · refine v_iload_n (pc := 218) (dk dt_X12_looksAt_3 3 rfl) rfl rfl ?_
        refine v_iload (pc := 219) (dk dt_X12_looksAt_3 4 rfl) rfl ?_
        refine v_isub (pc := 221) (dk dt_X12_looksAt_3 5 rfl) (v13 c12) ?_
        refine v_goto (pc := 222) (tgt := 226) (dk dt_X12_looksAt_3 6 rfl) (by decide) ?_
        exact v_less2 (ls' := [some (rv l0), none, some (iv l2), some (iv l3), some (iv (gel G (gfd G 12 21 l0) l1)), some (iv (gel G (gfd G 12 21 l0) (l1 + 2))), some (iv 0), some (jv 0), none, some (jv 0), none, some (jv 0), none, some (jv 0), none, some (jv 0), none, some (iv 0), some (iv 0), some (iv 0), none, none, none, none, none, none, none]) ⟨rfl, rfl, rfl, rfl, rfl, rfl, rfl, rfl, rfl, rfl, rfl, rfl, rfl, rfl, trivial⟩ (by have hk9 := k25; try simp only [if_neg (Int.not_le.mpr c12)] at hk9 ⊢; exact hk9)
    obtain ⟨v14, h⟩ := h
    refine v_cvI (c := 12) (As := [iv l2, iv (if (l3 - (gel G (gfd G 12 21 l0) (l1 + 2))) ≤ (-1) then ((-1) : Int) else (l3 - (gel G (gfd G 12 21 l0) (l1 + 2))))]) (stk := []) (pc := 226) (dk dt_X12_looksAt_3 8 rfl) ml_X12_217 rfl rfl (Nat.le_of_ble_eq_true rfl) rfl ⟨by decide, rfl⟩ v14 rfl (Call.mono h (fun r15 G16 c17 s18 h => ?_))
    refine v_istore (pc := 229) (ls' := [some (rv l0), none, some (iv l2), some (iv l3), some (iv (gel G (gfd G 12 21 l0) l1)), some (iv (gel G (gfd G 12 21 l0) (l1 + 2))), some (iv 0), some (jv 0), none, some (jv 0), none, some (jv 0), none, some (jv 0), none, some (jv 0), none, some (iv 0), some (iv 0), some (iv 0), some (iv r15), none, none, none, none, none, none]) (dk dt_X12_looksAt_3 9 rfl) (Nat.le_of_ble_eq_true rfl) rfl ?_
    exact h
  · replace h := h.2 c5
    refine v_iload_n (pc := 14) (dk dt_X12_looksAt 8 rfl) rfl rfl ?_
    refine v_aload_n (pc := 15) (dk dt_X12_looksAt 9 rfl) rfl rfl ?_
    obtain ⟨v19, h⟩ := h
    refine v_getR (pc := 16) (dk dt_X12_looksAt 10 rfl) fl_X12_57 v19 (fun _ => ?_)
    refine v_iload_n (pc := 19) (dk dt_X12_looksAt 11 rfl) rfl rfl ?_
    refine v_iconst (pc := 20) (dk dt_X12_looksAt 12 rfl) ⟨by decide, by decide⟩ ?_
    obtain ⟨v20, h⟩ := h
    refine v_iadd (pc := 21) (dk dt_X12_looksAt 13 rfl) v20 ?_
    obtain ⟨v21, h⟩ := h
    obtain ⟨v22, h⟩ := h
    obtain ⟨v23, h⟩ := h
    refine v_iald (pc := 22) (dk dt_X12_looksAt 14 rfl) (Or.inl v21) v22 v23 (fun _ => ?_)
    obtain ⟨v24, h⟩ := h
    refine v_isub (pc := 23) (dk dt_X12_looksAt 15 rfl) v24 ?_
    refine v_istore (pc := 24) (ls' := [some (rv l0), some (iv l1), some (iv l2), some (iv l3), some (iv (gel G (gfd G 12 21 l0) l1)), some (iv (l3 - (gel G (gfd G 12 21 l0) (l1 + 2)))), none, none, none, none, none, none, none, none, none, none, none, none, none, none, none, none, none, none, none, none, none]) (dk dt_X12_looksAt 16 rfl) (Nat.le_of_ble_eq_true rfl) rfl ?_
    refine v_iconst (pc := 26) (dk dt_X12_looksAt 17 rfl) ⟨by decide, by decide⟩ ?_
    refine v_istore (pc := 27) (ls' := [some (rv l0), some (iv l1), some (iv l2), some (iv l3), some (iv (gel G (gfd G 12 21 l0) l1)), some (iv (l3 - (gel G (gfd G 12 21 l0) (l1 + 2)))), some (iv (-1)), none, none, none, none, none, none, none, none, none, none, none, none, none, none, none, none, none, none, none, none]) (dk dt_X12_looksAt 18 rfl) (Nat.le_of_ble_eq_true rfl) rfl ?_
    refine v_iconst (pc := 29) (dk dt_X12_looksAt 19 rfl) ⟨by decide, by decide⟩ ?_
    refine v_istore (pc := 30) (ls' := [some (rv l0), some (iv l1), some (iv l2), some (iv l3), some (iv (gel G (gfd G 12 21 l0) l1)), some (iv (l3 - (gel G (gfd G 12 21 l0) (l1 + 2)))), some (iv (-1)), some (iv 0), none, none, none, none, none, none, none, none, none, none, none, none, none, none, none, none, none, none, none]) (dk dt_X12_looksAt 20 rfl) (Nat.le_of_ble_eq_true rfl) rfl ?_
    exact v_less2 (ls' := [some (rv l0), none, some (iv l2), none, none, some (iv (l3 - (gel G (gfd G 12 21 l0) (l1 + 2)))), some (iv (-1)), some (iv 0), none, none, none, none, none, none, none, none, none, none, none, none, none, none, none, none, none, none, none]) ⟨rfl, rfl, rfl, rfl, rfl, trivial⟩ h
set_option maxRecDepth 20000 in
theorem i_X12_looksAt {E : EE} {l0 l1 l2 l3 : Int} {G : Gt} {c s : Nat} {Q X : Int → Gt → Prop} (h : (gcl G l0 = 13 ∧ gcl G (gfd G 12 21 l0) = 15 ∧ 0 ≤ l1 ∧ l1 < gln G (gfd G 12 21 l0) ∧ (((gel G (gfd G 12 21 l0) l1) ≠ 1 → (gcl G l0 = 13 ∧ i32 (l1 + 2) ∧ gcl G (gfd G 12 21 l0) = 15 ∧ 0 ≤ (l1 + 2) ∧ (l1 + 2) < gln G (gfd G 12 21 l0) ∧ i32 (l3 - (gel G (gfd G 12 21 l0) (l1 + 2))) ∧ ((-1) < (l3 - (gel G (gfd G 12 21 l0) (l1 + 2))) → i32 (l3 - (gel G (gfd G 12 21 l0) (l1 + 2)))) ∧ gcl G l0 = 13 ∧ Call E M_X12_nextTime [rv l0, iv l2, iv (if (l3 - (gel G (gfd G 12 21 l0) (l1 + 2))) ≤ (-1) then ((-1) : Int) else (l3 - (gel G (gfd G 12 21 l0) (l1 + 2))))] G c s X (fun r15 G16 c17 s18 => V E M_X12_looksAt 231 [some (rv l0), none, some (iv l2), some (iv l3), some (iv (gel G (gfd G 12 21 l0) l1)), some (iv (gel G (gfd G 12 21 l0) (l1 + 2))), some (iv 0), some (jv 0), none, some (jv 0), none, some (jv 0), none, some (jv 0), none, some (jv 0), none, some (iv 0), some (iv 0), some (iv 0), some (iv r15), none, none, none, none, none, none] [] G16 c17 s18 Q X))) ∧ ((gel G (gfd G 12 21 l0) l1) = 1 → (gcl G l0 = 13 ∧ i32 (l1 + 2) ∧ gcl G (gfd G 12 21 l0) = 15 ∧ 0 ≤ (l1 + 2) ∧ (l1 + 2) < gln G (gfd G 12 21 l0) ∧ i32 (l3 - (gel G (gfd G 12 21 l0) (l1 + 2))) ∧ V E M_X12_looksAt 32 [some (rv l0), none, some (iv l2), none, none, some (iv (l3 - (gel G (gfd G 12 21 l0) (l1 + 2)))), some (iv (-1)), some (iv 0), none, none, none, none, none, none, none, none, none, none, none, none, none, none, none, none, none, none, none] [] G c s Q X))))) : Ok E M_X12_looksAt [rv l0, iv l1, iv l2, iv l3] G c s Q X := Ok.intro (k := 23) rfl rfl (Nat.le_of_ble_eq_true rfl) rfl (b_X12_looksAt_0 h)
set_option maxRecDepth 20000 in
theorem b_X12_looksAt_32 {E : EE} {l0 l2 l5 l6 l7 : Int} {G : Gt} {c s : Nat} {Q X : Int → Gt → Prop} (h : (gcl G l0 = 13 ∧ (((gfd G 12 12 l0) ≤ l7 → ((l6 = (-1) → Q 0 G) ∧ (l6 ≠ (-1) → (gcl G l0 = 13 ∧ gcl G (gfd G 12 9 l0) = 15 ∧ 0 ≤ l6 ∧ l6 < gln G (gfd G 12 9 l0) ∧ (((gel G (gfd G 12 9 l0) l6) = (-2147483648) → Q 0 G) ∧ ((gel G (gfd G 12 9 l0) l6) ≠ (-2147483648) → (gcl G l0 = 13 ∧ OkP E M_X12_codeOfSeries [rv l0, iv l2] G (mCode G l0 l2) ∧ gcl G l0 = 13 ∧ gcl G (gfd G 12 9 l0) = 15 ∧ 0 ≤ l6 ∧ l6 < gln G (gfd G 12 9 l0) ∧ i64 (1000 * (gel G (gfd G 12 9 l0) l6)) ∧ gcl G l0 = 13 ∧ Call E M_X12_add [rv l0, iv (mCode G l0 l2), jv (1000 * (gel G (gfd G 12 9 l0) l6))] G c s X (fun r17 G18 c19 s20 => Q 0 G18)))))))) ∧ (l7 < (gfd G 12 12 l0) → (gcl G l0 = 13 ∧ OkP E M_X12_isSeen [rv l0, iv l7] G (mSeen G l0 l7) ∧ ((mSeen G l0 l7) ≠ 0 → gcl G l0 = 13) ∧ ((mSeen G l0 l7) ≠ 0 → gcl G (gfd G 12 7 l0) = 15) ∧ ((mSeen G l0 l7) ≠ 0 → 0 ≤ l7) ∧ ((mSeen G l0 l7) ≠ 0 → l7 < gln G (gfd G 12 7 l0)) ∧ ((mSeen G l0 l7) ≠ 0 → (gel G (gfd G 12 7 l0) l7) = l2 → gcl G l0 = 13) ∧ ((mSeen G l0 l7) ≠ 0 → (gel G (gfd G 12 7 l0) l7) = l2 → gcl G (gfd G 12 8 l0) = 15) ∧ ((mSeen G l0 l7) ≠ 0 → (gel G (gfd G 12 7 l0) l7) = l2 → 0 ≤ l7) ∧ ((mSeen G l0 l7) ≠ 0 → (gel G (gfd G 12 7 l0) l7) = l2 → l7 < gln G (gfd G 12 8 l0)) ∧ ((mSeen G l0 l7) ≠ 0 → (gel G (gfd G 12 7 l0) l7) = l2 → i32 (l5 - 50)) ∧ ((mSeen G l0 l7) ≠ 0 → (gel G (gfd G 12 7 l0) l7) = l2 → OkP E M_X12_in [iv (gel G (gfd G 12 8 l0) l7), iv (l5 - 50), iv l5] G (wIn (gel G (gfd G 12 8 l0) l7) (l5 - 50) l5)) ∧ ((if (mSeen G l0 l7) = 0 then (0 : Int) else (if (gel G (gfd G 12 7 l0) l7) = l2 then ((if (wIn (gel G (gfd G 12 8 l0) l7) (l5 - 50) l5) = 0 then (0 : Int) else 1) : Int) else 0)) ≠ 0 → l6 ≠ (-1) → gcl G l0 = 13) ∧ ((if (mSeen G l0 l7) = 0 then (0 : Int) else (if (gel G (gfd G 12 7 l0) l7) = l2 then ((if (wIn (gel G (gfd G 12 8 l0) l7) (l5 - 50) l5) = 0 then (0 : Int) else 1) : Int) else 0)) ≠ 0 → l6 ≠ (-1) → gcl G (gfd G 12 8 l0) = 15) ∧ ((if (mSeen G l0 l7) = 0 then (0 : Int) else (if (gel G (gfd G 12 7 l0) l7) = l2 then ((if (wIn (gel G (gfd G 12 8 l0) l7) (l5 - 50) l5) = 0 then (0 : Int) else 1) : Int) else 0)) ≠ 0 → l6 ≠ (-1) → 0 ≤ l7) ∧ ((if (mSeen G l0 l7) = 0 then (0 : Int) else (if (gel G (gfd G 12 7 l0) l7) = l2 then ((if (wIn (gel G (gfd G 12 8 l0) l7) (l5 - 50) l5) = 0 then (0 : Int) else 1) : Int) else 0)) ≠ 0 → l6 ≠ (-1) → l7 < gln G (gfd G 12 8 l0)) ∧ ((if (mSeen G l0 l7) = 0 then (0 : Int) else (if (gel G (gfd G 12 7 l0) l7) = l2 then ((if (wIn (gel G (gfd G 12 8 l0) l7) (l5 - 50) l5) = 0 then (0 : Int) else 1) : Int) else 0)) ≠ 0 → l6 ≠ (-1) → gcl G l0 = 13) ∧ ((if (mSeen G l0 l7) = 0 then (0 : Int) else (if (gel G (gfd G 12 7 l0) l7) = l2 then ((if (wIn (gel G (gfd G 12 8 l0) l7) (l5 - 50) l5) = 0 then (0 : Int) else 1) : Int) else 0)) ≠ 0 → l6 ≠ (-1) → gcl G (gfd G 12 8 l0) = 15) ∧ ((if (mSeen G l0 l7) = 0 then (0 : Int) else (if (gel G (gfd G 12 7 l0) l7) = l2 then ((if (wIn (gel G (gfd G 12 8 l0) l7) (l5 - 50) l5) = 0 then (0 : Int) else 1) : Int) else 0)) ≠ 0 → l6 ≠ (-1) → 0 ≤ l6) ∧ ((if (mSeen G l0 l7) = 0 then (0 : Int) else (if (gel G (gfd G 12 7 l0) l7) = l2 then ((if (wIn (gel G (gfd G 12 8 l0) l7) (l5 - 50) l5) = 0 then (0 : Int) else 1) : Int) else 0)) ≠ 0 → l6 ≠ (-1) → l6 < gln G (gfd G 12 8 l0)) ∧ i32 (l7 + 1) ∧ V E M_X12_looksAt 32 [some (rv l0), none, some (iv l2), none, none, some (iv l5), some (iv (if (if (mSeen G l0 l7) = 0 then (0 : Int) else (if (gel G (gfd G 12 7 l0) l7) = l2 then ((if (wIn (gel G (gfd G 12 8 l0) l7) (l5 - 50) l5) = 0 then (0 : Int) else 1) : Int) else 0)) = 0 then (l6 : Int) else (if l6 = (-1) then (l7 : Int) else (if (gel G (gfd G 12 8 l0) l7) ≤ (gel G (gfd G 12 8 l0) l6) then (l6 : Int) else l7)))), some (iv (l7 + 1)), none, none, none, none, none, none, none, none, none, none, none, none, none, none, none, none, none, none, none] [] G c s Q X))))) : V E M_X12_looksAt 32 [some (rv l0), none, some (iv l2), none, none, some (iv l5), some (iv l6), some (iv l7), none, none, none, none, none, none, none, none, none, none, none, none, none, none, none, none, none, none, none] [] G c s Q X := by
  refine v_iload (pc := 32) (dk dt_X12_looksAt 21 rfl) rfl ?_
  refine v_aload_n (pc := 34) (dk dt_X12_looksAt 22 rfl) rfl rfl ?_
  obtain ⟨v1, h⟩ := h
  refine v_getI (pc := 35) (dk dt_X12_looksAt 23 rfl) fl_X12_154 v1 (fun _ => ?_)
  refine v_icmp_ge (pc := 38) (tgt := 131) (dk dt_X12_looksAt 24 rfl) (by decide) (fun c2 => ?_) (fun c2 => ?_)
  · replace h := h.1 c2
    refine v_iload (pc := 131) (dk dt_X12_looksAt_1 29 rfl) rfl ?_
    refine v_iconst (pc := 133) (dk dt_X12_looksAt_1 30 rfl) ⟨by decide, by decide⟩ ?_
    refine v_icmp_eq (pc := 134) (tgt := 170) (dk dt_X12_looksAt_1 31 rfl) (by decide) (fun c3 => ?_) (fun c3 => ?_)
    · replace h := h.1 c3
      exact v_vret (pc := 170) (dk dt_X12_looksAt_2 10 rfl) rfl h
    · replace h := h.2 c3
      refine v_aload_n (pc := 137) (dk dt_X12_looksAt_1 32 rfl) rfl rfl ?_
      obtain ⟨v4, h⟩ := h
      refine v_getR (pc := 138) (dk dt_X12_looksAt_1 33 rfl) fl_X12_32 v4 (fun _ => ?_)
      refine v_iload (pc := 141) (dk dt_X12_looksAt_1 34 rfl) rfl ?_
      obtain ⟨v5, h⟩ := h
      obtain ⟨v6, h⟩ := h
      obtain ⟨v7, h⟩ := h
      refine v_iald (pc := 143) (dk dt_X12_looksAt_1 35 rfl) (Or.inl v5) v6 v7 (fun _ => ?_)
      refine v_ldc (pc := 144) (dk dt_X12_looksAt_1 36 rfl) co_X12_179 ⟨by decide, by decide⟩ ?_
      refine v_icmp_eq (pc := 146) (tgt := 170) (dk dt_X12_looksAt_1 37 rfl) (by decide) (fun c8 => ?_) (fun c8 => ?_)
      · replace h := h.1 c8
        exact v_vret (pc := 170) (dk dt_X12_looksAt_2 10 rfl) rfl h
      · replace h := h.2 c8
        refine v_aload_n (pc := 149) (dk dt_X12_looksAt_1 38 rfl) rfl rfl ?_
        refine v_aload_n (pc := 150) (dk dt_X12_looksAt_1 39 rfl) rfl rfl ?_
        refine v_iload_n (pc := 151) (dk dt_X12_looksAt_2 0 rfl) rfl rfl ?_
        obtain ⟨v9, h⟩ := h
        obtain ⟨v10, h⟩ := h
        refine v_cvPI (c := 12) (v := (mCode G l0 l2)) (As := [iv l2]) (stk := [rv l0]) (pc := 152) (dk dt_X12_looksAt_2 1 rfl) ml_X12_134 rfl rfl (Nat.le_of_ble_eq_true rfl) rfl ⟨by decide, rfl⟩ v9 rfl v10 ?_
        refine v_ldc2 (pc := 155) (dk dt_X12_looksAt_2 2 rfl) co_X12_244 ⟨by decide, by decide⟩ ?_
        refine v_aload_n (pc := 158) (dk dt_X12_looksAt_2 3 rfl) rfl rfl ?_
        obtain ⟨v11, h⟩ := h
        refine v_getR (pc := 159) (dk dt_X12_looksAt_2 4 rfl) fl_X12_32 v11 (fun _ => ?_)
        refine v_iload (pc := 162) (dk dt_X12_looksAt_2 5 rfl) rfl ?_
        obtain ⟨v12, h⟩ := h
        obtain ⟨v13, h⟩ := h
        obtain ⟨v14, h⟩ := h
        refine v_iald (pc := 164) (dk dt_X12_looksAt_2 6 rfl) (Or.inl v12) v13 v14 (fun _ => ?_)
        refine v_i2l (pc := 165) (dk dt_X12_looksAt_2 7 rfl) ?_
        obtain ⟨v15, h⟩ := h
        refine v_lmul (pc := 166) (dk dt_X12_looksAt_2 8 rfl) v15 ?_
        obtain ⟨v16, h⟩ := h
        refine v_cvV (c := 12) (As := [iv (mCode G l0 l2), jv (1000 * (gel G (gfd G 12 9 l0) l6))]) (stk := []) (pc := 167) (dk dt_X12_looksAt_2 9 rfl) ml_X12_246 rfl rfl (Nat.le_of_ble_eq_true rfl) rfl ⟨by decide, rfl⟩ v16 rfl (Call.mono h (fun r17 G18 c19 s20 h => ?_))
        exact v_vret (pc := 170) (dk dt_X12_looksAt_2 10 rfl) rfl h
  · replace h := h.2 c2
    refine v_aload_n (pc := 41) (dk dt_X12_looksAt 25 rfl) rfl rfl ?_
    refine v_iload (pc := 42) (dk dt_X12_looksAt 26 rfl) rfl ?_
    obtain ⟨v21, h⟩ := h
    obtain ⟨v22, h⟩ := h
    refine v_cvPZ (c := 12) (v := (mSeen G l0 l7)) (As := [iv l7]) (stk := []) (pc := 44) (dk dt_X12_looksAt 27 rfl) ml_X12_157 rfl rfl (Nat.le_of_ble_eq_true rfl) rfl ⟨by decide, rfl⟩ v21 rfl v22 ?_
    obtain ⟨v24, v25, v26, v27, v29, v30, v31, v32, v33, v34, h⟩ := h
    suffices k48 : V E M_X12_looksAt 86 [some (rv l0), none, some (iv l2), none, none, some (iv l5), some (iv l6), some (iv l7), none, none, none, none, none, none, none, none, none, none, none, none, none, none, none, none, none, none, none] [iv (if (mSeen G l0 l7) = 0 then (0 : Int) else (if (gel G (gfd G 12 7 l0) l7) = l2 then ((if (wIn (gel G (gfd G 12 8 l0) l7) (l5 - 50) l5) = 0 then (0 : Int) else 1) : Int) else 0))] G c s Q X by
      refine v_if_eq (pc := 47) (tgt := 85) (dk dt_X12_looksAt 28 rfl) (by decide) (fun c23 => ?_) (fun c23 => ?_)
      · refine v_iconst (pc := 85) (dk dt_X12_looksAt_1 7 rfl) ⟨by decide, by decide⟩ ?_
        exact v_less2 (ls' := [some (rv l0), none, some (iv l2), none, none, some (iv l5), some (iv l6), some (iv l7), none, none, none, none, none, none, none, none, none, none, none, none, none, none, none, none, none, none, none]) ⟨rfl, rfl, rfl, rfl, rfl, trivial⟩ (by have hk9 := k48; try simp only [if_pos c23] at hk9 ⊢; exact hk9)
      · refine v_aload_n (pc := 50) (dk dt_X12_looksAt 29 rfl) rfl rfl ?_
        refine v_getR (pc := 51) (dk dt_X12_looksAt 30 rfl) fl_X12_26 (v24 c23) (fun _ => ?_)
        refine v_iload (pc := 54) (dk dt_X12_looksAt 31 rfl) rfl ?_
        refine v_iald (pc := 56) (dk dt_X12_looksAt 32 rfl) (Or.inl (v25 c23)) (v26 c23) (v27 c23) (fun _ => ?_)
        refine v_iload_n (pc := 57) (dk dt_X12_looksAt 33 rfl) rfl rfl ?_
        refine v_icmp_ne (pc := 58) (tgt := 85) (dk dt_X12_looksAt 34 rfl) (by decide) (fun c28 => ?_) (fun c28 => ?_)
        · refine v_iconst (pc := 85) (dk dt_X12_looksAt_1 7 rfl) ⟨by decide, by decide⟩ ?_
          exact v_less2 (ls' := [some (rv l0), none, some (iv l2), none, none, some (iv l5), some (iv l6), some (iv l7), none, none, none, none, none, none, none, none, none, none, none, none, none, none, none, none, none, none, none]) ⟨rfl, rfl, rfl, rfl, rfl, trivial⟩ (by have hk9 := k48; try simp only [if_neg c23] at hk9 ⊢; try simp only [if_neg c28] at hk9 ⊢; exact hk9)
        · refine v_aload_n (pc := 61) (dk dt_X12_looksAt 35 rfl) rfl rfl ?_
          refine v_getR (pc := 62) (dk dt_X12_looksAt 36 rfl) fl_X12_29 (v29 c23 c28) (fun _ => ?_)
          refine v_iload (pc := 65) (dk dt_X12_looksAt 37 rfl) rfl ?_
          refine v_iald (pc := 67) (dk dt_X12_looksAt 38 rfl) (Or.inl (v30 c23 c28)) (v31 c23 c28) (v32 c23 c28) (fun _ => ?_)
          refine v_iload (pc := 68) (dk dt_X12_looksAt 39 rfl) rfl ?_
          refine v_bipush (pc := 70) (dk dt_X12_looksAt_1 0 rfl) (by decide) ⟨by decide, by decide⟩ ?_
          refine v_isub (pc := 72) (dk dt_X12_looksAt_1 1 rfl) (v33 c23 c28) ?_
          refine v_iload (pc := 73) (dk dt_X12_looksAt_1 2 rfl) rfl ?_
          refine v_csPZ (v := (wIn (gel G (gfd G 12 8 l0) l7) (l5 - 50) l5)) (As := [iv (gel G (gfd G 12 8 l0) l7), iv (l5 - 50), iv l5]) (stk := []) (pc := 75) (dk dt_X12_looksAt_1 3 rfl) ml_X12_172 rfl rfl (Nat.le_of_ble_eq_true rfl) rfl rfl (v34 c23 c28) ?_
          refine v_if_eq (pc := 78) (tgt := 85) (dk dt_X12_looksAt_1 4 rfl) (by decide) (fun c35 => ?_) (fun c35 => ?_)
          · refine v_iconst (pc := 85) (dk dt_X12_looksAt_1 7 rfl) ⟨by decide, by decide⟩ ?_
            exact v_less2 (ls' := [some (rv l0), none, some (iv l2), none, none, some (iv l5), some (iv l6), some (iv l7), none, none, none, none, none, none, none, none, none, none, none, none, none, none, none, none, none, none, none]) ⟨rfl, rfl, rfl, rfl, rfl, trivial⟩ (by have hk9 := k48; try simp only [if_neg c23] at hk9 ⊢; try simp only [if_pos c28] at hk9 ⊢; try simp only [if_pos c35] at hk9 ⊢; exact hk9)
          · refine v_iconst (pc := 81) (dk dt_X12_looksAt_1 5 rfl) ⟨by decide, by decide⟩ ?_
            refine v_goto (pc := 82) (tgt := 86) (dk dt_X12_looksAt_1 6 rfl) (by decide) ?_
            exact v_less2 (ls' := [some (rv l0), none, some (iv l2), none, none, some (iv l5), some (iv l6), some (iv l7), none, none, none, none, none, none, none, none, none, none, none, none, none, none, none, none, none, none, none]) ⟨rfl, rfl, rfl, rfl, rfl, trivial⟩ (by have hk9 := k48; try simp only [if_neg c23] at hk9 ⊢; try simp only [if_pos c28] at hk9 ⊢; try simp only [if_neg c35] at hk9 ⊢; exact hk9)
    refine v_istore (pc := 86) (ls' := [some (rv l0), none, some (iv l2), none, none, some (iv l5), some (iv l6), some (iv l7), some (iv (if (mSeen G l0 l7) = 0 then (0 : Int) else (if (gel G (gfd G 12 7 l0) l7) = l2 then ((if (wIn (gel G (gfd G 12 8 l0) l7) (l5 - 50) l5) = 0 then (0 : Int) else 1) : Int) else 0))), none, none, none, none, none, none, none, none, none, none, none, none, none, none, none, none, none, none]) (dk dt_X12_looksAt_1 8 rfl) (Nat.le_of_ble_eq_true rfl) rfl ?_
    refine v_iload (pc := 88) (dk dt_X12_looksAt_1 9 rfl) rfl ?_
    obtain ⟨v38, v39, v40, v41, v42, v43, v44, v45, h⟩ := h
    suffices k49 : V E M_X12_looksAt 123 [some (rv l0), none, some (iv l2), none, none, some (iv l5), none, some (iv l7), none, none, none, none, none, none, none, none, none, none, none, none, none, none, none, none, none, none, none] [iv (if (if (mSeen G l0 l7) = 0 then (0 : Int) else (if (gel G (gfd G 12 7 l0) l7) = l2 then ((if (wIn (gel G (gfd G 12 8 l0) l7) (l5 - 50) l5) = 0 then (0 : Int) else 1) : Int) else 0)) = 0 then (l6 : Int) else (if l6 = (-1) then (l7 : Int) else (if (gel G (gfd G 12 8 l0) l7) ≤ (gel G (gfd G 12 8 l0) l6) then (l6 : Int) else l7)))] G c s Q X by
      refine v_if_eq (pc := 90) (tgt := 121) (dk dt_X12_looksAt_1 10 rfl) (by decide) (fun c36 => ?_) (fun c36 => ?_)
      · refine v_iload (pc := 121) (dk dt_X12_looksAt_1 25 rfl) rfl ?_
        exact v_less2 (ls' := [some (rv l0), none, some (iv l2), none, none, some (iv l5), none, some (iv l7), none, none, none, none, none, none, none, none, none, none, none, none, none, none, none, none, none, none, none]) ⟨rfl, rfl, rfl, rfl, trivial⟩ (by have hk9 := k49; try simp only [if_pos c36] at hk9 ⊢; exact hk9)
      · refine v_iload (pc := 93) (dk dt_X12_looksAt_1 11 rfl) rfl ?_
        refine v_iconst (pc := 95) (dk dt_X12_looksAt_1 12 rfl) ⟨by decide, by decide⟩ ?_
        refine v_icmp_eq (pc := 96) (tgt := 116) (dk dt_X12_looksAt_1 13 rfl) (by decide) (fun c37 => ?_) (fun c37 => ?_)
        · refine v_iload (pc := 116) (dk dt_X12_looksAt_1 23 rfl) rfl ?_
          refine v_goto (pc := 118) (tgt := 123) (dk dt_X12_looksAt_1 24 rfl) (by decide) ?_
          exact v_less2 (ls' := [some (rv l0), none, some (iv l2), none, none, some (iv l5), none, some (iv l7), none, none, none, none, none, none, none, none, none, none, none, none, none, none, none, none, none, none, none]) ⟨rfl, rfl, rfl, rfl, trivial⟩ (by have hk9 := k49; try simp only [if_neg c36] at hk9 ⊢; try simp only [if_pos c37] at hk9 ⊢; exact hk9)
        · refine v_aload_n (pc := 99) (dk dt_X12_looksAt_1 14 rfl) rfl rfl ?_
          refine v_getR (pc := 100) (dk dt_X12_looksAt_1 15 rfl) fl_X12_29 (v38 c36 c37) (fun _ => ?_)
          refine v_iload (pc := 103) (dk dt_X12_looksAt_1 16 rfl) rfl ?_
          refine v_iald (pc := 105) (dk dt_X12_looksAt_1 17 rfl) (Or.inl (v39 c36 c37)) (v40 c36 c37) (v41 c36 c37) (fun _ => ?_)
          refine v_aload_n (pc := 106) (dk dt_X12_looksAt_1 18 rfl) rfl rfl ?_
          refine v_getR (pc := 107) (dk dt_X12_looksAt_1 19 rfl) fl_X12_29 (v42 c36 c37) (fun _ => ?_)
          refine v_iload (pc := 110) (dk dt_X12_looksAt_1 20 rfl) rfl ?_
          refine v_iald (pc := 112) (dk dt_X12_looksAt_1 21 rfl) (Or.inl (v43 c36 c37)) (v44 c36 c37) (v45 c36 c37) (fun _ => ?_)
          refine v_icmp_le (pc := 113) (tgt := 121) (dk dt_X12_looksAt_1 22 rfl) (by decide) (fun c46 => ?_) (fun c46 => ?_)
          · refine v_iload (pc := 121) (dk dt_X12_looksAt_1 25 rfl) rfl ?_
            exact v_less2 (ls' := [some (rv l0), none, some (iv l2), none, none, some (iv l5), none, some (iv l7), none, none, none, none, none, none, none, none, none, none, none, none, none, none, none, none, none, none, none]) ⟨rfl, rfl, rfl, rfl, trivial⟩ (by have hk9 := k49; try simp only [if_neg c36] at hk9 ⊢; try simp only [if_neg c37] at hk9 ⊢; try simp only [if_pos c46] at hk9 ⊢; exact hk9)
          · refine v_iload (pc := 116) (dk dt_X12_looksAt_1 23 rfl) rfl ?_
            refine v_goto (pc := 118) (tgt := 123) (dk dt_X12_looksAt_1 24 rfl) (by decide) ?_
            exact v_less2 (ls' := [some (rv l0), none, some (iv l2), none, none, some (iv l5), none, some (iv l7), none, none, none, none, none, none, none, none, none, none, none, none, none, none, none, none, none, none, none]) ⟨rfl, rfl, rfl, rfl, trivial⟩ (by have hk9 := k49; try simp only [if_neg c36] at hk9 ⊢; try simp only [if_neg c37] at hk9 ⊢; try simp only [if_neg (Int.not_le.mpr c46)] at hk9 ⊢; exact hk9)
    refine v_istore (pc := 123) (ls' := [some (rv l0), none, some (iv l2), none, none, some (iv l5), some (iv (if (if (mSeen G l0 l7) = 0 then (0 : Int) else (if (gel G (gfd G 12 7 l0) l7) = l2 then ((if (wIn (gel G (gfd G 12 8 l0) l7) (l5 - 50) l5) = 0 then (0 : Int) else 1) : Int) else 0)) = 0 then (l6 : Int) else (if l6 = (-1) then (l7 : Int) else (if (gel G (gfd G 12 8 l0) l7) ≤ (gel G (gfd G 12 8 l0) l6) then (l6 : Int) else l7)))), some (iv l7), none, none, none, none, none, none, none, none, none, none, none, none, none, none, none, none, none, none, none]) (dk dt_X12_looksAt_1 26 rfl) (Nat.le_of_ble_eq_true rfl) rfl ?_
    obtain ⟨v47, h⟩ := h
    refine v_iinc (pc := 125) (ls' := [some (rv l0), none, some (iv l2), none, none, some (iv l5), some (iv (if (if (mSeen G l0 l7) = 0 then (0 : Int) else (if (gel G (gfd G 12 7 l0) l7) = l2 then ((if (wIn (gel G (gfd G 12 8 l0) l7) (l5 - 50) l5) = 0 then (0 : Int) else 1) : Int) else 0)) = 0 then (l6 : Int) else (if l6 = (-1) then (l7 : Int) else (if (gel G (gfd G 12 8 l0) l7) ≤ (gel G (gfd G 12 8 l0) l6) then (l6 : Int) else l7)))), some (iv (l7 + 1)), none, none, none, none, none, none, none, none, none, none, none, none, none, none, none, none, none, none, none]) (dk dt_X12_looksAt_1 27 rfl) (Nat.le_of_ble_eq_true rfl) rfl v47 rfl ?_
    refine v_goto (pc := 128) (tgt := 32) (dk dt_X12_looksAt_1 28 rfl) (by decide) ?_
    exact h
set_option maxRecDepth 20000 in
theorem b_X12_looksAt_231 {E : EE} {l0 l2 l3 l4 l5 l6 l7 l9 l11 l13 l15 l17 l18 l19 l20 : Int} {G : Gt} {c s : Nat} {Q X : Int → Gt → Prop} (h : (∀ J1 : Prop, ((∀ J2 : Prop, (((l4 = 7 → Q 0 G) ∧ (l4 ≠ 7 → ((l6 ≤ 0 → Q 0 G) ∧ (0 < l6 → (gcl G l0 = 13 ∧ OkP E M_X12_codeOfSeries [rv l0, iv l2] G (mCode G l0 l2) ∧ (l4 ≠ 6 → l4 ≠ 2 → l4 ≠ 3 → l4 ≠ 4 → i64 (1000 * l11)) ∧ (l4 ≠ 6 → l4 ≠ 2 → l4 ≠ 3 → l4 = 4 → i64 (1000 * l9)) ∧ (l4 ≠ 6 → l4 ≠ 2 → l4 = 3 → i64 (1000 * l7)) ∧ (l4 ≠ 6 → l4 = 2 → i64 (1000 * l6)) ∧ gcl G l0 = 13 ∧ Call E M_X12_add [rv l0, iv (mCode G l0 l2), jv (if l4 = 6 then (l13 : Int) else (if l4 = 2 then ((1000 * l6) : Int) else (if l4 = 3 then ((1000 * l7) : Int) else (if l4 = 4 then ((1000 * l9) : Int) else (1000 * l11)))))] G c s X (fun r16 G17 c18 s19 => Q 0 G17)))))) → J2) → ((l4 ≠ 7 → J2) ∧ (l4 = 7 → ((l6 ≤ 1 → J2) ∧ (1 < l6 → (i32 (l19 - l17) ∧ i32 (l6 - 1) ∧ (l6 - 1) ≠ 0 ∧ i64 (Int.tdiv (l19 - l17) (l6 - 1)) ∧ i32 (l3 - l5) ∧ i32 (l17 - (l3 - l5)) ∧ OkP E M_X12_least [jv (Int.tdiv (Int.tdiv (l19 - l17) (l6 - 1)) 2), jv (l17 - (l3 - l5))] G (min (Int.tdiv (Int.tdiv (l19 - l17) (l6 - 1)) 2) (l17 - (l3 - l5))) ∧ i64 ((l19 - l17) + (min (Int.tdiv (Int.tdiv (l19 - l17) (l6 - 1)) 2) (l17 - (l3 - l5)))) ∧ i32 (l3 - l19) ∧ OkP E M_X12_least [jv (Int.tdiv (Int.tdiv (l19 - l17) (l6 - 1)) 2), jv (l3 - l19)] G (min (Int.tdiv (Int.tdiv (l19 - l17) (l6 - 1)) 2) (l3 - l19)) ∧ i64 (((l19 - l17) + (min (Int.tdiv (Int.tdiv (l19 - l17) (l6 - 1)) 2) (l17 - (l3 - l5)))) + (min (Int.tdiv (Int.tdiv (l19 - l17) (l6 - 1)) 2) (l3 - l19))) ∧ gcl G l0 = 13 ∧ OkP E M_X12_codeOfSeries [rv l0, iv l2] G (mCode G l0 l2) ∧ i64 (1000 * l15) ∧ i64 ((1000 * l15) * (((l19 - l17) + (min (Int.tdiv (Int.tdiv (l19 - l17) (l6 - 1)) 2) (l17 - (l3 - l5)))) + (min (Int.tdiv (Int.tdiv (l19 - l17) (l6 - 1)) 2) (l3 - l19)))) ∧ i64 ((l19 - l17) * l5) ∧ ((l19 - l17) * l5) ≠ 0 ∧ i64 (Int.tdiv ((1000 * l15) * (((l19 - l17) + (min (Int.tdiv (Int.tdiv (l19 - l17) (l6 - 1)) 2) (l17 - (l3 - l5)))) + (min (Int.tdiv (Int.tdiv (l19 - l17) (l6 - 1)) 2) (l3 - l19)))) ((l19 - l17) * l5)) ∧ gcl G l0 = 13 ∧ Call E M_X12_add [rv l0, iv (mCode G l0 l2), jv (Int.tdiv ((1000 * l15) * (((l19 - l17) + (min (Int.tdiv (Int.tdiv (l19 - l17) (l6 - 1)) 2) (l17 - (l3 - l5)))) + (min (Int.tdiv (Int.tdiv (l19 - l17) (l6 - 1)) 2) (l3 - l19)))) ((l19 - l17) * l5))] G c s X (fun r41 G42 c43 s44 => Q 0 G42))))))) → J1) → ((l20 = (-1) → J1) ∧ (l20 ≠ (-1) → ((l3 < l20 → J1) ∧ (l20 ≤ l3 → (gcl G l0 = 13 ∧ Call E M_X12_valueAt [rv l0, iv l2, iv l20] G c s X (fun r48 G49 c50 s51 => ((r48 = (-2147483648) → (gcl G49 l0 = 13 ∧ Call E M_X12_nextTime [rv l0, iv l2, iv l20] G49 c50 s51 X (fun r54 G55 c56 s57 => V E M_X12_looksAt 231 [some (rv l0), none, some (iv l2), some (iv l3), some (iv l4), some (iv l5), some (iv l6), some (jv l7), none, some (jv l9), none, some (jv l11), none, some (jv l13), none, some (jv l15), none, some (iv l17), some (iv l18), some (iv l19), some (iv r54), none, none, none, none, none, none] [] G55 c56 s57 Q X))) ∧ (r48 ≠ (-2147483648) → (i64 (l7 + r48) ∧ (l6 ≠ 0 → i64 (1000 * r48)) ∧ (l6 ≠ 0 → i64 ((1000 * r48) - l13)) ∧ (l6 ≠ 0 → i64 (l13 + (Int.tdiv ((1000 * r48) - l13) 2))) ∧ (l6 = 0 → i64 (1000 * r48)) ∧ (l6 ≠ 0 → l18 ≤ r48 → i32 (r48 - l18)) ∧ i64 (l15 + (if l6 = 0 then (0 : Int) else (if r48 < l18 then ((if r48 ≤ 0 then (0 : Int) else r48) : Int) else (r48 - l18)))) ∧ i32 (l6 + 1) ∧ gcl G49 l0 = 13 ∧ Call E M_X12_nextTime [rv l0, iv l2, iv l20] G49 c50 s51 X (fun r76 G77 c78 s79 => V E M_X12_looksAt 231 [some (rv l0), none, some (iv l2), some (iv l3), some (iv l4), some (iv l5), some (iv (l6 + 1)), some (jv (l7 + r48)), none, some (jv (if l6 = 0 then (r48 : Int) else (if l9 ≤ r48 then (l9 : Int) else r48))), none, some (jv (if l6 = 0 then (r48 : Int) else (if r48 ≤ l11 then (l11 : Int) else r48))), none, some (jv (if l6 = 0 then ((1000 * r48) : Int) else (l13 + (Int.tdiv ((1000 * r48) - l13) 2)))), none, some (jv (l15 + (if l6 = 0 then (0 : Int) else (if r48 < l18 then ((if r48 ≤ 0 then (0 : Int) else r48) : Int) else (r48 - l18))))), none, some (iv (if l6 = 0 then (l20 : Int) else l17)), some (iv r48), some (iv l20), some (iv r76), none, none, none, none, none, none] [] G77 c78 s79 Q X)))))))))))) : V E M_X12_looksAt 231 [some (rv l0), none, some (iv l2), some (iv l3), some (iv l4), some (iv l5), some (iv l6), some (jv l7), none, some (jv l9), none, some (jv l11), none, some (jv l13), none, some (jv l15), none, some (iv l17), some (iv l18), some (iv l19), some (iv l20), none, none, none, none, none, none] [] G c s Q X := by
  refine v_iload (pc := 231) (dk dt_X12_looksAt_3 10 rfl) rfl ?_
  refine v_iconst (pc := 233) (dk dt_X12_looksAt_3 11 rfl) ⟨by decide, by decide⟩ ?_
  obtain ⟨J1, dJ1⟩ : ∃ J9 : Prop, J9 = V E M_X12_looksAt 428 [some (rv l0), none, some (iv l2), some (iv l3), some (iv l4), some (iv l5), some (iv l6), some (jv l7), none, some (jv l9), none, some (jv l11), none, some (jv l13), none, some (jv l15), none, some (iv l17), none, some (iv l19), none, none, none, none, none, none, none] [] G c s Q X := ⟨_, rfl⟩
  have hJ1 : (∀ J2 : Prop, (((l4 = 7 → Q 0 G) ∧ (l4 ≠ 7 → ((l6 ≤ 0 → Q 0 G) ∧ (0 < l6 → (gcl G l0 = 13 ∧ OkP E M_X12_codeOfSeries [rv l0, iv l2] G (mCode G l0 l2) ∧ (l4 ≠ 6 → l4 ≠ 2 → l4 ≠ 3 → l4 ≠ 4 → i64 (1000 * l11)) ∧ (l4 ≠ 6 → l4 ≠ 2 → l4 ≠ 3 → l4 = 4 → i64 (1000 * l9)) ∧ (l4 ≠ 6 → l4 ≠ 2 → l4 = 3 → i64 (1000 * l7)) ∧ (l4 ≠ 6 → l4 = 2 → i64 (1000 * l6)) ∧ gcl G l0 = 13 ∧ Call E M_X12_add [rv l0, iv (mCode G l0 l2), jv (if l4 = 6 then (l13 : Int) else (if l4 = 2 then ((1000 * l6) : Int) else (if l4 = 3 then ((1000 * l7) : Int) else (if l4 = 4 then ((1000 * l9) : Int) else (1000 * l11)))))] G c s X (fun r16 G17 c18 s19 => Q 0 G17)))))) → J2) → ((l4 ≠ 7 → J2) ∧ (l4 = 7 → ((l6 ≤ 1 → J2) ∧ (1 < l6 → (i32 (l19 - l17) ∧ i32 (l6 - 1) ∧ (l6 - 1) ≠ 0 ∧ i64 (Int.tdiv (l19 - l17) (l6 - 1)) ∧ i32 (l3 - l5) ∧ i32 (l17 - (l3 - l5)) ∧ OkP E M_X12_least [jv (Int.tdiv (Int.tdiv (l19 - l17) (l6 - 1)) 2), jv (l17 - (l3 - l5))] G (min (Int.tdiv (Int.tdiv (l19 - l17) (l6 - 1)) 2) (l17 - (l3 - l5))) ∧ i64 ((l19 - l17) + (min (Int.tdiv (Int.tdiv (l19 - l17) (l6 - 1)) 2) (l17 - (l3 - l5)))) ∧ i32 (l3 - l19) ∧ OkP E M_X12_least [jv (Int.tdiv (Int.tdiv (l19 - l17) (l6 - 1)) 2), jv (l3 - l19)] G (min (Int.tdiv (Int.tdiv (l19 - l17) (l6 - 1)) 2) (l3 - l19)) ∧ i64 (((l19 - l17) + (min (Int.tdiv (Int.tdiv (l19 - l17) (l6 - 1)) 2) (l17 - (l3 - l5)))) + (min (Int.tdiv (Int.tdiv (l19 - l17) (l6 - 1)) 2) (l3 - l19))) ∧ gcl G l0 = 13 ∧ OkP E M_X12_codeOfSeries [rv l0, iv l2] G (mCode G l0 l2) ∧ i64 (1000 * l15) ∧ i64 ((1000 * l15) * (((l19 - l17) + (min (Int.tdiv (Int.tdiv (l19 - l17) (l6 - 1)) 2) (l17 - (l3 - l5)))) + (min (Int.tdiv (Int.tdiv (l19 - l17) (l6 - 1)) 2) (l3 - l19)))) ∧ i64 ((l19 - l17) * l5) ∧ ((l19 - l17) * l5) ≠ 0 ∧ i64 (Int.tdiv ((1000 * l15) * (((l19 - l17) + (min (Int.tdiv (Int.tdiv (l19 - l17) (l6 - 1)) 2) (l17 - (l3 - l5)))) + (min (Int.tdiv (Int.tdiv (l19 - l17) (l6 - 1)) 2) (l3 - l19)))) ((l19 - l17) * l5)) ∧ gcl G l0 = 13 ∧ Call E M_X12_add [rv l0, iv (mCode G l0 l2), jv (Int.tdiv ((1000 * l15) * (((l19 - l17) + (min (Int.tdiv (Int.tdiv (l19 - l17) (l6 - 1)) 2) (l17 - (l3 - l5)))) + (min (Int.tdiv (Int.tdiv (l19 - l17) (l6 - 1)) 2) (l3 - l19)))) ((l19 - l17) * l5))] G c s X (fun r41 G42 c43 s44 => Q 0 G42))))))) → J1 := by
    intro h
    rw [dJ1]
    refine v_iload (pc := 428) (dk dt_X12_looksAt_5 29 rfl) rfl ?_
    refine v_bipush (pc := 430) (dk dt_X12_looksAt_5 30 rfl) (by decide) ⟨by decide, by decide⟩ ?_
    obtain ⟨J2, dJ2⟩ : ∃ J9 : Prop, J9 = V E M_X12_looksAt 520 [some (rv l0), none, some (iv l2), none, some (iv l4), none, some (iv l6), some (jv l7), none, some (jv l9), none, some (jv l11), none, some (jv l13), none, none, none, none, none, none, none, none, none, none, none, none, none] [] G c s Q X := ⟨_, rfl⟩
    have hJ2 : ((l4 = 7 → Q 0 G) ∧ (l4 ≠ 7 → ((l6 ≤ 0 → Q 0 G) ∧ (0 < l6 → (gcl G l0 = 13 ∧ OkP E M_X12_codeOfSeries [rv l0, iv l2] G (mCode G l0 l2) ∧ (l4 ≠ 6 → l4 ≠ 2 → l4 ≠ 3 → l4 ≠ 4 → i64 (1000 * l11)) ∧ (l4 ≠ 6 → l4 ≠ 2 → l4 ≠ 3 → l4 = 4 → i64 (1000 * l9)) ∧ (l4 ≠ 6 → l4 ≠ 2 → l4 = 3 → i64 (1000 * l7)) ∧ (l4 ≠ 6 → l4 = 2 → i64 (1000 * l6)) ∧ gcl G l0 = 13 ∧ Call E M_X12_add [rv l0, iv (mCode G l0 l2), jv (if l4 = 6 then (l13 : Int) else (if l4 = 2 then ((1000 * l6) : Int) else (if l4 = 3 then ((1000 * l7) : Int) else (if l4 = 4 then ((1000 * l9) : Int) else (1000 * l11)))))] G c s X (fun r16 G17 c18 s19 => Q 0 G17)))))) → J2 := by
      intro h
      rw [dJ2]
      refine v_iload (pc := 520) (dk dt_X12_looksAt_7 3 rfl) rfl ?_
      refine v_bipush (pc := 522) (dk dt_X12_looksAt_7 4 rfl) (by decide) ⟨by decide, by decide⟩ ?_
      refine v_icmp_eq (pc := 524) (tgt := 593) (dk dt_X12_looksAt_7 5 rfl) (by decide) (fun c3 => ?_) (fun c3 => ?_)
      · replace h := h.1 c3
        exact v_vret (pc := 593) (dk dt_X12_looksAt_7 37 rfl) rfl h
      · replace h := h.2 c3
        refine v_iload (pc := 527) (dk dt_X12_looksAt_7 6 rfl) rfl ?_
        refine v_if_le (pc := 529) (tgt := 593) (dk dt_X12_looksAt_7 7 rfl) (by decide) (fun c4 => ?_) (fun c4 => ?_)
        · replace h := h.1 c4
          exact v_vret (pc := 593) (dk dt_X12_looksAt_7 37 rfl) rfl h
        · replace h := h.2 c4
          refine v_aload_n (pc := 532) (dk dt_X12_looksAt_7 8 rfl) rfl rfl ?_
          refine v_aload_n (pc := 533) (dk dt_X12_looksAt_7 9 rfl) rfl rfl ?_
          refine v_iload_n (pc := 534) (dk dt_X12_looksAt_7 10 rfl) rfl rfl ?_
          obtain ⟨v5, h⟩ := h
          obtain ⟨v6, h⟩ := h
          refine v_cvPI (c := 12) (v := (mCode G l0 l2)) (As := [iv l2]) (stk := [rv l0]) (pc := 535) (dk dt_X12_looksAt_7 11 rfl) ml_X12_134 rfl rfl (Nat.le_of_ble_eq_true rfl) rfl ⟨by decide, rfl⟩ v5 rfl v6 ?_
          refine v_iload (pc := 538) (dk dt_X12_looksAt_7 12 rfl) rfl ?_
          refine v_bipush (pc := 540) (dk dt_X12_looksAt_7 13 rfl) (by decide) ⟨by decide, by decide⟩ ?_
          obtain ⟨v11, v12, v13, v14, h⟩ := h
          suffices k80 : V E M_X12_looksAt 590 [none, none, none, none, none, none, none, none, none, none, none, none, none, none, none, none, none, none, none, none, none, none, none, none, none, none, none] [jv (if l4 = 6 then (l13 : Int) else (if l4 = 2 then ((1000 * l6) : Int) else (if l4 = 3 then ((1000 * l7) : Int) else (if l4 = 4 then ((1000 * l9) : Int) else (1000 * l11))))), iv (mCode G l0 l2), rv l0] G c s Q X by
            refine v_icmp_ne (pc := 542) (tgt := 550) (dk dt_X12_looksAt_7 14 rfl) (by decide) (fun c7 => ?_) (fun c7 => ?_)
            · refine v_ldc2 (pc := 550) (dk dt_X12_looksAt_7 17 rfl) co_X12_244 ⟨by decide, by decide⟩ ?_
              refine v_iload (pc := 553) (dk dt_X12_looksAt_7 18 rfl) rfl ?_
              refine v_iconst (pc := 555) (dk dt_X12_looksAt_7 19 rfl) ⟨by decide, by decide⟩ ?_
              refine v_icmp_ne (pc := 556) (tgt := 565) (dk dt_X12_looksAt_7 20 rfl) (by decide) (fun c8 => ?_) (fun c8 => ?_)
              · refine v_iload (pc := 565) (dk dt_X12_looksAt_7 24 rfl) rfl ?_
                refine v_iconst (pc := 567) (dk dt_X12_looksAt_7 25 rfl) ⟨by decide, by decide⟩ ?_
                refine v_icmp_ne (pc := 568) (tgt := 576) (dk dt_X12_looksAt_7 26 rfl) (by decide) (fun c9 => ?_) (fun c9 => ?_)
                · refine v_iload (pc := 576) (dk dt_X12_looksAt_7 29 rfl) rfl ?_
                  refine v_iconst (pc := 578) (dk dt_X12_looksAt_7 30 rfl) ⟨by decide, by decide⟩ ?_
                  refine v_icmp_ne (pc := 579) (tgt := 587) (dk dt_X12_looksAt_7 31 rfl) (by decide) (fun c10 => ?_) (fun c10 => ?_)
                  · refine v_lload (pc := 587) (dk dt_X12_looksAt_7 34 rfl) rfl ?_
                    refine v_lmul (pc := 589) (dk dt_X12_looksAt_7 35 rfl) (v11 c7 c8 c9 c10) ?_
                    exact v_less2 (ls' := [none, none, none, none, none, none, none, none, none, none, none, none, none, none, none, none, none, none, none, none, none, none, none, none, none, none, none]) trivial (by have hk9 := k80; try simp only [if_neg c7] at hk9 ⊢; try simp only [if_neg c8] at hk9 ⊢; try simp only [if_neg c9] at hk9 ⊢; try simp only [if_neg c10] at hk9 ⊢; exact hk9)
                  · refine v_lload (pc := 582) (dk dt_X12_looksAt_7 32 rfl) rfl ?_
                    refine v_goto (pc := 584) (tgt := 589) (dk dt_X12_looksAt_7 33 rfl) (by decide) ?_
                    refine v_lmul (pc := 589) (dk dt_X12_looksAt_7 35 rfl) (v12 c7 c8 c9 c10) ?_
                    exact v_less2 (ls' := [none, none, none, none, none, none, none, none, none, none, none, none, none, none, none, none, none, none, none, none, none, none, none, none, none, none, none]) trivial (by have hk9 := k80; try simp only [if_neg c7] at hk9 ⊢; try simp only [if_neg c8] at hk9 ⊢; try simp only [if_neg c9] at hk9 ⊢; try simp only [if_pos c10] at hk9 ⊢; exact hk9)
                · refine v_lload (pc := 571) (dk dt_X12_looksAt_7 27 rfl) rfl ?_
                  refine v_goto (pc := 573) (tgt := 589) (dk dt_X12_looksAt_7 28 rfl) (by decide) ?_
                  refine v_lmul (pc := 589) (dk dt_X12_looksAt_7 35 rfl) (v13 c7 c8 c9) ?_
                  exact v_less2 (ls' := [none, none, none, none, none, none, none, none, none, none, none, none, none, none, none, none, none, none, none, none, none, none, none, none, none, none, none]) trivial (by have hk9 := k80; try simp only [if_neg c7] at hk9 ⊢; try simp only [if_neg c8] at hk9 ⊢; try simp only [if_pos c9] at hk9 ⊢; exact hk9)
              · refine v_iload (pc := 559) (dk dt_X12_looksAt_7 21 rfl) rfl ?_
                refine v_i2l (pc := 561) (dk dt_X12_looksAt_7 22 rfl) ?_
                refine v_goto (pc := 562) (tgt := 589) (dk dt_X12_looksAt_7 23 rfl) (by decide) ?_
                refine v_lmul (pc := 589) (dk dt_X12_looksAt_7 35 rfl) (v14 c7 c8) ?_
                exact v_less2 (ls' := [none, none, none, none, none, none, none, none, none, none, none, none, none, none, none, none, none, none, none, none, none, none, none, none, none, none, none]) trivial (by have hk9 := k80; try simp only [if_neg c7] at hk9 ⊢; try simp only [if_pos c8] at hk9 ⊢; exact hk9)
            · refine v_lload (pc := 545) (dk dt_X12_looksAt_7 15 rfl) rfl ?_
              refine v_goto (pc := 547) (tgt := 590) (dk dt_X12_looksAt_7 16 rfl) (by decide) ?_
              exact v_less2 (ls' := [none, none, none, none, none, none, none, none, none, none, none, none, none, none, none, none, none, none, none, none, none, none, none, none, none, none, none]) trivial (by have hk9 := k80; try simp only [if_pos c7] at hk9 ⊢; exact hk9)
          obtain ⟨v15, h⟩ := h
          refine v_cvV (c := 12) (As := [iv (mCode G l0 l2), jv (if l4 = 6 then (l13 : Int) else (if l4 = 2 then ((1000 * l6) : Int) else (if l4 = 3 then ((1000 * l7) : Int) else (if l4 = 4 then ((1000 * l9) : Int) else (1000 * l11)))))]) (stk := []) (pc := 590) (dk dt_X12_looksAt_7 36 rfl) ml_X12_246 rfl rfl (Nat.le_of_ble_eq_true rfl) rfl ⟨by decide, rfl⟩ v15 rfl (Call.mono h (fun r16 G17 c18 s19 h => ?_))
          exact v_vret (pc := 593) (dk dt_X12_looksAt_7 37 rfl) rfl h
    replace h := h _ hJ2
    refine v_icmp_ne (pc := 432) (tgt := 520) (dk dt_X12_looksAt_5 31 rfl) (by decide) (fun c20 => ?_) (fun c20 => ?_)
    · replace h := h.1 c20
      rw [dJ2] at h
      exact v_less2 (ls' := [some (rv l0), none, some (iv l2), none, some (iv l4), none, some (iv l6), some (jv l7), none, some (jv l9), none, some (jv l11), none, some (jv l13), none, none, none, none, none, none, none, none, none, none, none, none, none]) ⟨rfl, rfl, rfl, rfl, rfl, rfl, rfl, rfl, trivial⟩ h
    · replace h := h.2 c20
      refine v_iload (pc := 435) (dk dt_X12_looksAt_5 32 rfl) rfl ?_
      refine v_iconst (pc := 437) (dk dt_X12_looksAt_5 33 rfl) ⟨by decide, by decide⟩ ?_
      refine v_icmp_le (pc := 438) (tgt := 520) (dk dt_X12_looksAt_5 34 rfl) (by decide) (fun c21 => ?_) (fun c21 => ?_)
      · replace h := h.1 c21
        rw [dJ2] at h
        exact v_less2 (ls' := [some (rv l0), none, some (iv l2), none, some (iv l4), none, some (iv l6), some (jv l7), none, some (jv l9), none, some (jv l11), none, some (jv l13), none, none, none, none, none, none, none, none, none, none, none, none, none]) ⟨rfl, rfl, rfl, rfl, rfl, rfl, rfl, rfl, trivial⟩ h
      · replace h := h.2 c21
        refine v_iload (pc := 441) (dk dt_X12_looksAt_5 35 rfl) rfl ?_
        refine v_iload (pc := 443) (dk dt_X12_looksAt_5 36 rfl) rfl ?_
        obtain ⟨v22, h⟩ := h
        refine v_isub (pc := 445) (dk dt_X12_looksAt_5 37 rfl) v22 ?_
        refine v_i2l (pc := 446) (dk dt_X12_looksAt_5 38 rfl) ?_
        refine v_lstore (pc := 447) (ls' := [some (rv l0), none, some (iv l2), some (iv l3), some (iv l4), some (iv l5), some (iv l6), some (jv l7), none, some (jv l9), none, some (jv l11), none, some (jv l13), none, some (jv l15), none, some (iv l17), none, some (iv l19), none, some (jv (l19 - l17)), none, none, none, none, none]) (dk dt_X12_looksAt_5 39 rfl) (Nat.le_of_ble_eq_true rfl) rfl ?_
        refine v_lload (pc := 449) (dk dt_X12_looksAt_6 0 rfl) rfl ?_
        refine v_iload (pc := 451) (dk dt_X12_looksAt_6 1 rfl) rfl ?_
        refine v_iconst (pc := 453) (dk dt_X12_looksAt_6 2 rfl) ⟨by decide, by decide⟩ ?_
        obtain ⟨v23, h⟩ := h
        refine v_isub (pc := 454) (dk dt_X12_looksAt_6 3 rfl) v23 ?_
        refine v_i2l (pc := 455) (dk dt_X12_looksAt_6 4 rfl) ?_
        obtain ⟨v24, h⟩ := h
        obtain ⟨v25, h⟩ := h
        refine v_ldiv (pc := 456) (dk dt_X12_looksAt_6 5 rfl) v24 v25 ?_
        refine v_ldc2 (pc := 457) (dk dt_X12_looksAt_6 6 rfl) co_X12_250 ⟨by decide, by decide⟩ ?_
        refine v_ldivP (pc := 460) (dk dt_X12_looksAt_6 7 rfl) (by decide) ?_
        refine v_lstore (pc := 461) (ls' := [some (rv l0), none, some (iv l2), some (iv l3), some (iv l4), some (iv l5), some (iv l6), some (jv l7), none, some (jv l9), none, some (jv l11), none, some (jv l13), none, some (jv l15), none, some (iv l17), none, some (iv l19), none, some (jv (l19 - l17)), none, some (jv (Int.tdiv (Int.tdiv (l19 - l17) (l6 - 1)) 2)), none, none, none]) (dk dt_X12_looksAt_6 8 rfl) (Nat.le_of_ble_eq_true rfl) rfl ?_
        refine v_lload (pc := 463) (dk dt_X12_looksAt_6 9 rfl) rfl ?_
        refine v_lload (pc := 465) (dk dt_X12_looksAt_6 10 rfl) rfl ?_
        refine v_iload (pc := 467) (dk dt_X12_looksAt_6 11 rfl) rfl ?_
        refine v_iload_n (pc := 469) (dk dt_X12_looksAt_6 12 rfl) rfl rfl ?_
        refine v_iload (pc := 470) (dk dt_X12_looksAt_6 13 rfl) rfl ?_
        obtain ⟨v26, h⟩ := h
        refine v_isub (pc := 472) (dk dt_X12_looksAt_6 14 rfl) v26 ?_
        obtain ⟨v27, h⟩ := h
        refine v_isub (pc := 473) (dk dt_X12_looksAt_6 15 rfl) v27 ?_
        refine v_i2l (pc := 474) (dk dt_X12_looksAt_6 16 rfl) ?_
        obtain ⟨v28, h⟩ := h
        refine v_csPJ (v := (min (Int.tdiv (Int.tdiv (l19 - l17) (l6 - 1)) 2) (l17 - (l3 - l5)))) (As := [jv (Int.tdiv (Int.tdiv (l19 - l17) (l6 - 1)) 2), jv (l17 - (l3 - l5))]) (stk := [jv (l19 - l17)]) (pc := 475) (dk dt_X12_looksAt_6 17 rfl) ml_X12_252 rfl rfl (Nat.le_of_ble_eq_true rfl) rfl rfl v28 ?_
        obtain ⟨v29, h⟩ := h
        refine v_ladd (pc := 478) (dk dt_X12_looksAt_6 18 rfl) v29 ?_
        refine v_lload (pc := 479) (dk dt_X12_looksAt_6 19 rfl) rfl ?_
        refine v_iload_n (pc := 481) (dk dt_X12_looksAt_6 20 rfl) rfl rfl ?_
        refine v_iload (pc := 482) (dk dt_X12_looksAt_6 21 rfl) rfl ?_
        obtain ⟨v30, h⟩ := h
        refine v_isub (pc := 484) (dk dt_X12_looksAt_6 22 rfl) v30 ?_
        refine v_i2l (pc := 485) (dk dt_X12_looksAt_6 23 rfl) ?_
        obtain ⟨v31, h⟩ := h
        refine v_csPJ (v := (min (Int.tdiv (Int.tdiv (l19 - l17) (l6 - 1)) 2) (l3 - l19))) (As := [jv (Int.tdiv (Int.tdiv (l19 - l17) (l6 - 1)) 2), jv (l3 - l19)]) (stk := [jv ((l19 - l17) + (min (Int.tdiv (Int.tdiv (l19 - l17) (l6 - 1)) 2) (l17 - (l3 - l5))))]) (pc := 486) (dk dt_X12_looksAt_6 24 rfl) ml_X12_252 rfl rfl (Nat.le_of_ble_eq_true rfl) rfl rfl v31 ?_
        obtain ⟨v32, h⟩ := h
        refine v_ladd (pc := 489) (dk dt_X12_looksAt_6 25 rfl) v32 ?_
        refine v_lstore (pc := 490) (ls' := [some (rv l0), none, some (iv l2), some (iv l3), some (iv l4), some (iv l5), some (iv l6), some (jv l7), none, some (jv l9), none, some (jv l11), none, some (jv l13), none, some (jv l15), none, some (iv l17), none, some (iv l19), none, some (jv (l19 - l17)), none, some (jv (Int.tdiv (Int.tdiv (l19 - l17) (l6 - 1)) 2)), none, some (jv (((l19 - l17) + (min (Int.tdiv (Int.tdiv (l19 - l17) (l6 - 1)) 2) (l17 - (l3 - l5)))) + (min (Int.tdiv (Int.tdiv (l19 - l17) (l6 - 1)) 2) (l3 - l19)))), none]) (dk dt_X12_looksAt_6 26 rfl) (Nat.le_of_ble_eq_true rfl) rfl ?_
        refine v_aload_n (pc := 492) (dk dt_X12_looksAt_6 27 rfl) rfl rfl ?_
        refine v_aload_n (pc := 493) (dk dt_X12_looksAt_6 28 rfl) rfl rfl ?_
        refine v_iload_n (pc := 494) (dk dt_X12_looksAt_6 29 rfl) rfl rfl ?_
        obtain ⟨v33, h⟩ := h
        obtain ⟨v34, h⟩ := h
        refine v_cvPI (c := 12) (v := (mCode G l0 l2)) (As := [iv l2]) (stk := [rv l0]) (pc := 495) (dk dt_X12_looksAt_6 30 rfl) ml_X12_134 rfl rfl (Nat.le_of_ble_eq_true rfl) rfl ⟨by decide, rfl⟩ v33 rfl v34 ?_
        refine v_ldc2 (pc := 498) (dk dt_X12_looksAt_6 31 rfl) co_X12_244 ⟨by decide, by decide⟩ ?_
        refine v_lload (pc := 501) (dk dt_X12_looksAt_6 32 rfl) rfl ?_
        obtain ⟨v35, h⟩ := h
        refine v_lmul (pc := 503) (dk dt_X12_looksAt_6 33 rfl) v35 ?_
        refine v_lload (pc := 504) (dk dt_X12_looksAt_6 34 rfl) rfl ?_
        obtain ⟨v36, h⟩ := h
        refine v_lmul (pc := 506) (dk dt_X12_looksAt_6 35 rfl) v36 ?_
        refine v_lload (pc := 507) (dk dt_X12_looksAt_6 36 rfl) rfl ?_
        refine v_iload (pc := 509) (dk dt_X12_looksAt_6 37 rfl) rfl ?_
        refine v_i2l (pc := 511) (dk dt_X12_looksAt_6 38 rfl) ?_
        obtain ⟨v37, h⟩ := h
        refine v_lmul (pc := 512) (dk dt_X12_looksAt_6 39 rfl) v37 ?_
        obtain ⟨v38, h⟩ := h
        obtain ⟨v39, h⟩ := h
        refine v_ldiv (pc := 513) (dk dt_X12_looksAt_7 0 rfl) v38 v39 ?_
        obtain ⟨v40, h⟩ := h
        refine v_cvV (c := 12) (As := [iv (mCode G l0 l2), jv (Int.tdiv ((1000 * l15) * (((l19 - l17) + (min (Int.tdiv (Int.tdiv (l19 - l17) (l6 - 1)) 2) (l17 - (l3 - l5)))) + (min (Int.tdiv (Int.tdiv (l19 - l17) (l6 - 1)) 2) (l3 - l19)))) ((l19 - l17) * l5))]) (stk := []) (pc := 514) (dk dt_X12_looksAt_7 1 rfl) ml_X12_246 rfl rfl (Nat.le_of_ble_eq_true rfl) rfl ⟨by decide, rfl⟩ v40 rfl (Call.mono h (fun r41 G42 c43 s44 h => ?_))
        refine v_goto (pc := 517) (tgt := 593) (dk dt_X12_looksAt_7 2 rfl) (by decide) ?_
        exact v_vret (pc := 593) (dk dt_X12_looksAt_7 37 rfl) rfl h
  replace h := h _ hJ1
  refine v_icmp_eq (pc := 234) (tgt := 428) (dk dt_X12_looksAt_3 12 rfl) (by decide) (fun c45 => ?_) (fun c45 => ?_)
  · replace h := h.1 c45
    rw [dJ1] at h
    exact v_less2 (ls' := [some (rv l0), none, some (iv l2), some (iv l3), some (iv l4), some (iv l5), some (iv l6), some (jv l7), none, some (jv l9), none, some (jv l11), none, some (jv l13), none, some (jv l15), none, some (iv l17), none, some (iv l19), none, none, none, none, none, none, none]) ⟨rfl, rfl, rfl, rfl, rfl, rfl, rfl, rfl, rfl, rfl, rfl, rfl, rfl, trivial⟩ h
  · replace h := h.2 c45
    refine v_iload (pc := 237) (dk dt_X12_looksAt_3 13 rfl) rfl ?_
    refine v_iload_n (pc := 239) (dk dt_X12_looksAt_3 14 rfl) rfl rfl ?_
    refine v_icmp_gt (pc := 240) (tgt := 428) (dk dt_X12_looksAt_3 15 rfl) (by decide) (fun c46 => ?_) (fun c46 => ?_)
    · replace h := h.1 c46
      rw [dJ1] at h
      exact v_less2 (ls' := [some (rv l0), none, some (iv l2), some (iv l3), some (iv l4), some (iv l5), some (iv l6), some (jv l7), none, some (jv l9), none, some (jv l11), none, some (jv l13), none, some (jv l15), none, some (iv l17), none, some (iv l19), none, none, none, none, none, none, none]) ⟨rfl, rfl, rfl, rfl, rfl, rfl, rfl, rfl, rfl, rfl, rfl, rfl, rfl, trivial⟩ h
    · replace h := h.2 c46
      refine v_aload_n (pc := 243) (dk dt_X12_looksAt_3 16 rfl) rfl rfl ?_
      refine v_iload_n (pc := 244) (dk dt_X12_looksAt_3 17 rfl) rfl rfl ?_
      refine v_iload (pc := 245) (dk dt_X12_looksAt_3 18 rfl) rfl ?_
      obtain ⟨v47, h⟩ := h
      refine v_cvI (c := 12) (As := [iv l2, iv l20]) (stk := []) (pc := 247) (dk dt_X12_looksAt_3 19 rfl) ml_X12_224 rfl rfl (Nat.le_of_ble_eq_true rfl) rfl ⟨by decide, rfl⟩ v47 rfl (Call.mono h (fun r48 G49 c50 s51 h => ?_))
      refine v_istore (pc := 250) (ls' := [some (rv l0), none, some (iv l2), some (iv l3), some (iv l4), some (iv l5), some (iv l6), some (jv l7), none, some (jv l9), none, some (jv l11), none, some (jv l13), none, some (jv l15), none, some (iv l17), some (iv l18), some (iv l19), some (iv l20), some (iv r48), none, none, none, none, none]) (dk dt_X12_looksAt_3 20 rfl) (Nat.le_of_ble_eq_true rfl) rfl ?_
      refine v_iload (pc := 252) (dk dt_X12_looksAt_3 21 rfl) rfl ?_
      refine v_ldc (pc := 254) (dk dt_X12_looksAt_3 22 rfl) co_X12_179 ⟨by decide, by decide⟩ ?_
      refine v_icmp_eq (pc := 256) (tgt := 416) (dk dt_X12_looksAt_3 23 rfl) (by decide) (fun c52 => ?_) (fun c52 => ?_)
      · replace h := h.1 c52
        refine v_aload_n (pc := 416) (dk dt_X12_looksAt_5 23 rfl) rfl rfl ?_
        refine v_iload_n (pc := 417) (dk dt_X12_looksAt_5 24 rfl) rfl rfl ?_
        refine v_iload (pc := 418) (dk dt_X12_looksAt_5 25 rfl) rfl ?_
        obtain ⟨v53, h⟩ := h
        refine v_cvI (c := 12) (As := [iv l2, iv l20]) (stk := []) (pc := 420) (dk dt_X12_looksAt_5 26 rfl) ml_X12_217 rfl rfl (Nat.le_of_ble_eq_true rfl) rfl ⟨by decide, rfl⟩ v53 rfl (Call.mono h (fun r54 G55 c56 s57 h => ?_))
        refine v_istore (pc := 423) (ls' := [some (rv l0), none, some (iv l2), some (iv l3), some (iv l4), some (iv l5), some (iv l6), some (jv l7), none, some (jv l9), none, some (jv l11), none, some (jv l13), none, some (jv l15), none, some (iv l17), some (iv l18), some (iv l19), some (iv r54), some (iv r48), none, none, none, none, none]) (dk dt_X12_looksAt_5 27 rfl) (Nat.le_of_ble_eq_true rfl) rfl ?_
        refine v_goto (pc := 425) (tgt := 231) (dk dt_X12_looksAt_5 28 rfl) (by decide) ?_
        exact v_less2 (ls' := [some (rv l0), none, some (iv l2), some (iv l3), some (iv l4), some (iv l5), some (iv l6), some (jv l7), none, some (jv l9), none, some (jv l11), none, some (jv l13), none, some (jv l15), none, some (iv l17), some (iv l18), some (iv l19), some (iv r54), none, none, none, none, none, none]) ⟨rfl, rfl, rfl, rfl, rfl, rfl, rfl, rfl, rfl, rfl, rfl, rfl, rfl, rfl, rfl, trivial⟩ h
      · replace h := h.2 c52
        refine v_lload (pc := 259) (dk dt_X12_looksAt_3 24 rfl) rfl ?_
        refine v_iload (pc := 261) (dk dt_X12_looksAt_3 25 rfl) rfl ?_
        refine v_i2l (pc := 263) (dk dt_X12_looksAt_3 26 rfl) ?_
        obtain ⟨v58, h⟩ := h
        refine v_ladd (pc := 264) (dk dt_X12_looksAt_3 27 rfl) v58 ?_
        refine v_lstore (pc := 265) (ls' := [some (rv l0), none, some (iv l2), some (iv l3), some (iv l4), some (iv l5), some (iv l6), some (jv (l7 + r48)), none, some (jv l9), none, some (jv l11), none, some (jv l13), none, some (jv l15), none, some (iv l17), some (iv l18), some (iv l19), some (iv l20), some (iv r48), none, none, none, none, none]) (dk dt_X12_looksAt_3 28 rfl) (Nat.le_of_ble_eq_true rfl) rfl ?_
        refine v_iload (pc := 267) (dk dt_X12_looksAt_3 29 rfl) rfl ?_
        suffices k81 : V E M_X12_looksAt 289 [some (rv l0), none, some (iv l2), some (iv l3), some (iv l4), some (iv l5), some (iv l6), some (jv (l7 + r48)), none, none, none, some (jv l11), none, some (jv l13), none, some (jv l15), none, some (iv l17), some (iv l18), none, some (iv l20), some (iv r48), none, none, none, none, none] [jv (if l6 = 0 then (r48 : Int) else (if l9 ≤ r48 then (l9 : Int) else r48))] G49 c50 s51 Q X by
          refine v_if_eq (pc := 269) (tgt := 281) (dk dt_X12_looksAt_3 30 rfl) (by decide) (fun c59 => ?_) (fun c59 => ?_)
          · refine v_iload (pc := 281) (dk dt_X12_looksAt_3 36 rfl) rfl ?_
            refine v_i2l (pc := 283) (dk dt_X12_looksAt_3 37 rfl) ?_
            refine v_goto (pc := 284) (tgt := 289) (dk dt_X12_looksAt_3 38 rfl) (by decide) ?_
            exact v_less2 (ls' := [some (rv l0), none, some (iv l2), some (iv l3), some (iv l4), some (iv l5), some (iv l6), some (jv (l7 + r48)), none, none, none, some (jv l11), none, some (jv l13), none, some (jv l15), none, some (iv l17), some (iv l18), none, some (iv l20), some (iv r48), none, none, none, none, none]) ⟨rfl, rfl, rfl, rfl, rfl, rfl, rfl, rfl, rfl, rfl, rfl, rfl, rfl, rfl, trivial⟩ (by have hk9 := k81; try simp only [if_pos c59] at hk9 ⊢; exact hk9)
          · refine v_iload (pc := 272) (dk dt_X12_looksAt_3 31 rfl) rfl ?_
            refine v_i2l (pc := 274) (dk dt_X12_looksAt_3 32 rfl) ?_
            refine v_lload (pc := 275) (dk dt_X12_looksAt_3 33 rfl) rfl ?_
            refine v_lcmp_ge (pc := 277) (tgt := 287) (dk dt_X12_looksAt_3 34 rfl) (dk dt_X12_looksAt_3 35 rfl) (by decide) (fun c60 => ?_) (fun c60 => ?_)
            · refine v_lload (pc := 287) (dk dt_X12_looksAt_3 39 rfl) rfl ?_
              exact v_less2 (ls' := [some (rv l0), none, some (iv l2), some (iv l3), some (iv l4), some (iv l5), some (iv l6), some (jv (l7 + r48)), none, none, none, some (jv l11), none, some (jv l13), none, some (jv l15), none, some (iv l17), some (iv l18), none, some (iv l20), some (iv r48), none, none, none, none, none]) ⟨rfl, rfl, rfl, rfl, rfl, rfl, rfl, rfl, rfl, rfl, rfl, rfl, rfl, rfl, trivial⟩ (by have hk9 := k81; try simp only [if_neg c59] at hk9 ⊢; try simp only [if_pos c60] at hk9 ⊢; exact hk9)
            · refine v_iload (pc := 281) (dk dt_X12_looksAt_3 36 rfl) rfl ?_
              refine v_i2l (pc := 283) (dk dt_X12_looksAt_3 37 rfl) ?_
              refine v_goto (pc := 284) (tgt := 289) (dk dt_X12_looksAt_3 38 rfl) (by decide) ?_
              exact v_less2 (ls' := [some (rv l0), none, some (iv l2), some (iv l3), some (iv l4), some (iv l5), some (iv l6), some (jv (l7 + r48)), none, none, none, some (jv l11), none, some (jv l13), none, some (jv l15), none, some (iv l17), some (iv l18), none, some (iv l20), some (iv r48), none, none, none, none, none]) ⟨rfl, rfl, rfl, rfl, rfl, rfl, rfl, rfl, rfl, rfl, rfl, rfl, rfl, rfl, trivial⟩ (by have hk9 := k81; try simp only [if_neg c59] at hk9 ⊢; try simp only [if_neg (Int.not_le.mpr c60)] at hk9 ⊢; exact hk9)
        refine v_lstore (pc := 289) (ls' := [some (rv l0), none, some (iv l2), some (iv l3), some (iv l4), some (iv l5), some (iv l6), some (jv (l7 + r48)), none, some (jv (if l6 = 0 then (r48 : Int) else (if l9 ≤ r48 then (l9 : Int) else r48))), none, some (jv l11), none, some (jv l13), none, some (jv l15), none, some (iv l17), some (iv l18), none, some (iv l20), some (iv r48), none, none, none, none, none]) (dk dt_X12_looksAt_4 0 rfl) (Nat.le_of_ble_eq_true rfl) rfl ?_
        refine v_iload (pc := 291) (dk dt_X12_looksAt_4 1 rfl) rfl ?_
        suffices k82 : V E M_X12_looksAt 313 [some (rv l0), none, some (iv l2), some (iv l3), some (iv l4), some (iv l5), some (iv l6), some (jv (l7 + r48)), none, some (jv (if l6 = 0 then (r48 : Int) else (if l9 ≤ r48 then (l9 : Int) else r48))), none, none, none, some (jv l13), none, some (jv l15), none, some (iv l17), some (iv l18), none, some (iv l20), some (iv r48), none, none, none, none, none] [jv (if l6 = 0 then (r48 : Int) else (if r48 ≤ l11 then (l11 : Int) else r48))] G49 c50 s51 Q X by
          refine v_if_eq (pc := 293) (tgt := 305) (dk dt_X12_looksAt_4 2 rfl) (by decide) (fun c61 => ?_) (fun c61 => ?_)
          · refine v_iload (pc := 305) (dk dt_X12_looksAt_4 8 rfl) rfl ?_
            refine v_i2l (pc := 307) (dk dt_X12_looksAt_4 9 rfl) ?_
            refine v_goto (pc := 308) (tgt := 313) (dk dt_X12_looksAt_4 10 rfl) (by decide) ?_
            exact v_less2 (ls' := [some (rv l0), none, some (iv l2), some (iv l3), some (iv l4), some (iv l5), some (iv l6), some (jv (l7 + r48)), none, some (jv (if l6 = 0 then (r48 : Int) else (if l9 ≤ r48 then (l9 : Int) else r48))), none, none, none, some (jv l13), none, some (jv l15), none, some (iv l17), some (iv l18), none, some (iv l20), some (iv r48), none, none, none, none, none]) ⟨rfl, rfl, rfl, rfl, rfl, rfl, rfl, rfl, rfl, rfl, rfl, rfl, rfl, rfl, trivial⟩ (by have hk9 := k82; try simp only [if_pos c61] at hk9 ⊢; exact hk9)
          · refine v_iload (pc := 296) (dk dt_X12_looksAt_4 3 rfl) rfl ?_
            refine v_i2l (pc := 298) (dk dt_X12_looksAt_4 4 rfl) ?_
            refine v_lload (pc := 299) (dk dt_X12_looksAt_4 5 rfl) rfl ?_
            refine v_lcmp_le (pc := 301) (tgt := 311) (dk dt_X12_looksAt_4 6 rfl) (dk dt_X12_looksAt_4 7 rfl) (by decide) (fun c62 => ?_) (fun c62 => ?_)
            · refine v_lload (pc := 311) (dk dt_X12_looksAt_4 11 rfl) rfl ?_
              exact v_less2 (ls' := [some (rv l0), none, some (iv l2), some (iv l3), some (iv l4), some (iv l5), some (iv l6), some (jv (l7 + r48)), none, some (jv (if l6 = 0 then (r48 : Int) else (if l9 ≤ r48 then (l9 : Int) else r48))), none, none, none, some (jv l13), none, some (jv l15), none, some (iv l17), some (iv l18), none, some (iv l20), some (iv r48), none, none, none, none, none]) ⟨rfl, rfl, rfl, rfl, rfl, rfl, rfl, rfl, rfl, rfl, rfl, rfl, rfl, rfl, trivial⟩ (by have hk9 := k82; try simp only [if_neg c61] at hk9 ⊢; try simp only [if_pos c62] at hk9 ⊢; exact hk9)
            · refine v_iload (pc := 305) (dk dt_X12_looksAt_4 8 rfl) rfl ?_
              refine v_i2l (pc := 307) (dk dt_X12_looksAt_4 9 rfl) ?_
              refine v_goto (pc := 308) (tgt := 313) (dk dt_X12_looksAt_4 10 rfl) (by decide) ?_
              exact v_less2 (ls' := [some (rv l0), none, some (iv l2), some (iv l3), some (iv l4), some (iv l5), some (iv l6), some (jv (l7 + r48)), none, some (jv (if l6 = 0 then (r48 : Int) else (if l9 ≤ r48 then (l9 : Int) else r48))), none, none, none, some (jv l13), none, some (jv l15), none, some (iv l17), some (iv l18), none, some (iv l20), some (iv r48), none, none, none, none, none]) ⟨rfl, rfl, rfl, rfl, rfl, rfl, rfl, rfl, rfl, rfl, rfl, rfl, rfl, rfl, trivial⟩ (by have hk9 := k82; try simp only [if_neg c61] at hk9 ⊢; try simp only [if_neg (Int.not_le.mpr c62)] at hk9 ⊢; exact hk9)
        refine v_lstore (pc := 313) (ls' := [some (rv l0), none, some (iv l2), some (iv l3), some (iv l4), some (iv l5), some (iv l6), some (jv (l7 + r48)), none, some (jv (if l6 = 0 then (r48 : Int) else (if l9 ≤ r48 then (l9 : Int) else r48))), none, some (jv (if l6 = 0 then (r48 : Int) else (if r48 ≤ l11 then (l11 : Int) else r48))), none, some (jv l13), none, some (jv l15), none, some (iv l17), some (iv l18), none, some (iv l20), some (iv r48), none, none, none, none, none]) (dk dt_X12_looksAt_4 12 rfl) (Nat.le_of_ble_eq_true rfl) rfl ?_
        refine v_iload (pc := 315) (dk dt_X12_looksAt_4 13 rfl) rfl ?_
        obtain ⟨v64, v65, v66, v67, h⟩ := h
        suffices k83 : V E M_X12_looksAt 347 [some (rv l0), none, some (iv l2), some (iv l3), some (iv l4), some (iv l5), some (iv l6), some (jv (l7 + r48)), none, some (jv (if l6 = 0 then (r48 : Int) else (if l9 ≤ r48 then (l9 : Int) else r48))), none, some (jv (if l6 = 0 then (r48 : Int) else (if r48 ≤ l11 then (l11 : Int) else r48))), none, none, none, some (jv l15), none, some (iv l17), some (iv l18), none, some (iv l20), some (iv r48), none, none, none, none, none] [jv (if l6 = 0 then ((1000 * r48) : Int) else (l13 + (Int.tdiv ((1000 * r48) - l13) 2)))] G49 c50 s51 Q X by
          refine v_if_ne (pc := 317) (tgt := 330) (dk dt_X12_looksAt_4 14 rfl) (by decide) (fun c63 => ?_) (fun c63 => ?_)
          · refine v_lload (pc := 330) (dk dt_X12_looksAt_4 20 rfl) rfl ?_
            refine v_ldc2 (pc := 332) (dk dt_X12_looksAt_4 21 rfl) co_X12_244 ⟨by decide, by decide⟩ ?_
            refine v_iload (pc := 335) (dk dt_X12_looksAt_4 22 rfl) rfl ?_
            refine v_i2l (pc := 337) (dk dt_X12_looksAt_4 23 rfl) ?_
            refine v_lmul (pc := 338) (dk dt_X12_looksAt_4 24 rfl) (v64 c63) ?_
            refine v_lload (pc := 339) (dk dt_X12_looksAt_4 25 rfl) rfl ?_
            refine v_lsub (pc := 341) (dk dt_X12_looksAt_4 26 rfl) (v65 c63) ?_
            refine v_ldc2 (pc := 342) (dk dt_X12_looksAt_4 27 rfl) co_X12_250 ⟨by decide, by decide⟩ ?_
            refine v_ldivP (pc := 345) (dk dt_X12_looksAt_4 28 rfl) (by decide) ?_
            refine v_ladd (pc := 346) (dk dt_X12_looksAt_4 29 rfl) (v66 c63) ?_
            exact v_less2 (ls' := [some (rv l0), none, some (iv l2), some (iv l3), some (iv l4), some (iv l5), some (iv l6), some (jv (l7 + r48)), none, some (jv (if l6 = 0 then (r48 : Int) else (if l9 ≤ r48 then (l9 : Int) else r48))), none, some (jv (if l6 = 0 then (r48 : Int) else (if r48 ≤ l11 then (l11 : Int) else r48))), none, none, none, some (jv l15), none, some (iv l17), some (iv l18), none, some (iv l20), some (iv r48), none, none, none, none, none]) ⟨rfl, rfl, rfl, rfl, rfl, rfl, rfl, rfl, rfl, rfl, rfl, rfl, rfl, rfl, trivial⟩ (by have hk9 := k83; try simp only [if_neg c63] at hk9 ⊢; exact hk9)
          · refine v_ldc2 (pc := 320) (dk dt_X12_looksAt_4 15 rfl) co_X12_244 ⟨by decide, by decide⟩ ?_
            refine v_iload (pc := 323) (dk dt_X12_looksAt_4 16 rfl) rfl ?_
            refine v_i2l (pc := 325) (dk dt_X12_looksAt_4 17 rfl) ?_
            refine v_lmul (pc := 326) (dk dt_X12_looksAt_4 18 rfl) (v67 c63) ?_
            refine v_goto (pc := 327) (tgt := 347) (dk dt_X12_looksAt_4 19 rfl) (by decide) ?_
            exact v_less2 (ls' := [some (rv l0), none, some (iv l2), some (iv l3), some (iv l4), some (iv l5), some (iv l6), some (jv (l7 + r48)), none, some (jv (if l6 = 0 then (r48 : Int) else (if l9 ≤ r48 then (l9 : Int) else r48))), none, some (jv (if l6 = 0 then (r48 : Int) else (if r48 ≤ l11 then (l11 : Int) else r48))), none, none, none, some (jv l15), none, some (iv l17), some (iv l18), none, some (iv l20), some (iv r48), none, none, none, none, none]) ⟨rfl, rfl, rfl, rfl, rfl, rfl, rfl, rfl, rfl, rfl, rfl, rfl, rfl, rfl, trivial⟩ (by have hk9 := k83; try simp only [if_pos c63] at hk9 ⊢; exact hk9)
        refine v_lstore (pc := 347) (ls' := [some (rv l0), none, some (iv l2), some (iv l3), some (iv l4), some (iv l5), some (iv l6), some (jv (l7 + r48)), none, some (jv (if l6 = 0 then (r48 : Int) else (if l9 ≤ r48 then (l9 : Int) else r48))), none, some (jv (if l6 = 0 then (r48 : Int) else (if r48 ≤ l11 then (l11 : Int) else r48))), none, some (jv (if l6 = 0 then ((1000 * r48) : Int) else (l13 + (Int.tdiv ((1000 * r48) - l13) 2)))), none, some (jv l15), none, some (iv l17), some (iv l18), none, some (iv l20), some (iv r48), none, none, none, none, none]) (dk dt_X12_looksAt_4 30 rfl) (Nat.le_of_ble_eq_true rfl) rfl ?_
        refine v_lload (pc := 349) (dk dt_X12_looksAt_4 31 rfl) rfl ?_
        refine v_iload (pc := 351) (dk dt_X12_looksAt_4 32 rfl) rfl ?_
        obtain ⟨v71, h⟩ := h
        suffices k84 : V E M_X12_looksAt 388 [some (rv l0), none, some (iv l2), some (iv l3), some (iv l4), some (iv l5), some (iv l6), some (jv (l7 + r48)), none, some (jv (if l6 = 0 then (r48 : Int) else (if l9 ≤ r48 then (l9 : Int) else r48))), none, some (jv (if l6 = 0 then (r48 : Int) else (if r48 ≤ l11 then (l11 : Int) else r48))), none, some (jv (if l6 = 0 then ((1000 * r48) : Int) else (l13 + (Int.tdiv ((1000 * r48) - l13) 2)))), none, none, none, some (iv l17), none, none, some (iv l20), some (iv r48), none, none, none, none, none] [jv (if l6 = 0 then (0 : Int) else (if r48 < l18 then ((if r48 ≤ 0 then (0 : Int) else r48) : Int) else (r48 - l18))), jv l15] G49 c50 s51 Q X by
          refine v_if_ne (pc := 353) (tgt := 360) (dk dt_X12_looksAt_4 33 rfl) (by decide) (fun c68 => ?_) (fun c68 => ?_)
          · refine v_iload (pc := 360) (dk dt_X12_looksAt_4 36 rfl) rfl ?_
            refine v_iload (pc := 362) (dk dt_X12_looksAt_4 37 rfl) rfl ?_
            refine v_icmp_lt (pc := 364) (tgt := 376) (dk dt_X12_looksAt_4 38 rfl) (by decide) (fun c69 => ?_) (fun c69 => ?_)
            · refine v_iload (pc := 376) (dk dt_X12_looksAt_5 4 rfl) rfl ?_
              refine v_if_le (pc := 378) (tgt := 387) (dk dt_X12_looksAt_5 5 rfl) (by decide) (fun c70 => ?_) (fun c70 => ?_)
              · refine v_lconst (x := 0) (pc := 387) (dk dt_X12_looksAt_5 9 rfl) (by decide) ⟨by decide, by decide⟩ ?_
                exact v_less2 (ls' := [some (rv l0), none, some (iv l2), some (iv l3), some (iv l4), some (iv l5), some (iv l6), some (jv (l7 + r48)), none, some (jv (if l6 = 0 then (r48 : Int) else (if l9 ≤ r48 then (l9 : Int) else r48))), none, some (jv (if l6 = 0 then (r48 : Int) else (if r48 ≤ l11 then (l11 : Int) else r48))), none, some (jv (if l6 = 0 then ((1000 * r48) : Int) else (l13 + (Int.tdiv ((1000 * r48) - l13) 2)))), none, none, none, some (iv l17), none, none, some (iv l20), some (iv r48), none, none, none, none, none]) ⟨rfl, rfl, rfl, rfl, rfl, rfl, rfl, rfl, rfl, rfl, rfl, rfl, rfl, trivial⟩ (by have hk9 := k84; try simp only [if_neg c68] at hk9 ⊢; try simp only [if_pos c69] at hk9 ⊢; try simp only [if_pos c70] at hk9 ⊢; exact hk9)
              · refine v_iload (pc := 381) (dk dt_X12_looksAt_5 6 rfl) rfl ?_
                refine v_i2l (pc := 383) (dk dt_X12_looksAt_5 7 rfl) ?_
                refine v_goto (pc := 384) (tgt := 388) (dk dt_X12_looksAt_5 8 rfl) (by decide) ?_
                exact v_less2 (ls' := [some (rv l0), none, some (iv l2), some (iv l3), some (iv l4), some (iv l5), some (iv l6), some (jv (l7 + r48)), none, some (jv (if l6 = 0 then (r48 : Int) else (if l9 ≤ r48 then (l9 : Int) else r48))), none, some (jv (if l6 = 0 then (r48 : Int) else (if r48 ≤ l11 then (l11 : Int) else r48))), none, some (jv (if l6 = 0 then ((1000 * r48) : Int) else (l13 + (Int.tdiv ((1000 * r48) - l13) 2)))), none, none, none, some (iv l17), none, none, some (iv l20), some (iv r48), none, none, none, none, none]) ⟨rfl, rfl, rfl, rfl, rfl, rfl, rfl, rfl, rfl, rfl, rfl, rfl, rfl, trivial⟩ (by have hk9 := k84; try simp only [if_neg c68] at hk9 ⊢; try simp only [if_pos c69] at hk9 ⊢; try simp only [if_neg (Int.not_le.mpr c70)] at hk9 ⊢; exact hk9)
            · refine v_iload (pc := 367) (dk dt_X12_looksAt_4 39 rfl) rfl ?_
              refine v_iload (pc := 369) (dk dt_X12_looksAt_5 0 rfl) rfl ?_
              refine v_isub (pc := 371) (dk dt_X12_looksAt_5 1 rfl) (v71 c68 c69) ?_
              refine v_i2l (pc := 372) (dk dt_X12_looksAt_5 2 rfl) ?_
              refine v_goto (pc := 373) (tgt := 388) (dk dt_X12_looksAt_5 3 rfl) (by decide) ?_
              exact v_less2 (ls' := [some (rv l0), none, some (iv l2), some (iv l3), some (iv l4), some (iv l5), some (iv l6), some (jv (l7 + r48)), none, some (jv (if l6 = 0 then (r48 : Int) else (if l9 ≤ r48 then (l9 : Int) else r48))), none, some (jv (if l6 = 0 then (r48 : Int) else (if r48 ≤ l11 then (l11 : Int) else r48))), none, some (jv (if l6 = 0 then ((1000 * r48) : Int) else (l13 + (Int.tdiv ((1000 * r48) - l13) 2)))), none, none, none, some (iv l17), none, none, some (iv l20), some (iv r48), none, none, none, none, none]) ⟨rfl, rfl, rfl, rfl, rfl, rfl, rfl, rfl, rfl, rfl, rfl, rfl, rfl, trivial⟩ (by have hk9 := k84; try simp only [if_neg c68] at hk9 ⊢; try simp only [if_neg (Int.not_lt.mpr c69)] at hk9 ⊢; exact hk9)
          · refine v_lconst (x := 0) (pc := 356) (dk dt_X12_looksAt_4 34 rfl) (by decide) ⟨by decide, by decide⟩ ?_
            refine v_goto (pc := 357) (tgt := 388) (dk dt_X12_looksAt_4 35 rfl) (by decide) ?_
            exact v_less2 (ls' := [some (rv l0), none, some (iv l2), some (iv l3), some (iv l4), some (iv l5), some (iv l6), some (jv (l7 + r48)), none, some (jv (if l6 = 0 then (r48 : Int) else (if l9 ≤ r48 then (l9 : Int) else r48))), none, some (jv (if l6 = 0 then (r48 : Int) else (if r48 ≤ l11 then (l11 : Int) else r48))), none, some (jv (if l6 = 0 then ((1000 * r48) : Int) else (l13 + (Int.tdiv ((1000 * r48) - l13) 2)))), none, none, none, some (iv l17), none, none, some (iv l20), some (iv r48), none, none, none, none, none]) ⟨rfl, rfl, rfl, rfl, rfl, rfl, rfl, rfl, rfl, rfl, rfl, rfl, rfl, trivial⟩ (by have hk9 := k84; try simp only [if_pos c68] at hk9 ⊢; exact hk9)
        obtain ⟨v72, h⟩ := h
        refine v_ladd (pc := 388) (dk dt_X12_looksAt_5 10 rfl) v72 ?_
        refine v_lstore (pc := 389) (ls' := [some (rv l0), none, some (iv l2), some (iv l3), some (iv l4), some (iv l5), some (iv l6), some (jv (l7 + r48)), none, some (jv (if l6 = 0 then (r48 : Int) else (if l9 ≤ r48 then (l9 : Int) else r48))), none, some (jv (if l6 = 0 then (r48 : Int) else (if r48 ≤ l11 then (l11 : Int) else r48))), none, some (jv (if l6 = 0 then ((1000 * r48) : Int) else (l13 + (Int.tdiv ((1000 * r48) - l13) 2)))), none, some (jv (l15 + (if l6 = 0 then (0 : Int) else (if r48 < l18 then ((if r48 ≤ 0 then (0 : Int) else r48) : Int) else (r48 - l18))))), none, some (iv l17), none, none, some (iv l20), some (iv r48), none, none, none, none, none]) (dk dt_X12_looksAt_5 11 rfl) (Nat.le_of_ble_eq_true rfl) rfl ?_
        refine v_iload (pc := 391) (dk dt_X12_looksAt_5 12 rfl) rfl ?_
        suffices k85 : V E M_X12_looksAt 403 [some (rv l0), none, some (iv l2), some (iv l3), some (iv l4), some (iv l5), some (iv l6), some (jv (l7 + r48)), none, some (jv (if l6 = 0 then (r48 : Int) else (if l9 ≤ r48 then (l9 : Int) else r48))), none, some (jv (if l6 = 0 then (r48 : Int) else (if r48 ≤ l11 then (l11 : Int) else r48))), none, some (jv (if l6 = 0 then ((1000 * r48) : Int) else (l13 + (Int.tdiv ((1000 * r48) - l13) 2)))), none, some (jv (l15 + (if l6 = 0 then (0 : Int) else (if r48 < l18 then ((if r48 ≤ 0 then (0 : Int) else r48) : Int) else (r48 - l18))))), none, none, none, none, some (iv l20), some (iv r48), none, none, none, none, none] [iv (if l6 = 0 then (l20 : Int) else l17)] G49 c50 s51 Q X by
          refine v_if_ne (pc := 393) (tgt := 401) (dk dt_X12_looksAt_5 13 rfl) (by decide) (fun c73 => ?_) (fun c73 => ?_)
          · refine v_iload (pc := 401) (dk dt_X12_looksAt_5 16 rfl) rfl ?_
            exact v_less2 (ls' := [some (rv l0), none, some (iv l2), some (iv l3), some (iv l4), some (iv l5), some (iv l6), some (jv (l7 + r48)), none, some (jv (if l6 = 0 then (r48 : Int) else (if l9 ≤ r48 then (l9 : Int) else r48))), none, some (jv (if l6 = 0 then (r48 : Int) else (if r48 ≤ l11 then (l11 : Int) else r48))), none, some (jv (if l6 = 0 then ((1000 * r48) : Int) else (l13 + (Int.tdiv ((1000 * r48) - l13) 2)))), none, some (jv (l15 + (if l6 = 0 then (0 : Int) else (if r48 < l18 then ((if r48 ≤ 0 then (0 : Int) else r48) : Int) else (r48 - l18))))), none, none, none, none, some (iv l20), some (iv r48), none, none, none, none, none]) ⟨rfl, rfl, rfl, rfl, rfl, rfl, rfl, rfl, rfl, rfl, rfl, rfl, rfl, trivial⟩ (by have hk9 := k85; try simp only [if_neg c73] at hk9 ⊢; exact hk9)
          · refine v_iload (pc := 396) (dk dt_X12_looksAt_5 14 rfl) rfl ?_
            refine v_goto (pc := 398) (tgt := 403) (dk dt_X12_looksAt_5 15 rfl) (by decide) ?_
            exact v_less2 (ls' := [some (rv l0), none, some (iv l2), some (iv l3), some (iv l4), some (iv l5), some (iv l6), some (jv (l7 + r48)), none, some (jv (if l6 = 0 then (r48 : Int) else (if l9 ≤ r48 then (l9 : Int) else r48))), none, some (jv (if l6 = 0 then (r48 : Int) else (if r48 ≤ l11 then (l11 : Int) else r48))), none, some (jv (if l6 = 0 then ((1000 * r48) : Int) else (l13 + (Int.tdiv ((1000 * r48) - l13) 2)))), none, some (jv (l15 + (if l6 = 0 then (0 : Int) else (if r48 < l18 then ((if r48 ≤ 0 then (0 : Int) else r48) : Int) else (r48 - l18))))), none, none, none, none, some (iv l20), some (iv r48), none, none, none, none, none]) ⟨rfl, rfl, rfl, rfl, rfl, rfl, rfl, rfl, rfl, rfl, rfl, rfl, rfl, trivial⟩ (by have hk9 := k85; try simp only [if_pos c73] at hk9 ⊢; exact hk9)
        refine v_istore (pc := 403) (ls' := [some (rv l0), none, some (iv l2), some (iv l3), some (iv l4), some (iv l5), some (iv l6), some (jv (l7 + r48)), none, some (jv (if l6 = 0 then (r48 : Int) else (if l9 ≤ r48 then (l9 : Int) else r48))), none, some (jv (if l6 = 0 then (r48 : Int) else (if r48 ≤ l11 then (l11 : Int) else r48))), none, some (jv (if l6 = 0 then ((1000 * r48) : Int) else (l13 + (Int.tdiv ((1000 * r48) - l13) 2)))), none, some (jv (l15 + (if l6 = 0 then (0 : Int) else (if r48 < l18 then ((if r48 ≤ 0 then (0 : Int) else r48) : Int) else (r48 - l18))))), none, some (iv (if l6 = 0 then (l20 : Int) else l17)), none, none, some (iv l20), some (iv r48), none, none, none, none, none]) (dk dt_X12_looksAt_5 17 rfl) (Nat.le_of_ble_eq_true rfl) rfl ?_
        refine v_iload (pc := 405) (dk dt_X12_looksAt_5 18 rfl) rfl ?_
        refine v_istore (pc := 407) (ls' := [some (rv l0), none, some (iv l2), some (iv l3), some (iv l4), some (iv l5), some (iv l6), some (jv (l7 + r48)), none, some (jv (if l6 = 0 then (r48 : Int) else (if l9 ≤ r48 then (l9 : Int) else r48))), none, some (jv (if l6 = 0 then (r48 : Int) else (if r48 ≤ l11 then (l11 : Int) else r48))), none, some (jv (if l6 = 0 then ((1000 * r48) : Int) else (l13 + (Int.tdiv ((1000 * r48) - l13) 2)))), none, some (jv (l15 + (if l6 = 0 then (0 : Int) else (if r48 < l18 then ((if r48 ≤ 0 then (0 : Int) else r48) : Int) else (r48 - l18))))), none, some (iv (if l6 = 0 then (l20 : Int) else l17)), none, some (iv l20), some (iv l20), some (iv r48), none, none, none, none, none]) (dk dt_X12_looksAt_5 19 rfl) (Nat.le_of_ble_eq_true rfl) rfl ?_
        refine v_iload (pc := 409) (dk dt_X12_looksAt_5 20 rfl) rfl ?_
        refine v_istore (pc := 411) (ls' := [some (rv l0), none, some (iv l2), some (iv l3), some (iv l4), some (iv l5), some (iv l6), some (jv (l7 + r48)), none, some (jv (if l6 = 0 then (r48 : Int) else (if l9 ≤ r48 then (l9 : Int) else r48))), none, some (jv (if l6 = 0 then (r48 : Int) else (if r48 ≤ l11 then (l11 : Int) else r48))), none, some (jv (if l6 = 0 then ((1000 * r48) : Int) else (l13 + (Int.tdiv ((1000 * r48) - l13) 2)))), none, some (jv (l15 + (if l6 = 0 then (0 : Int) else (if r48 < l18 then ((if r48 ≤ 0 then (0 : Int) else r48) : Int) else (r48 - l18))))), none, some (iv (if l6 = 0 then (l20 : Int) else l17)), some (iv r48), some (iv l20), some (iv l20), some (iv r48), none, none, none, none, none]) (dk dt_X12_looksAt_5 21 rfl) (Nat.le_of_ble_eq_true rfl) rfl ?_
        obtain ⟨v74, h⟩ := h
        refine v_iinc (pc := 413) (ls' := [some (rv l0), none, some (iv l2), some (iv l3), some (iv l4), some (iv l5), some (iv (l6 + 1)), some (jv (l7 + r48)), none, some (jv (if l6 = 0 then (r48 : Int) else (if l9 ≤ r48 then (l9 : Int) else r48))), none, some (jv (if l6 = 0 then (r48 : Int) else (if r48 ≤ l11 then (l11 : Int) else r48))), none, some (jv (if l6 = 0 then ((1000 * r48) : Int) else (l13 + (Int.tdiv ((1000 * r48) - l13) 2)))), none, some (jv (l15 + (if l6 = 0 then (0 : Int) else (if r48 < l18 then ((if r48 ≤ 0 then (0 : Int) else r48) : Int) else (r48 - l18))))), none, some (iv (if l6 = 0 then (l20 : Int) else l17)), some (iv r48), some (iv l20), some (iv l20), some (iv r48), none, none, none, none, none]) (dk dt_X12_looksAt_5 22 rfl) (Nat.le_of_ble_eq_true rfl) rfl v74 rfl ?_
        refine v_aload_n (pc := 416) (dk dt_X12_looksAt_5 23 rfl) rfl rfl ?_
        refine v_iload_n (pc := 417) (dk dt_X12_looksAt_5 24 rfl) rfl rfl ?_
        refine v_iload (pc := 418) (dk dt_X12_looksAt_5 25 rfl) rfl ?_
        obtain ⟨v75, h⟩ := h
        refine v_cvI (c := 12) (As := [iv l2, iv l20]) (stk := []) (pc := 420) (dk dt_X12_looksAt_5 26 rfl) ml_X12_217 rfl rfl (Nat.le_of_ble_eq_true rfl) rfl ⟨by decide, rfl⟩ v75 rfl (Call.mono h (fun r76 G77 c78 s79 h => ?_))
        refine v_istore (pc := 423) (ls' := [some (rv l0), none, some (iv l2), some (iv l3), some (iv l4), some (iv l5), some (iv (l6 + 1)), some (jv (l7 + r48)), none, some (jv (if l6 = 0 then (r48 : Int) else (if l9 ≤ r48 then (l9 : Int) else r48))), none, some (jv (if l6 = 0 then (r48 : Int) else (if r48 ≤ l11 then (l11 : Int) else r48))), none, some (jv (if l6 = 0 then ((1000 * r48) : Int) else (l13 + (Int.tdiv ((1000 * r48) - l13) 2)))), none, some (jv (l15 + (if l6 = 0 then (0 : Int) else (if r48 < l18 then ((if r48 ≤ 0 then (0 : Int) else r48) : Int) else (r48 - l18))))), none, some (iv (if l6 = 0 then (l20 : Int) else l17)), some (iv r48), some (iv l20), some (iv r76), some (iv r48), none, none, none, none, none]) (dk dt_X12_looksAt_5 27 rfl) (Nat.le_of_ble_eq_true rfl) rfl ?_
        refine v_goto (pc := 425) (tgt := 231) (dk dt_X12_looksAt_5 28 rfl) (by decide) ?_
        exact v_less2 (ls' := [some (rv l0), none, some (iv l2), some (iv l3), some (iv l4), some (iv l5), some (iv (l6 + 1)), some (jv (l7 + r48)), none, some (jv (if l6 = 0 then (r48 : Int) else (if l9 ≤ r48 then (l9 : Int) else r48))), none, some (jv (if l6 = 0 then (r48 : Int) else (if r48 ≤ l11 then (l11 : Int) else r48))), none, some (jv (if l6 = 0 then ((1000 * r48) : Int) else (l13 + (Int.tdiv ((1000 * r48) - l13) 2)))), none, some (jv (l15 + (if l6 = 0 then (0 : Int) else (if r48 < l18 then ((if r48 ≤ 0 then (0 : Int) else r48) : Int) else (r48 - l18))))), none, some (iv (if l6 = 0 then (l20 : Int) else l17)), some (iv r48), some (iv l20), some (iv r76), none, none, none, none, none, none]) ⟨rfl, rfl, rfl, rfl, rfl, rfl, rfl, rfl, rfl, rfl, rfl, rfl, rfl, rfl, rfl, trivial⟩ h
set_option maxRecDepth 20000 in
theorem b_X12_least_0 {E : EE} {l0 l2 : Int} {G : Gt} {c s : Nat} {Q X : Int → Gt → Prop} (h : Q (if l2 ≤ l0 then (l2 : Int) else l0) G) : V E M_X12_least 0 [some (jv l0), none, some (jv l2), none] [] G c s Q X := by
  refine v_lload_n (pc := 0) (dk dt_X12_least 0 rfl) rfl rfl ?_
  refine v_lload_n (pc := 1) (dk dt_X12_least 1 rfl) rfl rfl ?_
  suffices k2 : V E M_X12_least 11 [none, none, none, none] [jv (if l2 ≤ l0 then (l2 : Int) else l0)] G c s Q X by
    refine v_lcmp_ge (pc := 2) (tgt := 10) (dk dt_X12_least 2 rfl) (dk dt_X12_least 3 rfl) (by decide) (fun c1 => ?_) (fun c1 => ?_)
    · refine v_lload_n (pc := 10) (dk dt_X12_least 6 rfl) rfl rfl ?_
      exact v_less2 (ls' := [none, none, none, none]) trivial (by have hk9 := k2; try simp only [if_pos c1] at hk9 ⊢; exact hk9)
    · refine v_lload_n (pc := 6) (dk dt_X12_least 4 rfl) rfl rfl ?_
      refine v_goto (pc := 7) (tgt := 11) (dk dt_X12_least 5 rfl) (by decide) ?_
      exact v_less2 (ls' := [none, none, none, none]) trivial (by have hk9 := k2; try simp only [if_neg (Int.not_le.mpr c1)] at hk9 ⊢; exact hk9)
  exact v_lret (pc := 11) (dk dt_X12_least 7 rfl) rfl h
set_option maxRecDepth 20000 in
theorem i_X12_least {E : EE} {l0 l2 : Int} {G : Gt} {c s : Nat} {Q X : Int → Gt → Prop} (h : Q (if l2 ≤ l0 then (l2 : Int) else l0) G) : Ok E M_X12_least [jv l0, jv l2] G c s Q X := Ok.intro (k := 0) rfl rfl (Nat.le_of_ble_eq_true rfl) rfl (b_X12_least_0 h)
set_option maxRecDepth 20000 in
theorem b_X12_masked_0 {E : EE} {l0 l1 : Int} {G : Gt} {c s : Nat} {Q X : Int → Gt → Prop} (h : (OkP E M_X12_codeOf [iv (if (and32 l1 1) = 1 then ((Int.tdiv l0 100) : Int) else 6), iv (if (and32 (shr32 l1 1) 1) = 1 then ((Int.tmod (Int.tdiv l0 10) 10) : Int) else 6), iv (if (and32 (shr32 l1 2) 1) = 1 then ((Int.tmod l0 10) : Int) else 6)] G (wCode (if (and32 l1 1) = 1 then ((Int.tdiv l0 100) : Int) else 6) (if (and32 (shr32 l1 1) 1) = 1 then ((Int.tmod (Int.tdiv l0 10) 10) : Int) else 6) (if (and32 (shr32 l1 2) 1) = 1 then ((Int.tmod l0 10) : Int) else 6)) ∧ Q (wCode (if (and32 l1 1) = 1 then ((Int.tdiv l0 100) : Int) else 6) (if (and32 (shr32 l1 1) 1) = 1 then ((Int.tmod (Int.tdiv l0 10) 10) : Int) else 6) (if (and32 (shr32 l1 2) 1) = 1 then ((Int.tmod l0 10) : Int) else 6)) G)) : V E M_X12_masked 0 [some (iv l0), some (iv l1), none, none, none] [] G c s Q X := by
  refine v_iload_n (pc := 0) (dk dt_X12_masked 0 rfl) rfl rfl ?_
  refine v_iconst (pc := 1) (dk dt_X12_masked 1 rfl) ⟨by decide, by decide⟩ ?_
  refine v_iand (pc := 2) (dk dt_X12_masked 2 rfl) ?_
  refine v_iconst (pc := 3) (dk dt_X12_masked 3 rfl) ⟨by decide, by decide⟩ ?_
  suffices k5 : V E M_X12_masked 16 [some (iv l0), some (iv l1), none, none, none] [iv (if (and32 l1 1) = 1 then ((Int.tdiv l0 100) : Int) else 6)] G c s Q X by
    refine v_icmp_ne (pc := 4) (tgt := 14) (dk dt_X12_masked 4 rfl) (by decide) (fun c1 => ?_) (fun c1 => ?_)
    · refine v_bipush (pc := 14) (dk dt_X12_masked 9 rfl) (by decide) ⟨by decide, by decide⟩ ?_
      exact v_less2 (ls' := [some (iv l0), some (iv l1), none, none, none]) ⟨rfl, rfl, trivial⟩ (by have hk9 := k5; try simp only [if_neg c1] at hk9 ⊢; exact hk9)
    · refine v_iload_n (pc := 7) (dk dt_X12_masked 5 rfl) rfl rfl ?_
      refine v_bipush (pc := 8) (dk dt_X12_masked 6 rfl) (by decide) ⟨by decide, by decide⟩ ?_
      refine v_idivP (pc := 10) (dk dt_X12_masked 7 rfl) (by decide) ?_
      refine v_goto (pc := 11) (tgt := 16) (dk dt_X12_masked 8 rfl) (by decide) ?_
      exact v_less2 (ls' := [some (iv l0), some (iv l1), none, none, none]) ⟨rfl, rfl, trivial⟩ (by have hk9 := k5; try simp only [if_pos c1] at hk9 ⊢; exact hk9)
  refine v_istore_n (pc := 16) (ls' := [some (iv l0), some (iv l1), some (iv (if (and32 l1 1) = 1 then ((Int.tdiv l0 100) : Int) else 6)), none, none]) (dk dt_X12_masked 10 rfl) rfl (Nat.le_of_ble_eq_true rfl) rfl ?_
  refine v_iload_n (pc := 17) (dk dt_X12_masked 11 rfl) rfl rfl ?_
  refine v_iconst (pc := 18) (dk dt_X12_masked 12 rfl) ⟨by decide, by decide⟩ ?_
  refine v_ishr (pc := 19) (dk dt_X12_masked 13 rfl) ?_
  refine v_iconst (pc := 20) (dk dt_X12_masked 14 rfl) ⟨by decide, by decide⟩ ?_
  refine v_iand (pc := 21) (dk dt_X12_masked 15 rfl) ?_
  refine v_iconst (pc := 22) (dk dt_X12_masked 16 rfl) ⟨by decide, by decide⟩ ?_
  suffices k6 : V E M_X12_masked 38 [some (iv l0), some (iv l1), some (iv (if (and32 l1 1) = 1 then ((Int.tdiv l0 100) : Int) else 6)), none, none] [iv (if (and32 (shr32 l1 1) 1) = 1 then ((Int.tmod (Int.tdiv l0 10) 10) : Int) else 6)] G c s Q X by
    refine v_icmp_ne (pc := 23) (tgt := 36) (dk dt_X12_masked 17 rfl) (by decide) (fun c2 => ?_) (fun c2 => ?_)
    · refine v_bipush (pc := 36) (dk dt_X12_masked 24 rfl) (by decide) ⟨by decide, by decide⟩ ?_
      exact v_less2 (ls' := [some (iv l0), some (iv l1), some (iv (if (and32 l1 1) = 1 then ((Int.tdiv l0 100) : Int) else 6)), none, none]) ⟨rfl, rfl, rfl, trivial⟩ (by have hk9 := k6; try simp only [if_neg c2] at hk9 ⊢; exact hk9)
    · refine v_iload_n (pc := 26) (dk dt_X12_masked 18 rfl) rfl rfl ?_
      refine v_bipush (pc := 27) (dk dt_X12_masked 19 rfl) (by decide) ⟨by decide, by decide⟩ ?_
      refine v_idivP (pc := 29) (dk dt_X12_masked 20 rfl) (by decide) ?_
      refine v_bipush (pc := 30) (dk dt_X12_masked 21 rfl) (by decide) ⟨by decide, by decide⟩ ?_
      refine v_iremP (pc := 32) (dk dt_X12_masked 22 rfl) (by decide) ?_
      refine v_goto (pc := 33) (tgt := 38) (dk dt_X12_masked 23 rfl) (by decide) ?_
      exact v_less2 (ls' := [some (iv l0), some (iv l1), some (iv (if (and32 l1 1) = 1 then ((Int.tdiv l0 100) : Int) else 6)), none, none]) ⟨rfl, rfl, rfl, trivial⟩ (by have hk9 := k6; try simp only [if_pos c2] at hk9 ⊢; exact hk9)
  refine v_istore_n (pc := 38) (ls' := [some (iv l0), some (iv l1), some (iv (if (and32 l1 1) = 1 then ((Int.tdiv l0 100) : Int) else 6)), some (iv (if (and32 (shr32 l1 1) 1) = 1 then ((Int.tmod (Int.tdiv l0 10) 10) : Int) else 6)), none]) (dk dt_X12_masked 25 rfl) rfl (Nat.le_of_ble_eq_true rfl) rfl ?_
  refine v_iload_n (pc := 39) (dk dt_X12_masked 26 rfl) rfl rfl ?_
  refine v_iconst (pc := 40) (dk dt_X12_masked 27 rfl) ⟨by decide, by decide⟩ ?_
  refine v_ishr (pc := 41) (dk dt_X12_masked 28 rfl) ?_
  refine v_iconst (pc := 42) (dk dt_X12_masked 29 rfl) ⟨by decide, by decide⟩ ?_
  refine v_iand (pc := 43) (dk dt_X12_masked 30 rfl) ?_
  refine v_iconst (pc := 44) (dk dt_X12_masked 31 rfl) ⟨by decide, by decide⟩ ?_
  suffices k7 : V E M_X12_masked 57 [none, none, some (iv (if (and32 l1 1) = 1 then ((Int.tdiv l0 100) : Int) else 6)), some (iv (if (and32 (shr32 l1 1) 1) = 1 then ((Int.tmod (Int.tdiv l0 10) 10) : Int) else 6)), none] [iv (if (and32 (shr32 l1 2) 1) = 1 then ((Int.tmod l0 10) : Int) else 6)] G c s Q X by
    refine v_icmp_ne (pc := 45) (tgt := 55) (dk dt_X12_masked 32 rfl) (by decide) (fun c3 => ?_) (fun c3 => ?_)
    · refine v_bipush (pc := 55) (dk dt_X12_masked 37 rfl) (by decide) ⟨by decide, by decide⟩ ?_
      exact v_less2 (ls' := [none, none, some (iv (if (and32 l1 1) = 1 then ((Int.tdiv l0 100) : Int) else 6)), some (iv (if (and32 (shr32 l1 1) 1) = 1 then ((Int.tmod (Int.tdiv l0 10) 10) : Int) else 6)), none]) ⟨rfl, rfl, trivial⟩ (by have hk9 := k7; try simp only [if_neg c3] at hk9 ⊢; exact hk9)
    · refine v_iload_n (pc := 48) (dk dt_X12_masked 33 rfl) rfl rfl ?_
      refine v_bipush (pc := 49) (dk dt_X12_masked 34 rfl) (by decide) ⟨by decide, by decide⟩ ?_
      refine v_iremP (pc := 51) (dk dt_X12_masked 35 rfl) (by decide) ?_
      refine v_goto (pc := 52) (tgt := 57) (dk dt_X12_masked 36 rfl) (by decide) ?_
      exact v_less2 (ls' := [none, none, some (iv (if (and32 l1 1) = 1 then ((Int.tdiv l0 100) : Int) else 6)), some (iv (if (and32 (shr32 l1 1) 1) = 1 then ((Int.tmod (Int.tdiv l0 10) 10) : Int) else 6)), none]) ⟨rfl, rfl, trivial⟩ (by have hk9 := k7; try simp only [if_pos c3] at hk9 ⊢; exact hk9)
  refine v_istore (pc := 57) (ls' := [none, none, some (iv (if (and32 l1 1) = 1 then ((Int.tdiv l0 100) : Int) else 6)), some (iv (if (and32 (shr32 l1 1) 1) = 1 then ((Int.tmod (Int.tdiv l0 10) 10) : Int) else 6)), some (iv (if (and32 (shr32 l1 2) 1) = 1 then ((Int.tmod l0 10) : Int) else 6))]) (dk dt_X12_masked 38 rfl) (Nat.le_of_ble_eq_true rfl) rfl ?_
  refine v_iload_n (pc := 59) (dk dt_X12_masked 39 rfl) rfl rfl ?_
  refine v_iload_n (pc := 60) (dk dt_X12_masked_1 0 rfl) rfl rfl ?_
  refine v_iload (pc := 61) (dk dt_X12_masked_1 1 rfl) rfl ?_
  obtain ⟨v4, h⟩ := h
  refine v_csPI (v := (wCode (if (and32 l1 1) = 1 then ((Int.tdiv l0 100) : Int) else 6) (if (and32 (shr32 l1 1) 1) = 1 then ((Int.tmod (Int.tdiv l0 10) 10) : Int) else 6) (if (and32 (shr32 l1 2) 1) = 1 then ((Int.tmod l0 10) : Int) else 6))) (As := [iv (if (and32 l1 1) = 1 then ((Int.tdiv l0 100) : Int) else 6), iv (if (and32 (shr32 l1 1) 1) = 1 then ((Int.tmod (Int.tdiv l0 10) 10) : Int) else 6), iv (if (and32 (shr32 l1 2) 1) = 1 then ((Int.tmod l0 10) : Int) else 6)]) (stk := []) (pc := 63) (dk dt_X12_masked_1 2 rfl) ml_X12_130 rfl rfl (Nat.le_of_ble_eq_true rfl) rfl rfl v4 ?_
  exact v_iret (pc := 66) (dk dt_X12_masked_1 3 rfl) rfl h
set_option maxRecDepth 20000 in
theorem i_X12_masked {E : EE} {l0 l1 : Int} {G : Gt} {c s : Nat} {Q X : Int → Gt → Prop} (h : (OkP E M_X12_codeOf [iv (if (and32 l1 1) = 1 then ((Int.tdiv l0 100) : Int) else 6), iv (if (and32 (shr32 l1 1) 1) = 1 then ((Int.tmod (Int.tdiv l0 10) 10) : Int) else 6), iv (if (and32 (shr32 l1 2) 1) = 1 then ((Int.tmod l0 10) : Int) else 6)] G (wCode (if (and32 l1 1) = 1 then ((Int.tdiv l0 100) : Int) else 6) (if (and32 (shr32 l1 1) 1) = 1 then ((Int.tmod (Int.tdiv l0 10) 10) : Int) else 6) (if (and32 (shr32 l1 2) 1) = 1 then ((Int.tmod l0 10) : Int) else 6)) ∧ Q (wCode (if (and32 l1 1) = 1 then ((Int.tdiv l0 100) : Int) else 6) (if (and32 (shr32 l1 1) 1) = 1 then ((Int.tmod (Int.tdiv l0 10) 10) : Int) else 6) (if (and32 (shr32 l1 2) 1) = 1 then ((Int.tmod l0 10) : Int) else 6)) G)) : Ok E M_X12_masked [iv l0, iv l1] G c s Q X := Ok.intro (k := 3) rfl rfl (Nat.le_of_ble_eq_true rfl) rfl (b_X12_masked_0 h)
set_option maxRecDepth 20000 in
theorem b_X12_groups_0 {E : EE} {l0 l1 l2 : Int} {G : Gt} {c s : Nat} {Q X : Int → Gt → Prop} (h : (gcl G l0 = 13 ∧ i32 ((gfd G 12 33 l0) - 1) ∧ i32 (12 * ((gfd G 12 33 l0) - 1)) ∧ gcl G l0 = 13 ∧ gcl G l0 = 13 ∧ i32 ((gfd G 12 33 l0) - 1) ∧ gcl G (gfd G 12 30 l0) = 15 ∧ 0 ≤ ((gfd G 12 33 l0) - 1) ∧ ((gfd G 12 33 l0) - 1) < gln G (gfd G 12 30 l0) ∧ gcl G l0 = 13 ∧ gcl G l0 = 13 ∧ i32 ((gfd G 12 33 l0) - 1) ∧ gcl G (gfd G 12 29 l0) = 17 ∧ 0 ≤ ((gfd G 12 33 l0) - 1) ∧ ((gfd G 12 33 l0) - 1) < gln G (gfd G 12 29 l0) ∧ (((gel G (gfd G 12 29 l0) ((gfd G 12 33 l0) - 1)) = 0 → V E M_X12_groups 47 [some (rv l0), some (iv l1), some (iv l2), some (iv (12 * ((gfd G 12 33 l0) - 1))), some (iv (gel G (gfd G 12 30 l0) ((gfd G 12 33 l0) - 1))), some (iv 0), some (iv (-1)), some (iv 1), none, none, none, none, none] [] G c s Q X) ∧ ((gel G (gfd G 12 29 l0) ((gfd G 12 33 l0) - 1)) ≠ 0 → Q 0 G)))) : V E M_X12_groups 0 [some (rv l0), some (iv l1), some (iv l2), none, none, none, none, none, none, none, none, none, none] [] G c s Q X := by
  refine v_bipush (pc := 0) (dk dt_X12_groups 0 rfl) (by decide) ⟨by decide, by decide⟩ ?_
  refine v_aload_n (pc := 2) (dk dt_X12_groups 1 rfl) rfl rfl ?_
  obtain ⟨v1, h⟩ := h
  refine v_getI (pc := 3) (dk dt_X12_groups 2 rfl) fl_X12_237 v1 (fun _ => ?_)
  refine v_iconst (pc := 6) (dk dt_X12_groups 3 rfl) ⟨by decide, by decide⟩ ?_
  obtain ⟨v2, h⟩ := h
  refine v_isub (pc := 7) (dk dt_X12_groups 4 rfl) v2 ?_
  obtain ⟨v3, h⟩ := h
  refine v_imul (pc := 8) (dk dt_X12_groups 5 rfl) v3 ?_
  refine v_istore_n (pc := 9) (ls' := [some (rv l0), some (iv l1), some (iv l2), some (iv (12 * ((gfd G 12 33 l0) - 1))), none, none, none, none, none, none, none, none, none]) (dk dt_X12_groups 6 rfl) rfl (Nat.le_of_ble_eq_true rfl) rfl ?_
  refine v_aload_n (pc := 10) (dk dt_X12_groups 7 rfl) rfl rfl ?_
  obtain ⟨v4, h⟩ := h
  refine v_getR (pc := 11) (dk dt_X12_groups 8 rfl) fl_X12_81 v4 (fun _ => ?_)
  refine v_aload_n (pc := 14) (dk dt_X12_groups 9 rfl) rfl rfl ?_
  obtain ⟨v5, h⟩ := h
  refine v_getI (pc := 15) (dk dt_X12_groups 10 rfl) fl_X12_237 v5 (fun _ => ?_)
  refine v_iconst (pc := 18) (dk dt_X12_groups 11 rfl) ⟨by decide, by decide⟩ ?_
  obtain ⟨v6, h⟩ := h
  refine v_isub (pc := 19) (dk dt_X12_groups 12 rfl) v6 ?_
  obtain ⟨v7, h⟩ := h
  obtain ⟨v8, h⟩ := h
  obtain ⟨v9, h⟩ := h
  refine v_iald (pc := 20) (dk dt_X12_groups 13 rfl) (Or.inl v7) v8 v9 (fun _ => ?_)
  refine v_istore (pc := 21) (ls' := [some (rv l0), some (iv l1), some (iv l2), some (iv (12 * ((gfd G 12 33 l0) - 1))), some (iv (gel G (gfd G 12 30 l0) ((gfd G 12 33 l0) - 1))), none, none, none, none, none, none, none, none]) (dk dt_X12_groups 14 rfl) (Nat.le_of_ble_eq_true rfl) rfl ?_
  refine v_aload_n (pc := 23) (dk dt_X12_groups 15 rfl) rfl rfl ?_
  obtain ⟨v10, h⟩ := h
  refine v_getR (pc := 24) (dk dt_X12_groups 16 rfl) fl_X12_78 v10 (fun _ => ?_)
  refine v_aload_n (pc := 27) (dk dt_X12_groups 17 rfl) rfl rfl ?_
  obtain ⟨v11, h⟩ := h
  refine v_getI (pc := 28) (dk dt_X12_groups 18 rfl) fl_X12_237 v11 (fun _ => ?_)
  refine v_iconst (pc := 31) (dk dt_X12_groups 19 rfl) ⟨by decide, by decide⟩ ?_
  obtain ⟨v12, h⟩ := h
  refine v_isub (pc := 32) (dk dt_X12_groups 20 rfl) v12 ?_
  obtain ⟨v13, h⟩ := h
  obtain ⟨v14, h⟩ := h
  obtain ⟨v15, h⟩ := h
  refine v_zald (pc := 33) (dk dt_X12_groups 21 rfl) v13 v14 v15 (fun _ => ?_)
  refine v_if_eq (pc := 34) (tgt := 38) (dk dt_X12_groups 22 rfl) (by decide) (fun c16 => ?_) (fun c16 => ?_)
  · replace h := h.1 c16
    refine v_iconst (pc := 38) (dk dt_X12_groups 24 rfl) ⟨by decide, by decide⟩ ?_
    refine v_istore (pc := 39) (ls' := [some (rv l0), some (iv l1), some (iv l2), some (iv (12 * ((gfd G 12 33 l0) - 1))), some (iv (gel G (gfd G 12 30 l0) ((gfd G 12 33 l0) - 1))), some (iv 0), none, none, none, none, none, none, none]) (dk dt_X12_groups 25 rfl) (Nat.le_of_ble_eq_true rfl) rfl ?_
    refine v_iconst (pc := 41) (dk dt_X12_groups 26 rfl) ⟨by decide, by decide⟩ ?_
    refine v_istore (pc := 42) (ls' := [some (rv l0), some (iv l1), some (iv l2), some (iv (12 * ((gfd G 12 33 l0) - 1))), some (iv (gel G (gfd G 12 30 l0) ((gfd G 12 33 l0) - 1))), some (iv 0), some (iv (-1)), none, none, none, none, none, none]) (dk dt_X12_groups 27 rfl) (Nat.le_of_ble_eq_true rfl) rfl ?_
    refine v_iconst (pc := 44) (dk dt_X12_groups 28 rfl) ⟨by decide, by decide⟩ ?_
    refine v_istore (pc := 45) (ls' := [some (rv l0), some (iv l1), some (iv l2), some (iv (12 * ((gfd G 12 33 l0) - 1))), some (iv (gel G (gfd G 12 30 l0) ((gfd G 12 33 l0) - 1))), some (iv 0), some (iv (-1)), some (iv 1), none, none, none, none, none]) (dk dt_X12_groups 29 rfl) (Nat.le_of_ble_eq_true rfl) rfl ?_
    exact h
  · replace h := h.2 c16
    exact v_vret (pc := 37) (dk dt_X12_groups 23 rfl) rfl h
set_option maxRecDepth 20000 in
theorem i_X12_groups {E : EE} {l0 l1 l2 : Int} {G : Gt} {c s : Nat} {Q X : Int → Gt → Prop} (h : (gcl G l0 = 13 ∧ i32 ((gfd G 12 33 l0) - 1) ∧ i32 (12 * ((gfd G 12 33 l0) - 1)) ∧ gcl G l0 = 13 ∧ gcl G l0 = 13 ∧ i32 ((gfd G 12 33 l0) - 1) ∧ gcl G (gfd G 12 30 l0) = 15 ∧ 0 ≤ ((gfd G 12 33 l0) - 1) ∧ ((gfd G 12 33 l0) - 1) < gln G (gfd G 12 30 l0) ∧ gcl G l0 = 13 ∧ gcl G l0 = 13 ∧ i32 ((gfd G 12 33 l0) - 1) ∧ gcl G (gfd G 12 29 l0) = 17 ∧ 0 ≤ ((gfd G 12 33 l0) - 1) ∧ ((gfd G 12 33 l0) - 1) < gln G (gfd G 12 29 l0) ∧ (((gel G (gfd G 12 29 l0) ((gfd G 12 33 l0) - 1)) = 0 → V E M_X12_groups 47 [some (rv l0), some (iv l1), some (iv l2), some (iv (12 * ((gfd G 12 33 l0) - 1))), some (iv (gel G (gfd G 12 30 l0) ((gfd G 12 33 l0) - 1))), some (iv 0), some (iv (-1)), some (iv 1), none, none, none, none, none] [] G c s Q X) ∧ ((gel G (gfd G 12 29 l0) ((gfd G 12 33 l0) - 1)) ≠ 0 → Q 0 G)))) : Ok E M_X12_groups [rv l0, iv l1, iv l2] G c s Q X := Ok.intro (k := 10) rfl rfl (Nat.le_of_ble_eq_true rfl) rfl (b_X12_groups_0 h)
set_option maxRecDepth 20000 in
theorem b_X12_groups_47 {E : EE} {l0 l1 l2 l3 l4 l5 l6 l7 : Int} {G : Gt} {c s : Nat} {Q X : Int → Gt → Prop} (h : ((l7 = 0 → (gcl G l0 = 13 ∧ gcl G l0 = 13 ∧ i32 ((gfd G 12 33 l0) - 1) ∧ gcl G (gfd G 12 30 l0) = 15 ∧ 0 ≤ ((gfd G 12 33 l0) - 1) ∧ ((gfd G 12 33 l0) - 1) < gln G (gfd G 12 30 l0) ∧ ∀ G8 : Gt, G8 = (sel G (gfd G 12 30 l0) ((gfd G 12 33 l0) - 1) l5) → V E M_X12_groups 297 [some (rv l0), none, none, some (iv l3), none, some (iv l5), none, none, some (iv 0), none, none, none, none] [] G8 c s Q X)) ∧ (l7 ≠ 0 → V E M_X12_groups 58 [some (rv l0), some (iv l1), some (iv l2), some (iv l3), some (iv l4), some (iv l5), some (iv l6), none, some (iv (-1)), some (iv 0), none, none, none] [] G c s Q X))) : V E M_X12_groups 47 [some (rv l0), some (iv l1), some (iv l2), some (iv l3), some (iv l4), some (iv l5), some (iv l6), some (iv l7), none, none, none, none, none] [] G c s Q X := by
  refine v_iload (pc := 47) (dk dt_X12_groups 30 rfl) rfl ?_
  refine v_if_eq (pc := 49) (tgt := 281) (dk dt_X12_groups 31 rfl) (by decide) (fun c1 => ?_) (fun c1 => ?_)
  · replace h := h.1 c1
    refine v_aload_n (pc := 281) (dk dt_X12_groups_3 31 rfl) rfl rfl ?_
    obtain ⟨v2, h⟩ := h
    refine v_getR (pc := 282) (dk dt_X12_groups_3 32 rfl) fl_X12_81 v2 (fun _ => ?_)
    refine v_aload_n (pc := 285) (dk dt_X12_groups_3 33 rfl) rfl rfl ?_
    obtain ⟨v3, h⟩ := h
    refine v_getI (pc := 286) (dk dt_X12_groups_3 34 rfl) fl_X12_237 v3 (fun _ => ?_)
    refine v_iconst (pc := 289) (dk dt_X12_groups_3 35 rfl) ⟨by decide, by decide⟩ ?_
    obtain ⟨v4, h⟩ := h
    refine v_isub (pc := 290) (dk dt_X12_groups_3 36 rfl) v4 ?_
    refine v_iload (pc := 291) (dk dt_X12_groups_3 37 rfl) rfl ?_
    obtain ⟨v5, h⟩ := h
    obtain ⟨v6, h⟩ := h
    obtain ⟨v7, h⟩ := h
    refine v_iast (pc := 293) (dk dt_X12_groups_3 38 rfl) v5 v6 v7 ?_
    generalize hG8 : (sel G (gfd G 12 30 l0) ((gfd G 12 33 l0) - 1) l5) = G8
    replace h := h G8 hG8.symm
    refine v_iconst (pc := 294) (dk dt_X12_groups_3 39 rfl) ⟨by decide, by decide⟩ ?_
    refine v_istore (pc := 295) (ls' := [some (rv l0), some (iv l1), some (iv l2), some (iv l3), some (iv l4), some (iv l5), some (iv l6), some (iv l7), some (iv 0), none, none, none, none]) (dk dt_X12_groups_4 0 rfl) (Nat.le_of_ble_eq_true rfl) rfl ?_
    exact v_less2 (ls' := [some (rv l0), none, none, some (iv l3), none, some (iv l5), none, none, some (iv 0), none, none, none, none]) ⟨rfl, rfl, rfl, rfl, trivial⟩ h
  · replace h := h.2 c1
    refine v_iconst (pc := 52) (dk dt_X12_groups 32 rfl) ⟨by decide, by decide⟩ ?_
    refine v_istore (pc := 53) (ls' := [some (rv l0), some (iv l1), some (iv l2), some (iv l3), some (iv l4), some (iv l5), some (iv l6), some (iv l7), some (iv (-1)), none, none, none, none]) (dk dt_X12_groups 33 rfl) (Nat.le_of_ble_eq_true rfl) rfl ?_
    refine v_iconst (pc := 55) (dk dt_X12_groups 34 rfl) ⟨by decide, by decide⟩ ?_
    refine v_istore (pc := 56) (ls' := [some (rv l0), some (iv l1), some (iv l2), some (iv l3), some (iv l4), some (iv l5), some (iv l6), some (iv l7), some (iv (-1)), some (iv 0), none, none, none]) (dk dt_X12_groups 35 rfl) (Nat.le_of_ble_eq_true rfl) rfl ?_
    exact v_less2 (ls' := [some (rv l0), some (iv l1), some (iv l2), some (iv l3), some (iv l4), some (iv l5), some (iv l6), none, some (iv (-1)), some (iv 0), none, none, none]) ⟨rfl, rfl, rfl, rfl, rfl, rfl, rfl, rfl, rfl, trivial⟩ h
set_option maxRecDepth 20000 in
theorem b_X12_groups_58 {E : EE} {l0 l1 l2 l3 l4 l5 l6 l8 l9 : Int} {G : Gt} {c s : Nat} {Q X : Int → Gt → Prop} (h : ((l4 ≤ l9 → V E M_X12_groups 137 [some (rv l0), some (iv l1), some (iv l2), some (iv l3), some (iv l4), some (iv l5), some (iv l6), some (iv (if l8 = (-1) then (0 : Int) else 1)), some (iv l8), some (jv 0), none, some (iv 1), some (iv 0)] [] G c s Q X) ∧ (l9 < l4 → (gcl G l0 = 13 ∧ i32 (l3 + l9) ∧ gcl G (gfd G 12 31 l0) = 15 ∧ 0 ≤ (l3 + l9) ∧ (l3 + l9) < gln G (gfd G 12 31 l0) ∧ OkP E M_X12_masked [iv (gel G (gfd G 12 31 l0) (l3 + l9)), iv l2] G (wMask (gel G (gfd G 12 31 l0) (l3 + l9)) l2) ∧ i32 (l9 + 1) ∧ V E M_X12_groups 58 [some (rv l0), some (iv l1), some (iv l2), some (iv l3), some (iv l4), some (iv l5), some (iv l6), none, some (iv (if (wMask (gel G (gfd G 12 31 l0) (l3 + l9)) l2) ≤ l6 then (l8 : Int) else (if l8 = (-1) then ((wMask (gel G (gfd G 12 31 l0) (l3 + l9)) l2) : Int) else (if l8 ≤ (wMask (gel G (gfd G 12 31 l0) (l3 + l9)) l2) then (l8 : Int) else (wMask (gel G (gfd G 12 31 l0) (l3 + l9)) l2))))), some (iv (l9 + 1)), none, none, none] [] G c s Q X)))) : V E M_X12_groups 58 [some (rv l0), some (iv l1), some (iv l2), some (iv l3), some (iv l4), some (iv l5), some (iv l6), none, some (iv l8), some (iv l9), none, none, none] [] G c s Q X := by
  refine v_iload (pc := 58) (dk dt_X12_groups 36 rfl) rfl ?_
  refine v_iload (pc := 60) (dk dt_X12_groups 37 rfl) rfl ?_
  refine v_icmp_ge (pc := 62) (tgt := 115) (dk dt_X12_groups 38 rfl) (by decide) (fun c1 => ?_) (fun c1 => ?_)
  · replace h := h.1 c1
    refine v_iload (pc := 115) (dk dt_X12_groups_1 23 rfl) rfl ?_
    refine v_iconst (pc := 117) (dk dt_X12_groups_1 24 rfl) ⟨by decide, by decide⟩ ?_
    suffices k13 : V E M_X12_groups 126 [some (rv l0), some (iv l1), some (iv l2), some (iv l3), some (iv l4), some (iv l5), some (iv l6), none, some (iv l8), none, none, none, none] [iv (if l8 = (-1) then (0 : Int) else 1)] G c s Q X by
      refine v_icmp_eq (pc := 118) (tgt := 125) (dk dt_X12_groups_1 25 rfl) (by decide) (fun c2 => ?_) (fun c2 => ?_)
      · refine v_iconst (pc := 125) (dk dt_X12_groups_1 28 rfl) ⟨by decide, by decide⟩ ?_
        exact v_less2 (ls' := [some (rv l0), some (iv l1), some (iv l2), some (iv l3), some (iv l4), some (iv l5), some (iv l6), none, some (iv l8), none, none, none, none]) ⟨rfl, rfl, rfl, rfl, rfl, rfl, rfl, rfl, trivial⟩ (by have hk9 := k13; try simp only [if_pos c2] at hk9 ⊢; exact hk9)
      · refine v_iconst (pc := 121) (dk dt_X12_groups_1 26 rfl) ⟨by decide, by decide⟩ ?_
        refine v_goto (pc := 122) (tgt := 126) (dk dt_X12_groups_1 27 rfl) (by decide) ?_
        exact v_less2 (ls' := [some (rv l0), some (iv l1), some (iv l2), some (iv l3), some (iv l4), some (iv l5), some (iv l6), none, some (iv l8), none, none, none, none]) ⟨rfl, rfl, rfl, rfl, rfl, rfl, rfl, rfl, trivial⟩ (by have hk9 := k13; try simp only [if_neg c2] at hk9 ⊢; exact hk9)
    refine v_istore (pc := 126) (ls' := [some (rv l0), some (iv l1), some (iv l2), some (iv l3), some (iv l4), some (iv l5), some (iv l6), some (iv (if l8 = (-1) then (0 : Int) else 1)), some (iv l8), none, none, none, none]) (dk dt_X12_groups_1 29 rfl) (Nat.le_of_ble_eq_true rfl) rfl ?_
    refine v_lconst (x := 0) (pc := 128) (dk dt_X12_groups_1 30 rfl) (by decide) ⟨by decide, by decide⟩ ?_
    refine v_lstore (pc := 129) (ls' := [some (rv l0), some (iv l1), some (iv l2), some (iv l3), some (iv l4), some (iv l5), some (iv l6), some (iv (if l8 = (-1) then (0 : Int) else 1)), some (iv l8), some (jv 0), none, none, none]) (dk dt_X12_groups_1 31 rfl) (Nat.le_of_ble_eq_true rfl) rfl ?_
    refine v_iconst (pc := 131) (dk dt_X12_groups_1 32 rfl) ⟨by decide, by decide⟩ ?_
    refine v_istore (pc := 132) (ls' := [some (rv l0), some (iv l1), some (iv l2), some (iv l3), some (iv l4), some (iv l5), some (iv l6), some (iv (if l8 = (-1) then (0 : Int) else 1)), some (iv l8), some (jv 0), none, some (iv 1), none]) (dk dt_X12_groups_1 33 rfl) (Nat.le_of_ble_eq_true rfl) rfl ?_
    refine v_iconst (pc := 134) (dk dt_X12_groups_1 34 rfl) ⟨by decide, by decide⟩ ?_
    refine v_istore (pc := 135) (ls' := [some (rv l0), some (iv l1), some (iv l2), some (iv l3), some (iv l4), some (iv l5), some (iv l6), some (iv (if l8 = (-1) then (0 : Int) else 1)), some (iv l8), some (jv 0), none, some (iv 1), some (iv 0)]) (dk dt_X12_groups_1 35 rfl) (Nat.le_of_ble_eq_true rfl) rfl ?_
    exact h
  · replace h := h.2 c1
    refine v_aload_n (pc := 65) (dk dt_X12_groups 39 rfl) rfl rfl ?_
    obtain ⟨v3, h⟩ := h
    refine v_getR (pc := 66) (dk dt_X12_groups_1 0 rfl) fl_X12_84 v3 (fun _ => ?_)
    refine v_iload_n (pc := 69) (dk dt_X12_groups_1 1 rfl) rfl rfl ?_
    refine v_iload (pc := 70) (dk dt_X12_groups_1 2 rfl) rfl ?_
    obtain ⟨v4, h⟩ := h
    refine v_iadd (pc := 72) (dk dt_X12_groups_1 3 rfl) v4 ?_
    obtain ⟨v5, h⟩ := h
    obtain ⟨v6, h⟩ := h
    obtain ⟨v7, h⟩ := h
    refine v_iald (pc := 73) (dk dt_X12_groups_1 4 rfl) (Or.inl v5) v6 v7 (fun _ => ?_)
    refine v_iload_n (pc := 74) (dk dt_X12_groups_1 5 rfl) rfl rfl ?_
    obtain ⟨v8, h⟩ := h
    refine v_csPI (v := (wMask (gel G (gfd G 12 31 l0) (l3 + l9)) l2)) (As := [iv (gel G (gfd G 12 31 l0) (l3 + l9)), iv l2]) (stk := []) (pc := 75) (dk dt_X12_groups_1 6 rfl) ml_X12_256 rfl rfl (Nat.le_of_ble_eq_true rfl) rfl rfl v8 ?_
    refine v_istore (pc := 78) (ls' := [some (rv l0), some (iv l1), some (iv l2), some (iv l3), some (iv l4), some (iv l5), some (iv l6), none, some (iv l8), some (iv l9), some (iv (wMask (gel G (gfd G 12 31 l0) (l3 + l9)) l2)), none, none]) (dk dt_X12_groups_1 7 rfl) (Nat.le_of_ble_eq_true rfl) rfl ?_
    refine v_iload (pc := 80) (dk dt_X12_groups_1 8 rfl) rfl ?_
    refine v_iload (pc := 82) (dk dt_X12_groups_1 9 rfl) rfl ?_
    suffices k14 : V E M_X12_groups 107 [some (rv l0), some (iv l1), some (iv l2), some (iv l3), some (iv l4), some (iv l5), some (iv l6), none, none, some (iv l9), none, none, none] [iv (if (wMask (gel G (gfd G 12 31 l0) (l3 + l9)) l2) ≤ l6 then (l8 : Int) else (if l8 = (-1) then ((wMask (gel G (gfd G 12 31 l0) (l3 + l9)) l2) : Int) else (if l8 ≤ (wMask (gel G (gfd G 12 31 l0) (l3 + l9)) l2) then (l8 : Int) else (wMask (gel G (gfd G 12 31 l0) (l3 + l9)) l2))))] G c s Q X by
      refine v_icmp_le (pc := 84) (tgt := 105) (dk dt_X12_groups_1 10 rfl) (by decide) (fun c9 => ?_) (fun c9 => ?_)
      · refine v_iload (pc := 105) (dk dt_X12_groups_1 19 rfl) rfl ?_
        exact v_less2 (ls' := [some (rv l0), some (iv l1), some (iv l2), some (iv l3), some (iv l4), some (iv l5), some (iv l6), none, none, some (iv l9), none, none, none]) ⟨rfl, rfl, rfl, rfl, rfl, rfl, rfl, rfl, trivial⟩ (by have hk9 := k14; try simp only [if_pos c9] at hk9 ⊢; exact hk9)
      · refine v_iload (pc := 87) (dk dt_X12_groups_1 11 rfl) rfl ?_
        refine v_iconst (pc := 89) (dk dt_X12_groups_1 12 rfl) ⟨by decide, by decide⟩ ?_
        refine v_icmp_eq (pc := 90) (tgt := 100) (dk dt_X12_groups_1 13 rfl) (by decide) (fun c10 => ?_) (fun c10 => ?_)
        · refine v_iload (pc := 100) (dk dt_X12_groups_1 17 rfl) rfl ?_
          refine v_goto (pc := 102) (tgt := 107) (dk dt_X12_groups_1 18 rfl) (by decide) ?_
          exact v_less2 (ls' := [some (rv l0), some (iv l1), some (iv l2), some (iv l3), some (iv l4), some (iv l5), some (iv l6), none, none, some (iv l9), none, none, none]) ⟨rfl, rfl, rfl, rfl, rfl, rfl, rfl, rfl, trivial⟩ (by have hk9 := k14; try simp only [if_neg (Int.not_le.mpr c9)] at hk9 ⊢; try simp only [if_pos c10] at hk9 ⊢; exact hk9)
        · refine v_iload (pc := 93) (dk dt_X12_groups_1 14 rfl) rfl ?_
          refine v_iload (pc := 95) (dk dt_X12_groups_1 15 rfl) rfl ?_
          refine v_icmp_ge (pc := 97) (tgt := 105) (dk dt_X12_groups_1 16 rfl) (by decide) (fun c11 => ?_) (fun c11 => ?_)
          · refine v_iload (pc := 105) (dk dt_X12_groups_1 19 rfl) rfl ?_
            exact v_less2 (ls' := [some (rv l0), some (iv l1), some (iv l2), some (iv l3), some (iv l4), some (iv l5), some (iv l6), none, none, some (iv l9), none, none, none]) ⟨rfl, rfl, rfl, rfl, rfl, rfl, rfl, rfl, trivial⟩ (by have hk9 := k14; try simp only [if_neg (Int.not_le.mpr c9)] at hk9 ⊢; try simp only [if_neg c10] at hk9 ⊢; try simp only [if_pos c11] at hk9 ⊢; exact hk9)
          · refine v_iload (pc := 100) (dk dt_X12_groups_1 17 rfl) rfl ?_
            refine v_goto (pc := 102) (tgt := 107) (dk dt_X12_groups_1 18 rfl) (by decide) ?_
            exact v_less2 (ls' := [some (rv l0), some (iv l1), some (iv l2), some (iv l3), some (iv l4), some (iv l5), some (iv l6), none, none, some (iv l9), none, none, none]) ⟨rfl, rfl, rfl, rfl, rfl, rfl, rfl, rfl, trivial⟩ (by have hk9 := k14; try simp only [if_neg (Int.not_le.mpr c9)] at hk9 ⊢; try simp only [if_neg c10] at hk9 ⊢; try simp only [if_neg (Int.not_le.mpr c11)] at hk9 ⊢; exact hk9)
    refine v_istore (pc := 107) (ls' := [some (rv l0), some (iv l1), some (iv l2), some (iv l3), some (iv l4), some (iv l5), some (iv l6), none, some (iv (if (wMask (gel G (gfd G 12 31 l0) (l3 + l9)) l2) ≤ l6 then (l8 : Int) else (if l8 = (-1) then ((wMask (gel G (gfd G 12 31 l0) (l3 + l9)) l2) : Int) else (if l8 ≤ (wMask (gel G (gfd G 12 31 l0) (l3 + l9)) l2) then (l8 : Int) else (wMask (gel G (gfd G 12 31 l0) (l3 + l9)) l2))))), some (iv l9), none, none, none]) (dk dt_X12_groups_1 20 rfl) (Nat.le_of_ble_eq_true rfl) rfl ?_
    obtain ⟨v12, h⟩ := h
    refine v_iinc (pc := 109) (ls' := [some (rv l0), some (iv l1), some (iv l2), some (iv l3), some (iv l4), some (iv l5), some (iv l6), none, some (iv (if (wMask (gel G (gfd G 12 31 l0) (l3 + l9)) l2) ≤ l6 then (l8 : Int) else (if l8 = (-1) then ((wMask (gel G (gfd G 12 31 l0) (l3 + l9)) l2) : Int) else (if l8 ≤ (wMask (gel G (gfd G 12 31 l0) (l3 + l9)) l2) then (l8 : Int) else (wMask (gel G (gfd G 12 31 l0) (l3 + l9)) l2))))), some (iv (l9 + 1)), none, none, none]) (dk dt_X12_groups_1 21 rfl) (Nat.le_of_ble_eq_true rfl) rfl v12 rfl ?_
    refine v_goto (pc := 112) (tgt := 58) (dk dt_X12_groups_1 22 rfl) (by decide) ?_
    exact h
set_option maxRecDepth 20000 in
theorem b_X12_groups_137 {E : EE} {l0 l1 l2 l3 l4 l5 l6 l7 l8 l9 l11 l12 : Int} {G : Gt} {c s : Nat} {Q X : Int → Gt → Prop} (h : (∀ J1 : Prop, (((l7 = 0 → V E M_X12_groups 47 [some (rv l0), some (iv l1), some (iv l2), some (iv l3), some (iv l4), some (iv l5), some (iv l6), some (iv l7), none, none, none, none, none] [] G c s Q X) ∧ (l7 ≠ 0 → (gcl G l0 = 13 ∧ OkP E M_X12_bounded [jv l9] G (wBd l9) ∧ gcl G (gfd G 12 49 l0) = 16 ∧ 0 ≤ l5 ∧ l5 < gln G (gfd G 12 49 l0) ∧ ∀ G8 : Gt, G8 = (sel G (gfd G 12 49 l0) l5 (wBd l9)) → gcl G8 l0 = 13 ∧ gcl G8 (gfd G8 12 50 l0) = 15 ∧ 0 ≤ l5 ∧ l5 < gln G8 (gfd G8 12 50 l0) ∧ ∀ G13 : Gt, G13 = (sel G8 (gfd G8 12 50 l0) l5 l8) → i32 (l5 + 1) ∧ V E M_X12_groups 47 [some (rv l0), some (iv l1), some (iv l2), some (iv l3), some (iv l4), some (iv (l5 + 1)), some (iv l8), some (iv l7), none, none, none, none, none] [] G13 c s Q X))) → J1) → ((l4 ≤ l12 → J1) ∧ (l12 < l4 → ((l7 = 0 → J1) ∧ (l7 ≠ 0 → (gcl G l0 = 13 ∧ i32 (l3 + l12) ∧ gcl G (gfd G 12 31 l0) = 15 ∧ 0 ≤ (l3 + l12) ∧ (l3 + l12) < gln G (gfd G 12 31 l0) ∧ OkP E M_X12_masked [iv (gel G (gfd G 12 31 l0) (l3 + l12)), iv l2] G (wMask (gel G (gfd G 12 31 l0) (l3 + l12)) l2) ∧ ((wMask (gel G (gfd G 12 31 l0) (l3 + l12)) l2) = l8 → l11 = 0 → l1 ≠ 8 → gcl G l0 = 13) ∧ ((wMask (gel G (gfd G 12 31 l0) (l3 + l12)) l2) = l8 → l11 = 0 → l1 ≠ 8 → i32 (l3 + l12)) ∧ ((wMask (gel G (gfd G 12 31 l0) (l3 + l12)) l2) = l8 → l11 = 0 → l1 ≠ 8 → gcl G (gfd G 12 32 l0) = 16) ∧ ((wMask (gel G (gfd G 12 31 l0) (l3 + l12)) l2) = l8 → l11 = 0 → l1 ≠ 8 → 0 ≤ (l3 + l12)) ∧ ((wMask (gel G (gfd G 12 31 l0) (l3 + l12)) l2) = l8 → l11 = 0 → l1 ≠ 8 → (l3 + l12) < gln G (gfd G 12 32 l0)) ∧ ((wMask (gel G (gfd G 12 31 l0) (l3 + l12)) l2) = l8 → l11 = 0 → l1 ≠ 8 → l9 ≤ (gel G (gfd G 12 32 l0) (l3 + l12)) → gcl G l0 = 13) ∧ ((wMask (gel G (gfd G 12 31 l0) (l3 + l12)) l2) = l8 → l11 = 0 → l1 ≠ 8 → l9 ≤ (gel G (gfd G 12 32 l0) (l3 + l12)) → i32 (l3 + l12)) ∧ ((wMask (gel G (gfd G 12 31 l0) (l3 + l12)) l2) = l8 → l11 = 0 → l1 ≠ 8 → l9 ≤ (gel G (gfd G 12 32 l0) (l3 + l12)) → gcl G (gfd G 12 32 l0) = 16) ∧ ((wMask (gel G (gfd G 12 31 l0) (l3 + l12)) l2) = l8 → l11 = 0 → l1 ≠ 8 → l9 ≤ (gel G (gfd G 12 32 l0) (l3 + l12)) → 0 ≤ (l3 + l12)) ∧ ((wMask (gel G (gfd G 12 31 l0) (l3 + l12)) l2) = l8 → l11 = 0 → l1 ≠ 8 → l9 ≤ (gel G (gfd G 12 32 l0) (l3 + l12)) → (l3 + l12) < gln G (gfd G 12 32 l0)) ∧ ((wMask (gel G (gfd G 12 31 l0) (l3 + l12)) l2) = l8 → l11 = 0 → l1 = 8 → gcl G l0 = 13) ∧ ((wMask (gel G (gfd G 12 31 l0) (l3 + l12)) l2) = l8 → l11 = 0 → l1 = 8 → i32 (l3 + l12)) ∧ ((wMask (gel G (gfd G 12 31 l0) (l3 + l12)) l2) = l8 → l11 = 0 → l1 = 8 → gcl G (gfd G 12 32 l0) = 16) ∧ ((wMask (gel G (gfd G 12 31 l0) (l3 + l12)) l2) = l8 → l11 = 0 → l1 = 8 → 0 ≤ (l3 + l12)) ∧ ((wMask (gel G (gfd G 12 31 l0) (l3 + l12)) l2) = l8 → l11 = 0 → l1 = 8 → (l3 + l12) < gln G (gfd G 12 32 l0)) ∧ ((wMask (gel G (gfd G 12 31 l0) (l3 + l12)) l2) = l8 → l11 = 0 → l1 = 8 → i64 (l9 + (gel G (gfd G 12 32 l0) (l3 + l12)))) ∧ ((wMask (gel G (gfd G 12 31 l0) (l3 + l12)) l2) = l8 → l11 ≠ 0 → gcl G l0 = 13) ∧ ((wMask (gel G (gfd G 12 31 l0) (l3 + l12)) l2) = l8 → l11 ≠ 0 → i32 (l3 + l12)) ∧ ((wMask (gel G (gfd G 12 31 l0) (l3 + l12)) l2) = l8 → l11 ≠ 0 → gcl G (gfd G 12 32 l0) = 16) ∧ ((wMask (gel G (gfd G 12 31 l0) (l3 + l12)) l2) = l8 → l11 ≠ 0 → 0 ≤ (l3 + l12)) ∧ ((wMask (gel G (gfd G 12 31 l0) (l3 + l12)) l2) = l8 → l11 ≠ 0 → (l3 + l12) < gln G (gfd G 12 32 l0)) ∧ i32 (l12 + 1) ∧ V E M_X12_groups 137 [some (rv l0), some (iv l1), some (iv l2), some (iv l3), some (iv l4), some (iv l5), some (iv l6), some (iv l7), some (iv l8), some (jv (if (wMask (gel G (gfd G 12 31 l0) (l3 + l12)) l2) = l8 then ((if l11 = 0 then ((if l1 = 8 then ((l9 + (gel G (gfd G 12 32 l0) (l3 + l12))) : Int) else (if l9 ≤ (gel G (gfd G 12 32 l0) (l3 + l12)) then ((gel G (gfd G 12 32 l0) (l3 + l12)) : Int) else l9)) : Int) else (gel G (gfd G 12 32 l0) (l3 + l12))) : Int) else l9)), none, some (iv (if (wMask (gel G (gfd G 12 31 l0) (l3 + l12)) l2) = l8 then (0 : Int) else l11)), some (iv (l12 + 1))] [] G c s Q X))))))) : V E M_X12_groups 137 [some (rv l0), some (iv l1), some (iv l2), some (iv l3), some (iv l4), some (iv l5), some (iv l6), some (iv l7), some (iv l8), some (jv l9), none, some (iv l11), some (iv l12)] [] G c s Q X := by
  refine v_iload (pc := 137) (dk dt_X12_groups_1 36 rfl) rfl ?_
  refine v_iload (pc := 139) (dk dt_X12_groups_1 37 rfl) rfl ?_
  obtain ⟨J1, dJ1⟩ : ∃ J9 : Prop, J9 = V E M_X12_groups 245 [some (rv l0), some (iv l1), some (iv l2), some (iv l3), some (iv l4), some (iv l5), some (iv l6), some (iv l7), some (iv l8), some (jv l9), none, none, none] [] G c s Q X := ⟨_, rfl⟩
  have hJ1 : ((l7 = 0 → V E M_X12_groups 47 [some (rv l0), some (iv l1), some (iv l2), some (iv l3), some (iv l4), some (iv l5), some (iv l6), some (iv l7), none, none, none, none, none] [] G c s Q X) ∧ (l7 ≠ 0 → (gcl G l0 = 13 ∧ OkP E M_X12_bounded [jv l9] G (wBd l9) ∧ gcl G (gfd G 12 49 l0) = 16 ∧ 0 ≤ l5 ∧ l5 < gln G (gfd G 12 49 l0) ∧ ∀ G8 : Gt, G8 = (sel G (gfd G 12 49 l0) l5 (wBd l9)) → gcl G8 l0 = 13 ∧ gcl G8 (gfd G8 12 50 l0) = 15 ∧ 0 ≤ l5 ∧ l5 < gln G8 (gfd G8 12 50 l0) ∧ ∀ G13 : Gt, G13 = (sel G8 (gfd G8 12 50 l0) l5 l8) → i32 (l5 + 1) ∧ V E M_X12_groups 47 [some (rv l0), some (iv l1), some (iv l2), some (iv l3), some (iv l4), some (iv (l5 + 1)), some (iv l8), some (iv l7), none, none, none, none, none] [] G13 c s Q X))) → J1 := by
    intro h
    rw [dJ1]
    refine v_iload (pc := 245) (dk dt_X12_groups_3 14 rfl) rfl ?_
    refine v_if_eq (pc := 247) (tgt := 278) (dk dt_X12_groups_3 15 rfl) (by decide) (fun c2 => ?_) (fun c2 => ?_)
    · replace h := h.1 c2
      refine v_goto (pc := 278) (tgt := 47) (dk dt_X12_groups_3 30 rfl) (by decide) ?_
      exact v_less2 (ls' := [some (rv l0), some (iv l1), some (iv l2), some (iv l3), some (iv l4), some (iv l5), some (iv l6), some (iv l7), none, none, none, none, none]) ⟨rfl, rfl, rfl, rfl, rfl, rfl, rfl, rfl, trivial⟩ h
    · replace h := h.2 c2
      refine v_aload_n (pc := 250) (dk dt_X12_groups_3 16 rfl) rfl rfl ?_
      obtain ⟨v3, h⟩ := h
      refine v_getR (pc := 251) (dk dt_X12_groups_3 17 rfl) fl_X12_121 v3 (fun _ => ?_)
      refine v_iload (pc := 254) (dk dt_X12_groups_3 18 rfl) rfl ?_
      refine v_lload (pc := 256) (dk dt_X12_groups_3 19 rfl) rfl ?_
      obtain ⟨v4, h⟩ := h
      refine v_csPJ (v := (wBd l9)) (As := [jv l9]) (stk := [iv l5, rv (gfd G 12 49 l0)]) (pc := 258) (dk dt_X12_groups_3 20 rfl) ml_X12_240 rfl rfl (Nat.le_of_ble_eq_true rfl) rfl rfl v4 ?_
      obtain ⟨v5, h⟩ := h
      obtain ⟨v6, h⟩ := h
      obtain ⟨v7, h⟩ := h
      refine v_last (pc := 261) (dk dt_X12_groups_3 21 rfl) v5 v6 v7 ?_
      generalize hG8 : (sel G (gfd G 12 49 l0) l5 (wBd l9)) = G8
      replace h := h G8 hG8.symm
      refine v_aload_n (pc := 262) (dk dt_X12_groups_3 22 rfl) rfl rfl ?_
      obtain ⟨v9, h⟩ := h
      refine v_getR (pc := 263) (dk dt_X12_groups_3 23 rfl) fl_X12_124 v9 (fun _ => ?_)
      refine v_iload (pc := 266) (dk dt_X12_groups_3 24 rfl) rfl ?_
      refine v_iload (pc := 268) (dk dt_X12_groups_3 25 rfl) rfl ?_
      obtain ⟨v10, h⟩ := h
      obtain ⟨v11, h⟩ := h
      obtain ⟨v12, h⟩ := h
      refine v_iast (pc := 270) (dk dt_X12_groups_3 26 rfl) v10 v11 v12 ?_
      generalize hG13 : (sel G8 (gfd G8 12 50 l0) l5 l8) = G13
      replace h := h G13 hG13.symm
      obtain ⟨v14, h⟩ := h
      refine v_iinc (pc := 271) (ls' := [some (rv l0), some (iv l1), some (iv l2), some (iv l3), some (iv l4), some (iv (l5 + 1)), some (iv l6), some (iv l7), some (iv l8), some (jv l9), none, none, none]) (dk dt_X12_groups_3 27 rfl) (Nat.le_of_ble_eq_true rfl) rfl v14 rfl ?_
      refine v_iload (pc := 274) (dk dt_X12_groups_3 28 rfl) rfl ?_
      refine v_istore (pc := 276) (ls' := [some (rv l0), some (iv l1), some (iv l2), some (iv l3), some (iv l4), some (iv (l5 + 1)), some (iv l8), some (iv l7), some (iv l8), some (jv l9), none, none, none]) (dk dt_X12_groups_3 29 rfl) (Nat.le_of_ble_eq_true rfl) rfl ?_
      refine v_goto (pc := 278) (tgt := 47) (dk dt_X12_groups_3 30 rfl) (by decide) ?_
      exact v_less2 (ls' := [some (rv l0), some (iv l1), some (iv l2), some (iv l3), some (iv l4), some (iv (l5 + 1)), some (iv l8), some (iv l7), none, none, none, none, none]) ⟨rfl, rfl, rfl, rfl, rfl, rfl, rfl, rfl, trivial⟩ h
  replace h := h _ hJ1
  refine v_icmp_ge (pc := 141) (tgt := 245) (dk dt_X12_groups_1 38 rfl) (by decide) (fun c15 => ?_) (fun c15 => ?_)
  · replace h := h.1 c15
    rw [dJ1] at h
    exact v_less2 (ls' := [some (rv l0), some (iv l1), some (iv l2), some (iv l3), some (iv l4), some (iv l5), some (iv l6), some (iv l7), some (iv l8), some (jv l9), none, none, none]) ⟨rfl, rfl, rfl, rfl, rfl, rfl, rfl, rfl, rfl, rfl, trivial⟩ h
  · replace h := h.2 c15
    refine v_iload (pc := 144) (dk dt_X12_groups_1 39 rfl) rfl ?_
    refine v_if_eq (pc := 146) (tgt := 245) (dk dt_X12_groups_2 0 rfl) (by decide) (fun c16 => ?_) (fun c16 => ?_)
    · replace h := h.1 c16
      rw [dJ1] at h
      exact v_less2 (ls' := [some (rv l0), some (iv l1), some (iv l2), some (iv l3), some (iv l4), some (iv l5), some (iv l6), some (iv l7), some (iv l8), some (jv l9), none, none, none]) ⟨rfl, rfl, rfl, rfl, rfl, rfl, rfl, rfl, rfl, rfl, trivial⟩ h
    · replace h := h.2 c16
      refine v_aload_n (pc := 149) (dk dt_X12_groups_2 1 rfl) rfl rfl ?_
      obtain ⟨v17, h⟩ := h
      refine v_getR (pc := 150) (dk dt_X12_groups_2 2 rfl) fl_X12_84 v17 (fun _ => ?_)
      refine v_iload_n (pc := 153) (dk dt_X12_groups_2 3 rfl) rfl rfl ?_
      refine v_iload (pc := 154) (dk dt_X12_groups_2 4 rfl) rfl ?_
      obtain ⟨v18, h⟩ := h
      refine v_iadd (pc := 156) (dk dt_X12_groups_2 5 rfl) v18 ?_
      obtain ⟨v19, h⟩ := h
      obtain ⟨v20, h⟩ := h
      obtain ⟨v21, h⟩ := h
      refine v_iald (pc := 157) (dk dt_X12_groups_2 6 rfl) (Or.inl v19) v20 v21 (fun _ => ?_)
      refine v_iload_n (pc := 158) (dk dt_X12_groups_2 7 rfl) rfl rfl ?_
      obtain ⟨v22, h⟩ := h
      refine v_csPI (v := (wMask (gel G (gfd G 12 31 l0) (l3 + l12)) l2)) (As := [iv (gel G (gfd G 12 31 l0) (l3 + l12)), iv l2]) (stk := []) (pc := 159) (dk dt_X12_groups_2 8 rfl) ml_X12_256 rfl rfl (Nat.le_of_ble_eq_true rfl) rfl rfl v22 ?_
      refine v_iload (pc := 162) (dk dt_X12_groups_2 9 rfl) rfl ?_
      obtain ⟨v26, v27, v28, v29, v30, v32, v33, v34, v35, v36, v37, v38, v39, v40, v41, v42, v43, v44, v45, v46, v47, h⟩ := h
      suffices k49 : V E M_X12_groups 239 [some (rv l0), some (iv l1), some (iv l2), some (iv l3), some (iv l4), some (iv l5), some (iv l6), some (iv l7), some (iv l8), some (jv (if (wMask (gel G (gfd G 12 31 l0) (l3 + l12)) l2) = l8 then ((if l11 = 0 then ((if l1 = 8 then ((l9 + (gel G (gfd G 12 32 l0) (l3 + l12))) : Int) else (if l9 ≤ (gel G (gfd G 12 32 l0) (l3 + l12)) then ((gel G (gfd G 12 32 l0) (l3 + l12)) : Int) else l9)) : Int) else (gel G (gfd G 12 32 l0) (l3 + l12))) : Int) else l9)), none, some (iv (if (wMask (gel G (gfd G 12 31 l0) (l3 + l12)) l2) = l8 then (0 : Int) else l11)), some (iv l12)] [] G c s Q X by
        refine v_icmp_ne (pc := 164) (tgt := 239) (dk dt_X12_groups_2 10 rfl) (by decide) (fun c23 => ?_) (fun c23 => ?_)
        · exact v_less2 (ls' := [some (rv l0), some (iv l1), some (iv l2), some (iv l3), some (iv l4), some (iv l5), some (iv l6), some (iv l7), some (iv l8), some (jv l9), none, some (iv l11), some (iv l12)]) ⟨rfl, rfl, rfl, rfl, rfl, rfl, rfl, rfl, rfl, rfl, rfl, rfl, trivial⟩ (by have hk9 := k49; try simp only [if_neg c23] at hk9 ⊢; exact hk9)
        · refine v_iload (pc := 167) (dk dt_X12_groups_2 11 rfl) rfl ?_
          refine v_if_eq (pc := 169) (tgt := 184) (dk dt_X12_groups_2 12 rfl) (by decide) (fun c24 => ?_) (fun c24 => ?_)
          · refine v_iload_n (pc := 184) (dk dt_X12_groups_2 20 rfl) rfl rfl ?_
            refine v_bipush (pc := 185) (dk dt_X12_groups_2 21 rfl) (by decide) ⟨by decide, by decide⟩ ?_
            refine v_icmp_ne (pc := 187) (tgt := 205) (dk dt_X12_groups_2 22 rfl) (by decide) (fun c25 => ?_) (fun c25 => ?_)
            · refine v_lload (pc := 205) (dk dt_X12_groups_2 32 rfl) rfl ?_
              refine v_aload_n (pc := 207) (dk dt_X12_groups_2 33 rfl) rfl rfl ?_
              refine v_getR (pc := 208) (dk dt_X12_groups_2 34 rfl) fl_X12_87 (v26 c23 c24 c25) (fun _ => ?_)
              refine v_iload_n (pc := 211) (dk dt_X12_groups_2 35 rfl) rfl rfl ?_
              refine v_iload (pc := 212) (dk dt_X12_groups_2 36 rfl) rfl ?_
              refine v_iadd (pc := 214) (dk dt_X12_groups_2 37 rfl) (v27 c23 c24 c25) ?_
              refine v_lald (pc := 215) (dk dt_X12_groups_2 38 rfl) (v28 c23 c24 c25) (v29 c23 c24 c25) (v30 c23 c24 c25) (fun _ => ?_)
              refine v_lcmp_le (pc := 216) (tgt := 225) (dk dt_X12_groups_2 39 rfl) (dk dt_X12_groups_3 0 rfl) (by decide) (fun c31 => ?_) (fun c31 => ?_)
              · refine v_aload_n (pc := 225) (dk dt_X12_groups_3 3 rfl) rfl rfl ?_
                refine v_getR (pc := 226) (dk dt_X12_groups_3 4 rfl) fl_X12_87 (v32 c23 c24 c25 c31) (fun _ => ?_)
                refine v_iload_n (pc := 229) (dk dt_X12_groups_3 5 rfl) rfl rfl ?_
                refine v_iload (pc := 230) (dk dt_X12_groups_3 6 rfl) rfl ?_
                refine v_iadd (pc := 232) (dk dt_X12_groups_3 7 rfl) (v33 c23 c24 c25 c31) ?_
                refine v_lald (pc := 233) (dk dt_X12_groups_3 8 rfl) (v34 c23 c24 c25 c31) (v35 c23 c24 c25 c31) (v36 c23 c24 c25 c31) (fun _ => ?_)
                refine v_lstore (pc := 234) (ls' := [some (rv l0), some (iv l1), some (iv l2), some (iv l3), some (iv l4), some (iv l5), some (iv l6), some (iv l7), some (iv l8), some (jv (gel G (gfd G 12 32 l0) (l3 + l12))), none, some (iv l11), some (iv l12)]) (dk dt_X12_groups_3 9 rfl) (Nat.le_of_ble_eq_true rfl) rfl ?_
                refine v_iconst (pc := 236) (dk dt_X12_groups_3 10 rfl) ⟨by decide, by decide⟩ ?_
                refine v_istore (pc := 237) (ls' := [some (rv l0), some (iv l1), some (iv l2), some (iv l3), some (iv l4), some (iv l5), some (iv l6), some (iv l7), some (iv l8), some (jv (gel G (gfd G 12 32 l0) (l3 + l12))), none, some (iv 0), some (iv l12)]) (dk dt_X12_groups_3 11 rfl) (Nat.le_of_ble_eq_true rfl) rfl ?_
                exact v_less2 (ls' := [some (rv l0), some (iv l1), some (iv l2), some (iv l3), some (iv l4), some (iv l5), some (iv l6), some (iv l7), some (iv l8), some (jv (gel G (gfd G 12 32 l0) (l3 + l12))), none, some (iv 0), some (iv l12)]) ⟨rfl, rfl, rfl, rfl, rfl, rfl, rfl, rfl, rfl, rfl, rfl, rfl, trivial⟩ (by have hk9 := k49; try simp only [if_pos c23] at hk9 ⊢; try simp only [if_pos c24] at hk9 ⊢; try simp only [if_neg c25] at hk9 ⊢; try simp only [if_pos c31] at hk9 ⊢; exact hk9)
              · refine v_lload (pc := 220) (dk dt_X12_groups_3 1 rfl) rfl ?_
                refine v_goto (pc := 222) (tgt := 234) (dk dt_X12_groups_3 2 rfl) (by decide) ?_
                refine v_lstore (pc := 234) (ls' := [some (rv l0), some (iv l1), some (iv l2), some (iv l3), some (iv l4), some (iv l5), some (iv l6), some (iv l7), some (iv l8), some (jv l9), none, some (iv l11), some (iv l12)]) (dk dt_X12_groups_3 9 rfl) (Nat.le_of_ble_eq_true rfl) rfl ?_
                refine v_iconst (pc := 236) (dk dt_X12_groups_3 10 rfl) ⟨by decide, by decide⟩ ?_
                refine v_istore (pc := 237) (ls' := [some (rv l0), some (iv l1), some (iv l2), some (iv l3), some (iv l4), some (iv l5), some (iv l6), some (iv l7), some (iv l8), some (jv l9), none, some (iv 0), some (iv l12)]) (dk dt_X12_groups_3 11 rfl) (Nat.le_of_ble_eq_true rfl) rfl ?_
                exact v_less2 (ls' := [some (rv l0), some (iv l1), some (iv l2), some (iv l3), some (iv l4), some (iv l5), some (iv l6), some (iv l7), some (iv l8), some (jv l9), none, some (iv 0), some (iv l12)]) ⟨rfl, rfl, rfl, rfl, rfl, rfl, rfl, rfl, rfl, rfl, rfl, rfl, trivial⟩ (by have hk9 := k49; try simp only [if_pos c23] at hk9 ⊢; try simp only [if_pos c24] at hk9 ⊢; try simp only [if_neg c25] at hk9 ⊢; try simp only [if_neg (Int.not_le.mpr c31)] at hk9 ⊢; exact hk9)
            · refine v_lload (pc := 190) (dk dt_X12_groups_2 23 rfl) rfl ?_
              refine v_aload_n (pc := 192) (dk dt_X12_groups_2 24 rfl) rfl rfl ?_
              refine v_getR (pc := 193) (dk dt_X12_groups_2 25 rfl) fl_X12_87 (v37 c23 c24 c25) (fun _ => ?_)
              refine v_iload_n (pc := 196) (dk dt_X12_groups_2 26 rfl) rfl rfl ?_
              refine v_iload (pc := 197) (dk dt_X12_groups_2 27 rfl) rfl ?_
              refine v_iadd (pc := 199) (dk dt_X12_groups_2 28 rfl) (v38 c23 c24 c25) ?_
              refine v_lald (pc := 200) (dk dt_X12_groups_2 29 rfl) (v39 c23 c24 c25) (v40 c23 c24 c25) (v41 c23 c24 c25) (fun _ => ?_)
              refine v_ladd (pc := 201) (dk dt_X12_groups_2 30 rfl) (v42 c23 c24 c25) ?_
              refine v_goto (pc := 202) (tgt := 234) (dk dt_X12_groups_2 31 rfl) (by decide) ?_
              refine v_lstore (pc := 234) (ls' := [some (rv l0), some (iv l1), some (iv l2), some (iv l3), some (iv l4), some (iv l5), some (iv l6), some (iv l7), some (iv l8), some (jv (l9 + (gel G (gfd G 12 32 l0) (l3 + l12)))), none, some (iv l11), some (iv l12)]) (dk dt_X12_groups_3 9 rfl) (Nat.le_of_ble_eq_true rfl) rfl ?_
              refine v_iconst (pc := 236) (dk dt_X12_groups_3 10 rfl) ⟨by decide, by decide⟩ ?_
              refine v_istore (pc := 237) (ls' := [some (rv l0), some (iv l1), some (iv l2), some (iv l3), some (iv l4), some (iv l5), some (iv l6), some (iv l7), some (iv l8), some (jv (l9 + (gel G (gfd G 12 32 l0) (l3 + l12)))), none, some (iv 0), some (iv l12)]) (dk dt_X12_groups_3 11 rfl) (Nat.le_of_ble_eq_true rfl) rfl ?_
              exact v_less2 (ls' := [some (rv l0), some (iv l1), some (iv l2), some (iv l3), some (iv l4), some (iv l5), some (iv l6), some (iv l7), some (iv l8), some (jv (l9 + (gel G (gfd G 12 32 l0) (l3 + l12)))), none, some (iv 0), some (iv l12)]) ⟨rfl, rfl, rfl, rfl, rfl, rfl, rfl, rfl, rfl, rfl, rfl, rfl, trivial⟩ (by have hk9 := k49; try simp only [if_pos c23] at hk9 ⊢; try simp only [if_pos c24] at hk9 ⊢; try simp only [if_pos c25] at hk9 ⊢; exact hk9)
          · refine v_aload_n (pc := 172) (dk dt_X12_groups_2 13 rfl) rfl rfl ?_
            refine v_getR (pc := 173) (dk dt_X12_groups_2 14 rfl) fl_X12_87 (v43 c23 c24) (fun _ => ?_)
            refine v_iload_n (pc := 176) (dk dt_X12_groups_2 15 rfl) rfl rfl ?_
            refine v_iload (pc := 177) (dk dt_X12_groups_2 16 rfl) rfl ?_
            refine v_iadd (pc := 179) (dk dt_X12_groups_2 17 rfl) (v44 c23 c24) ?_
            refine v_lald (pc := 180) (dk dt_X12_groups_2 18 rfl) (v45 c23 c24) (v46 c23 c24) (v47 c23 c24) (fun _ => ?_)
            refine v_goto (pc := 181) (tgt := 234) (dk dt_X12_groups_2 19 rfl) (by decide) ?_
            refine v_lstore (pc := 234) (ls' := [some (rv l0), some (iv l1), some (iv l2), some (iv l3), some (iv l4), some (iv l5), some (iv l6), some (iv l7), some (iv l8), some (jv (gel G (gfd G 12 32 l0) (l3 + l12))), none, some (iv l11), some (iv l12)]) (dk dt_X12_groups_3 9 rfl) (Nat.le_of_ble_eq_true rfl) rfl ?_
            refine v_iconst (pc := 236) (dk dt_X12_groups_3 10 rfl) ⟨by decide, by decide⟩ ?_
            refine v_istore (pc := 237) (ls' := [some (rv l0), some (iv l1), some (iv l2), some (iv l3), some (iv l4), some (iv l5), some (iv l6), some (iv l7), some (iv l8), some (jv (gel G (gfd G 12 32 l0) (l3 + l12))), none, some (iv 0), some (iv l12)]) (dk dt_X12_groups_3 11 rfl) (Nat.le_of_ble_eq_true rfl) rfl ?_
            exact v_less2 (ls' := [some (rv l0), some (iv l1), some (iv l2), some (iv l3), some (iv l4), some (iv l5), some (iv l6), some (iv l7), some (iv l8), some (jv (gel G (gfd G 12 32 l0) (l3 + l12))), none, some (iv 0), some (iv l12)]) ⟨rfl, rfl, rfl, rfl, rfl, rfl, rfl, rfl, rfl, rfl, rfl, rfl, trivial⟩ (by have hk9 := k49; try simp only [if_pos c23] at hk9 ⊢; try simp only [if_neg c24] at hk9 ⊢; exact hk9)
      obtain ⟨v48, h⟩ := h
      refine v_iinc (pc := 239) (ls' := [some (rv l0), some (iv l1), some (iv l2), some (iv l3), some (iv l4), some (iv l5), some (iv l6), some (iv l7), some (iv l8), some (jv (if (wMask (gel G (gfd G 12 31 l0) (l3 + l12)) l2) = l8 then ((if l11 = 0 then ((if l1 = 8 then ((l9 + (gel G (gfd G 12 32 l0) (l3 + l12))) : Int) else (if l9 ≤ (gel G (gfd G 12 32 l0) (l3 + l12)) then ((gel G (gfd G 12 32 l0) (l3 + l12)) : Int) else l9)) : Int) else (gel G (gfd G 12 32 l0) (l3 + l12))) : Int) else l9)), none, some (iv (if (wMask (gel G (gfd G 12 31 l0) (l3 + l12)) l2) = l8 then (0 : Int) else l11)), some (iv (l12 + 1))]) (dk dt_X12_groups_3 12 rfl) (Nat.le_of_ble_eq_true rfl) rfl v48 rfl ?_
      refine v_goto (pc := 242) (tgt := 137) (dk dt_X12_groups_3 13 rfl) (by decide) ?_
      exact h
set_option maxRecDepth 20000 in
theorem b_X12_groups_297 {E : EE} {l0 l3 l5 l8 : Int} {G : Gt} {c s : Nat} {Q X : Int → Gt → Prop} (h : ((l5 ≤ l8 → Q 0 G) ∧ (l8 < l5 → (gcl G l0 = 13 ∧ i32 (l3 + l8) ∧ gcl G l0 = 13 ∧ gcl G (gfd G 12 49 l0) = 16 ∧ 0 ≤ l8 ∧ l8 < gln G (gfd G 12 49 l0) ∧ gcl G (gfd G 12 32 l0) = 16 ∧ 0 ≤ (l3 + l8) ∧ (l3 + l8) < gln G (gfd G 12 32 l0) ∧ ∀ G11 : Gt, G11 = (sel G (gfd G 12 32 l0) (l3 + l8) (gel G (gfd G 12 49 l0) l8)) → gcl G11 l0 = 13 ∧ i32 (l3 + l8) ∧ gcl G11 l0 = 13 ∧ gcl G11 (gfd G11 12 50 l0) = 15 ∧ 0 ≤ l8 ∧ l8 < gln G11 (gfd G11 12 50 l0) ∧ gcl G11 (gfd G11 12 31 l0) = 15 ∧ 0 ≤ (l3 + l8) ∧ (l3 + l8) < gln G11 (gfd G11 12 31 l0) ∧ ∀ G21 : Gt, G21 = (sel G11 (gfd G11 12 31 l0) (l3 + l8) (gel G11 (gfd G11 12 50 l0) l8)) → i32 (l8 + 1) ∧ V E M_X12_groups 297 [some (rv l0), none, none, some (iv l3), none, some (iv l5), none, none, some (iv (l8 + 1)), none, none, none, none] [] G21 c s Q X)))) : V E M_X12_groups 297 [some (rv l0), none, none, some (iv l3), none, some (iv l5), none, none, some (iv l8), none, none, none, none] [] G c s Q X := by
  refine v_iload (pc := 297) (dk dt_X12_groups_4 1 rfl) rfl ?_
  refine v_iload (pc := 299) (dk dt_X12_groups_4 2 rfl) rfl ?_
  refine v_icmp_ge (pc := 301) (tgt := 342) (dk dt_X12_groups_4 3 rfl) (by decide) (fun c1 => ?_) (fun c1 => ?_)
  · replace h := h.1 c1
    exact v_vret (pc := 342) (dk dt_X12_groups_4 26 rfl) rfl h
  · replace h := h.2 c1
    refine v_aload_n (pc := 304) (dk dt_X12_groups_4 4 rfl) rfl rfl ?_
    obtain ⟨v2, h⟩ := h
    refine v_getR (pc := 305) (dk dt_X12_groups_4 5 rfl) fl_X12_87 v2 (fun _ => ?_)
    refine v_iload_n (pc := 308) (dk dt_X12_groups_4 6 rfl) rfl rfl ?_
    refine v_iload (pc := 309) (dk dt_X12_groups_4 7 rfl) rfl ?_
    obtain ⟨v3, h⟩ := h
    refine v_iadd (pc := 311) (dk dt_X12_groups_4 8 rfl) v3 ?_
    refine v_aload_n (pc := 312) (dk dt_X12_groups_4 9 rfl) rfl rfl ?_
    obtain ⟨v4, h⟩ := h
    refine v_getR (pc := 313) (dk dt_X12_groups_4 10 rfl) fl_X12_121 v4 (fun _ => ?_)
    refine v_iload (pc := 316) (dk dt_X12_groups_4 11 rfl) rfl ?_
    obtain ⟨v5, h⟩ := h
    obtain ⟨v6, h⟩ := h
    obtain ⟨v7, h⟩ := h
    refine v_lald (pc := 318) (dk dt_X12_groups_4 12 rfl) v5 v6 v7 (fun _ => ?_)
    obtain ⟨v8, h⟩ := h
    obtain ⟨v9, h⟩ := h
    obtain ⟨v10, h⟩ := h
    refine v_last (pc := 319) (dk dt_X12_groups_4 13 rfl) v8 v9 v10 ?_
    generalize hG11 : (sel G (gfd G 12 32 l0) (l3 + l8) (gel G (gfd G 12 49 l0) l8)) = G11
    replace h := h G11 hG11.symm
    refine v_aload_n (pc := 320) (dk dt_X12_groups_4 14 rfl) rfl rfl ?_
    obtain ⟨v12, h⟩ := h
    refine v_getR (pc := 321) (dk dt_X12_groups_4 15 rfl) fl_X12_84 v12 (fun _ => ?_)
    refine v_iload_n (pc := 324) (dk dt_X12_groups_4 16 rfl) rfl rfl ?_
    refine v_iload (pc := 325) (dk dt_X12_groups_4 17 rfl) rfl ?_
    obtain ⟨v13, h⟩ := h
    refine v_iadd (pc := 327) (dk dt_X12_groups_4 18 rfl) v13 ?_
    refine v_aload_n (pc := 328) (dk dt_X12_groups_4 19 rfl) rfl rfl ?_
    obtain ⟨v14, h⟩ := h
    refine v_getR (pc := 329) (dk dt_X12_groups_4 20 rfl) fl_X12_124 v14 (fun _ => ?_)
    refine v_iload (pc := 332) (dk dt_X12_groups_4 21 rfl) rfl ?_
    obtain ⟨v15, h⟩ := h
    obtain ⟨v16, h⟩ := h
    obtain ⟨v17, h⟩ := h
    refine v_iald (pc := 334) (dk dt_X12_groups_4 22 rfl) (Or.inl v15) v16 v17 (fun _ => ?_)
    obtain ⟨v18, h⟩ := h
    obtain ⟨v19, h⟩ := h
    obtain ⟨v20, h⟩ := h
    refine v_iast (pc := 335) (dk dt_X12_groups_4 23 rfl) v18 v19 v20 ?_
    generalize hG21 : (sel G11 (gfd G11 12 31 l0) (l3 + l8) (gel G11 (gfd G11 12 50 l0) l8)) = G21
    replace h := h G21 hG21.symm
    obtain ⟨v22, h⟩ := h
    refine v_iinc (pc := 336) (ls' := [some (rv l0), none, none, some (iv l3), none, some (iv l5), none, none, some (iv (l8 + 1)), none, none, none, none]) (dk dt_X12_groups_4 24 rfl) (Nat.le_of_ble_eq_true rfl) rfl v22 rfl ?_
    refine v_goto (pc := 339) (tgt := 297) (dk dt_X12_groups_4 25 rfl) (by decide) ?_
    exact h
set_option maxRecDepth 20000 in
theorem b_X12_joined_0 {E : EE} {l0 l1 l2 l4 : Int} {G : Gt} {c s : Nat} {Q X : Int → Gt → Prop} (h : (gcl G l0 = 13 ∧ ((if l1 = 13 then ((if l4 = 0 then (0 : Int) else 1) : Int) else 1) = 0 ∨ (if l1 = 13 then ((if l4 = 0 then (0 : Int) else 1) : Int) else 1) = 1) ∧ ∀ G5 : Gt, G5 = (sfd G 12 51 l0 (if l1 = 13 then ((if l4 = 0 then (0 : Int) else 1) : Int) else 1)) → ((l1 = 10 → (i64 (l2 + l4) ∧ OkP E M_X12_bounded [jv (l2 + l4)] G5 (wBd (l2 + l4)) ∧ Q (wBd (l2 + l4)) G5)) ∧ (l1 = 11 → (i64 (l2 - l4) ∧ OkP E M_X12_bounded [jv (l2 - l4)] G5 (wBd (l2 - l4)) ∧ Q (wBd (l2 - l4)) G5)) ∧ (l1 = 12 → ((l2 < 0 → i64 (-l2)) ∧ (l4 < 0 → i64 (-l4)) ∧ (0 < (if 0 ≤ l4 then (l4 : Int) else (-l4)) → (if 0 ≤ l4 then (l4 : Int) else (-l4)) ≠ 0) ∧ (0 < (if 0 ≤ l4 then (l4 : Int) else (-l4)) → i64 (Int.tdiv 100000000000000000 (if 0 ≤ l4 then (l4 : Int) else (-l4)))) ∧ ((if (if 0 ≤ l4 then (l4 : Int) else (-l4)) ≤ 0 then (0 : Int) else (if (if 0 ≤ l2 then (l2 : Int) else (-l2)) ≤ (Int.tdiv 100000000000000000 (if 0 ≤ l4 then (l4 : Int) else (-l4))) then (0 : Int) else 1)) = 0 → i64 (l2 * l4)) ∧ ((if (if 0 ≤ l4 then (l4 : Int) else (-l4)) ≤ 0 then (0 : Int) else (if (if 0 ≤ l2 then (l2 : Int) else (-l2)) ≤ (Int.tdiv 100000000000000000 (if 0 ≤ l4 then (l4 : Int) else (-l4))) then (0 : Int) else 1)) = 0 → OkP E M_X12_bounded [jv (Int.tdiv (l2 * l4) 1000)] G5 (wBd (Int.tdiv (l2 * l4) 1000))) ∧ Q (if (if (if 0 ≤ l4 then (l4 : Int) else (-l4)) ≤ 0 then (0 : Int) else (if (if 0 ≤ l2 then (l2 : Int) else (-l2)) ≤ (Int.tdiv 100000000000000000 (if 0 ≤ l4 then (l4 : Int) else (-l4))) then (0 : Int) else 1)) = 0 then ((wBd (Int.tdiv (l2 * l4) 1000)) : Int) else (if 0 ≤ l2 then ((if 0 ≤ l4 then (100000000000000 : Int) else (-100000000000000)) : Int) else (if 0 ≤ l4 then ((-100000000000000) : Int) else 100000000000000))) G5)) ∧ (l1 = 13 → (gcl G5 l0 = 13 ∧ ((gfd G5 12 51 l0) ≠ 0 → i64 (1000 * l2)) ∧ ((gfd G5 12 51 l0) ≠ 0 → l4 ≠ 0) ∧ ((gfd G5 12 51 l0) ≠ 0 → i64 (Int.tdiv (1000 * l2) l4)) ∧ ((gfd G5 12 51 l0) ≠ 0 → OkP E M_X12_bounded [jv (Int.tdiv (1000 * l2) l4)] G5 (wBd (Int.tdiv (1000 * l2) l4))) ∧ Q (if (gfd G5 12 51 l0) = 0 then (0 : Int) else (wBd (Int.tdiv (1000 * l2) l4))) G5)) ∧ (l1 < 10 ∨ 13 < l1 → (gcl G5 l0 = 13 ∧ ((if l2 ≤ l4 then (0 : Int) else 1) = 0 ∨ (if l2 ≤ l4 then (0 : Int) else 1) = 1) ∧ ∀ G37 : Gt, G37 = (sfd G5 12 51 l0 (if l2 ≤ l4 then (0 : Int) else 1)) → Q l2 G37))))) : V E M_X12_joined 0 [some (rv l0), some (iv l1), some (jv l2), none, some (jv l4), none, none, none, none, none, none] [] G c s Q X := by
  refine v_aload_n (pc := 0) (dk dt_X12_joined 0 rfl) rfl rfl ?_
  refine v_iload_n (pc := 1) (dk dt_X12_joined 1 rfl) rfl rfl ?_
  refine v_bipush (pc := 2) (dk dt_X12_joined 2 rfl) (by decide) ⟨by decide, by decide⟩ ?_
  suffices k38 : V E M_X12_joined 19 [some (rv l0), some (iv l1), some (jv l2), none, some (jv l4), none, none, none, none, none, none] [iv (if l1 = 13 then ((if l4 = 0 then (0 : Int) else 1) : Int) else 1), rv l0] G c s Q X by
    refine v_icmp_ne (pc := 4) (tgt := 14) (dk dt_X12_joined 3 rfl) (by decide) (fun c1 => ?_) (fun c1 => ?_)
    · refine v_iconst (pc := 14) (dk dt_X12_joined 8 rfl) ⟨by decide, by decide⟩ ?_
      refine v_goto (pc := 15) (tgt := 19) (dk dt_X12_joined 9 rfl) (by decide) ?_
      exact v_less2 (ls' := [some (rv l0), some (iv l1), some (jv l2), none, some (jv l4), none, none, none, none, none, none]) ⟨rfl, rfl, rfl, rfl, trivial⟩ (by have hk9 := k38; try simp only [if_neg c1] at hk9 ⊢; exact hk9)
    · refine v_lload (pc := 7) (dk dt_X12_joined 4 rfl) rfl ?_
      refine v_lconst (x := 0) (pc := 9) (dk dt_X12_joined 5 rfl) (by decide) ⟨by decide, by decide⟩ ?_
      refine v_lcmp_eq (pc := 10) (tgt := 18) (dk dt_X12_joined 6 rfl) (dk dt_X12_joined 7 rfl) (by decide) (fun c2 => ?_) (fun c2 => ?_)
      · refine v_iconst (pc := 18) (dk dt_X12_joined 10 rfl) ⟨by decide, by decide⟩ ?_
        exact v_less2 (ls' := [some (rv l0), some (iv l1), some (jv l2), none, some (jv l4), none, none, none, none, none, none]) ⟨rfl, rfl, rfl, rfl, trivial⟩ (by have hk9 := k38; try simp only [if_pos c1] at hk9 ⊢; try simp only [if_pos c2] at hk9 ⊢; exact hk9)
      · refine v_iconst (pc := 14) (dk dt_X12_joined 8 rfl) ⟨by decide, by decide⟩ ?_
        refine v_goto (pc := 15) (tgt := 19) (dk dt_X12_joined 9 rfl) (by decide) ?_
        exact v_less2 (ls' := [some (rv l0), some (iv l1), some (jv l2), none, some (jv l4), none, none, none, none, none, none]) ⟨rfl, rfl, rfl, rfl, trivial⟩ (by have hk9 := k38; try simp only [if_pos c1] at hk9 ⊢; try simp only [if_neg c2] at hk9 ⊢; exact hk9)
  obtain ⟨v3, h⟩ := h
  obtain ⟨v4, h⟩ := h
  refine v_putZ (pc := 19) (dk dt_X12_joined 11 rfl) fl_X12_259 (Or.inl rfl) v3 v4 ?_
  generalize hG5 : (sfd G 12 51 l0 (if l1 = 13 then ((if l4 = 0 then (0 : Int) else 1) : Int) else 1)) = G5
  replace h := h G5 hG5.symm
  refine v_iload_n (pc := 22) (dk dt_X12_joined 12 rfl) rfl rfl ?_
  refine v_tsw2 (pc := 23) [52, 60, 68, 180] 203 (dk dt_X12_joined 13 rfl) (by decide) ⟨rfl, rfl⟩ (by decide) (fun j hj hx => ?_) (fun hx => ?_)
  · have hj2 : j < 4 := hj
    rcases (show j = 0 ∨ j = 1 ∨ j = 2 ∨ j = 3 by omega) with rfl | rfl | rfl | rfl
    · replace h := h.1 (by simpa using hx)
      refine v_lload_n (pc := 52) (dk dt_X12_joined 14 rfl) rfl rfl ?_
      refine v_lload (pc := 53) (dk dt_X12_joined 15 rfl) rfl ?_
      obtain ⟨v6, h⟩ := h
      refine v_ladd (pc := 55) (dk dt_X12_joined 16 rfl) v6 ?_
      obtain ⟨v7, h⟩ := h
      refine v_csPJ (v := (wBd (l2 + l4))) (As := [jv (l2 + l4)]) (stk := []) (pc := 56) (dk dt_X12_joined 17 rfl) ml_X12_240 rfl rfl (Nat.le_of_ble_eq_true rfl) rfl rfl v7 ?_
      exact v_lret (pc := 59) (dk dt_X12_joined 18 rfl) rfl h
    · replace h := h.2.1 (by simpa using hx)
      refine v_lload_n (pc := 60) (dk dt_X12_joined 19 rfl) rfl rfl ?_
      refine v_lload (pc := 61) (dk dt_X12_joined 20 rfl) rfl ?_
      obtain ⟨v8, h⟩ := h
      refine v_lsub (pc := 63) (dk dt_X12_joined 21 rfl) v8 ?_
      obtain ⟨v9, h⟩ := h
      refine v_csPJ (v := (wBd (l2 - l4))) (As := [jv (l2 - l4)]) (stk := []) (pc := 64) (dk dt_X12_joined 22 rfl) ml_X12_240 rfl rfl (Nat.le_of_ble_eq_true rfl) rfl rfl v9 ?_
      exact v_lret (pc := 67) (dk dt_X12_joined 23 rfl) rfl h
    · replace h := h.2.2.1 (by simpa using hx)
      refine v_lload_n (pc := 68) (dk dt_X12_joined 24 rfl) rfl rfl ?_
      refine v_lconst (x := 0) (pc := 69) (dk dt_X12_joined 25 rfl) (by decide) ⟨by decide, by decide⟩ ?_
      obtain ⟨v11, h⟩ := h
      suffices k39 : V E M_X12_joined 80 [none, none, some (jv l2), none, some (jv l4), none, none, none, none, none, none] [jv (if 0 ≤ l2 then (l2 : Int) else (-l2))] G5 c s Q X by
        refine v_lcmp_ge (pc := 70) (tgt := 79) (dk dt_X12_joined 26 rfl) (dk dt_X12_joined 27 rfl) (by decide) (fun c10 => ?_) (fun c10 => ?_)
        · refine v_lload_n (pc := 79) (dk dt_X12_joined 31 rfl) rfl rfl ?_
          exact v_less2 (ls' := [none, none, some (jv l2), none, some (jv l4), none, none, none, none, none, none]) ⟨rfl, rfl, trivial⟩ (by have hk9 := k39; try simp only [if_pos c10] at hk9 ⊢; exact hk9)
        · refine v_lload_n (pc := 74) (dk dt_X12_joined 28 rfl) rfl rfl ?_
          refine v_lneg (pc := 75) (dk dt_X12_joined 29 rfl) (v11 c10) ?_
          refine v_goto (pc := 76) (tgt := 80) (dk dt_X12_joined 30 rfl) (by decide) ?_
          exact v_less2 (ls' := [none, none, some (jv l2), none, some (jv l4), none, none, none, none, none, none]) ⟨rfl, rfl, trivial⟩ (by have hk9 := k39; try simp only [if_neg (Int.not_le.mpr c10)] at hk9 ⊢; exact hk9)
      refine v_lstore (pc := 80) (ls' := [none, none, some (jv l2), none, some (jv l4), none, some (jv (if 0 ≤ l2 then (l2 : Int) else (-l2))), none, none, none, none]) (dk dt_X12_joined 32 rfl) (Nat.le_of_ble_eq_true rfl) rfl ?_
      refine v_lload (pc := 82) (dk dt_X12_joined 33 rfl) rfl ?_
      refine v_lconst (x := 0) (pc := 84) (dk dt_X12_joined 34 rfl) (by decide) ⟨by decide, by decide⟩ ?_
      obtain ⟨v13, h⟩ := h
      suffices k40 : V E M_X12_joined 97 [none, none, some (jv l2), none, some (jv l4), none, some (jv (if 0 ≤ l2 then (l2 : Int) else (-l2))), none, none, none, none] [jv (if 0 ≤ l4 then (l4 : Int) else (-l4))] G5 c s Q X by
        refine v_lcmp_ge (pc := 85) (tgt := 95) (dk dt_X12_joined 35 rfl) (dk dt_X12_joined 36 rfl) (by decide) (fun c12 => ?_) (fun c12 => ?_)
        · refine v_lload (pc := 95) (dk dt_X12_joined_1 0 rfl) rfl ?_
          exact v_less2 (ls' := [none, none, some (jv l2), none, some (jv l4), none, some (jv (if 0 ≤ l2 then (l2 : Int) else (-l2))), none, none, none, none]) ⟨rfl, rfl, rfl, trivial⟩ (by have hk9 := k40; try simp only [if_pos c12] at hk9 ⊢; exact hk9)
        · refine v_lload (pc := 89) (dk dt_X12_joined 37 rfl) rfl ?_
          refine v_lneg (pc := 91) (dk dt_X12_joined 38 rfl) (v13 c12) ?_
          refine v_goto (pc := 92) (tgt := 97) (dk dt_X12_joined 39 rfl) (by decide) ?_
          exact v_less2 (ls' := [none, none, some (jv l2), none, some (jv l4), none, some (jv (if 0 ≤ l2 then (l2 : Int) else (-l2))), none, none, none, none]) ⟨rfl, rfl, rfl, trivial⟩ (by have hk9 := k40; try simp only [if_neg (Int.not_le.mpr c12)] at hk9 ⊢; exact hk9)
      refine v_lstore (pc := 97) (ls' := [none, none, some (jv l2), none, some (jv l4), none, some (jv (if 0 ≤ l2 then (l2 : Int) else (-l2))), none, some (jv (if 0 ≤ l4 then (l4 : Int) else (-l4))), none, none]) (dk dt_X12_joined_1 1 rfl) (Nat.le_of_ble_eq_true rfl) rfl ?_
      refine v_lload (pc := 99) (dk dt_X12_joined_1 2 rfl) rfl ?_
      refine v_lconst (x := 0) (pc := 101) (dk dt_X12_joined_1 3 rfl) (by decide) ⟨by decide, by decide⟩ ?_
      obtain ⟨v15, v16, h⟩ := h
      suffices k41 : V E M_X12_joined 123 [none, none, some (jv l2), none, some (jv l4), none, none, none, none, none, none] [iv (if (if 0 ≤ l4 then (l4 : Int) else (-l4)) ≤ 0 then (0 : Int) else (if (if 0 ≤ l2 then (l2 : Int) else (-l2)) ≤ (Int.tdiv 100000000000000000 (if 0 ≤ l4 then (l4 : Int) else (-l4))) then (0 : Int) else 1))] G5 c s Q X by
        refine v_lcmp_le (pc := 102) (tgt := 122) (dk dt_X12_joined_1 4 rfl) (dk dt_X12_joined_1 5 rfl) (by decide) (fun c14 => ?_) (fun c14 => ?_)
        · refine v_iconst (pc := 122) (dk dt_X12_joined_1 14 rfl) ⟨by decide, by decide⟩ ?_
          exact v_less2 (ls' := [none, none, some (jv l2), none, some (jv l4), none, none, none, none, none, none]) ⟨rfl, rfl, trivial⟩ (by have hk9 := k41; try simp only [if_pos c14] at hk9 ⊢; exact hk9)
        · refine v_lload (pc := 106) (dk dt_X12_joined_1 6 rfl) rfl ?_
          refine v_ldc2 (pc := 108) (dk dt_X12_joined_1 7 rfl) co_X12_262 ⟨by decide, by decide⟩ ?_
          refine v_lload (pc := 111) (dk dt_X12_joined_1 8 rfl) rfl ?_
          refine v_ldiv (pc := 113) (dk dt_X12_joined_1 9 rfl) (v15 c14) (v16 c14) ?_
          refine v_lcmp_le (pc := 114) (tgt := 122) (dk dt_X12_joined_1 10 rfl) (dk dt_X12_joined_1 11 rfl) (by decide) (fun c17 => ?_) (fun c17 => ?_)
          · refine v_iconst (pc := 122) (dk dt_X12_joined_1 14 rfl) ⟨by decide, by decide⟩ ?_
            exact v_less2 (ls' := [none, none, some (jv l2), none, some (jv l4), none, none, none, none, none, none]) ⟨rfl, rfl, trivial⟩ (by have hk9 := k41; try simp only [if_neg (Int.not_le.mpr c14)] at hk9 ⊢; try simp only [if_pos c17] at hk9 ⊢; exact hk9)
          · refine v_iconst (pc := 118) (dk dt_X12_joined_1 12 rfl) ⟨by decide, by decide⟩ ?_
            refine v_goto (pc := 119) (tgt := 123) (dk dt_X12_joined_1 13 rfl) (by decide) ?_
            exact v_less2 (ls' := [none, none, some (jv l2), none, some (jv l4), none, none, none, none, none, none]) ⟨rfl, rfl, trivial⟩ (by have hk9 := k41; try simp only [if_neg (Int.not_le.mpr c14)] at hk9 ⊢; try simp only [if_neg (Int.not_le.mpr c17)] at hk9 ⊢; exact hk9)
      refine v_istore (pc := 123) (ls' := [none, none, some (jv l2), none, some (jv l4), none, none, none, none, none, some (iv (if (if 0 ≤ l4 then (l4 : Int) else (-l4)) ≤ 0 then (0 : Int) else (if (if 0 ≤ l2 then (l2 : Int) else (-l2)) ≤ (Int.tdiv 100000000000000000 (if 0 ≤ l4 then (l4 : Int) else (-l4))) then (0 : Int) else 1)))]) (dk dt_X12_joined_1 15 rfl) (Nat.le_of_ble_eq_true rfl) rfl ?_
      refine v_iload (pc := 125) (dk dt_X12_joined_1 16 rfl) rfl ?_
      obtain ⟨v19, v20, h⟩ := h
      suffices k42 : V E M_X12_joined 179 [none, none, none, none, none, none, none, none, none, none, none] [jv (if (if (if 0 ≤ l4 then (l4 : Int) else (-l4)) ≤ 0 then (0 : Int) else (if (if 0 ≤ l2 then (l2 : Int) else (-l2)) ≤ (Int.tdiv 100000000000000000 (if 0 ≤ l4 then (l4 : Int) else (-l4))) then (0 : Int) else 1)) = 0 then ((wBd (Int.tdiv (l2 * l4) 1000)) : Int) else (if 0 ≤ l2 then ((if 0 ≤ l4 then (100000000000000 : Int) else (-100000000000000)) : Int) else (if 0 ≤ l4 then ((-100000000000000) : Int) else 100000000000000)))] G5 c s Q X by
        refine v_if_eq (pc := 127) (tgt := 168) (dk dt_X12_joined_1 17 rfl) (by decide) (fun c18 => ?_) (fun c18 => ?_)
        · refine v_lload_n (pc := 168) (dk dt_X12_joined_1 37 rfl) rfl rfl ?_
          refine v_lload (pc := 169) (dk dt_X12_joined_1 38 rfl) rfl ?_
          refine v_lmul (pc := 171) (dk dt_X12_joined_1 39 rfl) (v19 c18) ?_
          refine v_ldc2 (pc := 172) (dk dt_X12_joined_2 0 rfl) co_X12_244 ⟨by decide, by decide⟩ ?_
          refine v_ldivP (pc := 175) (dk dt_X12_joined_2 1 rfl) (by decide) ?_
          refine v_csPJ (v := (wBd (Int.tdiv (l2 * l4) 1000))) (As := [jv (Int.tdiv (l2 * l4) 1000)]) (stk := []) (pc := 176) (dk dt_X12_joined_2 2 rfl) ml_X12_240 rfl rfl (Nat.le_of_ble_eq_true rfl) rfl rfl (v20 c18) ?_
          exact v_less2 (ls' := [none, none, none, none, none, none, none, none, none, none, none]) trivial (by have hk9 := k42; try simp only [if_pos c18] at hk9 ⊢; exact hk9)
        · refine v_lload_n (pc := 130) (dk dt_X12_joined_1 18 rfl) rfl rfl ?_
          refine v_lconst (x := 0) (pc := 131) (dk dt_X12_joined_1 19 rfl) (by decide) ⟨by decide, by decide⟩ ?_
          refine v_lcmp_ge (pc := 132) (tgt := 140) (dk dt_X12_joined_1 20 rfl) (dk dt_X12_joined_1 21 rfl) (by decide) (fun c21 => ?_) (fun c21 => ?_)
          · refine v_iconst (pc := 140) (dk dt_X12_joined_1 24 rfl) ⟨by decide, by decide⟩ ?_
            refine v_lload (pc := 141) (dk dt_X12_joined_1 25 rfl) rfl ?_
            refine v_lconst (x := 0) (pc := 143) (dk dt_X12_joined_1 26 rfl) (by decide) ⟨by decide, by decide⟩ ?_
            refine v_lcmp_ge (pc := 144) (tgt := 152) (dk dt_X12_joined_1 27 rfl) (dk dt_X12_joined_1 28 rfl) (by decide) (fun c22 => ?_) (fun c22 => ?_)
            · refine v_iconst (pc := 152) (dk dt_X12_joined_1 31 rfl) ⟨by decide, by decide⟩ ?_
              refine v_icmp_ne (pc := 153) (tgt := 162) (dk dt_X12_joined_1 32 rfl) (by decide) (fun z9 => absurd z9 (by decide)) (fun _ => ?_)
              refine v_ldc2 (pc := 156) (dk dt_X12_joined_1 33 rfl) co_X12_233 ⟨by decide, by decide⟩ ?_
              refine v_goto (pc := 159) (tgt := 179) (dk dt_X12_joined_1 34 rfl) (by decide) ?_
              exact v_less2 (ls' := [none, none, none, none, none, none, none, none, none, none, none]) trivial (by have hk9 := k42; try simp only [if_neg c18] at hk9 ⊢; try simp only [if_pos c21] at hk9 ⊢; try simp only [if_pos c22] at hk9 ⊢; exact hk9)
            · refine v_iconst (pc := 148) (dk dt_X12_joined_1 29 rfl) ⟨by decide, by decide⟩ ?_
              refine v_goto (pc := 149) (tgt := 153) (dk dt_X12_joined_1 30 rfl) (by decide) ?_
              refine v_icmp_ne (pc := 153) (tgt := 162) (dk dt_X12_joined_1 32 rfl) (by decide) (fun _ => ?_) (fun z9 => absurd z9 (by decide))
              refine v_ldc2 (pc := 162) (dk dt_X12_joined_1 35 rfl) co_X12_235 ⟨by decide, by decide⟩ ?_
              refine v_goto (pc := 165) (tgt := 179) (dk dt_X12_joined_1 36 rfl) (by decide) ?_
              exact v_less2 (ls' := [none, none, none, none, none, none, none, none, none, none, none]) trivial (by have hk9 := k42; try simp only [if_neg c18] at hk9 ⊢; try simp only [if_pos c21] at hk9 ⊢; try simp only [if_neg (Int.not_le.mpr c22)] at hk9 ⊢; exact hk9)
          · refine v_iconst (pc := 136) (dk dt_X12_joined_1 22 rfl) ⟨by decide, by decide⟩ ?_
            refine v_goto (pc := 137) (tgt := 141) (dk dt_X12_joined_1 23 rfl) (by decide) ?_
            refine v_lload (pc := 141) (dk dt_X12_joined_1 25 rfl) rfl ?_
            refine v_lconst (x := 0) (pc := 143) (dk dt_X12_joined_1 26 rfl) (by decide) ⟨by decide, by decide⟩ ?_
            refine v_lcmp_ge (pc := 144) (tgt := 152) (dk dt_X12_joined_1 27 rfl) (dk dt_X12_joined_1 28 rfl) (by decide) (fun c25 => ?_) (fun c25 => ?_)
            · refine v_iconst (pc := 152) (dk dt_X12_joined_1 31 rfl) ⟨by decide, by decide⟩ ?_
              refine v_icmp_ne (pc := 153) (tgt := 162) (dk dt_X12_joined_1 32 rfl) (by decide) (fun _ => ?_) (fun z9 => absurd z9 (by decide))
              refine v_ldc2 (pc := 162) (dk dt_X12_joined_1 35 rfl) co_X12_235 ⟨by decide, by decide⟩ ?_
              refine v_goto (pc := 165) (tgt := 179) (dk dt_X12_joined_1 36 rfl) (by decide) ?_
              exact v_less2 (ls' := [none, none, none, none, none, none, none, none, none, none, none]) trivial (by have hk9 := k42; try simp only [if_neg c18] at hk9 ⊢; try simp only [if_neg (Int.not_le.mpr c21)] at hk9 ⊢; try simp only [if_pos c25] at hk9 ⊢; exact hk9)
            · refine v_iconst (pc := 148) (dk dt_X12_joined_1 29 rfl) ⟨by decide, by decide⟩ ?_
              refine v_goto (pc := 149) (tgt := 153) (dk dt_X12_joined_1 30 rfl) (by decide) ?_
              refine v_icmp_ne (pc := 153) (tgt := 162) (dk dt_X12_joined_1 32 rfl) (by decide) (fun z9 => absurd z9 (by decide)) (fun _ => ?_)
              refine v_ldc2 (pc := 156) (dk dt_X12_joined_1 33 rfl) co_X12_233 ⟨by decide, by decide⟩ ?_
              refine v_goto (pc := 159) (tgt := 179) (dk dt_X12_joined_1 34 rfl) (by decide) ?_
              exact v_less2 (ls' := [none, none, none, none, none, none, none, none, none, none, none]) trivial (by have hk9 := k42; try simp only [if_neg c18] at hk9 ⊢; try simp only [if_neg (Int.not_le.mpr c21)] at hk9 ⊢; try simp only [if_neg (Int.not_le.mpr c25)] at hk9 ⊢; exact hk9)
      exact v_lret (pc := 179) (dk dt_X12_joined_2 3 rfl) rfl h
    · replace h := h.2.2.2.1 (by simpa using hx)
      refine v_aload_n (pc := 180) (dk dt_X12_joined_2 4 rfl) rfl rfl ?_
      obtain ⟨v28, h⟩ := h
      refine v_getZ (pc := 181) (dk dt_X12_joined_2 5 rfl) fl_X12_259 v28 (fun _ => ?_)
      obtain ⟨v30, v31, v32, v33, h⟩ := h
      suffices k43 : V E M_X12_joined 202 [none, none, none, none, none, none, none, none, none, none, none] [jv (if (gfd G5 12 51 l0) = 0 then (0 : Int) else (wBd (Int.tdiv (1000 * l2) l4)))] G5 c s Q X by
        refine v_if_eq (pc := 184) (tgt := 201) (dk dt_X12_joined_2 6 rfl) (by decide) (fun c29 => ?_) (fun c29 => ?_)
        · refine v_lconst (x := 0) (pc := 201) (dk dt_X12_joined_2 14 rfl) (by decide) ⟨by decide, by decide⟩ ?_
          exact v_less2 (ls' := [none, none, none, none, none, none, none, none, none, none, none]) trivial (by have hk9 := k43; try simp only [if_pos c29] at hk9 ⊢; exact hk9)
        · refine v_ldc2 (pc := 187) (dk dt_X12_joined_2 7 rfl) co_X12_244 ⟨by decide, by decide⟩ ?_
          refine v_lload_n (pc := 190) (dk dt_X12_joined_2 8 rfl) rfl rfl ?_
          refine v_lmul (pc := 191) (dk dt_X12_joined_2 9 rfl) (v30 c29) ?_
          refine v_lload (pc := 192) (dk dt_X12_joined_2 10 rfl) rfl ?_
          refine v_ldiv (pc := 194) (dk dt_X12_joined_2 11 rfl) (v31 c29) (v32 c29) ?_
          refine v_csPJ (v := (wBd (Int.tdiv (1000 * l2) l4))) (As := [jv (Int.tdiv (1000 * l2) l4)]) (stk := []) (pc := 195) (dk dt_X12_joined_2 12 rfl) ml_X12_240 rfl rfl (Nat.le_of_ble_eq_true rfl) rfl rfl (v33 c29) ?_
          refine v_goto (pc := 198) (tgt := 202) (dk dt_X12_joined_2 13 rfl) (by decide) ?_
          exact v_less2 (ls' := [none, none, none, none, none, none, none, none, none, none, none]) trivial (by have hk9 := k43; try simp only [if_neg c29] at hk9 ⊢; exact hk9)
      exact v_lret (pc := 202) (dk dt_X12_joined_2 15 rfl) rfl h
  · replace h := h.2.2.2.2 hx
    refine v_aload_n (pc := 203) (dk dt_X12_joined_2 16 rfl) rfl rfl ?_
    refine v_lload_n (pc := 204) (dk dt_X12_joined_2 17 rfl) rfl rfl ?_
    refine v_lload (pc := 205) (dk dt_X12_joined_2 18 rfl) rfl ?_
    suffices k44 : V E M_X12_joined 216 [none, none, some (jv l2), none, none, none, none, none, none, none, none] [iv (if l2 ≤ l4 then (0 : Int) else 1), rv l0] G5 c s Q X by
      refine v_lcmp_le (pc := 207) (tgt := 215) (dk dt_X12_joined_2 19 rfl) (dk dt_X12_joined_2 20 rfl) (by decide) (fun c34 => ?_) (fun c34 => ?_)
      · refine v_iconst (pc := 215) (dk dt_X12_joined_2 23 rfl) ⟨by decide, by decide⟩ ?_
        exact v_less2 (ls' := [none, none, some (jv l2), none, none, none, none, none, none, none, none]) ⟨rfl, trivial⟩ (by have hk9 := k44; try simp only [if_pos c34] at hk9 ⊢; exact hk9)
      · refine v_iconst (pc := 211) (dk dt_X12_joined_2 21 rfl) ⟨by decide, by decide⟩ ?_
        refine v_goto (pc := 212) (tgt := 216) (dk dt_X12_joined_2 22 rfl) (by decide) ?_
        exact v_less2 (ls' := [none, none, some (jv l2), none, none, none, none, none, none, none, none]) ⟨rfl, trivial⟩ (by have hk9 := k44; try simp only [if_neg (Int.not_le.mpr c34)] at hk9 ⊢; exact hk9)
    obtain ⟨v35, h⟩ := h
    obtain ⟨v36, h⟩ := h
    refine v_putZ (pc := 216) (dk dt_X12_joined_2 24 rfl) fl_X12_259 (Or.inl rfl) v35 v36 ?_
    generalize hG37 : (sfd G5 12 51 l0 (if l2 ≤ l4 then (0 : Int) else 1)) = G37
    replace h := h G37 hG37.symm
    refine v_lload_n (pc := 219) (dk dt_X12_joined_2 25 rfl) rfl rfl ?_
    exact v_lret (pc := 220) (dk dt_X12_joined_2 26 rfl) rfl h
set_option maxRecDepth 20000 in
theorem i_X12_joined {E : EE} {l0 l1 l2 l4 : Int} {G : Gt} {c s : Nat} {Q X : Int → Gt → Prop} (h : (gcl G l0 = 13 ∧ ((if l1 = 13 then ((if l4 = 0 then (0 : Int) else 1) : Int) else 1) = 0 ∨ (if l1 = 13 then ((if l4 = 0 then (0 : Int) else 1) : Int) else 1) = 1) ∧ ∀ G5 : Gt, G5 = (sfd G 12 51 l0 (if l1 = 13 then ((if l4 = 0 then (0 : Int) else 1) : Int) else 1)) → ((l1 = 10 → (i64 (l2 + l4) ∧ OkP E M_X12_bounded [jv (l2 + l4)] G5 (wBd (l2 + l4)) ∧ Q (wBd (l2 + l4)) G5)) ∧ (l1 = 11 → (i64 (l2 - l4) ∧ OkP E M_X12_bounded [jv (l2 - l4)] G5 (wBd (l2 - l4)) ∧ Q (wBd (l2 - l4)) G5)) ∧ (l1 = 12 → ((l2 < 0 → i64 (-l2)) ∧ (l4 < 0 → i64 (-l4)) ∧ (0 < (if 0 ≤ l4 then (l4 : Int) else (-l4)) → (if 0 ≤ l4 then (l4 : Int) else (-l4)) ≠ 0) ∧ (0 < (if 0 ≤ l4 then (l4 : Int) else (-l4)) → i64 (Int.tdiv 100000000000000000 (if 0 ≤ l4 then (l4 : Int) else (-l4)))) ∧ ((if (if 0 ≤ l4 then (l4 : Int) else (-l4)) ≤ 0 then (0 : Int) else (if (if 0 ≤ l2 then (l2 : Int) else (-l2)) ≤ (Int.tdiv 100000000000000000 (if 0 ≤ l4 then (l4 : Int) else (-l4))) then (0 : Int) else 1)) = 0 → i64 (l2 * l4)) ∧ ((if (if 0 ≤ l4 then (l4 : Int) else (-l4)) ≤ 0 then (0 : Int) else (if (if 0 ≤ l2 then (l2 : Int) else (-l2)) ≤ (Int.tdiv 100000000000000000 (if 0 ≤ l4 then (l4 : Int) else (-l4))) then (0 : Int) else 1)) = 0 → OkP E M_X12_bounded [jv (Int.tdiv (l2 * l4) 1000)] G5 (wBd (Int.tdiv (l2 * l4) 1000))) ∧ Q (if (if (if 0 ≤ l4 then (l4 : Int) else (-l4)) ≤ 0 then (0 : Int) else (if (if 0 ≤ l2 then (l2 : Int) else (-l2)) ≤ (Int.tdiv 100000000000000000 (if 0 ≤ l4 then (l4 : Int) else (-l4))) then (0 : Int) else 1)) = 0 then ((wBd (Int.tdiv (l2 * l4) 1000)) : Int) else (if 0 ≤ l2 then ((if 0 ≤ l4 then (100000000000000 : Int) else (-100000000000000)) : Int) else (if 0 ≤ l4 then ((-100000000000000) : Int) else 100000000000000))) G5)) ∧ (l1 = 13 → (gcl G5 l0 = 13 ∧ ((gfd G5 12 51 l0) ≠ 0 → i64 (1000 * l2)) ∧ ((gfd G5 12 51 l0) ≠ 0 → l4 ≠ 0) ∧ ((gfd G5 12 51 l0) ≠ 0 → i64 (Int.tdiv (1000 * l2) l4)) ∧ ((gfd G5 12 51 l0) ≠ 0 → OkP E M_X12_bounded [jv (Int.tdiv (1000 * l2) l4)] G5 (wBd (Int.tdiv (1000 * l2) l4))) ∧ Q (if (gfd G5 12 51 l0) = 0 then (0 : Int) else (wBd (Int.tdiv (1000 * l2) l4))) G5)) ∧ (l1 < 10 ∨ 13 < l1 → (gcl G5 l0 = 13 ∧ ((if l2 ≤ l4 then (0 : Int) else 1) = 0 ∨ (if l2 ≤ l4 then (0 : Int) else 1) = 1) ∧ ∀ G37 : Gt, G37 = (sfd G5 12 51 l0 (if l2 ≤ l4 then (0 : Int) else 1)) → Q l2 G37))))) : Ok E M_X12_joined [rv l0, iv l1, jv l2, jv l4] G c s Q X := Ok.intro (k := 5) rfl rfl (Nat.le_of_ble_eq_true rfl) rfl (b_X12_joined_0 h)
