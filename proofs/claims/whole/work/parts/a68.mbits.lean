/-! the model's bits -/
section Sa68
variable {E : EE} {G G' G2 G0 : Gt} {c s : Nat} {Q X : Int → Gt → Prop} {m ml mr i u f : Int} {k n j : Nat} {d : DS} {ser : List Int} {bk : Int → List (Int × Int)} {P : List (Int × Int)} {L : List (Int × Int × Int)}
/-- a block is looked at -/
def fbF (i u f : Int) (x : Int × Int × Int) : Int := if x.1 = i then (if x.2.1 = u then x.2.2 else f) else f
theorem fb_other : ∀ (L : List (Int × Int × Int)) (f : Int), (∀ x ∈ L, x.1 ≠ i) → L.foldl (fbF i u) f = f
  | [], _, _ => rfl
  | x :: L, f, h => by
    have e : fbF i u f x = f := by unfold fbF; rw [if_neg (h x List.mem_cons_self)]
    rw [List.foldl_cons, e]
    exact fb_other L f (fun y hy => h y (List.mem_cons_of_mem _ hy))
theorem bkV_none : ∀ (P : List (Int × Int)), P.any (fun p => decide (p.1 = u)) = false → bkV u P = -1
  | [], _ => rfl
  | p :: P, h => by
    rw [List.any_cons, Bool.or_eq_false_iff] at h
    have h1 : ¬ p.1 = u := of_decide_eq_false h.1
    unfold bkV
    rw [if_neg h1]
    exact bkV_none P h.2
theorem fb_own : ∀ (P : List (Int × Int)) (f : Int), P.Pairwise (fun p q => p.1 ≠ q.1) → (P.map fun p => (i, p.1, p.2)).foldl (fbF i u) f = if P.any (fun p => decide (p.1 = u)) = true then bkV u P else f
  | [], _, _ => rfl
  | p :: P, f, h => by
    have hp := List.pairwise_cons.mp h
    rw [List.map_cons, List.foldl_cons, List.any_cons]
    by_cases h1 : p.1 = u
    · have e : fbF i u f (i, p.1, p.2) = p.2 := by unfold fbF; rw [if_pos rfl, if_pos h1]
      have hn : P.any (fun p => decide (p.1 = u)) = false := by
        rw [List.any_eq_false]
        intro q hq h9
        exact hp.1 q hq (h1.trans (of_decide_eq_true h9).symm)
      rw [e, fb_own P _ hp.2, hn, if_neg (by decide), decide_eq_true h1, Bool.true_or, if_pos rfl]
      unfold bkV
      rw [if_pos h1]
    · have e : fbF i u f (i, p.1, p.2) = f := by unfold fbF; rw [if_pos rfl, if_neg h1]
      rw [e, fb_own P _ hp.2, decide_eq_false h1, Bool.false_or]
      have e2 : bkV u (p :: P) = bkV u P := by
        show (if p.1 = u then p.2 else bkV u P) = _
        rw [if_neg h1]
      rw [e2]
theorem fb_all (hb : ∀ c, (bk c).Pairwise (fun p q => p.1 ≠ q.1)) (hi : 0 ≤ i) : ∀ n : Nat, (((List.range n).map fun k : Nat => (bk (ser.getD k 0)).map fun p => ((k : Int), p.1, p.2)).flatten).foldl (fbF i u) (-1) = if i < n then bkV u (bk (ser.getD i.toNat 0)) else -1
  | 0 => by
    rw [if_neg (by omega)]
    rfl
  | n + 1 => by
    rw [List.range_succ, List.map_append, List.flatten_append, List.foldl_append, fb_all hb hi n]
    show (((bk (ser.getD n 0)).map fun p : Int × Int => ((n : Int), p.1, p.2)) ++ []).foldl (fbF i u) _ = _
    rw [List.append_nil]
    by_cases hn : i = n
    · rw [if_neg (by omega), if_pos (by omega), ← hn, fb_own _ _ (hb _), show i.toNat = n by omega]
      by_cases h9 : (bk (ser.getD n 0)).any (fun p => decide (p.1 = u)) = true
      · rw [if_pos h9]
      · rw [if_neg h9, bkV_none _ (Bool.not_eq_true _ ▸ h9)]
    · rw [fb_other _ _ (fun x hx => by
        obtain ⟨p, hp, rfl⟩ := List.mem_map.mp hx
        exact fun h9 => hn h9.symm)]
      by_cases h9 : i < n
      · rw [if_pos h9, if_pos (by omega)]
      · rw [if_neg h9, if_neg (by omega)]
theorem om_bits (h : MH E G m d ml mr) (hB : BKI d) : Ok E M_X12_bits [rv m, iv i, iv u] G c s (MqR E G m (cBits d i u) tB ml mr) (fun _ _ => False) := by
  obtain ⟨b1, b2, b3⟩ := h.2.2.2.2.2.1
  have hg := h.k13
  have x16 := h.1.1.fx 16 15 600
  have x17 := h.1.1.fx 17 15 600
  have x18 := h.1.1.fx 18 15 600
  have key : ∀ (j k : Nat), k + j = (mBl (dSer d) (dBk d)).length → V E M_X12_bits 5 [some (rv m), some (iv i), some (iv u), some (iv (((mBl (dSer d) (dBk d)).take k).foldl (fbF i u) (-1))), some (iv (k : Int))] [] G c s (MqR E G m (cBits d i u) tB ml mr) (fun _ _ => False) := by
    intro j
    induction j with
    | zero =>
      intro k hk
      have e : k = (mBl (dSer d) (dBk d)).length := hk
      rw [e, List.take_length]
      refine b_X12_bits_5 ?_
      rw [b1]
      refine ⟨hg, fun _ => ⟨hg, okp_isSeries h.1.1 h.lb.1, hg, fun G8 e8 => ?_⟩, fun h9 => by omega⟩
      rw [h.sr6.1] at e8
      have bad : cBits d i u = no 3 d → G8 = sfd G 12 0 m 1 → gcl G8 m = 13 ∧ MqR E G m (cBits d i u) tB ml mr (if gfd G8 12 0 m ≤ 0 then (mBl (dSer d) (dBk d)).foldl (fbF i u) (-1) else 0) G8 := fun hb e9 => by
        obtain ⟨k1, k2⟩ := h.thr 1
        rw [← e9] at k1 k2
        rw [hb]
        exact ⟨k1.1.k13, MqR.nok (by decide) k2 k1⟩
      by_cases hr : inS d i
      · rw [if_neg (fun h9 => (inS_w i).mp h9 hr)] at e8
        have hfb : (mBl (dSer d) (dBk d)).foldl (fbF i u) (-1) = bkV u (dBk d (serC d i)) := by
          have := fb_all (ser := dSer d) (bk := dBk d) (u := u) hB hr.1 (dSer d).length
          rw [if_pos hr.2] at this
          exact this
        rw [hfb] at e8 bad ⊢
        by_cases h1 : bkV u (dBk d (serC d i)) = -1
        · rw [if_pos h1] at e8
          exact bad (by rw [cBits, if_pos hr, if_pos h1]) e8
        · rw [if_neg h1] at e8
          obtain ⟨k1, k2⟩ := h.thr 0
          rw [← e8] at k1 k2
          refine ⟨k1.1.k13, ?_⟩
          rw [cBits, if_pos hr, if_neg h1, if_pos (by omega)]
          exact MqR.ok k2 rfl rfl k1
      · rw [if_pos ((inS_w i).mpr hr)] at e8
        exact bad (by rw [cBits, if_neg hr]) e8
    | succ j ih =>
      intro k hk
      have hlt : k < (mBl (dSer d) (dBk d)).length := by omega
      obtain ⟨v16, v17, v18⟩ := b3 k hlt
      have hnext := ih (k + 1) (by omega)
      rw [takeS (d := ((0 : Int), (0 : Int), (0 : Int))) hlt, List.foldl_append] at hnext
      refine b_X12_bits_5 ?_
      rw [b1, v16, v17, v18]
      exact ⟨hg, fun h9 => by omega, fun _ => ⟨hg, x16.1, by omega, by omega, fun _ => hg, fun _ => x17.1, fun _ => by omega, fun _ => by omega, fun _ _ => hg, fun _ _ => x18.1, fun _ _ => by omega, fun _ _ => by omega, i32s' (by omega), hnext⟩⟩
  exact i_X12_bits (key (mBl (dSer d) (dBk d)).length 0 (Nat.zero_add _))
end Sa68
