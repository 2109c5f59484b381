/-! the model looks at a series: the latest sample -/
section Sa39
variable {E : EE} {G G' G2 G0 : Gt} {c s : Nat} {Q X : Int → Gt → Prop} {m ml mr t v b l n r u s9 x i nn time two what lo hi n20 : Int} {k j : Nat} {ser : List Int} {smp : List (Sm4 × Int)} {sm : List Sm4} {d : DS} {R A B S9 L9 : List (Int × Int)} {W W' : Nat → Int}
def latS (G : Gt) (m s t f k : Int) : Int := if mH G m k = 0 ∧ mS G m k = s ∧ t - 50 ≤ mT G m k ∧ mT G m k ≤ t then (if f = -1 then k else if mT G m k ≤ mT G m f then f else k) else f
theorem latS_in (G : Gt) (m s t : Int) (n : Nat) : -1 ≤ ups (latS G m s t) (-1) n ∧ ups (latS G m s t) (-1) n < n := by
  induction n with
  | zero => rw [ups_zero]; omega
  | succ n ih =>
    rw [ups_succ]
    unfold latS at *
    split
    · split
      · omega
      · split <;> omega
    · omega
def mLat (G : Gt) (m s t : Int) : Int := ups (latS G m s t) (-1) (mN G m).toNat
theorem atV_none (h : ∀ y ∈ S9, y.1 ≤ t → 50 < t - y.1) : atV t S9 = none := by
  unfold atV
  cases e : (S9.filter (fun y => decide (y.1 ≤ t))).getLast? with
  | none => rfl
  | some y =>
    have hm := List.mem_filter.mp (List.mem_of_getLast? e)
    have := h y hm.1 (of_decide_eq_true hm.2)
    show (if t - y.1 ≤ 50 ∧ y.2 ≠ -2147483648 then _ else _) = _
    rw [if_neg (fun h9 => by omega)]
theorem atV_some (hS : ascL S9) {y : Int × Int} (hy : y ∈ S9) (hyt : y.1 ≤ t) (h50 : t - y.1 ≤ 50) (h : ∀ z ∈ S9, z.1 ≤ t → z.1 ≤ y.1) : atV t S9 = if y.2 = -2147483648 then none else some (1000 * y.2) := by
  have e : (S9.filter (fun y => decide (y.1 ≤ t))).getLast? = some y := by
    have hm : y ∈ S9.filter (fun y => decide (y.1 ≤ t)) := List.mem_filter.mpr ⟨hy, decide_eq_true hyt⟩
    have hasc : ascL (S9.filter (fun y => decide (y.1 ≤ t))) := List.Pairwise.filter _ hS
    obtain ⟨P1, P2, hP⟩ := List.append_of_mem hm
    rw [hP] at hasc
    cases P2 with
    | nil => rw [hP, List.getLast?_append]; rfl
    | cons z P2 =>
      have h1 := (List.pairwise_cons.mp (List.pairwise_append.mp hasc).2.1).1 z List.mem_cons_self
      have hz : z ∈ S9.filter (fun y => decide (y.1 ≤ t)) := by rw [hP]; exact List.mem_append_right _ (List.mem_cons_of_mem _ List.mem_cons_self)
      have hz2 := List.mem_filter.mp hz
      have := h z hz2.1 (of_decide_eq_true hz2.2)
      omega
  unfold atV
  rw [e]
  show (if t - y.1 ≤ 50 ∧ y.2 ≠ -2147483648 then some (1000 * y.2) else none) = _
  by_cases h9 : y.2 = -2147483648
  · rw [if_pos h9, if_neg (fun h8 => h8.2 h9)]
  · rw [if_neg h9, if_pos ⟨h50, h9⟩]
theorem mLat_atV (hsx : SX E G m s9 l smp) : (mLat G m s9 t = -1 ∧ atV t (seeT l (smp.map (·.1))) = none) ∨ (0 ≤ mLat G m s9 t ∧ mLat G m s9 t < smp.length ∧ vOk (mV G m (mLat G m s9 t)) ∧ atV t (seeT l (smp.map (·.1))) = if mV G m (mLat G m s9 t) = -2147483648 then none else some (1000 * mV G m (mLat G m s9 t))) := by
  obtain ⟨-, -, hn, ho, hbd, hb⟩ := hsx
  have hasc := seeT_asc (l := l) hb
  have mem : ∀ k, k < smp.length → own l (smp.getD k z4).1 = true → (qT (smp.getD k z4).1, qV (smp.getD k z4).1) ∈ seeT l (smp.map (·.1)) := fun k hk ho => seeT_mem.mpr ⟨_, List.mem_map.mpr ⟨_, getD_mem' (v := z4) hk, rfl⟩, ho, rfl⟩
  have back : ∀ y ∈ seeT l (smp.map (·.1)), ∃ k, k < smp.length ∧ own l (smp.getD k z4).1 = true ∧ y.1 = qT (smp.getD k z4).1 := fun y hy => by
    obtain ⟨q, hq, ho, rfl⟩ := seeT_mem.mp hy
    obtain ⟨p, hp, rfl⟩ := List.mem_map.mp hq
    obtain ⟨k, hk, rfl⟩ := List.getElem_of_mem hp
    refine ⟨k, hk, ?_⟩
    rw [List.getD_eq_getElem?_getD, List.getElem?_eq_getElem hk]
    exact ⟨ho, rfl⟩
  have key : ∀ n : Nat, n ≤ smp.length → (ups (latS G m s9 t) (-1) n = -1 ∧ ∀ k, k < n → own l (smp.getD k z4).1 = true → qT (smp.getD k z4).1 ≤ t → 50 < t - qT (smp.getD k z4).1) ∨ (∃ f : Nat, f < n ∧ ups (latS G m s9 t) (-1) n = f ∧ own l (smp.getD f z4).1 = true ∧ qT (smp.getD f z4).1 ≤ t ∧ t - qT (smp.getD f z4).1 ≤ 50 ∧ ∀ k, k < n → own l (smp.getD k z4).1 = true → qT (smp.getD k z4).1 ≤ t → qT (smp.getD k z4).1 ≤ qT (smp.getD f z4).1) := by
    intro n
    induction n with
    | zero => intro _; exact Or.inl ⟨rfl, fun k hk => absurd hk (Nat.not_lt_zero k)⟩
    | succ n ih =>
      intro hle
      obtain ⟨a1, a2, a3⟩ := ho n (by omega)
      rw [ups_succ]
      unfold latS
      rw [a2]
      by_cases hc : own l (smp.getD n z4).1 = true ∧ t - 50 ≤ qT (smp.getD n z4).1 ∧ qT (smp.getD n z4).1 ≤ t
      · rw [if_pos ⟨(a1.mpr hc.1).1, (a1.mpr hc.1).2, hc.2.1, hc.2.2⟩]
        rcases ih (by omega) with ⟨b1, b2⟩ | ⟨f, b1, b2, b3, b4, b5, b6⟩
        · refine Or.inr ⟨n, by omega, ?_, hc.1, hc.2.2, by omega, fun k hk hok hkt => ?_⟩
          · have e : ups (latS G m s9 t) (-1) n = -1 := b1
            unfold latS at e
            rw [e, if_pos rfl]
          · by_cases hkn : k = n
            · rw [hkn]; exact Int.le_refl _
            · have := b2 k (by omega) hok hkt; omega
        · have e : ups (latS G m s9 t) (-1) n = f := b2
          unfold latS at e
          rw [e, if_neg (by omega), (ho f (by omega)).2.1]
          by_cases h9 : qT (smp.getD n z4).1 ≤ qT (smp.getD f z4).1
          · rw [if_pos h9]
            refine Or.inr ⟨f, by omega, rfl, b3, b4, b5, fun k hk hok hkt => ?_⟩
            by_cases hkn : k = n
            · rw [hkn]; exact h9
            · exact b6 k (by omega) hok hkt
          · rw [if_neg h9]
            refine Or.inr ⟨n, by omega, rfl, hc.1, hc.2.2, by omega, fun k hk hok hkt => ?_⟩
            by_cases hkn : k = n
            · rw [hkn]; exact Int.le_refl _
            · have := b6 k (by omega) hok hkt; omega
      · rw [if_neg (fun h9 => hc ⟨a1.mp ⟨h9.1, h9.2.1⟩, h9.2.2⟩)]
        have hno : ∀ k, k = n → own l (smp.getD k z4).1 = true → qT (smp.getD k z4).1 ≤ t → 50 < t - qT (smp.getD k z4).1 := fun k hk hok hkt => by
          rw [hk] at hok hkt ⊢
          by_cases h9 : 50 < t - qT (smp.getD n z4).1
          · exact h9
          · exact (hc ⟨hok, by omega, hkt⟩).elim
        rcases ih (by omega) with ⟨b1, b2⟩ | ⟨f, b1, b2, b3, b4, b5, b6⟩
        · refine Or.inl ⟨b1, fun k hk hok hkt => ?_⟩
          by_cases hkn : k = n
          · exact hno k hkn hok hkt
          · exact b2 k (by omega) hok hkt
        · refine Or.inr ⟨f, by omega, b2, b3, b4, b5, fun k hk hok hkt => ?_⟩
          by_cases hkn : k = n
          · have := hno k hkn hok hkt; omega
          · exact b6 k (by omega) hok hkt
  unfold mLat
  rw [hn, Int.toNat_natCast]
  rcases key smp.length (Nat.le_refl _) with ⟨a1, a2⟩ | ⟨f, a1, a2, a3, a4, a5, a6⟩
  · refine Or.inl ⟨a1, atV_none fun y hy hyt => ?_⟩
    obtain ⟨k, hk, hok, e⟩ := back y hy
    rw [e] at hyt ⊢
    exact a2 k hk hok hyt
  · have hf := ho f a1
    rw [a2, hf.2.2]
    refine Or.inr ⟨by omega, by omega, ?_, ?_⟩
    · exact (hbd _ (List.mem_map.mpr ⟨_, getD_mem' (v := z4) a1, rfl⟩)).2.2
    · exact atV_some hasc (mem f a1 a3) a4 a5 fun z hz hzt => by
        obtain ⟨k, hk, hok, e⟩ := back z hz
        rw [e] at hzt ⊢
        exact a6 k hk hok hzt
theorem v_look32 (hsx : SX E G m s9 l smp) (hcode : OkP E M_X12_codeOfSeries [rv m, iv s9] G (mCode G m s9)) (ht : -1000 ≤ t ∧ t ≤ 100000)
    {PA : Int → Gt → Prop} (hadd : ∀ v, Ok E M_X12_add [rv m, iv (mCode G m s9), jv v] G 0 0 (fun _ G' => PA v G') (fun _ _ => False))
    (hN : atV t (seeT l (smp.map (·.1))) = none → Q 0 G) (hY : ∀ v, atV t (seeT l (smp.map (·.1))) = some v → ∀ G', PA v G' → Q 0 G') :
    ∀ (j : Nat) (i : Int), 0 ≤ i → i + j = mN G m → V E M_X12_looksAt 32 [some (rv m), none, some (iv s9), none, none, some (iv t), some (iv (ups (latS G m s9 t) (-1) i.toNat)), some (iv i), none, none, none, none, none, none, none, none, none, none, none, none, none, none, none, none, none, none, none] [] G c s Q X := by
  have hsx0 := hsx
  obtain ⟨h, hs, hn, ho, hbd, hb⟩ := hsx
  obtain ⟨n0, n1, n2, n3, n4, n5, n6⟩ := hs
  have h1 := h.1
  have g7 := (h.gw 7 15).1
  have g8 := (h.gw 8 15).1
  have g9 := (h.gw 9 15).1
  intro j
  induction j with
  | zero =>
    intro i h0 hi
    have hi' : i = gfd G 12 12 m := by unfold mN at hi; omega
    have hm := mLat_atV (t := t) hsx0
    have hL : mLat G m s9 t = ups (latS G m s9 t) (-1) i.toNat := by unfold mLat mN; rw [hi']
    rw [hL] at hm
    have hnn : gfd G 12 12 m = smp.length := hn
    generalize ups (latS G m s9 t) (-1) i.toNat = f at hm ⊢
    refine b_X12_looksAt_32 ⟨h1, fun _ => ⟨fun hf => hN ?_, fun hf => ?_⟩, fun h9 => by omega⟩
    · rcases hm with ⟨-, a2⟩ | ⟨a1, -⟩
      · exact a2
      · omega
    · rcases hm with ⟨a1, -⟩ | ⟨a1, a2, a3, a4⟩
      · exact (hf a1).elim
      have a4' : atV t (seeT l (smp.map (·.1))) = if gel G (gfd G 12 9 m) f = -2147483648 then none else some (1000 * gel G (gfd G 12 9 m) f) := a4
      have a3' : vOk (gel G (gfd G 12 9 m) f) := a3
      refine ⟨h1, g9, a1, by omega, fun h9 => hN (by rw [a4', if_pos h9]), fun h9 => ?_⟩
      rw [if_neg h9] at a4'
      have hv : -1000000 ≤ gel G (gfd G 12 9 m) f ∧ gel G (gfd G 12 9 m) f ≤ 1000000 := by
        rcases a3' with h8 | h8
        · exact (h9 h8).elim
        · exact h8
      exact ⟨h1, hcode, h1, g9, a1, by omega, i64s (by omega), h1, Call.to (hadd _) (Nat.zero_le _) (Nat.zero_le _) fun _ G' hp => hY _ a4' G' hp⟩
  | succ j ih =>
    intro i h0 hi
    have hi' : i < gfd G 12 12 m := by unfold mN at hi; omega
    refine b_X12_looksAt_32 ⟨h1, fun h9 => by omega, fun _ => ?_⟩
    refine ⟨h1, okp_isSeen h h0 (by omega), ?_⟩
    have hf := latS_in G m s9 t i.toNat
    have l7 : i < gln G (gfd G 12 7 m) := by omega
    have l8 : i < gln G (gfd G 12 8 m) := by omega
    have i3 : i32 (i + 1) := i32s (by omega)
    have i4 : i32 (t - 50) := i32s (by omega)
    have ih' := ih (i + 1) (by omega) (by omega)
    rw [ups_next h0] at ih'
    generalize ups (latS G m s9 t) (-1) i.toNat = f at hf ih' ⊢
    refine ⟨fun _ => h1, fun _ => g7, fun _ => h0, fun _ => l7, fun _ _ => h1, fun _ _ => g8, fun _ _ => h0, fun _ _ => l8, fun _ _ => i4, fun _ _ => okp_in, fun _ _ => h1, fun _ _ => g8, fun _ _ => h0, fun _ _ => l8, fun _ _ => h1, fun _ _ => g8, fun _ _ => by omega, fun _ _ => by omega, i3, ?_⟩
    refine Eq.mp (congrArg (fun w => V E M_X12_looksAt 32 [some (rv m), none, some (iv s9), none, none, some (iv t), some (iv w), some (iv (i + 1)), none, none, none, none, none, none, none, none, none, none, none, none, none, none, none, none, none, none, none] [] G c s Q X) ?_) ih'
    unfold latS
    by_cases e1 : mSeen G m i = 0
    · rw [if_pos (show (if mSeen G m i = 0 then (0 : Int) else _) = 0 by rw [if_pos e1]), if_neg (fun h9 => ?_)]
      unfold mSeen at e1
      rw [if_pos (show gel G (gfd G 12 10 m) i = 0 from h9.1)] at e1
      exact absurd e1 (by decide)
    · have e2 : mH G m i = 0 := by
        unfold mSeen at e1
        by_cases h9 : gel G (gfd G 12 10 m) i = 0
        · exact h9
        · rw [if_neg h9] at e1; exact (e1 rfl).elim
      rw [if_neg e1]
      by_cases e3 : gel G (gfd G 12 7 m) i = s9
      · rw [if_pos e3]
        by_cases e4 : t - 50 ≤ gel G (gfd G 12 8 m) i ∧ gel G (gfd G 12 8 m) i ≤ t
        · have e5 : wIn (gel G (gfd G 12 8 m) i) (t - 50) t = 1 := wIn1.mpr e4
          rw [if_pos ⟨e2, e3, e4.1, e4.2⟩, e5]; rfl
        · have e5 : wIn (gel G (gfd G 12 8 m) i) (t - 50) t = 0 := by unfold wIn; rw [if_neg e4]
          rw [if_neg (fun h9 => e4 h9.2.2), e5]; rfl
      · rw [if_neg (fun h9 => e3 h9.2.1), if_neg e3, if_pos rfl]
/-- a word looks at a series -/
theorem om_looksAt (hsx : SX E G m s9 l smp) (hcode : OkP E M_X12_codeOfSeries [rv m, iv s9] G (mCode G m s9)) {p : Int} (hp : 0 ≤ p ∧ p + 6 ≤ 540) (hk : gel G (gfd G 12 21 m) p = what) (h2 : gel G (gfd G 12 21 m) (p + 2) = two) (hw : 1 ≤ what ∧ what ≤ 7) (h2w : 0 ≤ two ∧ two ≤ 1000 ∧ (what ≠ 1 → 1 ≤ two)) (ht : 0 ≤ time ∧ time ≤ 100000) (hlen : (seeT l (smp.map (·.1))).length ≤ 60)
    {PA : Int → Gt → Prop} (hadd : ∀ v, Ok E M_X12_add [rv m, iv (mCode G m s9), jv v] G 0 0 (fun _ G' => PA v G') (fun _ _ => False))
    (hN : valW what two time (seeT l (smp.map (·.1))) = none → Q 0 G) (hY : ∀ v, valW what two time (seeT l (smp.map (·.1))) = some v → ∀ G', PA v G' → Q 0 G') :
    Ok E M_X12_looksAt [rv m, iv p, iv s9, iv time] G c s Q X := by
  have h1 := hsx.1.1
  have x21 := hsx.1.fx 21 15 540
  have hasc := seeT_asc (l := l) hsx.2.2.2.2.2
  have hn0 : ∀ y ∈ seeT l (smp.map (·.1)), 0 ≤ y.1 := fun y hy => (hsx.at hy).1
  refine i_X12_looksAt ⟨h1, x21.1, by omega, by omega, ?_⟩
  rw [hk, h2]
  refine ⟨fun h9 => ⟨h1, i32s' (by omega), x21.1, by omega, by omega, i32s' (by omega), fun _ => i32s' (by omega), h1, ?_⟩, fun h9 => ⟨h1, i32s' (by omega), x21.1, by omega, by omega, i32s' (by omega), ?_⟩⟩
  · refine Call.pure (hsx.nx _) ?_
    have hb : time - two ≤ (if time - two ≤ -1 then (-1 : Int) else time - two) := by split <;> omega
    have hb2 : (if time - two ≤ -1 then (-1 : Int) else time - two) ≤ time - two ∨ (if time - two ≤ -1 then (-1 : Int) else time - two) = -1 := by split <;> omega
    have hb3 : -1 ≤ (if time - two ≤ -1 then (-1 : Int) else time - two) := by split <;> omega
    generalize (if time - two ≤ -1 then (-1 : Int) else time - two) = b at hb hb2 hb3 ⊢
    have hnx : NX (nxL b (seeT l (smp.map (·.1)))) time ((seeT l (smp.map (·.1))).filter (inT (time - two + 1) time)) := nxB (A := []) (lo := time - two + 1) hasc hn0 rfl (fun z hz => (List.not_mem_nil hz).elim) (fun z hz => by
      have hz2 := List.mem_filter.mp hz
      have := inT_iff.mp hz2.2
      have := hn0 z hz2.1
      omega) (by omega)
    have hn1 : -1 ≤ nxL b (seeT l (smp.map (·.1))) := by
      rcases nxL_spec (b := b) hn0 hasc with ⟨a1, -⟩ | ⟨a1, -⟩ <;> omega
    have hv : valW what two time (seeT l (smp.map (·.1))) = if ctV (gaP ((seeT l (smp.map (·.1))).filter (inT (time - two + 1) time)) (fun _ => 0)) what = 0 then none else some (toV (gaP ((seeT l (smp.map (·.1))).filter (inT (time - two + 1) time)) (fun _ => 0)) what two time) := by
      unfold valW
      rw [if_neg h9]
    have := v_look231 (X := X) (c := c) (s := s) (Q := Q) hsx hcode ⟨by omega, hw.2⟩ ⟨h2w.2.2 h9, h2w.2.1⟩ ht hlen hadd (fun h8 => hN (by rw [hv, if_pos h8])) (fun h8 G' hp' => hY _ (by rw [hv, if_neg h8]) G' hp') _ [] _ rfl hnx hn1
    exact this
  · have hv : valW what two time (seeT l (smp.map (·.1))) = atV (time - two) (seeT l (smp.map (·.1))) := by
      unfold valW
      rw [if_pos h9]
    have hn9 := hsx.2.1.1
    exact v_look32 hsx hcode (t := time - two) (by omega) hadd (fun h8 => hN (by rw [hv]; exact h8)) (fun v h8 => hY v (by rw [hv]; exact h8)) (mN G m).toNat 0 (Int.le_refl 0) (by unfold mN; omega)
end Sa39
