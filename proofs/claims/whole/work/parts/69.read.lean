/-! what a word reads of the series -/
section S69
variable {E : EE} {G G' G2 G0 : Gt} {c s : Nat} {Q X : Int → Gt → Prop} {a r q l u v n m p sp wn k set fr to wd g st t two time : Int} {W W' : Nat → Int} {R T : List (Int × Int)} {zs : List Zt} {ser : List Int} {smp : List (Sm4 × Int)} {dn wr : Int}
def gaP (L : List (Int × Int)) (W : Nat → Int) : Nat → Int := L.foldl (fun W y => if y.2 = -2147483648 then W else incW W y.1 y.2) W
theorem gaW_P (G : Gt) : ∀ (L : List Int) (W : Nat → Int), gaW G L W = gaP (L.map (tv G)) W
  | [], _ => rfl
  | x :: L, W => by
    show gaW G L (stW G W x) = gaP (L.map (tv G)) (if sV G x = -2147483648 then W else incW W (sT G x) (sV G x))
    rw [gaW_P G L]; rfl
/-- two windows that tell the same -/
def wEq (W W' : Nat → Int) : Prop := (W 0 = 0 ∧ W' 0 = 0) ∨ ∀ k, k < 9 → W k = W' k
theorem incW_eq {t v : Int} (h : wEq W W') : ∀ k, k < 9 → incW W t v k = incW W' t v k := by
  rcases h with ⟨h1, h2⟩ | h
  · intro k hk
    unfold incW
    rw [if_pos h1, if_pos h2]
    match k, hk with
    | 0, _ => simp only [endW, begW, h1, h2]
    | 1, _ => rfl
    | 2, _ => rfl
    | 3, _ => rfl
    | 4, _ => rfl
    | 5, _ => rfl
    | 6, _ => rfl
    | 7, _ => rfl
    | 8, _ => rfl
  · exact incW_congr (W := W') (W2 := W) h
theorem gaP_eq : ∀ (L : List (Int × Int)) {W W' : Nat → Int}, wEq W W' → wEq (gaP L W) (gaP L W')
  | [], _, _, h => h
  | y :: L, W, W', h => by
    show wEq (gaP L (if y.2 = -2147483648 then W else incW W y.1 y.2)) (gaP L (if y.2 = -2147483648 then W' else incW W' y.1 y.2))
    by_cases h1 : y.2 = -2147483648
    · rw [if_pos h1, if_pos h1]; exact gaP_eq L h
    · rw [if_neg h1, if_neg h1]; exact gaP_eq L (Or.inr (incW_eq h))
theorem ctV_eq (h : wEq W W') (k : Int) : ctV W k = ctV W' k := by
  unfold ctV
  rcases h with ⟨h1, h2⟩ | h
  · rw [h1, h2]
  · rw [h 0 (by decide)]
theorem rtV_eq (h : ∀ k, k < 9 → W k = W' k) (len time : Int) : rtV W len time = rtV W' len time := by
  unfold rtV rcV
  rw [h 0 (by decide), h 1 (by decide), h 2 (by decide), h 8 (by decide)]
theorem toV_eq (h : wEq W W') {k : Int} (hc : ctV W k ≠ 0) (len time : Int) : toV W k len time = toV W' k len time := by
  rcases h with ⟨h1, h2⟩ | h
  · unfold ctV at hc
    rw [h1] at hc
    exact (hc (if_pos (by split <;> omega))).elim
  · unfold toV
    rw [h 0 (by decide), h 4 (by decide), h 5 (by decide), h 6 (by decide), h 7 (by decide), rtV_eq h]
/-- the window's ends lie where its samples lie -/
theorem gaP_in {lo hi : Int} : ∀ (L : List (Int × Int)) (W : Nat → Int), 0 ≤ W 0 → (∀ y ∈ L, lo ≤ y.1 ∧ y.1 ≤ hi) → (0 < W 0 → lo ≤ W 1 ∧ W 2 ≤ hi) → 0 < gaP L W 0 → lo ≤ gaP L W 1 ∧ gaP L W 2 ≤ hi
  | [], W, _, _, h, hp => h hp
  | y :: L, W, h0, hL, h, hp => by
    have hy := hL y List.mem_cons_self
    have hL' : ∀ z ∈ L, lo ≤ z.1 ∧ z.1 ≤ hi := fun z hz => hL z (List.mem_cons_of_mem _ hz)
    show lo ≤ gaP L (if y.2 = -2147483648 then W else incW W y.1 y.2) 1 ∧ gaP L (if y.2 = -2147483648 then W else incW W y.1 y.2) 2 ≤ hi
    have hp' : 0 < gaP L (if y.2 = -2147483648 then W else incW W y.1 y.2) 0 := hp
    by_cases h1 : y.2 = -2147483648
    · rw [if_pos h1] at hp' ⊢
      exact gaP_in L W h0 hL' h hp'
    · rw [if_neg h1] at hp' ⊢
      refine gaP_in L _ ?_ hL' (fun _ => ?_) hp'
      · unfold incW
        by_cases h2 : W 0 = 0
        · rw [if_pos h2]; show 0 ≤ W 0 + 1; omega
        · rw [if_neg h2]; show 0 ≤ W 0 + 1; omega
      · unfold incW
        by_cases h2 : W 0 = 0
        · rw [if_pos h2]; show lo ≤ y.1 ∧ y.1 ≤ hi; exact hy
        · rw [if_neg h2]
          have := h (by omega)
          show lo ≤ W 1 ∧ y.1 ≤ hi
          exact ⟨this.1, hy.2⟩
def inT (fr to : Int) (y : Int × Int) : Bool := decide (fr ≤ y.1) && decide (y.1 ≤ to)
def atV (t : Int) (S : List (Int × Int)) : Option Int := match (S.filter (fun y => decide (y.1 ≤ t))).getLast? with
  | none => none
  | some y => if t - y.1 ≤ 50 ∧ y.2 ≠ -2147483648 then some (1000 * y.2) else none
/-- what a word tells of the samples of a series -/
def valW (k two time : Int) (S : List (Int × Int)) : Option Int :=
  if k = 1 then atV (time - two) S
  else if ctV (gaP (S.filter (inT (time - two + 1) time)) (fun _ => 0)) k = 0 then none
  else some (toV (gaP (S.filter (inT (time - two + 1) time)) (fun _ => 0)) k two time)
def rdF (p : Int → Bool) (k two time : Int) (sm : List Sm4) (c : Int) : Option (Int × Int) := if p c = true then (valW k two time (seeT c sm)).map (fun v => (c, v)) else none
/-- the result of a word that reads -/
def readR (p : Int → Bool) (k two time : Int) (ser : List Int) (sm : List Sm4) : List (Int × Int) := srt (ser.filterMap (rdF p k two time sm))
theorem take_filter (h : SR G a) (t : Int) : (seenL G a).take (cAh G a t) = (seenL G a).filter (fun y => decide (sT G y < t)) := by
  have hc := cAh_spec t h
  conv => rhs; rw [← List.take_append_drop (cAh G a t) (seenL G a)]
  rw [List.filter_append, List.filter_eq_self.mpr, List.filter_eq_nil_iff.mpr, List.append_nil]
  · intro y hy
    obtain ⟨i, h7, h8, rfl⟩ := mem_drop_i hy
    have h6 := hc.2.2 i h7 h8
    exact fun h9 => absurd (of_decide_eq_true h9) (Int.not_lt.mpr h6)
  · intro y hy
    obtain ⟨i, h7, h8, rfl⟩ := mem_take_i hy
    exact decide_eq_true (hc.2.1 i h7)
/-- the latest sample: its value -/
theorem ltV_at (h : SR G a) (h6 : gcl G (-1) ≠ 6) (t : Int) : (ltV G a t = -1 ∧ atV t ((seenL G a).map (tv G)) = none) ∨ (gcl G (ltV G a t) = 6 ∧ ltV G a t ≠ -1 ∧ vOk (sV G (ltV G a t)) ∧ atV t ((seenL G a).map (tv G)) = if sV G (ltV G a t) = -2147483648 then none else some (1000 * sV G (ltV G a t))) := by
  have hf : (((seenL G a).map (tv G)).filter (fun y => decide (y.1 ≤ t))) = ((seenL G a).take (cAh G a (t + 1))).map (tv G) := by
    rw [take_filter h, List.filter_map]
    refine congrArg (List.map _) (List.filter_congr fun y _ => ?_)
    show decide (sT G y ≤ t) = decide (sT G y < t + 1)
    exact decide_eq_decide.mpr (by omega)
  have hc := (cAh_spec (t + 1) h).1
  unfold atV
  rw [hf, List.getLast?_map]
  by_cases h0 : cAh G a (t + 1) = 0
  · refine Or.inl ⟨?_, ?_⟩
    · unfold ltV; rw [if_neg (by omega)]
    · rw [h0, List.take_zero]; rfl
  · have hlen : ((seenL G a).take (cAh G a (t + 1))).length = cAh G a (t + 1) := by rw [List.length_take]; omega
    have hlast : ((seenL G a).take (cAh G a (t + 1))).getLast? = some ((seenL G a).getD (cAh G a (t + 1) - 1) 0) := by
      rw [List.getLast?_eq_getElem?, hlen, List.getElem?_take, if_pos (by omega), List.getD_eq_getElem?_getD, List.getElem?_eq_getElem (by omega)]; rfl
    have hm := h.2.2.2.1 _ (getD_mem (L := seenL G a) (i := cAh G a (t + 1) - 1) (by omega))
    rw [hlast]
    show _ ∨ (_ ∧ _ ∧ _ ∧ (if t - sT G ((seenL G a).getD (cAh G a (t + 1) - 1) 0) ≤ 50 ∧ sV G ((seenL G a).getD (cAh G a (t + 1) - 1) 0) ≠ -2147483648 then some (1000 * sV G ((seenL G a).getD (cAh G a (t + 1) - 1) 0)) else none) = _)
    by_cases h1 : t - sT G ((seenL G a).getD (cAh G a (t + 1) - 1) 0) ≤ 50
    · have hl : ltV G a t = (seenL G a).getD (cAh G a (t + 1) - 1) 0 := by unfold ltV; rw [if_pos ⟨by omega, h1⟩]
      rw [hl]
      refine Or.inr ⟨hm.1, fun h9 => h6 (by rw [← h9]; exact hm.1), hm.2.2.2, ?_⟩
      by_cases h2 : sV G ((seenL G a).getD (cAh G a (t + 1) - 1) 0) = -2147483648
      · rw [if_pos h2, if_neg (fun h9 => h9.2 h2)]
      · rw [if_neg h2, if_pos ⟨h1, h2⟩]
    · have hl : ltV G a t = -1 := by unfold ltV; rw [if_neg (fun h9 => h1 h9.2)]
      refine Or.inl ⟨hl, ?_⟩
      exact if_neg (fun h9 => h1 h9.1)
/-- the state while a word reads: the spare result and the window change -/
def rdS (E : EE) (G0 G : Gt) (sp wn : Int) : Prop := LW E G ∧ ONW G0 G ∧ FR G0 G (fun c k y => (c = 3 ∧ 2 ≤ k ∧ y = sp) ∨ (c = 9 ∧ y = wn)) noA (fun y => y = gfd G0 3 0 sp ∨ y = gfd G0 3 1 sp)
theorem rdS.ru (h : rdS E G0 G sp wn) (hs : RSh G sp) (h4 : gcl G0 sp = 4) (k : RU G G' sp) : rdS E G0 G' sp wn := by
  have h0 := hs.2.1.1
  have h1 := hs.2.2.1.1
  have e : ∀ j, j < 2 → gfd G 3 j sp = gfd G0 3 j sp := fun j hj => h.2.2.2.1 3 j sp (by decide) (by omega) (fun h9 => by omega)
  refine ⟨k.lw h.1, h.2.1.trans k.onw, h.2.2.andThen (RU.fr h.1 k (by omega) (by omega)) (fun _ _ _ _ h9 => Or.inl h9) (fun _ _ h9 => h9) (fun y _ h9 => ?_)⟩
  rw [e 0 (by decide), e 1 (by decide)] at h9; exact h9
theorem rdS.wu (h : rdS E G0 G sp wn) {V : Nat → Int} (k : WU G G' wn V) : rdS E G0 G' sp wn :=
  ⟨k.lw h.1, h.2.1.trans k.onw, h.2.2.andThen k.fr (fun _ _ _ _ h9 => Or.inr h9) (fun _ _ h9 => h9) (fun _ _ h9 => h9.elim)⟩
end S69
