/-! the store hides samples -/
section S50
variable {E : EE} {G G' G2 : Gt} {c s : Nat} {Q X : Int → Gt → Prop} {a st x q l t v f sel fr to : Int} {zs zs' : List Zt} {W : Nat → Nat → Int → Prop} {L A : Int → Prop}
variable {ser : List Int} {smp : List (Sm4 × Int)} {rs : List Int} {dn wr cr er : Int}
/-- a sorted list, from a time to another one -/
theorem cut_filter (h : SR G a) (hft : fr ≤ to) : cAh G a fr ≤ cAh G a (to + 1) ∧ (seenL G a).take (cAh G a fr) ++ (seenL G a).drop (cAh G a (to + 1)) = (seenL G a).filter (fun y => !(decide (fr ≤ sT G y) && decide (sT G y ≤ to))) ∧
    ((seenL G a).take (cAh G a (to + 1))).drop (cAh G a fr) = (seenL G a).filter (fun y => decide (fr ≤ sT G y) && decide (sT G y ≤ to)) := by
  have c1 := cAh_spec fr h
  have c2 := cAh_spec (to + 1) h
  have hle : cAh G a fr ≤ cAh G a (to + 1) := by
    by_cases h9 : cAh G a fr ≤ cAh G a (to + 1)
    · exact h9
    · have a1 := c1.2.1 (cAh G a (to + 1)) (by omega)
      have a2 := c2.2.2 (cAh G a (to + 1)) (Nat.le_refl _) (by omega)
      omega
  generalize hb : cAh G a fr = b at *
  generalize he : cAh G a (to + 1) = e at *
  have e1 : seenL G a = (seenL G a).take b ++ (((seenL G a).take e).drop b ++ (seenL G a).drop e) := by
    conv => lhs; rw [← List.take_append_drop e (seenL G a), ← List.take_append_drop b ((seenL G a).take e)]
    rw [List.take_take, Nat.min_eq_left hle, List.append_assoc]
  have p1 : ∀ y ∈ (seenL G a).take b, sT G y < fr := fun y hy => by
    obtain ⟨i, h7, h8, rfl⟩ := mem_take_i hy
    exact c1.2.1 i h7
  have p3 : ∀ y ∈ (seenL G a).drop e, to < sT G y := fun y hy => by
    obtain ⟨i, h7, h8, rfl⟩ := mem_drop_i hy
    have := c2.2.2 i h7 h8
    omega
  have p2 : ∀ y ∈ ((seenL G a).take e).drop b, fr ≤ sT G y ∧ sT G y ≤ to := fun y hy => by
    obtain ⟨i, h7, h8, rfl⟩ := mem_drop_i hy
    rw [List.length_take] at h8
    have : ((seenL G a).take e).getD i 0 = (seenL G a).getD i 0 := by
      rw [List.getD_eq_getElem?_getD, List.getD_eq_getElem?_getD, List.getElem?_take, if_pos (by omega)]
    rw [this]
    have a1 := c1.2.2 i h7 (by omega)
    have a2 := c2.2.1 i (by omega)
    omega
  refine ⟨hle, ?_, ?_⟩
  · conv => rhs; rw [e1]
    rw [List.filter_append, List.filter_append, List.filter_eq_self.mpr, List.filter_eq_nil_iff.mpr, List.filter_eq_self.mpr, List.nil_append]
    · intro y hy
      have := p3 y hy
      simp; omega
    · intro y hy
      have := p2 y hy
      simp; omega
    · intro y hy
      have := p1 y hy
      simp; omega
  · conv => rhs; rw [e1]
    rw [List.filter_append, List.filter_append, List.filter_eq_nil_iff.mpr, List.filter_eq_self.mpr, List.filter_eq_nil_iff.mpr, List.nil_append, List.append_nil]
    · intro y hy
      have := p3 y hy
      simp; omega
    · intro y hy
      have := p2 y hy
      simp; omega
    · intro y hy
      have := p1 y hy
      simp; omega
theorem erase_mid {S : List Int} {k e : Nat} (hk : k < S.length) : (S.take (k + 1) ++ S.drop e).eraseIdx k = S.take k ++ S.drop e := by
  rw [List.eraseIdx_append_of_lt_length (by rw [List.length_take]; omega), List.eraseIdx_eq_take_drop_succ, List.take_take, Nat.min_eq_left (by omega), List.drop_eq_nil_of_le (by rw [List.length_take]; omega), List.append_nil]
/-- the inner loop -/
theorem v_hideIn {b e i : Nat} {K : Gt → Int → List Int → Prop} (hS : (seenL G a).Nodup) (hL0 : LW E G) (h : SR G a) (hbe : b ≤ e) (he : e ≤ (seenL G a).length) (hi : i ≤ 1000)
    {ks0 : List Int} (hks : ∀ y ∈ ks0, y ∉ seenL G a) {n0 : Int} (hn0 : 0 ≤ n0 ∧ n0 ≤ 1000)
    (hK : ∀ G2 f2 n2, LW E G2 → ONW G G2 → FR G G2 (fun c k y => c = 5 ∧ k = 5 ∧ y ∈ seenL G a) (fun y => y = gfd G 7 1 a) noA → lst G2 (gfd G 7 1 a) = (seenL G a).take b ++ (seenL G a).drop e → capOf G2 (gfd G 7 1 a) = capOf G (gfd G 7 1 a) → chn G2 f2 (((seenL G a).take e).drop b ++ ks0) → n2 = n0 + (((seenL G a).take e).drop b).length →
      V E M_X8_hide 9 [some (rv st), some (rv sel), some (iv fr), some (iv to), some (rv f2), some (iv n2), some (iv ((i : Int) + 1)), none, none, none, none] [] G2 c s Q X) :
    ∀ (j k : Nat) (G1 : Gt) (f : Int) (n : Int), k = b + j → k ≤ e → LW E G1 → ONW G G1 → FR G G1 (fun c k y => c = 5 ∧ k = 5 ∧ y ∈ seenL G a) (fun y => y = gfd G 7 1 a) noA → lst G1 (gfd G 7 1 a) = (seenL G a).take k ++ (seenL G a).drop e → capOf G1 (gfd G 7 1 a) = capOf G (gfd G 7 1 a) → chn G1 f (((seenL G a).take e).drop k ++ ks0) → n = n0 + (((seenL G a).take e).drop k).length →
    V E M_X8_hide 70 [some (rv st), some (rv sel), some (iv fr), some (iv to), some (rv f), some (iv n), some (iv (i : Int)), some (rv a), some (iv (b : Int)), some (iv ((k : Int) - 1)), none] [] G1 c s Q X := by
  have h60 := h.2.2.2.2.2
  have ha8 := h.1
  have hl14 := h.2.1
  intro j
  induction j with
  | zero =>
    intro k G1 f n hk hke hL hO hF hl hcp hch hn
    have hkb : k = b := by omega
    subst hkb
    exact b_X8_hide_70 ⟨fun _ => ⟨i32s (by omega), hK G1 f n hL hO hF hl hcp hch hn⟩, fun h9 => by omega⟩
  | succ j ih =>
    intro k G1 f n hk hke hL hO hF hl hcp hch hn
    obtain ⟨k, rfl⟩ : ∃ k', k = k' + 1 := ⟨k - 1, by omega⟩
    have e7 : gfd G1 7 1 a = gfd G 7 1 a := hF.2.1 7 1 a (by decide) (by omega) (fun h9 => by omega)
    have g14 : gcl G1 (gfd G 7 1 a) = 14 := by rw [hF.1 _ (by omega)]; exact hl14
    have gr := (hF.2.2.1 _ hl14 h.2.2.1).1
    have ek : (((k + 1 : Nat) : Int) - 1) = (k : Int) := by omega
    have ek2 : (k : Int) + (-1) = (k : Int) - 1 := by omega
    have hxm : (seenL G a).getD k 0 ∈ seenL G a := getD_mem (by omega)
    have hx := h.2.2.2.1 _ hxm
    have hlen : (lst G1 (gfd G 7 1 a)).length = k + 1 + ((seenL G a).length - e) := by rw [hl, List.length_append, List.length_take, List.length_drop]; omega
    have hkl : k < (lst G1 (gfd G 7 1 a)).length := by omega
    have hsz : gfd G1 13 2 (gfd G 7 1 a) = (lst G1 (gfd G 7 1 a)).length := hL.size g14 gr
    have hat : alAt G1 (gfd G 7 1 a) (k : Int) = (seenL G a).getD k 0 := by
      rw [alAt_get hL g14 gr hkl, hl, List.getD_eq_getElem?_getD, List.getD_eq_getElem?_getD, List.getElem?_append_left (by rw [List.length_take]; omega), List.getElem?_take, if_pos (by omega)]
    have hdl : (((seenL G a).take e).drop (k + 1)).length = e - (k + 1) := by rw [List.length_drop, List.length_take]; omega
    refine b_X8_hide_70 ⟨fun h9 => by omega, fun _ => ⟨by rw [hF.1 a (by omega)]; exact ha8, by rw [e7]; exact g14, ?_⟩⟩
    rw [e7, ek]
    refine Call.to (ok_remove hL g14 gr (by omega) (by omega)) (Nat.zero_le _) (Nat.zero_le _) fun r G6 h6 => ?_
    obtain ⟨hr, h6⟩ := h6
    rw [hat] at hr
    subst hr
    rw [hl, Int.toNat_natCast, erase_mid (by omega), hcp] at h6
    have F6 : FR G G6 (fun c k y => c = 5 ∧ k = 5 ∧ y ∈ seenL G a) (fun y => y = gfd G 7 1 a) noA := hF.luIn h6 rfl
    have x6 : gcl G6 ((seenL G a).getD k 0) = 6 := by rw [F6.1 _ (by omega)]; exact hx.1
    refine ⟨Or.inr x6, x6, fun G11 e11 => ⟨i32s (by omega), i32s (by omega), ?_⟩⟩
    rw [ek2]
    have hF11 : FR G G11 (fun c k y => c = 5 ∧ k = 5 ∧ y ∈ seenL G a) (fun y => y = gfd G 7 1 a) noA := by rw [e11]; exact F6.sfdIn ⟨rfl, rfl, hxm⟩ (by decide)
    have ed : ((seenL G a).take e).drop k = (seenL G a).getD k 0 :: ((seenL G a).take e).drop (k + 1) := by
      rw [drop_getD (by rw [List.length_take]; omega)]
      congr 1
      rw [List.getD_eq_getElem?_getD, List.getD_eq_getElem?_getD, List.getElem?_take, if_pos (by omega)]
    have hnd : (seenL G a).getD k 0 ∉ ((seenL G a).take e).drop (k + 1) := by
      have h1 : (((seenL G a).take e).drop k).Nodup := hS.sublist ((List.drop_sublist _ _).trans (List.take_sublist _ _))
      rw [ed] at h1
      exact (List.nodup_cons.mp h1).1
    refine ih k G11 _ _ (by omega) (by omega) (by rw [e11]; exact h6.1.sfd (by decide)) (by rw [e11]; exact (hO.luT h6).sfdT (by decide)) hF11 ?_ ?_ ?_ ?_
    · rw [e11, lst_sfd (by decide)]; exact h6.2.2.2.2.2.1
    · rw [e11, capOf_sfd (by decide)]; exact h6.2.2.2.2.2.2.1
    · rw [ed]
      refine ⟨rfl, ?_⟩
      rw [e11, gfd_sfd, if_pos ⟨rfl, rfl, rfl⟩]
      refine hch.fr fun y hy => ?_
      have hyx : y ≠ (seenL G a).getD k 0 := by
        intro h9
        rcases List.mem_append.mp hy with h8 | h8
        · rw [h9] at h8; exact hnd h8
        · exact hks y h8 (by rw [h9]; exact hxm)
      rw [gfd_sfd, if_neg (fun h9 => hyx h9.2.2), h6.2.2.1 5 5 y (by decide)]
    · rw [hn, ed, List.length_cons]; omega
theorem SR.nodup (h : SR G a) : (seenL G a).Nodup := h.2.2.2.2.1.imp (fun {x y} h9 h8 => by rw [h8] at h9; omega)
end S50
