/-! a series is packed into blocks: all of it; what is too old is forgotten -/
section S58
variable {E : EE} {G G' G2 : Gt} {c s : Nat} {Q X : Int → Gt → Prop} {a st x q l t v f e r g u : Int} {W : Nat → Nat → Int → Prop} {L A : Int → Prop}
def tv (G : Gt) (x : Int) : Int × Int := (sT G x, sV G x)
theorem v_packBlocks (h : SR G a) (hne : gfd G 7 2 a ≠ gfd G 7 3 a) : ∀ (j i : Nat) (G1 : Gt) (B : List (Int × Int)) (d hh b : Int), i + 1 + j = (seenL G a).length → pkQ E G G1 a (B ++ [(hh, b)]) → B.length ≤ i → (0 ≤ b ∧ b ≤ 64 + 80 * i) → (0 ≤ d ∧ d ≤ 100000) → hh = Int.tdiv (sT G ((seenL G a).getD i 0)) 100 →
    V E M_X7_packBlocks 9 [some (rv a), some (iv d), some (iv ((i : Int) + 1)), none, none, none, none] [] G1 c s (fun rr G' => pkQ E G G' a (B ++ pk (sT G ((seenL G a).getD i 0)) (sV G ((seenL G a).getD i 0)) d hh b (((seenL G a).drop (i + 1)).map (tv G))) ∧ rr = gfd G' 7 4 a) X := by
  have h60 := h.2.2.2.2.2
  have ha8 := h.1
  intro j
  induction j with
  | zero =>
    intro i G1 B d hh b hij hp hB hb hd hhe
    have F := hp.2.2.1
    have hs1 := h.fr F (fun h9 => by unfold bkW at h9; omega) (fun y _ => ⟨fun h9 => by unfold bkW at h9; omega, fun h9 => by unfold bkW at h9; omega⟩) id
    have hsz : gfd G1 13 2 (gfd G1 7 1 a) = (seenL G a).length := by rw [← hs1.2]; exact hp.1.size hs1.1.2.1 hs1.1.2.2.1
    refine b_X7_packBlocks_9 ⟨hs1.1.1, hs1.1.2.1, okp_size hs1.1.2.1, fun _ => ⟨hs1.1.1, ?_, rfl⟩, fun h9 => by omega⟩
    rw [List.drop_eq_nil_of_le (by omega)]
    exact hp
  | succ j ih =>
    intro i G1 B d hh b hij hp hB hb hd hhe
    have F := hp.2.2.1
    have hs1 := h.fr F (fun h9 => by unfold bkW at h9; omega) (fun y _ => ⟨fun h9 => by unfold bkW at h9; omega, fun h9 => by unfold bkW at h9; omega⟩) id
    have hsz : gfd G1 13 2 (gfd G1 7 1 a) = (seenL G a).length := by rw [← hs1.2]; exact hp.1.size hs1.1.2.1 hs1.1.2.2.1
    have eS := hs1.2
    obtain ⟨g1, g2, g3, g4, g5⟩ := hs1.1.get hp.1 (i := (i : Int) + 1) (by omega) (by rw [eS]; omega)
    obtain ⟨k1, k2, k3, k4, k5⟩ := hs1.1.get hp.1 (i := (i : Int)) (by omega) (by rw [eS]; omega)
    rw [show ((i : Int) + 1).toNat = i + 1 by omega, eS] at g3
    rw [Int.toNat_natCast, eS] at k3
    have em : ((i : Int) + 1) - 1 = (i : Int) := by omega
    have hm1 := h.2.2.2.1 _ (getD_mem (L := seenL G a) (i := i + 1) (by omega))
    have hm0 := h.2.2.2.1 _ (getD_mem (L := seenL G a) (i := i) (by omega))
    have e5 : ∀ y k, gcl G y = 6 → gfd G1 5 k y = gfd G 5 k y := fun y k hy => F.2.1 5 k y (by decide) (by omega) (fun h9 => by unfold bkW at h9; omega)
    have hlt := sort_lt (T := sT G) h.2.2.2.2.1 (i := i) (j := i + 1) (by omega) (by omega)
    have hdr := drop_getD (L := seenL G a) (i := i + 1) (by omega)
    have hcnt : gfd G1 7 4 a = B.length + 1 := by
      have h9 := congrArg List.length hp.2.2.2.2.1
      rw [blkL_len, List.length_append] at h9
      have h8 : (gfd G1 7 4 a).toNat = B.length + 1 := h9
      have := hp.2.2.2.1.2.2.2.1
      omega
    have hne1 : gfd G1 7 2 a ≠ gfd G1 7 3 a := by rw [hp.2.2.2.2.2.1, hp.2.2.2.2.2.2]; exact hne
    have tT1 : gfd G1 5 1 ((seenL G a).getD (i + 1) 0) = sT G ((seenL G a).getD (i + 1) 0) := e5 _ 1 hm1.1
    have tT0 : gfd G1 5 1 ((seenL G a).getD i 0) = sT G ((seenL G a).getD i 0) := e5 _ 1 hm0.1
    have tV1 : gfd G1 5 2 ((seenL G a).getD (i + 1) 0) = sV G ((seenL G a).getD (i + 1) 0) := e5 _ 2 hm1.1
    have tV0 : gfd G1 5 2 ((seenL G a).getD i 0) = sV G ((seenL G a).getD i 0) := e5 _ 2 hm0.1
    refine b_X7_packBlocks_9 ⟨hs1.1.1, hs1.1.2.1, okp_size hs1.1.2.1, fun h9 => by omega, fun _ => ?_⟩
    rw [em, k3, g3, tT1, tT0, hdr, List.map_cons]
    rw [g3] at g1 g2
    rw [k3] at k1 k2
    refine ⟨hs1.1.1, hs1.1.2.1, g1, Or.inr g2, g2, fun h9 => by omega, fun _ => ⟨hs1.1.1, i32s (by omega), hs1.1.2.1, k1, Or.inr k2, k2, fun hsame => ?_, fun hoth => ?_⟩⟩
    · have b1 := btV_in (sT G ((seenL G a).getD (i + 1) 0) - sT G ((seenL G a).getD i 0) - d)
      have b2 := bvV_in (xor32 (sV G ((seenL G a).getD (i + 1) 0)) (sV G ((seenL G a).getD i 0)))
      refine ⟨hs1.1.1, i32s (by omega), hs1.1.2.1, k1, Or.inr k2, g2, k2, i32s (by omega), i32s (by omega), Call.pure okp_bitsOfTime ⟨g2, k2, ?_⟩⟩
      rw [tV1, tV0]
      refine Call.pure okp_bitsOfValue ⟨i32s (by omega), hs1.1.1, Call.to (ok_growBlock hp.1 hp.2.2.2.1 hne1 hp.2.2.2.2.1 (by omega)) (Nat.zero_le _) (Nat.zero_le _) fun _ G3 h3 => ⟨i32s (by omega), ?_⟩⟩
      have := ih (i + 1) G3 B (sT G ((seenL G a).getD (i + 1) 0) - sT G ((seenL G a).getD i 0)) hh _ (by omega) (hp.trans h3) (by omega) (by omega) (by omega) (by rw [hhe]; exact hsame)
      have epk : pk (sT G ((seenL G a).getD i 0)) (sV G ((seenL G a).getD i 0)) d hh b (tv G ((seenL G a).getD (i + 1) 0) :: ((seenL G a).drop (i + 1 + 1)).map (tv G)) = pk (sT G ((seenL G a).getD (i + 1) 0)) (sV G ((seenL G a).getD (i + 1) 0)) (sT G ((seenL G a).getD (i + 1) 0) - sT G ((seenL G a).getD i 0)) hh (b + (btV (sT G ((seenL G a).getD (i + 1) 0) - sT G ((seenL G a).getD i 0) - d) + bvV (xor32 (sV G ((seenL G a).getD (i + 1) 0)) (sV G ((seenL G a).getD i 0))))) (((seenL G a).drop (i + 1 + 1)).map (tv G)) := by
        have : Int.tdiv (tv G ((seenL G a).getD (i + 1) 0)).1 100 = Int.tdiv (sT G ((seenL G a).getD i 0)) 100 := hsame.symm
        rw [pk, if_pos this]; rfl
      rw [epk]
      have ec : ((i + 1 : Nat) : Int) = (i : Int) + 1 := by omega
      rw [ec] at this
      exact this
    · refine ⟨hs1.1.1, Call.to (ok_openBlock hp.1 hp.2.2.2.1 hne1 (by omega)) (Nat.zero_le _) (Nat.zero_le _) fun _ G3 h3 => ⟨i32s (by omega), ?_⟩⟩
      rw [hp.2.2.2.2.1] at h3
      have := ih (i + 1) G3 (B ++ [(hh, b)]) 0 _ 64 (by omega) (hp.trans h3) (by rw [List.length_append]; show B.length + 1 ≤ i + 1; omega) (by omega) (by omega) rfl
      have epk : pk (sT G ((seenL G a).getD i 0)) (sV G ((seenL G a).getD i 0)) d hh b (tv G ((seenL G a).getD (i + 1) 0) :: ((seenL G a).drop (i + 1 + 1)).map (tv G)) = (hh, b) :: pk (sT G ((seenL G a).getD (i + 1) 0)) (sV G ((seenL G a).getD (i + 1) 0)) 0 (Int.tdiv (sT G ((seenL G a).getD (i + 1) 0)) 100) 64 (((seenL G a).drop (i + 1 + 1)).map (tv G)) := by
        have : ¬ Int.tdiv (tv G ((seenL G a).getD (i + 1) 0)).1 100 = Int.tdiv (sT G ((seenL G a).getD i 0)) 100 := fun h9 => hoth h9.symm
        rw [pk, if_neg this]; rfl
      rw [epk]
      rw [List.append_assoc] at this
      have ec : ((i + 1 : Nat) : Int) = (i : Int) + 1 := by omega
      rw [ec] at this
      exact this
theorem ok_packBlocks (hL : LW E G) (h : SR G a) (hb : BSh G a) (hne : gfd G 7 2 a ≠ gfd G 7 3 a) : Ok E M_X7_packBlocks [rv a] G 0 0 (fun rr G' => pkQ E G G' a (pack ((seenL G a).map (tv G))) ∧ rr = (pack ((seenL G a).map (tv G))).length) (fun _ _ => False) := by
  have fin : ∀ G' rr B, pkQ E G G' a B ∧ rr = gfd G' 7 4 a → pkQ E G G' a B ∧ rr = B.length := fun G' rr B ⟨h1, h2⟩ => by
    refine ⟨h1, ?_⟩
    have h9 := congrArg List.length h1.2.2.2.2.1
    rw [blkL_len] at h9
    have := h1.2.2.2.1.2.2.2.1
    omega
  refine Ok.mono (Q := fun rr G' => pkQ E G G' a (pack ((seenL G a).map (tv G))) ∧ rr = gfd G' 7 4 a) (X := fun _ _ => False) ?_ (fun rr G' hq => fin G' rr _ hq) (fun _ _ h9 => h9)
  refine i_X7_packBlocks ⟨h.1, fun G1 e1 => ?_⟩
  have F1 : FR G G1 (bkW a) noA (bkA G a) := by rw [e1]; exact (FR.refl G).sfdIn ⟨rfl, rfl, rfl⟩ (by decide)
  have ha8 := h.1
  have hp : pkQ E G G1 a [] := by
    have e2 : gfd G1 7 2 a = gfd G 7 2 a := by rw [e1, gfd_sfd, if_neg (by omega)]
    have e3 : gfd G1 7 3 a = gfd G 7 3 a := by rw [e1, gfd_sfd, if_neg (by omega)]
    have e4 : gfd G1 7 4 a = 0 := by rw [e1, gfd_sfd, if_pos ⟨rfl, rfl, rfl⟩]
    refine ⟨by rw [e1]; exact hL.sfd (by decide), by rw [e1]; exact ONW.mSfd (by decide), F1, ⟨by rw [e1]; exact h.1, by rw [e2, e1]; exact hb.2.1, by rw [e3, e1]; exact hb.2.2.1, by omega, by omega⟩, ?_, e2, e3⟩
    unfold blkL; rw [e4]; rfl
  have hs1 := h.fr F1 (fun h9 => by unfold bkW at h9; omega) (fun y _ => ⟨fun h9 => by unfold bkW at h9; omega, fun h9 => by unfold bkW at h9; omega⟩) id
  have hsz : gfd G1 13 2 (gfd G1 7 1 a) = (seenL G a).length := by rw [← hs1.2]; exact hp.1.size hs1.1.2.1 hs1.1.2.2.1
  by_cases h0 : (seenL G a).length = 0
  · have e0 : seenL G a = [] := List.length_eq_zero_iff.mp h0
    refine b_X7_packBlocks_9 ⟨hs1.1.1, hs1.1.2.1, okp_size hs1.1.2.1, fun _ => ⟨hs1.1.1, ?_, rfl⟩, fun h9 => by omega⟩
    rw [e0]; exact hp
  · obtain ⟨g1, g2, g3, g4, g5⟩ := hs1.1.get hp.1 (i := 0) (by omega) (by rw [hs1.2]; omega)
    have g3' : alAt G1 (gfd G1 7 1 a) 0 = (seenL G a).getD 0 0 := by rw [g3, hs1.2]; rfl
    have hm0 := h.2.2.2.1 _ (getD_mem (L := seenL G a) (i := 0) (by omega))
    have tT0 : gfd G1 5 1 ((seenL G a).getD 0 0) = sT G ((seenL G a).getD 0 0) := F1.2.1 5 1 _ (by decide) (by rw [hm0.1]; decide) (fun h9 => by unfold bkW at h9; omega)
    have hne1 : gfd G1 7 2 a ≠ gfd G1 7 3 a := by rw [hp.2.2.2.2.2.1, hp.2.2.2.2.2.2]; exact hne
    have h40 : gfd G1 7 4 a = 0 := by rw [e1, gfd_sfd, if_pos ⟨rfl, rfl, rfl⟩]
    refine b_X7_packBlocks_9 ⟨hs1.1.1, hs1.1.2.1, okp_size hs1.1.2.1, fun h9 => by omega, fun _ => ?_⟩
    rw [g3', tT0]
    rw [g3'] at g1 g2
    refine ⟨hs1.1.1, hs1.1.2.1, g1, Or.inr g2, g2, fun _ => ⟨hs1.1.1, Call.to (ok_openBlock hp.1 hp.2.2.2.1 hne1 (by omega)) (Nat.zero_le _) (Nat.zero_le _) fun _ G3 h3 => ⟨i32s (by omega), ?_⟩⟩, fun h9 => (h9 rfl).elim⟩
    rw [hp.2.2.2.2.1] at h3
    have := v_packBlocks (E := E) (c := 0) (s := 0) (X := fun _ _ => False) h hne ((seenL G a).length - 1) 0 G3 [] 0 _ 64 (by omega) (hp.trans h3) (by show 0 ≤ 0; omega) (by omega) (by omega) rfl
    have epk : pack ((seenL G a).map (tv G)) = [] ++ pk (sT G ((seenL G a).getD 0 0)) (sV G ((seenL G a).getD 0 0)) 0 (Int.tdiv (sT G ((seenL G a).getD 0 0)) 100) 64 (((seenL G a).drop (0 + 1)).map (tv G)) := by
      have := drop_getD (L := seenL G a) (i := 0) (by omega)
      rw [List.drop_zero] at this
      conv => lhs; rw [this]
      rfl
    rw [epk]
    exact this
/-- what is ahead of a time is forgotten -/
def fgQ (E : EE) (G G' : Gt) (a t : Int) : Prop := LW E G' ∧ ONW G G' ∧ FR G G' noW (fun y => y = gfd G 7 1 a) noA ∧ seenL G' a = (seenL G a).filter (fun y => decide (t ≤ sT G y)) ∧ capOf G' (gfd G' 7 1 a) = capOf G (gfd G 7 1 a)
theorem v_forgetAheadOf {e : Nat} (h : SR G a) (he : e ≤ (seenL G a).length) : ∀ (k : Nat) (G1 : Gt), k ≤ e → LW E G1 → ONW G G1 → FR G G1 noW (fun y => y = gfd G 7 1 a) noA → lst G1 (gfd G 7 1 a) = (seenL G a).take k ++ (seenL G a).drop e → capOf G1 (gfd G 7 1 a) = capOf G (gfd G 7 1 a) →
    V E M_X7_forgetAheadOf 8 [some (rv a), none, some (iv ((k : Int) - 1))] [] G1 c s (fun _ G' => LW E G' ∧ ONW G G' ∧ FR G G' noW (fun y => y = gfd G 7 1 a) noA ∧ lst G' (gfd G 7 1 a) = (seenL G a).drop e ∧ capOf G' (gfd G 7 1 a) = capOf G (gfd G 7 1 a)) X := by
  have h60 := h.2.2.2.2.2
  have ha8 := h.1
  have hl14 := h.2.1
  intro k
  induction k with
  | zero =>
    intro G1 _ hL hO hF hl hcp
    exact b_X7_forgetAheadOf_8 ⟨fun _ => ⟨hL, hO, hF, hl, hcp⟩, fun h9 => by omega⟩
  | succ k ih =>
    intro G1 hke hL hO hF hl hcp
    have e7 : gfd G1 7 1 a = gfd G 7 1 a := hF.2.1 7 1 a (by decide) (by omega) id
    have g14 : gcl G1 (gfd G 7 1 a) = 14 := by rw [hF.1 _ (by omega)]; exact hl14
    have gr := (hF.2.2.1 _ hl14 h.2.2.1).1
    have ek : (((k + 1 : Nat) : Int) - 1) = (k : Int) := by omega
    have hlen : (lst G1 (gfd G 7 1 a)).length = k + 1 + ((seenL G a).length - e) := by rw [hl, List.length_append, List.length_take, List.length_drop]; omega
    have hsz : gfd G1 13 2 (gfd G 7 1 a) = (lst G1 (gfd G 7 1 a)).length := hL.size g14 gr
    rw [ek]
    refine b_X7_forgetAheadOf_8 ⟨fun h9 => by omega, fun _ => ⟨by rw [hF.1 a (by omega)]; exact ha8, by rw [e7]; exact g14, ?_⟩⟩
    rw [e7]
    refine Call.to (ok_remove hL g14 gr (by omega) (by omega)) (Nat.zero_le _) (Nat.zero_le _) fun _ G6 h6 => ⟨i32s (by omega), ?_⟩
    obtain ⟨-, h6⟩ := h6
    rw [hl, Int.toNat_natCast, erase_mid (by omega), hcp] at h6
    have := ih G6 (by omega) h6.1 (hO.luT h6) (hF.luIn h6 rfl) h6.2.2.2.2.2.1 h6.2.2.2.2.2.2.1
    rw [show (k : Int) + (-1) = (k : Int) - 1 by omega]
    exact this
theorem drop_filter (h : SR G a) (t : Int) : (seenL G a).drop (cAh G a t) = (seenL G a).filter (fun y => decide (t ≤ sT G y)) := by
  have hc := cAh_spec t h
  conv => rhs; rw [← List.take_append_drop (cAh G a t) (seenL G a)]
  rw [List.filter_append, List.filter_eq_nil_iff.mpr, List.filter_eq_self.mpr, List.nil_append]
  · intro y hy
    obtain ⟨i, h7, h8, rfl⟩ := mem_drop_i hy
    exact decide_eq_true (hc.2.2 i h7 h8)
  · intro y hy
    obtain ⟨i, h7, h8, rfl⟩ := mem_take_i hy
    have h6 := hc.2.1 i h7
    exact fun h9 => absurd (of_decide_eq_true h9) (Int.not_le.mpr h6)
theorem ok_forgetAheadOf (hL : LW E G) (h : SR G a) : Ok E M_X7_forgetAheadOf [rv a, iv t] G 0 0 (fun _ G' => fgQ E G G' a t) (fun _ _ => False) := by
  have h60 := h.2.2.2.2.2
  have ha8 := h.1
  have hc := (cAh_spec t h).1
  refine Ok.mono (i_X7_forgetAheadOf ⟨h.1, Call.pure (okp_countAhead hL h) ⟨i32s (by omega), v_forgetAheadOf (E := E) (c := 0) (s := 0) (X := fun _ _ => False) h hc (cAh G a t) G (Nat.le_refl _) hL (ONW.refl G) (FR.refl G) (by rw [List.take_append_drop]; rfl) rfl⟩⟩) (fun rr G' hq => ?_) (fun _ _ h9 => h9)
  obtain ⟨h1, h2, h3, h4, h5⟩ := hq
  have e7 : gfd G' 7 1 a = gfd G 7 1 a := h3.2.1 7 1 a (by decide) (by omega) id
  refine ⟨h1, h2, h3, ?_, by rw [e7]; exact h5⟩
  rw [← drop_filter h t]
  unfold seenL
  rw [e7]; exact h4
end S58
