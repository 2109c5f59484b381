/-! the store forgets what is too old, and packs the rest -/
section S59
variable {E : EE} {G G' G2 : Gt} {c s : Nat} {Q X : Int → Gt → Prop} {a st x q l t v f e r g u : Int} {zs zs' : List Zt} {W : Nat → Nat → Int → Prop} {L A : Int → Prop}
variable {ser : List Int} {smp : List (Sm4 × Int)} {rs : List Int} {dn wr cr er : Int}
/-- a list sorted by time -/
def insT (y : Int × Int) : List (Int × Int) → List (Int × Int)
  | [] => [y]
  | z :: l => if y.1 ≤ z.1 then y :: z :: l else z :: insT y l
def srt (l : List (Int × Int)) : List (Int × Int) := l.foldr insT []
theorem insT_perm (y : Int × Int) : ∀ l : List (Int × Int), (insT y l).Perm (y :: l)
  | [] => List.Perm.refl _
  | z :: l => by
    unfold insT
    split
    · exact List.Perm.refl _
    · exact ((insT_perm y l).cons z).trans (List.Perm.swap y z l)
theorem srt_perm : ∀ l : List (Int × Int), (srt l).Perm l
  | [] => List.Perm.refl _
  | y :: l => by
    show (insT y (srt l)).Perm (y :: l)
    exact (insT_perm y (srt l)).trans ((srt_perm l).cons y)
theorem insT_sorted {y : Int × Int} : ∀ {l : List (Int × Int)}, l.Pairwise (fun p q => p.1 ≤ q.1) → (insT y l).Pairwise (fun p q => p.1 ≤ q.1)
  | [], _ => List.pairwise_singleton _ _
  | z :: l, h => by
    have h1 := List.pairwise_cons.mp h
    unfold insT
    split
    · rename_i hle
      refine List.pairwise_cons.mpr ⟨fun w hw => ?_, h⟩
      rcases List.mem_cons.mp hw with h9 | h9
      · rw [h9]; exact hle
      · exact Int.le_trans hle (h1.1 w h9)
    · rename_i hle
      refine List.pairwise_cons.mpr ⟨fun w hw => ?_, insT_sorted h1.2⟩
      rcases List.mem_cons.mp ((insT_perm y l).mem_iff.mp hw) with h9 | h9
      · rw [h9]; omega
      · exact h1.1 w h9
theorem srt_sorted : ∀ l : List (Int × Int), (srt l).Pairwise (fun p q => p.1 ≤ q.1)
  | [] => List.Pairwise.nil
  | y :: l => insT_sorted (srt_sorted l)
/-- a list of the same pairs that is sorted is this one -/
theorem srt_eq {l m : List (Int × Int)} (h : m.Perm l) (hs : m.Pairwise (fun p q => p.1 < q.1)) : m = srt l := by
  refine List.Perm.eq_of_pairwise (le := fun p q => p.1 < q.1 ∨ p = q) (fun p q _ _ h1 h2 => ?_) (hs.imp fun h9 => Or.inl h9) ?_ (h.trans (srt_perm l).symm)
  · rcases h1 with h1 | h1
    · rcases h2 with h2 | h2
      · omega
      · exact h2.symm
    · exact h1
  · have hn : (srt l).Pairwise (fun p q => p.1 ≠ q.1) := by
      have h1 : m.Pairwise (fun p q => p.1 ≠ q.1) := hs.imp fun h9 => by omega
      exact (h.trans (srt_perm l).symm).pairwise h1 (fun {p q} h9 h8 => h9 h8.symm)
    refine (List.pairwise_and_iff.mpr ⟨srt_sorted l, hn⟩).imp fun {p q} h9 => Or.inl ?_
    have := h9.1
    have := h9.2
    omega
/-- the seen samples of a series by time: times and values -/
def seeT (c : Int) (sm : List Sm4) : List (Int × Int) := srt ((sm.filter (own c)).map fun q => (qT q, qV q))
theorem StC.tvs (h : StC G st zs ser smp dn wr) {a : Int} (ha : a ∈ numL G st) : (seenL G a).map (tv G) = seeT (sLab G a) (smp.map (·.1)) := by
  have h5 := h.2.2.2.1 a ha
  refine srt_eq ?_ (List.pairwise_map.mpr h5.2.2.2.1)
  refine (h5.2.2.1.map _).trans ?_
  unfold zO
  rw [List.map_map, ← zs_map h.2.2.2.2.1, List.filter_map, List.map_map]
  refine List.Perm.of_eq (List.map_congr_left fun z hz => ?_)
  have h8 := h.2.2.2.2.2.2.1 z (List.mem_filter.mp hz).1
  show (sT G z.1, sV G z.1) = (qT z.2.1, qV z.2.1)
  rw [h8.2.1, h8.2.2.1]
def kept (t : Int) (q : Sm4 × Int) : Bool := decide (qH q.1 = 0) && decide (t ≤ qT q.1)
/-- the state of the loop -/
def plS (E : EE) (G G1 : Gt) (t : Int) (N M : List Int) : Prop :=
  LW E G1 ∧ ONW G G1 ∧ FR G G1 (fun c k y => c = 7 ∧ k = 4 ∧ y ∈ M) (fun y => ∃ a ∈ M, y = gfd G 7 1 a) (fun y => ∃ a ∈ M, y = gfd G 7 2 a ∨ y = gfd G 7 3 a) ∧
  ∀ b ∈ M, seenL G1 b = (seenL G b).filter (fun y => decide (t ≤ sT G y)) ∧ capOf G1 (gfd G1 7 1 b) = capOf G (gfd G 7 1 b) ∧ BSh G1 b ∧ blkL G1 b = pack (((seenL G b).filter (fun y => decide (t ≤ sT G y))).map (tv G))
def pkN (G : Gt) (t : Int) (M : List Int) : Nat := (M.map fun b => (pack (((seenL G b).filter (fun y => decide (t ≤ sT G y))).map (tv G))).length).sum
theorem pk_len : ∀ (r : List (Int × Int)) (t v d h b : Int), (pk t v d h b r).length ≤ r.length + 1
  | [], _, _, _, _, _ => Nat.le_refl _
  | y :: r, t, v, d, h, b => by
    unfold pk
    split
    · have := pk_len r y.1 y.2 (y.1 - t) h (b + (btV (y.1 - t - d) + bvV (xor32 y.2 v)))
      rw [List.length_cons]; omega
    · have := pk_len r y.1 y.2 0 (Int.tdiv y.1 100) 64
      rw [List.length_cons, List.length_cons]; omega
theorem pack_len (l : List (Int × Int)) : (pack l).length ≤ l.length := by
  cases l with
  | nil => exact Nat.le_refl _
  | cons y r => exact pk_len r _ _ _ _ _
theorem v_packAll (hO0 : OW G) (h : StH G st zs ser smp rs dn wr cr) (hi : SI ser (smp.map (·.1)) rs er)
    (hfin : ∀ G1, plS E G G1 t (numL G st) (numL G st) → V E M_X8_packAll 4 [some (rv st), some (iv t), some (iv (pkN G t (numL G st))), some (iv (numL G st).length), none] [] G1 c s Q X) :
    ∀ (j i : Nat) (G1 : Gt), i + j = (numL G st).length → plS E G G1 t (numL G st) ((numL G st).take i) → pkN G t ((numL G st).take i) ≤ 60 * i →
      V E M_X8_packAll 4 [some (rv st), some (iv t), some (iv (pkN G t ((numL G st).take i))), some (iv (i : Int)), none] [] G1 c s Q X := by
  have h12 := (h.nr hi).2.2.2.1
  have hN := h.nodup hi
  have hb8 : ∀ b ∈ numL G st, gcl G b = 8 ∧ gcl G (gfd G 7 1 b) = 14 ∧ gfd G 7 1 b ≠ -1 ∧ gfd G 13 1 (gfd G 7 1 b) ≠ -1 ∧ (gcl G (gfd G 7 2 b) = 15 ∧ gcl G (gfd G 7 3 b) = 15) ∧ gfd G 7 2 b ≠ -1 ∧ gfd G 7 3 b ≠ -1 := fun b hb => by
    have := h.2.2.2.2.1 b hb
    have b2 := this.2.2.2.2.1.2.1.1
    have b3 := this.2.2.2.2.1.2.2.1.1
    exact ⟨this.1, this.2.1.1, hO0.nn (by rw [this.2.1.1]; decide) (by rw [this.2.1.1]; decide), this.2.1.2, ⟨b2, b3⟩, hO0.nn (by rw [b2]; decide) (by rw [b2]; decide), hO0.nn (by rw [b3]; decide) (by rw [b3]; decide)⟩
  intro j
  induction j with
  | zero =>
    intro i G1 hij hs _
    have hi' : i = (numL G st).length := by omega
    subst hi'
    rw [List.take_length] at hs ⊢
    exact hfin G1 hs
  | succ j ih =>
    intro i G1 hij ⟨hL, hO, hF, hB⟩ hpn
    have hilt : i < (numL G st).length := by omega
    have htk := take_app hilt
    have ham := getD_mem hilt
    generalize hav : (numL G st).getD i 0 = a at htk ham
    have hsa := h.2.2.2.2.1 a ham
    have ha8 := hsa.1
    have hsr := h.sr hi ham
    have haN : a ∉ (numL G st).take i := by
      have h1 : ((numL G st).take (i + 1)).Nodup := hN.sublist (List.take_sublist _ _)
      rw [htk, List.nodup_append] at h1
      intro h9
      exact h1.2.2 a h9 a (List.mem_singleton.mpr rfl) rfl
    have hmt : ∀ b ∈ (numL G st).take i, b ∈ numL G st := fun b hb => List.mem_of_mem_take hb
    have nab : ∀ b ∈ (numL G st).take i, a ≠ b := fun b hb h9 => haN (by rw [h9]; exact hb)
    have ne : ∀ b ∈ (numL G st).take i, gfd G 7 1 a ≠ gfd G 7 1 b ∧ gfd G 7 2 a ≠ gfd G 7 2 b ∧ gfd G 7 2 a ≠ gfd G 7 3 b ∧ gfd G 7 3 a ≠ gfd G 7 2 b ∧ gfd G 7 3 a ≠ gfd G 7 3 b := fun b hb => by
      have hb' := hb8 b (hmt b hb)
      have ha' := hb8 a ham
      have hab := nab b hb
      exact ⟨hO0.ne 7 1 7 1 ha'.1 hb'.1 ha'.2.2.1 (fun h9 => hab h9.2.2), hO0.ne 7 2 7 2 ha'.1 hb'.1 ha'.2.2.2.2.2.1 (fun h9 => hab h9.2.2), hO0.ne 7 2 7 3 ha'.1 hb'.1 ha'.2.2.2.2.2.1 (fun h9 => hab h9.2.2), hO0.ne 7 3 7 2 ha'.1 hb'.1 ha'.2.2.2.2.2.2 (fun h9 => hab h9.2.2), hO0.ne 7 3 7 3 ha'.1 hb'.1 ha'.2.2.2.2.2.2 (fun h9 => hab h9.2.2)⟩
    have st9 : gcl G1 st = 9 := by rw [hF.1 st (by rw [h.1]; decide)]; exact h.1
    have e80 : gfd G1 8 0 st = gfd G 8 0 st := hF.2.1 8 0 st (by decide) (by rw [h.1]; decide) (fun h9 => by omega)
    have n14 : gcl G1 (gfd G 8 0 st) = 14 := by rw [hF.1 _ (by rw [h.2.1.1]; decide)]; exact h.2.1.1
    have hnl : lst G1 (gfd G 8 0 st) = numL G st := ((hF.2.2.1 _ h.2.1.1 h.2.1.2).2 (fun ⟨b, hb, h9⟩ => absurd h9 (hO0.ne 8 0 7 1 h.1 (hb8 b (hmt b hb)).1 (hO0.nn (by rw [h.2.1.1]; decide) (by rw [h.2.1.1]; decide)) (by omega)))).1
    have nr1 := (hF.2.2.1 _ h.2.1.1 h.2.1.2).1
    have hsz : gfd G1 13 2 (gfd G 8 0 st) = (numL G st).length := by rw [hL.size n14 nr1, hnl]
    have hat : alAt G1 (gfd G 8 0 st) (i : Int) = a := by rw [alAt_get hL n14 nr1 (by rw [hnl]; exact hilt), hnl, hav]
    have hget := okp_get (E := E) hL n14 nr1 (i := (i : Int)) (by omega) (by omega)
    rw [hat] at hget
    have a8 : gcl G1 a = 8 := by rw [hF.1 a (by omega)]; exact ha8
    have hsr1 : SR G1 a ∧ seenL G1 a = seenL G a := hsr.fr hF (fun h9 => by omega) (fun _ _ => ⟨fun h9 => by omega, fun h9 => by omega⟩) (fun ⟨b, hb, h9⟩ => (ne b hb).1 h9)
    have hbs1 : BSh G1 a := by
      obtain ⟨q1, ⟨q2, q3⟩, ⟨q4, q5⟩, q6, q7⟩ := hsa.2.2.2.2.1
      have e : ∀ k, gfd G1 7 k a = gfd G 7 k a := fun k => hF.2.1 7 k a (by decide) (by omega) (fun h9 => haN h9.2.2)
      exact ⟨a8, by rw [e, hF.1 _ (by omega), (hF.2.2.2 _ (by omega) (by omega)).1]; exact ⟨q2, q3⟩, by rw [e, hF.1 _ (by omega), (hF.2.2.2 _ (by omega) (by omega)).1]; exact ⟨q4, q5⟩, by rw [e]; exact q6, by rw [e]; exact q7⟩
    have e7k : ∀ k, gfd G1 7 k a = gfd G 7 k a := fun k => hF.2.1 7 k a (by decide) (by omega) (fun h9 => haN h9.2.2)
    have eT : ∀ y ∈ seenL G a, sT G1 y = sT G y := fun y hy => hF.2.1 5 1 y (by decide) (by rw [(hsr.2.2.2.1 y hy).1]; decide) (fun h9 => by omega)
    have eV : ∀ y ∈ seenL G a, sV G1 y = sV G y := fun y hy => hF.2.1 5 2 y (by decide) (by rw [(hsr.2.2.2.1 y hy).1]; decide) (fun h9 => by omega)
    have ecap : capOf G1 (gfd G1 7 1 a) = capOf G (gfd G 7 1 a) := by
      rw [e7k]
      exact ((hF.2.2.1 _ hsa.2.1.1 hsa.2.1.2).2 (fun ⟨b, hb, h9⟩ => (ne b hb).1 h9)).2
    have hla : (pack (((seenL G a).filter (fun y => decide (t ≤ sT G y))).map (tv G))).length ≤ 60 := by
      refine Nat.le_trans (pack_len _) ?_
      rw [List.length_map]
      exact Nat.le_trans (List.length_filter_le _ _) hsr.2.2.2.2.2
    have hpk : pkN G t ((numL G st).take (i + 1)) = pkN G t ((numL G st).take i) + (pack (((seenL G a).filter (fun y => decide (t ≤ sT G y))).map (tv G))).length := by
      unfold pkN
      rw [htk, List.map_append, List.sum_append]; rfl
    refine b_X8_packAll_4 ⟨st9, by rw [e80]; exact n14, by rw [e80]; exact okp_size n14, fun h9 => by rw [e80] at h9; omega, fun _ => ?_⟩
    rw [e80, hat]
    refine ⟨st9, n14, hget, Or.inr a8, a8, Call.to (ok_forgetAheadOf (t := t) hL hsr1.1) (Nat.zero_le _) (Nat.zero_le _) fun _ G2 h2 => ?_⟩
    obtain ⟨l2, o2, f2, s2, c2⟩ := h2
    have a82 : gcl G2 a = 8 := by rw [f2.1 a (by omega)]; exact a8
    have e27 : ∀ k, gfd G2 7 k a = gfd G1 7 k a := fun k => f2.2.1 7 k a (by decide) (by omega) id
    have hbs2 : BSh G2 a := hbs1.fr f2 (fun _ => id)
    have hfe : (seenL G1 a).filter (fun y => decide (t ≤ sT G1 y)) = (seenL G a).filter (fun y => decide (t ≤ sT G y)) := by
      rw [hsr1.2]; exact List.filter_congr fun y hy => by rw [eT y hy]
    rw [hfe] at s2
    have hsub : ∀ y ∈ (seenL G a).filter (fun y => decide (t ≤ sT G y)), y ∈ seenL G a := fun y hy => (List.mem_filter.mp hy).1
    have e25 : ∀ y ∈ seenL G a, ∀ k, gfd G2 5 k y = gfd G1 5 k y := fun y hy k => f2.2.1 5 k y (by decide) (by rw [hF.1 y (by rw [(hsr.2.2.2.1 y hy).1]; decide), (hsr.2.2.2.1 y hy).1]; decide) id
    have hsr2 : SR G2 a := by
      refine ⟨a82, by rw [e27, f2.1 _ (by rw [hsr1.1.2.1]; decide)]; exact hsr1.1.2.1, by rw [e27]; exact (f2.2.2.1 _ hsr1.1.2.1 hsr1.1.2.2.1).1, fun y hy => ?_, ?_, by rw [s2]; exact Nat.le_trans (List.length_filter_le _ _) hsr.2.2.2.2.2⟩
      · rw [s2] at hy
        have hy' := hsub y hy
        have h9 := hsr.2.2.2.1 y hy'
        show gcl G2 y = 6 ∧ 0 ≤ gfd G2 5 1 y ∧ gfd G2 5 1 y ≤ 100000 ∧ (gfd G2 5 2 y = -2147483648 ∨ (-1000000 ≤ gfd G2 5 2 y ∧ gfd G2 5 2 y ≤ 1000000))
        rw [f2.1 y (by rw [hF.1 y (by rw [h9.1]; decide), h9.1]; decide), hF.1 y (by rw [h9.1]; decide), e25 y hy', e25 y hy']
        have t1 : gfd G1 5 1 y = sT G y := eT y hy'
        have t2 : gfd G1 5 2 y = sV G y := eV y hy'
        rw [t1, t2]; exact h9
      · rw [s2]
        refine (hsr.2.2.2.2.1.sublist List.filter_sublist).imp_of_mem fun {y z} hy hz h9 => ?_
        show gfd G2 5 1 y < gfd G2 5 1 z
        rw [e25 y (hsub y hy), e25 z (hsub z hz)]
        have t1 : gfd G1 5 1 y = sT G y := eT y (hsub y hy)
        have t2 : gfd G1 5 1 z = sT G z := eT z (hsub z hz)
        rw [t1, t2]; exact h9
    have hne2 : gfd G2 7 2 a ≠ gfd G2 7 3 a := by
      rw [e27, e27, e7k, e7k]
      exact hO0.ne 7 2 7 3 ha8 ha8 (hb8 a ham).2.2.2.2.2.1 (by omega)
    refine ⟨a82, Call.to (ok_packBlocks l2 hsr2 hbs2 hne2) (Nat.zero_le _) (Nat.zero_le _) fun rr G3 h3 => ?_⟩
    obtain ⟨⟨l3, o3, f3, b3, k3, -, -⟩, hrr⟩ := h3
    have htv : (seenL G2 a).map (tv G2) = ((seenL G a).filter (fun y => decide (t ≤ sT G y))).map (tv G) := by
      rw [s2]
      refine List.map_congr_left fun y hy => ?_
      have hy' := hsub y hy
      show (gfd G2 5 1 y, gfd G2 5 2 y) = _
      rw [e25 y hy', e25 y hy']
      have t1 : gfd G1 5 1 y = sT G y := eT y hy'
      have t2 : gfd G1 5 2 y = sV G y := eV y hy'
      rw [t1, t2]; rfl
    rw [htv] at k3 hrr
    subst hrr
    refine ⟨i32s (by omega), i32s (by omega), ?_⟩
    rw [show ((pkN G t ((numL G st).take i) : Int) + ((pack (((seenL G a).filter (fun y => decide (t ≤ sT G y))).map (tv G))).length : Nat)) = (pkN G t ((numL G st).take (i + 1)) : Nat) by rw [hpk]; omega, show (i : Int) + 1 = ((i + 1 : Nat) : Int) by omega]
    have hin : a ∈ (numL G st).take (i + 1) := by rw [htk]; exact List.mem_append_right _ (List.mem_singleton.mpr rfl)
    have hup : ∀ b ∈ (numL G st).take i, b ∈ (numL G st).take (i + 1) := fun b hb => by rw [htk]; exact List.mem_append_left _ hb
    have F12 : FR G1 G3 (bkW a) (fun y => y = gfd G1 7 1 a) (bkA G1 a) := (f2.mono (fun _ _ _ h9 => h9.elim) (fun _ h9 => h9) (fun _ h9 => h9.elim)).andThen f3 (fun _ _ _ _ h9 => h9) (fun _ _ h9 => h9.elim) (fun y _ h9 => by unfold bkA at *; rw [e27, e27] at h9; exact h9)
    refine ih (i + 1) G3 (by omega) ⟨l3, (hO.trans o2).trans o3, ?_, fun b hb => ?_⟩ (by omega)
    · refine (hF.mono (fun c k y h9 => ⟨h9.1, h9.2.1, hup _ h9.2.2⟩) (fun y ⟨b, hb, h9⟩ => ⟨b, hup b hb, h9⟩) (fun y ⟨b, hb, h9⟩ => ⟨b, hup b hb, h9⟩)).andThen F12 (fun c k y _ h9 => ⟨h9.1, h9.2.1, by rw [h9.2.2]; exact hin⟩) (fun y _ h9 => ⟨a, hin, by rw [h9, e7k]⟩) (fun y _ h9 => ⟨a, hin, by unfold bkA at h9; rw [e7k, e7k] at h9; exact h9⟩)
    · rw [htk] at hb
      rcases List.mem_append.mp hb with hb | hb
      · obtain ⟨p1, p2, p3, p4⟩ := hB b hb
        have hb' := hb8 b (hmt b hb)
        have hsb := h.2.2.2.2.1 b (hmt b hb)
        have hbc : gcl G1 b = 8 := p3.1
        have ek : ∀ k, gfd G3 7 k b = gfd G1 7 k b := fun k => F12.2.1 7 k b (by decide) (by omega) (fun h9 => nab b hb h9.2.2.symm)
        have eg1 : gfd G1 7 1 b = gfd G 7 1 b := hF.2.1 7 1 b (by decide) (by rw [hb'.1]; decide) (fun h9 => by omega)
        have eg2 : gfd G1 7 2 b = gfd G 7 2 b := hF.2.1 7 2 b (by decide) (by rw [hb'.1]; decide) (fun h9 => by omega)
        have eg3 : gfd G1 7 3 b = gfd G 7 3 b := hF.2.1 7 3 b (by decide) (by rw [hb'.1]; decide) (fun h9 => by omega)
        have g14 : gcl G1 (gfd G 7 1 b) = 14 := by rw [hF.1 _ (by rw [hb'.2.1]; decide)]; exact hb'.2.1
        have kl := (F12.2.2.1 _ g14 (hF.2.2.1 _ hb'.2.1 hb'.2.2.2.1).1).2 (fun h9 => (ne b hb).1 (by rw [← e7k 1]; exact h9.symm))
        have ar : ∀ y, (y = gfd G 7 2 b ∨ y = gfd G 7 3 b) → ¬ bkA G1 a y := fun y hy h9 => by
          unfold bkA at h9
          rw [e7k, e7k] at h9
          have := ne b hb
          rcases hy with rfl | rfl <;> rcases h9 with h9 | h9
          · exact this.2.1 h9.symm
          · exact this.2.2.2.1 h9.symm
          · exact this.2.2.1 h9.symm
          · exact this.2.2.2.2 h9.symm
        have c2' : gcl G1 (gfd G 7 2 b) = 15 := by rw [hF.1 _ (by rw [hb'.2.2.2.2.1.1]; decide)]; exact hb'.2.2.2.2.1.1
        have c3' : gcl G1 (gfd G 7 3 b) = 15 := by rw [hF.1 _ (by rw [hb'.2.2.2.2.1.2]; decide)]; exact hb'.2.2.2.2.1.2
        have ge2 := (F12.2.2.2 (gfd G 7 2 b) (by omega) (by omega)).2 (ar _ (Or.inl rfl))
        have ge3 := (F12.2.2.2 (gfd G 7 3 b) (by omega) (by omega)).2 (ar _ (Or.inr rfl))
        refine ⟨?_, ?_, p3.fr F12 (fun k h9 => nab b hb h9.2.2.symm), ?_⟩
        · rw [← p1]; unfold seenL; rw [ek, eg1]; exact kl.1
        · rw [eg1] at p2
          rw [ek, eg1, kl.2]; exact p2
        · rw [← p4]
          unfold blkL
          rw [ek, ek, ek]
          refine List.map_congr_left fun i _ => ?_
          rw [eg2, eg3, ge2, ge3]
      · rw [List.mem_singleton.mp hb]
        have e31 : gfd G3 7 1 a = gfd G2 7 1 a := f3.2.1 7 1 a (by decide) (by omega) (fun h9 => by unfold bkW at h9; omega)
        have c14 : gcl G2 (gfd G2 7 1 a) = 14 := hsr2.2.1
        have kl := (f3.2.2.1 _ c14 hsr2.2.2.1).2 id
        refine ⟨?_, ?_, b3, k3⟩
        · rw [← s2]; unfold seenL; rw [e31]; exact kl.1
        · rw [e31, kl.2, c2]; exact ecap
end S59
