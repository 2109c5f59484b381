/-! the model is flushed -/
section Sa35
variable {E : EE} {G G' G2 G0 : Gt} {c s : Nat} {Q X : Int → Gt → Prop} {m ml mr t v b l n r u s9 x : Int} {k j : Nat} {T : Nat → Prop} {ser : List Int} {smp : List (Sm4 × Int)} {sm : List Sm4} {S A B R : List (Int × Int)} {d : DS} {K : List (Int × Int × Int)}
theorem SX.mt (h : SX E G m s9 l smp) (hs : MSh E G' m) (k : MT G G' m T) (hT : ¬ T 7 ∧ ¬ T 8 ∧ ¬ T 9 ∧ ¬ T 10 ∧ ¬ T 11 ∧ ¬ T 12) : SX E G' m s9 l smp := by
  obtain ⟨h1, h2, h3, h4, h5⟩ := h
  refine ⟨hs, ?_, (k.f 12 hT.2.2.2.2.2).trans h3, fun j hj => ?_, h5⟩
  · unfold MSa at h2 ⊢
    rw [k.f 12 hT.2.2.2.2.2, k.l 7 hT.1, k.l 8 hT.2.1, k.l 9 hT.2.2.1, k.l 10 hT.2.2.2.1, k.l 11 hT.2.2.2.2.1]
    exact h2
  · have := h4 j hj
    unfold mH mS mT mV at this ⊢
    rw [k.e 10 hT.2.2.2.1, k.e 7 hT.1, k.e 8 hT.2.1, k.e 9 hT.2.2.1]
    exact this
/-- one more block -/
theorem MBk.push (hU : MU E G0 G m T) (h : MBk G m K) (hT : T 16 ∧ T 17 ∧ T 18 ∧ T 19) (h6 : K.length < 600) {a1 a2 a3 : Int} : MU E G0 (sfd (sel (sel (sel G (gfd G 12 16 m) K.length a1) (gfd G 12 17 m) K.length a2) (gfd G 12 18 m) K.length a3) 12 19 m (K.length + 1)) m T ∧ MBk (sfd (sel (sel (sel G (gfd G 12 16 m) K.length a1) (gfd G 12 17 m) K.length a2) (gfd G 12 18 m) K.length a3) 12 19 m (K.length + 1)) m (K ++ [(a1, a2, a3)]) := by
  obtain ⟨h1, h2, h3⟩ := h
  have n1 : gfd G 12 16 m ≠ gfd G 12 17 m := hU.1.ne 16 17
  have n2 : gfd G 12 16 m ≠ gfd G 12 18 m := hU.1.ne 16 18
  have n3 : gfd G 12 17 m ≠ gfd G 12 18 m := hU.1.ne 17 18
  refine ⟨(((hU.mSel (k := 16) (by decide) hT.1).mSel (k := 17) (by decide) hT.2.1).mSel (k := 18) (by decide) hT.2.2.1).mSfd (k := 19) (by decide) hT.2.2.2, ?_⟩
  have f : ∀ k, k ≠ 19 → gfd (sfd (sel (sel (sel G (gfd G 12 16 m) K.length a1) (gfd G 12 17 m) K.length a2) (gfd G 12 18 m) K.length a3) 12 19 m (K.length + 1)) 12 k m = gfd G 12 k m := fun k hk => by rw [gfd_sfd, if_neg (fun h9 => hk h9.2.1)]; rfl
  have e : ∀ y i, gel (sfd (sel (sel (sel G (gfd G 12 16 m) K.length a1) (gfd G 12 17 m) K.length a2) (gfd G 12 18 m) K.length a3) 12 19 m (K.length + 1)) y i = if y = gfd G 12 18 m ∧ i = K.length then a3 else if y = gfd G 12 17 m ∧ i = K.length then a2 else if y = gfd G 12 16 m ∧ i = K.length then a1 else gel G y i := fun y i => by
    show gel (sel _ _ _ _) y i = _
    rw [gel_sel, gel_sel, gel_sel]
  refine ⟨by rw [gfd_sfd, if_pos ⟨rfl, rfl, rfl⟩, List.length_append]; rfl, by rw [List.length_append]; show K.length + 1 ≤ 600; omega, fun j hj => ?_⟩
  rw [List.length_append] at hj
  have hj' : j < K.length + 1 := hj
  rw [f 16 (by decide), f 17 (by decide), f 18 (by decide), e, e, e, appD hj']
  by_cases hjk : j < K.length
  · have hne : ¬ ((j : Int) = K.length) := by omega
    simp only [hne, and_false, if_false, if_pos hjk]
    exact h3 j hjk
  · have he : (j : Int) = K.length := by omega
    rw [if_neg hjk, if_neg (fun h9 => n2 h9.1), if_neg (fun h9 => n1 h9.1), if_pos ⟨rfl, he⟩, if_neg (fun h9 => n3 h9.1), if_pos ⟨rfl, he⟩, if_pos ⟨rfl, he⟩]
    exact ⟨rfl, rfl, rfl⟩
theorem mem_tw {p : Int × Int → Bool} {z : Int × Int} : ∀ {L : List (Int × Int)}, z ∈ L.takeWhile p → p z = true
  | [], h => (List.not_mem_nil h).elim
  | y :: L, h => by
    by_cases hy : p y = true
    · rw [List.takeWhile_cons_of_pos hy] at h
      rcases List.mem_cons.mp h with h9 | h9
      · rw [h9]; exact hy
      · exact mem_tw h9
    · rw [List.takeWhile_cons_of_neg hy] at h
      exact (List.not_mem_nil h).elim
def hdT : List (Int × Int) → Int
  | [] => -1
  | y :: _ => y.1
theorem v_blocks (hsx0 : SX E G0 m s9 l smp) (hs9 : 0 ≤ s9 ∧ s9 ≤ 12) (hlen : (seeT l (smp.map (·.1))).length ≤ 1000) {K0 : List (Int × Int × Int)} (hQ : ∀ G', MU E G0 G' m (fun k => 16 ≤ k ∧ k ≤ 19) → MBk G' m K0 → V E M_X12_flush 129 [some (rv m), none, some (iv (s9 + 1)), none] [] G' c s Q X) :
    ∀ (n : Nat) (A R : List (Int × Int)) (K : List (Int × Int × Int)) (G : Gt), R.length ≤ n → seeT l (smp.map (·.1)) = A ++ R → K.length + R.length ≤ 600 → K ++ (pack R).map (fun p => (s9, p.1, p.2)) = K0 → MU E G0 G m (fun k => 16 ≤ k ∧ k ≤ 19) → MBk G m K →
      V E M_X12_flush 144 [some (rv m), none, some (iv s9), some (iv (hdT R))] [] G c s Q X := by
  have hasc := seeT_asc (l := l) hsx0.2.2.2.2.2
  intro n
  induction n with
  | zero =>
    intro A R K G hR hS hK hK0 kU hB
    have hRn : R = [] := List.length_eq_zero_iff.mp (by omega)
    rw [hRn] at hK0 ⊢
    have e : K = K0 := by rw [← hK0]; show K = K ++ []; rw [List.append_nil]
    exact b_X12_flush_144 ⟨fun _ => ⟨i32s' (by omega), hQ G kU (e ▸ hB)⟩, fun h9 => (h9 rfl).elim⟩
  | succ n ih =>
    intro A R K G hR hS hK hK0 kU hB
    cases R with
    | nil =>
      have e : K = K0 := by rw [← hK0]; show K = K ++ []; rw [List.append_nil]
      exact b_X12_flush_144 ⟨fun _ => ⟨i32s' (by omega), hQ G kU (e ▸ hB)⟩, fun h9 => (h9 rfl).elim⟩
    | cons y R =>
      have sx : SX E G m s9 l smp := hsx0.mt kU.1 kU.2.2.2.2.2 ⟨by omega, by omega, by omega, by omega, by omega, by omega⟩
      have hy := sx.at (y := y) (by rw [hS]; exact List.mem_append_right _ List.mem_cons_self)
      have hy0 : 0 ≤ y.1 := hy.1
      have hy1 : y.1 ≤ 100000 := hy.2.1
      have hl2 := hlen
      rw [hS, List.length_append, List.length_cons] at hl2
      rw [List.length_cons] at hK hR
      have x16 := kU.1.fx 16 15 600
      have f19 := hB.1
      have d1 : Int.tdiv y.1 100 = y.1 / 100 := Int.tdiv_eq_ediv_of_nonneg hy0
      show V E M_X12_flush 144 [some (rv m), none, some (iv s9), some (iv y.1)] [] G c s Q X
      refine b_X12_flush_144 ⟨fun h9 => by omega, fun _ => ⟨kU.1.1, kU.1.1, x16.1, by omega, by omega, fun G8 e8 => ?_⟩⟩
      have k8 : MU E G0 G8 m (fun k => 16 ≤ k ∧ k ≤ 19) := by rw [e8]; exact kU.mSel (by decide) ⟨by decide, by decide⟩
      have x17 := k8.1.fx 17 15 600
      have f819 : gfd G8 12 19 m = K.length := by rw [e8]; exact f19
      refine ⟨k8.1.1, k8.1.1, x17.1, by omega, by omega, fun G14 e14 => ?_⟩
      have k14 : MU E G0 G14 m (fun k => 16 ≤ k ∧ k ≤ 19) := by rw [e14]; exact k8.mSel (by decide) ⟨by decide, by decide⟩
      have x18 := k14.1.fx 18 15 600
      have f1419 : gfd G14 12 19 m = K.length := by rw [e14]; exact f819
      have sx14 : SX E G14 m s9 l smp := hsx0.mt k14.1 k14.2.2.2.2.2 ⟨by omega, by omega, by omega, by omega, by omega, by omega⟩
      have hS' : seeT l (smp.map (·.1)) = A ++ (y.1, y.2) :: R := hS
      refine ⟨k14.1.1, k14.1.1, k14.1.1, Call.pure (okp_packed sx14 hS' (by omega)) ?_⟩
      rw [f1419]
      refine ⟨x18.1, by omega, by omega, fun G25 e25 => ?_⟩
      have k25 : MU E G0 G25 m (fun k => 16 ≤ k ∧ k ≤ 19) := by rw [e25]; exact k14.mSel (by decide) ⟨by decide, by decide⟩
      have f2519 : gfd G25 12 19 m = K.length := by rw [e25]; exact f1419
      refine ⟨k25.1.1, by rw [f2519]; exact i32s' (by omega), k25.1.1, fun G29 e29 => ?_⟩
      have hp := hB.push kU ⟨⟨by decide, by decide⟩, ⟨by decide, by decide⟩, ⟨by decide, by decide⟩, ⟨by decide, by decide⟩⟩ (by omega) (a1 := s9) (a2 := Int.tdiv y.1 100) (a3 := pkB y.1 y.2 0 64 R)
      have e29' : G29 = sfd (sel (sel (sel G (gfd G 12 16 m) K.length s9) (gfd G 12 17 m) K.length (Int.tdiv y.1 100)) (gfd G 12 18 m) K.length (pkB y.1 y.2 0 64 R)) 12 19 m (K.length + 1) := by
        rw [e29, f2519, e25, e14, f819, e8, f19]; rfl
      rw [← e29'] at hp
      obtain ⟨k29, hB29⟩ := hp
      have sx29 : SX E G29 m s9 l smp := hsx0.mt k29.1 k29.2.2.2.2.2 ⟨by omega, by omega, by omega, by omega, by omega, by omega⟩
      refine ⟨i32s' (by omega), i32s' (by omega), k29.1.1, Call.pure (sx29.nx _) ?_⟩
      -- the rest behind the hundred
      have esp : R = R.takeWhile (sm100 y.1) ++ R.dropWhile (sm100 y.1) := (List.takeWhile_append_dropWhile).symm
      have hS3 : seeT l (smp.map (·.1)) = (A ++ y :: R.takeWhile (sm100 y.1)) ++ R.dropWhile (sm100 y.1) := by
        rw [hS, List.append_assoc]
        congr 1
        show y :: R = y :: (R.takeWhile (sm100 y.1) ++ R.dropWhile (sm100 y.1))
        rw [← esp]
      have hall : ∀ z ∈ A ++ y :: R.takeWhile (sm100 y.1), z.1 ≤ Int.tdiv y.1 100 * 100 + 99 := fun z hz => by
        have hzS : z ∈ seeT l (smp.map (·.1)) := by rw [hS3]; exact List.mem_append_left _ hz
        have hz0 : 0 ≤ z.1 := (sx.at hzS).1
        rcases List.mem_append.mp hz with h9 | h9
        · rw [hS] at hasc
          have h8 : z.1 < y.1 := (List.pairwise_append.mp hasc).2.2 z h9 y List.mem_cons_self
          omega
        · rcases List.mem_cons.mp h9 with h8 | h8
          · rw [h8]; omega
          · have h7 := of_decide_eq_true (mem_tw h8)
            rw [Int.tdiv_eq_ediv_of_nonneg hz0] at h7
            omega
      have hnx : nxL (Int.tdiv y.1 100 * 100 + 99) (seeT l (smp.map (·.1))) = hdT (R.dropWhile (sm100 y.1)) := by
        cases hd : R.dropWhile (sm100 y.1) with
        | nil =>
          rw [hS3, hd, List.append_nil, nxL_end hall]; rfl
        | cons z Z =>
          have hzm : z ∈ seeT l (smp.map (·.1)) := by rw [hS3, hd]; exact List.mem_append_right _ List.mem_cons_self
          have hz0 : 0 ≤ z.1 := (sx.at hzm).1
          have hzR : z ∈ R := (List.dropWhile_sublist _).subset (by rw [hd]; exact List.mem_cons_self)
          have hzf : ¬ sm100 y.1 z = true := by
            have := List.head_dropWhile_not (sm100 y.1) (l := R) (by rw [hd]; exact List.cons_ne_nil _ _)
            simp only [hd, List.head_cons] at this
            rw [this]; decide
          rw [hS] at hasc
          have h8 : y.1 < z.1 := (List.pairwise_cons.mp (List.pairwise_append.mp hasc).2.1).1 z hzR
          have h7 : ¬ Int.tdiv z.1 100 = Int.tdiv y.1 100 := fun h9 => hzf (decide_eq_true h9)
          rw [Int.tdiv_eq_ediv_of_nonneg hz0] at h7
          have hasc3 := seeT_asc (l := l) hsx0.2.2.2.2.2
          rw [hS3, hd] at hasc3 ⊢
          exact nxL_app hasc3 hall (by omega)
      rw [hnx]
      have hdl : (R.dropWhile (sm100 y.1)).length ≤ R.length := (List.dropWhile_sublist _).length_le
      refine ih (A ++ y :: R.takeWhile (sm100 y.1)) (R.dropWhile (sm100 y.1)) _ G29 (by omega) hS3 (by rw [List.length_append]; show K.length + 1 + _ ≤ 600; omega) ?_ k29 hB29
      rw [← hK0, List.append_assoc]
      congr 1
      show _ = (pk y.1 y.2 0 (Int.tdiv y.1 100) 64 R).map _
      rw [pkB_eq]; rfl
/-- the blocks of the first series -/
def bkU (l9 : List Int) (sm : List Sm4) (n : Nat) : List (Int × Int × Int) := ((List.range n).map fun i : Nat => (pack (seeT (l9.getD i 0) sm)).map fun p => ((i : Int), p.1, p.2)).flatten
theorem bkU_succ (l9 : List Int) (sm : List Sm4) (n : Nat) : bkU l9 sm (n + 1) = bkU l9 sm n ++ (pack (seeT (l9.getD n 0) sm)).map fun p => ((n : Int), p.1, p.2) := by
  unfold bkU
  rw [List.range_succ, List.map_append, List.flatten_append]
  show _ ++ ((pack (seeT (l9.getD n 0) sm)).map _ ++ []) = _
  rw [List.append_nil]
theorem seeT_len (l : Int) (sm : List Sm4) : (seeT l sm).length = sm.countP (own l) := by
  unfold seeT
  rw [(srt_perm _).length_eq, List.length_map, List.countP_eq_length_filter]
theorem vis_le (hc : ∀ q ∈ sm, 0 ≤ Int.tdiv (qC q) 100 ∧ Int.tdiv (qC q) 100 ≤ 6) : visN sm ≤ likeN 0 sm + likeN 1 sm + likeN 2 sm + likeN 3 sm + likeN 4 sm + likeN 5 sm + likeN 6 sm := by
  induction sm with
  | nil => exact Nat.le_refl _
  | cons q sm ih =>
    have h1 := ih (fun y hy => hc y (List.mem_cons_of_mem _ hy))
    have h2 := hc q List.mem_cons_self
    have lk : ∀ z, likeN z (q :: sm) = likeN z sm + if likeP z q = true then 1 else 0 := fun z => List.countP_cons ..
    have vk : visN (q :: sm) = visN sm + if decide (qH q = 0) = true then 1 else 0 := List.countP_cons ..
    have ge : ∀ z, likeN z sm ≤ likeN z (q :: sm) := fun z => by rw [lk]; omega
    have g0 := ge 0
    have g1 := ge 1
    have g2 := ge 2
    have g3 := ge 3
    have g4 := ge 4
    have g5 := ge 5
    have g6 := ge 6
    by_cases hh : qH q = 0
    · have one : likeN (Int.tdiv (qC q) 100) (q :: sm) = likeN (Int.tdiv (qC q) 100) sm + 1 := by
        rw [lk, if_pos (show likeP (Int.tdiv (qC q) 100) q = true from decide_eq_true ⟨hh, rfl⟩)]
      rw [vk, if_pos (decide_eq_true hh)]
      have hz : Int.tdiv (qC q) 100 = 0 ∨ Int.tdiv (qC q) 100 = 1 ∨ Int.tdiv (qC q) 100 = 2 ∨ Int.tdiv (qC q) 100 = 3 ∨ Int.tdiv (qC q) 100 = 4 ∨ Int.tdiv (qC q) 100 = 5 ∨ Int.tdiv (qC q) 100 = 6 := by omega
      rcases hz with h9 | h9 | h9 | h9 | h9 | h9 | h9 <;> rw [h9] at one <;> omega
    · rw [vk, if_neg (fun h9 => hh (of_decide_eq_true h9))]
      omega
theorem own_sum (hn : ser.Nodup) (hc : ∀ q ∈ sm, qC q ∈ ser) : ((ser.map fun c => sm.countP (own c)).sum) = visN sm := by
  have h := sumZ (fun _ => true) ser (sm.map fun q => ((0 : Int), q, (0 : Int))) hn (fun z hz => by
    obtain ⟨q, hq, rfl⟩ := List.mem_map.mp hz
    exact hc q hq)
  unfold visN
  have e1 : ∀ p : Sm4 → Bool, (sm.map fun q => ((0 : Int), q, (0 : Int))).countP (fun z => p z.2.1 && true) = sm.countP p := fun p => by
    rw [List.countP_map]
    exact List.countP_congr fun q _ => by simp
  have e2 : (ser.map fun c => (sm.map fun q => ((0 : Int), q, (0 : Int))).countP (fun z => own c z.2.1 && true)) = ser.map fun c => sm.countP (own c) := List.map_congr_left fun c _ => e1 (own c)
  rw [e2] at h
  rw [h]
  exact e1 (fun q => decide (qH q = 0))
theorem vis420 (hb : Basic sm) (hser : ∀ c ∈ ser, cOk c) (hc : ∀ q ∈ sm, qC q ∈ ser) : visN sm ≤ 420 := by
  have h1 := vis_le (sm := sm) (fun q hq => by
    have h9 := hser _ (hc q hq)
    have h0 := h9.1
    have h6 := h9.2.1
    rw [Int.tdiv_eq_ediv_of_nonneg h0]; omega)
  have h2 := hb.2
  have := h2 0
  have := h2 1
  have := h2 2
  have := h2 3
  have := h2 4
  have := h2 5
  have := h2 6
  omega
theorem bkU_len (hb : Basic sm) : ∀ n : Nat, n ≤ ser.length → (bkU ser sm n).length ≤ ((ser.take n).map fun c => sm.countP (own c)).sum := by
  intro n
  induction n with
  | zero => intro _; exact Nat.le_refl _
  | succ n ih =>
    intro hn
    rw [bkU_succ, List.length_append, List.length_map, takeS (d := 0) (by omega), List.map_append, List.sum_append]
    have h1 := ih (by omega)
    have h2 := pack_len (seeT (ser.getD n 0) sm)
    rw [seeT_len] at h2
    show _ ≤ _ + (sm.countP (own (ser.getD n 0)) + 0)
    omega
theorem sum_take_le (f : Int → Nat) (ser : List Int) (n : Nat) : ((ser.take n).map f).sum ≤ (ser.map f).sum := by
  have : (ser.map f).sum = ((ser.take n).map f).sum + ((ser.drop n).map f).sum := by
    rw [← List.sum_append, ← List.map_append, List.take_append_drop]
  omega
theorem v_series (hn : ser.Nodup) (hl12 : ser.length ≤ 12) (hser : ∀ c ∈ ser, cOk c) (hcs : ∀ q ∈ smp.map (·.1), qC q ∈ ser) (h6 : gfd G0 12 6 m = ser.length) (hsx : ∀ i : Nat, i < ser.length → SX E G0 m i (ser.getD i 0) smp) (hb : Basic (smp.map (·.1))) (hQ : ∀ G', MU E G0 G' m (fun k => 16 ≤ k ∧ k ≤ 19) → MBk G' m (bkU ser (smp.map (·.1)) ser.length) → Q (bkU ser (smp.map (·.1)) ser.length).length G') :
    ∀ (n j : Nat) (G : Gt), j + n = ser.length → MU E G0 G m (fun k => 16 ≤ k ∧ k ≤ 19) → MBk G m (bkU ser (smp.map (·.1)) j) → V E M_X12_flush 129 [some (rv m), none, some (iv (j : Int)), none] [] G c s Q X := by
  have h420 := vis420 hb hser hcs
  rw [← own_sum hn hcs] at h420
  intro n
  induction n with
  | zero =>
    intro j G hj kU hB
    have f6 : gfd G 12 6 m = ser.length := (kU.2.2.2.2.2.f 6 (by omega)).trans h6
    have ej : j = ser.length := by omega
    rw [ej] at hB
    refine b_X12_flush_129 ⟨kU.1.1, fun _ => ⟨kU.1.1, ?_⟩, fun h9 => by omega⟩
    rw [hB.1]
    exact hQ G kU hB
  | succ n ih =>
    intro j G hj kU hB
    have f6 : gfd G 12 6 m = ser.length := (kU.2.2.2.2.2.f 6 (by omega)).trans h6
    have hlt : j < ser.length := by omega
    have sx0 := hsx j hlt
    have sx : SX E G m j (ser.getD j 0) smp := sx0.mt kU.1 kU.2.2.2.2.2 ⟨by omega, by omega, by omega, by omega, by omega, by omega⟩
    have hbl := bkU_len (ser := ser) hb j (by omega)
    have hbl1 := sum_take_le (fun c => (smp.map (·.1)).countP (own c)) ser (j + 1)
    rw [takeS (d := 0) hlt, List.map_append, List.sum_append] at hbl1
    have hbl2 : ((ser.take j).map fun c => (smp.map (·.1)).countP (own c)).sum + ((smp.map (·.1)).countP (own (ser.getD j 0)) + 0) ≤ (ser.map fun c => (smp.map (·.1)).countP (own c)).sum := hbl1
    have hsl := seeT_len (ser.getD j 0) (smp.map (·.1))
    refine b_X12_flush_129 ⟨kU.1.1, fun h9 => by omega, fun _ => ⟨kU.1.1, Call.pure (sx.nx (-1)) ?_⟩⟩
    have hnx : nxL (-1) (seeT (ser.getD j 0) (smp.map (·.1))) = hdT (seeT (ser.getD j 0) (smp.map (·.1))) := by
      have hat : ∀ y ∈ seeT (ser.getD j 0) (smp.map (·.1)), 0 ≤ y.1 := fun y hy => (sx.at hy).1
      cases hh : seeT (ser.getD j 0) (smp.map (·.1)) with
      | nil => rfl
      | cons y R =>
        have := hat y (by rw [hh]; exact List.mem_cons_self)
        show (if -1 < y.1 then y.1 else _) = y.1
        rw [if_pos (by omega)]
    rw [hnx]
    have hsl60 : (seeT (ser.getD j 0) (smp.map (·.1))).length ≤ 60 := by
      rw [hsl]
      exact Nat.le_trans (own_like _ _) (hb.2 _)
    refine v_blocks (G0 := G) (K0 := bkU ser (smp.map (·.1)) (j + 1)) sx ⟨by omega, by omega⟩ (by omega) (fun G' kG hB' => ?_) (seeT (ser.getD j 0) (smp.map (·.1))).length [] _ (bkU ser (smp.map (·.1)) j) G (Nat.le_refl _) rfl (by omega) (bkU_succ _ _ _).symm (MU.refl kU.1 kU.2.1 kU.2.2.1.1) hB
    exact ih (j + 1) G' (by omega) (kU.trans kG) hB'
end Sa35
