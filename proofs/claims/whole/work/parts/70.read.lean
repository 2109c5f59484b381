/-! a word reads -/
section S70
variable {E : EE} {G G' G2 G0 : Gt} {c s : Nat} {Q X : Int → Gt → Prop} {a r q l u v n m p sp wn k set fr to wd g st t two time sel nl : Int} {W W' : Nat → Int} {R T : List (Int × Int)} {zs : List Zt} {ser : List Int} {smp : List (Sm4 × Int)} {dn wr : Int}
/-- the pile, its spare result and window, and a word that reads -/
def RdS (E : EE) (G0 G : Gt) (p sp wn wd k two sel : Int) : Prop :=
  rdS E G0 G sp wn ∧ gcl G p = 3 ∧ gfd G 2 2 p = sp ∧ gfd G 2 1 p = wn ∧ gcl G wn = 10 ∧ gcl G wd = 11 ∧ gfd G 10 0 wd = k ∧ gfd G 10 2 wd = two ∧ gfd G 10 3 wd = sel ∧ gcl G sel = 7
theorem RdS.ru (h : RdS E G0 G p sp wn wd k two sel) (hs : RSh G sp) (h4 : gcl G0 sp = 4) (kk : RU G G' sp) : RdS E G0 G' p sp wn wd k two sel := by
  obtain ⟨h1, h2, h3, h5, h6, h7, h8, h9, h10, h11⟩ := h
  have e : ∀ c j y, c ≠ 3 → gfd G' c j y = gfd G c j y := fun c j y hc => kk.2.1 c j y (fun h9 => hc h9.1)
  refine ⟨h1.ru hs h4 kk, by rw [kk.1]; exact h2, by rw [e 2 2 p (by decide)]; exact h3, by rw [e 2 1 p (by decide)]; exact h5, by rw [kk.1]; exact h6, by rw [kk.1]; exact h7, by rw [e 10 0 wd (by decide)]; exact h8, by rw [e 10 2 wd (by decide)]; exact h9, by rw [e 10 3 wd (by decide)]; exact h10, by rw [kk.1]; exact h11⟩
theorem RdS.wu (h : RdS E G0 G p sp wn wd k two sel) {V : Nat → Int} (kk : WU G G' wn V) : RdS E G0 G' p sp wn wd k two sel := by
  obtain ⟨h1, h2, h3, h5, h6, h7, h8, h9, h10, h11⟩ := h
  have e : ∀ c j y, c ≠ 9 → gfd G' c j y = gfd G c j y := fun c j y hc => kk.2.1 c j y (fun h9 => hc h9.1)
  exact ⟨h1.wu kk, by rw [kk.1]; exact h2, by rw [e 2 2 p (by decide)]; exact h3, by rw [e 2 1 p (by decide)]; exact h5, by rw [kk.1]; exact h6, by rw [kk.1]; exact h7, by rw [e 10 0 wd (by decide)]; exact h8, by rw [e 10 2 wd (by decide)]; exact h9, by rw [e 10 3 wd (by decide)]; exact h10, by rw [kk.1]; exact h11⟩
theorem v_read (hO : OW G0) (h4 : gcl G0 sp = 4) (hC : StC G0 st zs ser smp dn wr) (hi : SC ser (smp.map (·.1))) (h12 : ser.length ≤ 12) (hnl : nl = gfd G0 8 0 st) (hk : 1 ≤ k ∧ k ≤ 7) (h2w : 0 ≤ two ∧ two ≤ 1000 ∧ (k ≠ 1 → 1 ≤ two)) (htm : 0 ≤ time ∧ time ≤ 100000) (hsel0 : gcl G0 sel = 7) :
    ∀ (j i : Nat) (G : Gt) (T : List (Int × Int)), i + j = (numL G0 st).length → RdS E G0 G p sp wn wd k two sel → RowH G sp 0 T → ascL T → T.Perm ((ser.take i).filterMap (rdF (selP G0 sel) k two time (smp.map (·.1)))) → T.length ≤ i →
    V E M_X2_read 10 [some (rv p), some (rv wd), some (rv nl), some (iv time), some (iv (i : Int)), none, none] [] G c s (fun _ G' => rdS E G0 G' sp wn ∧ RowH G' sp 0 (readR (selP G0 sel) k two time ser (smp.map (·.1)))) X := by
  have hlen : (numL G0 st).length = ser.length := by
    have := congrArg List.length hC.2.2.1
    rw [List.length_map] at this; exact this
  have h14 := hC.2.1
  rw [← hnl] at h14
  intro j
  induction j with
  | zero =>
    intro i G T hij hj hs hT hP hl
    obtain ⟨h1, h2, h3, h5, h6, h7, h8, h9, h10, h11⟩ := hj
    have hF := h1.2.2
    have c14 : gcl G nl = 14 := by rw [hF.1 _ (by omega)]; exact h14.1
    have ll := hF.2.2.1 nl h14.1 h14.2
    have eL : lst G nl = numL G0 st := by rw [(ll.2 id).1, hnl]; rfl
    have hsz : gfd G 13 2 nl = (numL G0 st).length := by rw [h1.1.size c14 ll.1, eL]
    refine b_X2_read_10 ⟨c14, okp_size c14, fun _ => ⟨h1, ?_⟩, fun h9 => by omega⟩
    have : T = readR (selP G0 sel) k two time ser (smp.map (·.1)) := by
      rw [show i = ser.length by omega, List.take_length] at hP
      exact srt_eq hP hT
    rw [← this]; exact hs
  | succ j ih =>
    intro i G T hij hj hs hT hP hl
    have hj0 := hj
    obtain ⟨h1, h2, h3, h5, h6, h7, h8, h9, h10, h11⟩ := hj
    have hF := h1.2.2
    have hilt : i < (numL G0 st).length := by omega
    have c14 : gcl G nl = 14 := by rw [hF.1 _ (by omega)]; exact h14.1
    have ll := hF.2.2.1 nl h14.1 h14.2
    have eL : lst G nl = numL G0 st := by rw [(ll.2 id).1, hnl]; rfl
    have hsz : gfd G 13 2 nl = (numL G0 st).length := by rw [h1.1.size c14 ll.1, eL]
    have ham := getD_mem hilt
    have hat : alAt G nl (i : Int) = (numL G0 st).getD i 0 := by rw [alAt_get h1.1 c14 ll.1 (by rw [eL]; exact hilt), eL]
    have hget := okp_get (E := E) h1.1 c14 ll.1 (i := (i : Int)) (by omega) (by omega)
    rw [hat] at hget
    have hlab : ser.getD i 0 = sLab G0 ((numL G0 st).getD i 0) := by
      rw [← hC.2.2.1, List.getD_eq_getElem?_getD, List.getElem?_map, List.getD_eq_getElem?_getD, List.getElem?_eq_getElem hilt]; rfl
    generalize hav : (numL G0 st).getD i 0 = a at ham hat hget hlab
    have hsa := hC.2.2.2.1 a ham
    have ha8 := hsa.1
    have hsr := hC.sr hi ham
    have hsr1 := hsr.fr hF (fun h9 => by omega) (fun _ _ => ⟨fun h9 => by omega, fun h9 => by omega⟩) id
    have eT : ∀ y ∈ seenL G0 a, sT G y = sT G0 y := fun y hy => hF.2.1 5 1 y (by decide) (by rw [(hsr.2.2.2.1 y hy).1]; decide) (fun h9 => by omega)
    have eV : ∀ y ∈ seenL G0 a, sV G y = sV G0 y := fun y hy => hF.2.1 5 2 y (by decide) (by rw [(hsr.2.2.2.1 y hy).1]; decide) (fun h9 => by omega)
    have etv : (seenL G a).map (tv G) = seeT (ser.getD i 0) (smp.map (·.1)) := by
      rw [hlab, ← hC.tvs ham, hsr1.2]
      exact List.map_congr_left fun y hy => by show (sT G y, sV G y) = (sT G0 y, sV G0 y); rw [eT y hy, eV y hy]
    have e70 : gfd G 7 0 a = ser.getD i 0 := by rw [hlab]; exact hF.2.1 7 0 a (by decide) (by omega) (fun h9 => by omega)
    have esl : slS G sel (ser.getD i 0) = slS G0 sel (ser.getD i 0) := by
      have e6 : ∀ j, gfd G 6 j sel = gfd G0 6 j sel := fun j => hF.2.1 6 j sel (by decide) (by omega) (fun h9 => by omega)
      unfold slS
      rw [e6, e6, e6]
    have hseri : i < ser.length := by omega
    have hts : ser.take (i + 1) = ser.take i ++ [ser.getD i 0] := take_app hseri
    have hfm : (ser.take (i + 1)).filterMap (rdF (selP G0 sel) k two time (smp.map (·.1))) = (ser.take i).filterMap (rdF (selP G0 sel) k two time (smp.map (·.1))) ++ (match rdF (selP G0 sel) k two time (smp.map (·.1)) (ser.getD i 0) with | none => [] | some y => [y]) := by
      rw [hts, List.filterMap_append, List.filterMap_cons, List.filterMap_nil]
      cases rdF (selP G0 sel) k two time (smp.map (·.1)) (ser.getD i 0) <;> rfl
    have hkey : ∀ y ∈ T, y.1 ≠ ser.getD i 0 := fun y hy h9 => by
      obtain ⟨c', hc', e⟩ := List.mem_filterMap.mp (hP.mem_iff.mp hy)
      have hcy : c' = y.1 := by
        unfold rdF at e
        split at e
        · cases hv : valW k two time (seeT c' (smp.map (·.1))) with
          | none => rw [hv] at e; cases e
          | some v => rw [hv] at e; have : (c', v) = y := Option.some.inj e; rw [← this]
        · cases e
      have hnd : (ser.take (i + 1)).Nodup := hi.1.sublist (List.take_sublist _ _)
      rw [hts, List.nodup_append] at hnd
      exact hnd.2.2 c' hc' (ser.getD i 0) (List.mem_singleton.mpr rfl) (hcy.trans h9)
    have ec : ((i + 1 : Nat) : Int) = (i : Int) + 1 := by omega
    have skip : ∀ G1, RdS E G0 G1 p sp wn wd k two sel → RowH G1 sp 0 T → rdF (selP G0 sel) k two time (smp.map (·.1)) (ser.getD i 0) = none → V E M_X2_read 10 [some (rv p), some (rv wd), some (rv nl), some (iv time), some (iv ((i : Int) + 1)), none, none] [] G1 c s (fun _ G' => rdS E G0 G' sp wn ∧ RowH G' sp 0 (readR (selP G0 sel) k two time ser (smp.map (·.1)))) X := fun G1 q1 q2 q3 => by
      have := ih (i + 1) G1 T (by omega) q1 q2 hT (by rw [hfm, q3]; show T.Perm (_ ++ []); rw [List.append_nil]; exact hP) (by omega)
      rw [ec] at this; exact this
    have put : ∀ G1 v, RdS E G0 G1 p sp wn wd k two sel → RowH G1 sp 0 T → rdF (selP G0 sel) k two time (smp.map (·.1)) (ser.getD i 0) = some (ser.getD i 0, v) → gcl G1 sp = 4 ∧ Call E M_X3_put [rv sp, iv (ser.getD i 0), jv v] G1 c s X (fun _ G66 c67 s68 => i32 ((i : Int) + 1) ∧ V E M_X2_read 10 [some (rv p), some (rv wd), some (rv nl), some (iv time), some (iv ((i : Int) + 1)), none, none] [] G66 c67 s68 (fun _ G' => rdS E G0 G' sp wn ∧ RowH G' sp 0 (readR (selP G0 sel) k two time ser (smp.map (·.1)))) X) := fun G1 v q1 q2 q3 => by
      refine ⟨q2.1.1, Call.to (ok_putR q2 hT (by omega)) (Nat.zero_le _) (Nat.zero_le _) fun _ G2 hq => ⟨i32s (by omega), ?_⟩⟩
      have := ih (i + 1) G2 _ (by omega) (q1.ru q2.1 h4 hq.1) hq.2 (putL_asc hT hkey) (by rw [hfm, q3]; exact (putL_perm _ _ _).trans ((hP.cons _).trans (List.perm_append_singleton _ _).symm)) (by rw [(putL_perm _ _ _).length_eq]; show T.length + 1 ≤ i + 1; omega)
      rw [ec] at this; exact this
    have hosel := okp_selects (E := E) (l := ser.getD i 0) h11
    rw [esl] at hosel
    have a8 : gcl G a = 8 := hsr1.1.1
    have h6n : gcl G (-1) ≠ 6 := by rcases (hO.go h1.2.1).2.2 with h9 | h9 <;> omega
    refine b_X2_read_10 ⟨c14, okp_size c14, fun h9 => by omega, fun _ => ?_⟩
    rw [hat, h10, e70, h8, h9, esl]
    refine ⟨c14, hget, Or.inr a8, h7, a8, h11, hosel, fun hs1 => ⟨h7, fun hk1 => ?_, fun hk1 => ?_⟩, fun hs1 => ⟨i32s (by omega), skip G hj0 hs (by unfold rdF selP; rw [if_neg (by simpa using hs1)])⟩⟩
    · rw [h5]
      have hp1 : selP G0 sel (ser.getD i 0) = true := decide_eq_true hs1
      have h2w' := h2w.2.2 hk1
      refine ⟨h2, h7, i32s (by omega), i32s (by omega), h6, Call.to (ok_gather (fr := time - two + 1) (to := time) h6 h1.1 hsr1.1 (by omega)) (Nat.zero_le _) (Nat.zero_le _) fun _ G20 hq => ?_⟩
      obtain ⟨hU, hB⟩ := hq
      have j20 := hj0.wu hU
      obtain ⟨g1, g2, g3, g5, g6, g7, g8, g9, g10, g11⟩ := j20
      have hs20 : RowH G20 sp 0 T := hs.fr hU.fr (fun j h9 => by omega) id id
      have eW : ∀ kk, kk < 9 → wv G20 wn kk = gaW G (rngL G a (time - two + 1) time) (zeW (wv G wn)) kk := fun kk hkk => hU.wv hkk
      have hrng : (rngL G a (time - two + 1) time).map (tv G) = (seeT (ser.getD i 0) (smp.map (·.1))).filter (inT (time - two + 1) time) := by
        rw [← etv, List.filter_map]
        unfold rngL
        rw [(cut_filter hsr1.1 (show time - two + 1 ≤ time by omega)).2.2]; rfl
      have hwe : wEq (wv G20 wn) (gaP ((seeT (ser.getD i 0) (smp.map (·.1))).filter (inT (time - two + 1) time)) (fun _ => 0)) := by
        have h0 : wEq (gaP ((seeT (ser.getD i 0) (smp.map (·.1))).filter (inT (time - two + 1) time)) (zeW (wv G wn))) (gaP ((seeT (ser.getD i 0) (smp.map (·.1))).filter (inT (time - two + 1) time)) (fun _ => 0)) := gaP_eq _ (Or.inl ⟨rfl, rfl⟩)
        rw [gaW_P, hrng] at eW
        rcases h0 with ⟨q1, q2⟩ | q
        · exact Or.inl ⟨(eW 0 (by decide)).trans q1, q2⟩
        · exact Or.inr fun kk hkk => (eW kk hkk).trans (q kk hkk)
      have hB20 : WB (wv G20 wn) := hB.congr fun kk hkk => eW kk hkk
      refine ⟨g2, g7, by rw [g5]; exact g6, ?_⟩
      rw [g5, g8]
      refine Call.pure (okp_canTell g6) ⟨fun h0 => ⟨i32s (by omega), skip G20 ⟨g1, g2, g3, g5, g6, g7, g8, g9, g10, g11⟩ hs20 ?_⟩, fun h0 => ?_⟩
      · unfold rdF valW
        rw [if_pos hp1, if_neg hk1, if_pos (by rw [← ctV_eq hwe]; exact h0)]; rfl
      · have hct : ctV (wv G20 wn) k = 1 := by
          unfold ctV at h0 ⊢
          by_cases h9 : wv G20 wn 0 < (if k = 7 then (2 : Int) else 1)
          · rw [if_pos h9] at h0; exact (h0 rfl).elim
          · rw [if_neg h9]
        have hpos : 0 < wv G20 wn 0 := by
          unfold ctV at h0
          by_cases h9 : wv G20 wn 0 < (if k = 7 then (2 : Int) else 1)
          · rw [if_pos h9] at h0; exact (h0 rfl).elim
          · split at h9 <;> omega
        have hend : time - two ≤ wv G20 wn 1 ∧ wv G20 wn 2 ≤ time := by
          have e0 := eW 0 (by decide)
          have e1 := eW 1 (by decide)
          have e2 := eW 2 (by decide)
          rw [gaW_P, hrng] at e0 e1 e2
          have := gaP_in (lo := time - two + 1) (hi := time) ((seeT (ser.getD i 0) (smp.map (·.1))).filter (inT (time - two + 1) time)) (zeW (wv G wn)) (Int.le_refl 0) (fun y hy => by
            have := (List.mem_filter.mp hy).2
            unfold inT at this
            simp only [Bool.and_eq_true, decide_eq_true_eq] at this
            exact this) (fun h9 => absurd h9 (Int.lt_irrefl 0)) (by rw [← e0]; exact hpos)
          rw [e1, e2]; omega
        have a20 : gcl G20 a = 8 := by rw [hU.1]; exact a8
        have e720 : gfd G20 7 0 a = ser.getD i 0 := by rw [hU.f (by decide)]; exact e70
        refine ⟨g2, a20, g2, g7, g7, by rw [g5]; exact g6, ?_⟩
        rw [g5, g8, g9, g3, e720]
        refine Call.pure (okp_tellOf g6 hB20 (by omega) ⟨h2w', h2w.2.1⟩ htm hct hend) ?_
        refine put G20 _ ⟨g1, g2, g3, g5, g6, g7, g8, g9, g10, g11⟩ hs20 ?_
        unfold rdF valW
        rw [if_pos hp1, if_neg hk1, if_neg (by rw [← ctV_eq hwe]; exact h0), ← toV_eq hwe h0]; rfl
    · have hp1 : selP G0 sel (ser.getD i 0) = true := decide_eq_true hs1
      have hrd : rdF (selP G0 sel) k two time (smp.map (·.1)) (ser.getD i 0) = (atV (time - two) ((seenL G a).map (tv G))).map (fun v => (ser.getD i 0, v)) := by
        unfold rdF valW
        rw [if_pos hp1, if_pos hk1, etv]
      refine ⟨h7, i32s (by omega), a8, Call.pure (okp_latest h1.1 hsr1.1 (by omega)) ?_⟩
      rcases ltV_at hsr1.1 h6n (time - two) with ⟨q1, q2⟩ | ⟨q1, q2, q3, q4⟩
      · exact ⟨fun _ => ⟨i32s (by omega), skip G hj0 hs (by rw [hrd, q2]; rfl)⟩, fun h9 => by omega⟩
      · refine ⟨fun h9 => (q2 h9).elim, fun _ => ⟨q1, fun h9 => ⟨i32s (by omega), skip G hj0 hs ?_⟩, fun h9 => ?_⟩⟩
        · have h9' : sV G (ltV G a (time - two)) = -2147483648 := h9
          rw [hrd, q4, if_pos h9']; rfl
        · rw [h3, e70]
          unfold vOk at q3
          have hvn : sV G (ltV G a (time - two)) ≠ -2147483648 := h9
          refine ⟨h2, a8, q1, ?_, put G _ hj0 hs ?_⟩
          · exact i64s (by show _ ≤ 1000 * sV G (ltV G a (time - two)) ∧ 1000 * sV G (ltV G a (time - two)) ≤ _; omega)
          · rw [hrd, q4, if_neg hvn]; rfl
theorem ok_read (hL : LW E G) (hO : OW G) (hC : StC G st zs ser smp dn wr) (hi : SC ser (smp.map (·.1))) (h12 : ser.length ≤ 12) (hnl : nl = gfd G 8 0 st) (hk : 1 ≤ k ∧ k ≤ 7) (h2w : 0 ≤ two ∧ two ≤ 1000 ∧ (k ≠ 1 → 1 ≤ two)) (htm : 0 ≤ time ∧ time ≤ 100000)
    (hs : ∃ n' R', RowH G sp n' R') (hp : gcl G p = 3) (hsp : gfd G 2 2 p = sp) (hwn : gfd G 2 1 p = wn) (hw10 : gcl G wn = 10) (hwd : gcl G wd = 11) (e0 : gfd G 10 0 wd = k) (e2 : gfd G 10 2 wd = two) (e3 : gfd G 10 3 wd = sel) (hsel : gcl G sel = 7) :
    Ok E M_X2_read [rv p, rv wd, rv nl, iv time] G 0 0 (fun _ G' => rdS E G G' sp wn ∧ RowH G' sp 0 (readR (selP G sel) k two time ser (smp.map (·.1)))) (fun _ _ => False) := by
  obtain ⟨n', R', hs⟩ := hs
  have h4 := hs.1.1
  have hlen : (numL G st).length = ser.length := by
    have := congrArg List.length hC.2.2.1
    rw [List.length_map] at this; exact this
  refine i_X2_read ?_
  rw [hsp]
  refine ⟨hp, h4, Call.to (ok_vec hs) (Nat.le_refl _) (Nat.le_refl _) fun _ G1 hq => ?_⟩
  have hj : RdS E G G1 p sp wn wd k two sel := RdS.ru ⟨⟨hL, ONW.refl G, FR.refl G⟩, hp, hsp, hwn, hw10, hwd, e0, e2, e3, hsel⟩ hs.1 h4 hq.1
  exact v_read hO h4 hC hi h12 hnl hk h2w htm hsel (numL G st).length 0 G1 [] (by omega) hj hq.2 List.Pairwise.nil (List.Perm.refl _) (Nat.le_refl _)
end S70
