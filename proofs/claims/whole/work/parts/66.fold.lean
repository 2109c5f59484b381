/-! results folded: the loop -/
section S66
variable {E : EE} {G G' G2 G0 : Gt} {c s : Nat} {Q X : Int → Gt → Prop} {a r q l u v n m p sp w k set fr wd g : Int} {W : Nat → Nat → Int → Prop} {L A : Int → Prop} {R T : List (Int × Int)}
def FlS (E : EE) (G0 G : Gt) (p sp fr wd : Int) (nl : Int) (R : List (Int × Int)) (k set : Int) : Prop :=
  spF E G0 G sp ∧ gcl G p = 3 ∧ gfd G 2 2 p = sp ∧ RowH G fr nl R ∧ gcl G wd = 11 ∧ gfd G 10 0 wd = k ∧ gfd G 10 1 wd = set
theorem FlS.ru (h : FlS E G0 G p sp fr wd n R k set) (hO : OW G0) (h4 : gcl G0 sp = 4) (hs : RSh G sp) (hfr : fr ≠ sp) (hru : RU G G' sp) : FlS E G0 G' p sp fr wd n R k set := by
  obtain ⟨h1, h2, h3, h5, h7, h8, h9⟩ := h
  have hO1 : OW G := hO.go h1.2.1
  have hf := spF.ru (spF.refl h1.1) hs (hs.1) hru
  exact ⟨h1.ru hs h4 hru, by rw [hru.1]; exact h2, by rw [hru.2.1 2 2 p (by omega)]; exact h3, hf.row hO1 hs.1 h5 hfr, by rw [hru.1]; exact h7, by rw [hru.2.1 10 0 wd (by omega)]; exact h8, by rw [hru.2.1 10 1 wd (by omega)]; exact h9⟩
theorem v_fold (hO : OW G0) (h4 : gcl G0 sp = 4) (hfr : fr ≠ sp) (hR : RV n R) (hset : 0 ≤ set ∧ set ≤ 7) : ∀ (j i : Nat) (G : Gt) (T : List (Int × Int)), i + j = R.length → FlS E G0 G p sp fr wd n R k set → RowH G sp 0 T → FdS k set (R.take i) T i →
    V E M_X2_fold 28 [some (rv p), some (rv fr), some (rv wd), some (iv (i : Int)), none, none] [] G c s (fun _ G' => spF E G0 G' sp ∧ RowH G' sp 0 (foldR k set R)) X := by
  have h12 := hR.1
  intro j
  induction j with
  | zero =>
    intro i G T hij hj hs hT
    obtain ⟨h1, h2, h3, h5, h7, h8, h9⟩ := hj
    have hl := h5.len
    have hi : i = R.length := by omega
    subst hi
    rw [List.take_length] at hT
    refine b_X2_fold_28 ⟨h5.1.1, fun _ => ⟨h1, by rw [← hT.eq]; exact hs⟩, fun h9 => by unfold rN at hl; omega⟩
  | succ j ih =>
    intro i G T hij hj hs hT
    have hj0 := hj
    obtain ⟨h1, h2, h3, h5, h7, h8, h9⟩ := hj
    have hi : i < R.length := by omega
    obtain ⟨e1, e2, e3, e4, e5⟩ := h5.elt hi
    have hy := hR.at hi
    have hO1 : OW G := hO.go h1.2.1
    have ht := takeS (d := ((0, 0) : Int × Int)) hi
    have hTl := hT.len (by rw [List.length_take]; omega)
    rw [List.length_take] at hTl
    have ec : ((i + 1 : Nat) : Int) = (i : Int) + 1 := by omega
    have c0 := hs.1.2.1.1
    have c1 := hs.1.2.2.1.1
    have hne : gfd G 3 0 sp ≠ gfd G 3 1 sp := hO1.ne 3 0 3 1 hs.1.1 hs.1.1 (hO1.nn (by omega) (by omega)) (by omega)
    obtain ⟨x, hx, hfd⟩ := hs.find (E := E) (wMask (R.getD i (0, 0)).1 set)
    refine b_X2_fold_28 ⟨h5.1.1, fun h9 => by omega, fun _ => ⟨h5.1.1, h5.1.2.1.1, by omega, e4, h7, ?_⟩⟩
    rw [e1, h9, h3]
    refine ⟨okp_only ⟨hy.1.1, Int.le_trans hy.1.2.1 (by decide)⟩ hset, h2, hs.1.1, Call.pure hx ⟨fun hxn => ?_, fun hxm => ?_⟩⟩
    · rcases hfd with ⟨h10, -⟩ | ⟨b, hb, hxb, hkb⟩
      · exact (hxn h10).elim
      · subst hxb
        obtain ⟨g1, g2, g3, g4, g5⟩ := hs.elt hb
        have hbT := hT.2.2 _ (show T.getD b (0, 0) ∈ T by rw [List.getD_eq_getElem?_getD, List.getElem?_eq_getElem hb]; exact List.getElem_mem hb)
        have hup := hT.upd (y := R.getD i (0, 0)) hb hkb hy.2
        rw [← ht] at hup
        have hbn := hy.2
        unfold bnd at hbn
        have hgo : ∀ (v : Int), v = aggS k (T.getD b (0, 0)).2 (R.getD i (0, 0)).2 → V E M_X2_fold 28 [some (rv p), some (rv fr), some (rv wd), some (iv ((i : Int) + 1)), none, none] [] (sel G (gfd G 3 1 sp) (b : Int) v) c s (fun _ G' => spF E G0 G' sp ∧ RowH G' sp 0 (foldR k set R)) X := fun v hv => by
          obtain ⟨s1, s2⟩ := hs.setV (v := v) hb hne
          have := ih (i + 1) (sel G (gfd G 3 1 sp) (b : Int) v) _ (by omega) (hj0.ru hO h4 hs.1 hfr s1) s2 (by rw [hkb, hv]; exact hup)
          rw [ec] at this
          exact this
        refine ⟨h7, fun hk8 => ?_, fun hk8 => ?_⟩
        · rw [h8] at hk8
          rw [h3]
          refine ⟨h2, hs.1.1, h2, hs.1.1, hs.1.2.2.1.1, by omega, g5, h5.1.1, h5.1.2.2.1.1, by omega, e5, hs.1.2.2.1.1, by omega, g5, fun G3 e9 => ⟨i32s (by omega), ?_⟩⟩
          rw [e9, g2, e2]
          exact hgo _ (by unfold aggS; rw [if_neg hk8])
        · rw [h8] at hk8
          rw [h3]
          refine ⟨h2, hs.1.1, hs.1.2.2.1.1, by omega, g5, h5.1.1, h5.1.2.2.1.1, by omega, e5, ?_, hs.1.2.2.1.1, by omega, g5, fun G3 e9 => ⟨i32s (by omega), ?_⟩⟩
          · rw [g2, e2]; exact i64s (by omega)
          · rw [e9, g2, e2]
            exact hgo _ (by unfold aggS; rw [if_pos hk8])
    · rcases hfd with ⟨-, hnk⟩ | ⟨b, hb, hxb, -⟩
      · have hput := hT.put (y := R.getD i (0, 0)) hnk hy.2
        rw [← ht] at hput
        rw [h3]
        refine ⟨h2, h5.1.1, h5.1.2.2.1.1, by omega, e5, hs.1.1, ?_⟩
        rw [e2]
        refine Call.to (ok_putR hs hT.1 (by omega)) (Nat.zero_le _) (Nat.zero_le _) fun _ G3 hq => ⟨i32s (by omega), ?_⟩
        have := ih (i + 1) G3 _ (by omega) (hj0.ru hO h4 hs.1 hfr hq.1) hq.2 hput
        rw [ec] at this
        exact this
      · omega
theorem ok_fold (hL : LW E G) (hO : OW G) (hp : gcl G p = 3) (hsp : gfd G 2 2 p = sp) (hs : ∃ n' R', RowH G sp n' R') (hfr : fr ≠ sp) (h5 : RowH G fr n R) (hR : RV n R) (hwd : gcl G wd = 11) (hk : gfd G 10 0 wd = k) (hst : gfd G 10 1 wd = set) (hset : 0 ≤ set ∧ set ≤ 7) :
    Ok E M_X2_fold [rv p, rv fr, rv wd] G 0 0 (fun _ G' => spF E G G' sp ∧ RowH G' sp n (if n = 0 then foldR k set R else R)) (fun _ _ => False) := by
  obtain ⟨n', R', hs⟩ := hs
  have h4 := hs.1.1
  refine i_X2_fold ⟨h5.1.1, fun h0 => ?_, fun h0 => ?_⟩
  · rw [h5.2.1] at h0
    rw [hsp, if_pos h0]
    refine ⟨hp, h4, Call.to (ok_vec hs) (Nat.le_refl _) (Nat.le_refl _) fun _ G1 hq => ?_⟩
    have hj : FlS E G G1 p sp fr wd n R k set := FlS.ru ⟨spF.refl hL, hp, hsp, h5, hwd, hk, hst⟩ hO h4 hs.1 hfr hq.1
    rw [h0] at hj hR ⊢
    exact v_fold hO h4 hfr hR hset R.length 0 G1 [] (by omega) hj hq.2 ⟨List.Pairwise.nil, fun g w => ⟨fun h9 => (List.not_mem_nil h9).elim, fun ⟨⟨y, hy, _⟩, _⟩ => (List.not_mem_nil (show y ∈ ([] : List (Int × Int)) from hy)).elim⟩, fun y hy => (List.not_mem_nil hy).elim⟩
  · rw [h5.2.1] at h0
    rw [hsp, if_neg h0]
    refine ⟨hp, h5.1.1, Call.pure (h5.single hR) ⟨h4, Call.to (ok_num hs) (Nat.le_refl _) (Nat.le_refl _) fun _ G1 hq => ⟨(spF.refl hL).ru hs.1 h4 hq.1, ?_⟩⟩⟩
    rcases hR.2.2.2 with h9 | ⟨h9, v, h8⟩
    · exact (h0 h9).elim
    · rw [if_neg h0] at hq
      rw [h9, h8]
      rw [h8] at hq
      exact hq.2
end S66
