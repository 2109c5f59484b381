/-! results joined: the loops -/
section S64
variable {E : EE} {G G' G2 G0 : Gt} {c s : Nat} {Q X : Int → Gt → Prop} {a r q l u v n m p sp w k set lo up nl nu wd : Int} {W : Nat → Nat → Int → Prop} {L A : Int → Prop} {R U : List (Int × Int)}
theorem RV.at (h : RV n R) {i : Nat} (hi : i < R.length) : cOk (R.getD i (0, 0)).1 ∧ bnd (R.getD i (0, 0)).2 :=
  h.2.2.1 _ (by rw [List.getD_eq_getElem?_getD, List.getElem?_eq_getElem hi]; exact List.getElem_mem hi)
theorem RV.lead (h : RV n R) (hn : n ≠ 0) : R.length = 1 ∧ bnd (R.getD 0 (0, 0)).2 := by
  rcases h.2.2.2 with h1 | ⟨h1, v, h2⟩
  · exact (hn h1).elim
  · have h3 : R.length = 1 := by rw [h2]; rfl
    exact ⟨h3, (h.at (i := 0) (by omega)).2⟩
theorem RowH.elt (h : RowH G r n R) {i : Nat} (hi : i < R.length) : gel G (gfd G 3 0 r) (i : Int) = (R.getD i (0, 0)).1 ∧ gel G (gfd G 3 1 r) (i : Int) = (R.getD i (0, 0)).2 ∧ gfd G 3 2 r = R.length ∧ (i : Int) < gln G (gfd G 3 0 r) ∧ (i : Int) < gln G (gfd G 3 1 r) := by
  have ha := h.at hi
  have hl := h.len
  have h12 := h.1.2.2.2.1
  exact ⟨by rw [ha]; rfl, by rw [ha]; rfl, hl.symm, by rw [h.1.2.1.2]; omega, by rw [h.1.2.2.1.2]; omega⟩
/-- the pile, its spare result, two others and a word, while a row is made -/
def JnS (E : EE) (G0 G : Gt) (p sp lo up wd : Int) (nl nu : Int) (R U : List (Int × Int)) (k set : Int) : Prop :=
  spF E G0 G sp ∧ gcl G p = 3 ∧ gfd G 2 2 p = sp ∧ RowH G lo nl R ∧ RowH G up nu U ∧ gcl G wd = 11 ∧ gfd G 10 0 wd = k ∧ gfd G 10 1 wd = set
theorem JnS.ru (h : JnS E G0 G p sp lo up wd nl nu R U k set) (hO : OW G0) (h4 : gcl G0 sp = 4) (hs : RSh G sp) (hlo : lo ≠ sp) (hup : up ≠ sp) (hru : RU G G' sp) : JnS E G0 G' p sp lo up wd nl nu R U k set := by
  obtain ⟨h1, h2, h3, h5, h6, h7, h8, h9⟩ := h
  have hO1 : OW G := hO.go h1.2.1
  have hf := spF.ru (spF.refl h1.1) hs (hs.1) hru
  exact ⟨h1.ru hs h4 hru, by rw [hru.1]; exact h2, by rw [hru.2.1 2 2 p (by omega)]; exact h3, hf.row hO1 hs.1 h5 hlo, hf.row hO1 hs.1 h6 hup, by rw [hru.1]; exact h7, by rw [hru.2.1 10 0 wd (by omega)]; exact h8, by rw [hru.2.1 10 1 wd (by omega)]; exact h9⟩
theorem v_join48 (hO : OW G0) (h4 : gcl G0 sp = 4) (hlo : lo ≠ sp) (hup : up ≠ sp) (hn : nl ≠ 0) (hR : RV nl R) (hU : RV nu U) : ∀ (j i : Nat) (G : Gt), i + j = U.length → JnS E G0 G p sp lo up wd nl nu R U k set → RowH G sp 0 (fmJ (fun y => jnV k (R.getD 0 (0, 0)).2 y.2 y.2) (U.take i)) →
    V E M_X2_join 48 [some (rv p), some (rv wd), some (rv lo), some (rv up), some (iv (i : Int)), none] [] G c s (fun rr G' => rr = 1 ∧ spF E G0 G' sp ∧ RowH G' sp 0 (fmJ (fun y => jnV k (R.getD 0 (0, 0)).2 y.2 y.2) U)) X := by
  have h12 := hU.1
  have hl0 := hR.lead hn
  intro j
  induction j with
  | zero =>
    intro i G hij hj hs
    obtain ⟨h1, h2, h3, h5, h6, h7, h8, h9⟩ := hj
    have hl := h6.len
    have hi : i = U.length := by omega
    subst hi
    rw [List.take_length] at hs
    refine b_X2_join_48 ⟨h6.1.1, fun _ => ⟨rfl, h1, hs⟩, fun h9 => by unfold rN at hl; omega⟩
  | succ j ih =>
    intro i G hij hj hs
    have hj0 := hj
    obtain ⟨h1, h2, h3, h5, h6, h7, h8, h9⟩ := hj
    have hi : i < U.length := by omega
    obtain ⟨e1, e2, e3, e4, e5⟩ := h6.elt hi
    obtain ⟨f1, f2, f3, f4⟩ := fm_step (f := fun y => jnV k (R.getD 0 (0, 0)).2 y.2 y.2) hU.2.1 hi
    have hy := hU.at hi
    refine b_X2_join_48 ⟨h6.1.1, fun h9 => by omega, fun _ => ⟨h7, h5.1.1, Call.pure (h5.single hR) ?_⟩⟩
    rw [if_neg hn, e1, e2, h8]
    refine ⟨h6.1.1, h6.1.2.2.1.1, by omega, e5, h6.1.1, h6.1.2.1.1, by omega, e4, h6.1.1, h6.1.2.2.1.1, by omega, e5, h2, ?_⟩
    refine Call.to (ok_joinValues h2 h3 hs f2 (by omega) hl0.2 hy.2 (fun y hy => by have := f3 y hy; omega)) (Nat.zero_le _) (Nat.zero_le _) fun _ G3 hq => ⟨i32s (by omega), ?_⟩
    rw [f1] at hq
    have := ih (i + 1) G3 (by omega) (hj0.ru hO h4 hs.1 hlo hup hq.1) hq.2
    rw [show ((i + 1 : Nat) : Int) = (i : Int) + 1 by omega] at this
    exact this
theorem v_join101 (hO : OW G0) (h4 : gcl G0 sp = 4) (hlo : lo ≠ sp) (hup : up ≠ sp) (hR : RV nl R) (hU : RV nu U) (hset : 0 ≤ set ∧ set ≤ 7) {f : Int × Int → Option Int} {bad : Int × Int → Bool} (hb1 : nu ≠ 0 → (∀ y, f y = jnV k y.2 (U.getD 0 (0, 0)).2 y.2) ∧ ∀ y, bad y = false) (hb0 : nu = 0 → f = jnF k set U ∧ ∀ y, bad y = decide (2 ≤ U.countP (sml set (wMask y.1 set)))) :
    ∀ (j i : Nat) (G : Gt), i + j = R.length → JnS E G0 G p sp lo up wd nl nu R U k set → RowH G sp 0 (fmJ f (R.take i)) →
    V E M_X2_join 101 [some (rv p), some (rv wd), some (rv lo), some (rv up), some (iv (i : Int)), none] [] G c s (fun rr G' => spF E G0 G' sp ∧ (∃ n' R', RowH G' sp n' R') ∧ ((rr = 1 ∧ (R.drop i).any bad = false ∧ RowH G' sp 0 (fmJ f R)) ∨ (rr = 0 ∧ (R.drop i).any bad = true))) X := by
  have h12 := hR.1
  intro j
  induction j with
  | zero =>
    intro i G hij hj hs
    obtain ⟨h1, h2, h3, h5, h6, h7, h8, h9⟩ := hj
    have hl := h5.len
    have hi : i = R.length := by omega
    subst hi
    rw [List.take_length] at hs
    refine b_X2_join_101 ⟨h5.1.1, fun _ => ⟨h1, ⟨_, _, hs⟩, Or.inl ⟨rfl, by rw [List.drop_length]; rfl, hs⟩⟩, fun h9 => by unfold rN at hl; omega⟩
  | succ j ih =>
    intro i G hij hj hs
    have hj0 := hj
    obtain ⟨h1, h2, h3, h5, h6, h7, h8, h9⟩ := hj
    have hi : i < R.length := by omega
    obtain ⟨e1, e2, e3, e4, e5⟩ := h5.elt hi
    obtain ⟨f1, f2, f3, f4⟩ := fm_step (f := f) hR.2.1 hi
    have hy := hR.at hi
    have hul := h6.len
    have eU : gfd G 3 2 up = U.length := hul.symm
    have hdr : R.drop i = R.getD i (0, 0) :: R.drop (i + 1) := by
      rw [List.drop_eq_getElem_cons hi, List.getD_eq_getElem?_getD, List.getElem?_eq_getElem hi]; rfl
    have ec : ((i + 1 : Nat) : Int) = (i : Int) + 1 := by omega
    refine b_X2_join_101 ⟨h5.1.1, fun h9 => by omega, fun _ => ⟨h6.1.1, ?_⟩⟩
    rw [e1]
    intro J hJ
    -- a place: found there, nowhere, or many
    have hplace : ∀ (b : Nat), b < U.length → f (R.getD i (0, 0)) = jnV k (R.getD i (0, 0)).2 (U.getD b (0, 0)).2 (R.getD i (0, 0)).2 → bad (R.getD i (0, 0)) = false → J (b : Int) G c s := fun b hb hf hbad => hJ _ _ _ _ (by
      obtain ⟨g1, g2, g3, g4, g5⟩ := h6.elt hb
      refine ⟨h6.1.1, fun _ => ⟨fun h9 => by omega, fun _ => ?_⟩, fun h9 => by omega⟩
      rw [e1, e2, g2, h8]
      refine ⟨h7, h5.1.1, h5.1.2.2.1.1, by omega, e5, h6.1.1, h6.1.2.2.1.1, by omega, g5, h5.1.1, h5.1.2.1.1, by omega, e4, h5.1.1, h5.1.2.2.1.1, by omega, e5, h2, ?_⟩
      refine Call.to (ok_joinValues h2 h3 hs f2 (by omega) hy.2 (hU.at hb).2 (fun y hy => by have := f3 y hy; omega)) (Nat.zero_le _) (Nat.zero_le _) fun _ G3 hq => ⟨i32s (by omega), ?_⟩
      rw [← hf, f1] at hq
      have := ih (i + 1) G3 (by omega) (hj0.ru hO h4 hs.1 hlo hup hq.1) hq.2
      rw [hdr, List.any_cons, hbad, Bool.false_or]
      rw [ec] at this
      exact this)
    refine ⟨fun hu0 => ?_, fun hu1 => ?_⟩
    · rw [h6.2.1] at hu0
      obtain ⟨hf, hbad⟩ := hb0 hu0
      rw [h9]
      refine ⟨h5.1.1, h5.1.2.1.1, by omega, e4, h7, Call.to (ok_findSame h6 hU ⟨hy.1.1, Int.le_trans hy.1.2.1 (by decide)⟩ hset) (Nat.zero_le _) (Nat.zero_le _) fun rr G3 hq => ?_⟩
      obtain ⟨rfl, hq⟩ := hq
      rcases hq with ⟨q1, q2⟩ | ⟨q1, b, b1, b2, b3⟩ | ⟨q1, q2⟩
      · subst q2
        refine hJ _ _ _ _ ⟨h6.1.1, fun _ => ⟨fun _ => ⟨i32s (by omega), ?_⟩, fun h9 => absurd h9 (by decide)⟩, fun h9 => by omega⟩
        have hfn : f (R.getD i (0, 0)) = none := by
          rw [hf]
          unfold jnF
          have : U.find? (sml set (wMask (R.getD i (0, 0)).1 set)) = none := by
            rw [List.find?_eq_none]
            intro z hz h8
            exact (List.countP_eq_zero.mp q1) z hz h8
          rw [this]
        have hbd : bad (R.getD i (0, 0)) = false := by
          rw [hbad]
          exact decide_eq_false (by rw [show U.countP (sml set (wMask (R.getD i (0, 0)).1 set)) = 0 from q1]; omega)
        rw [hfn] at f1
        have f1' : fmJ f (R.take i) = fmJ f (R.take (i + 1)) := f1
        rw [f1'] at hs
        have := ih (i + 1) G3 (by omega) hj0 hs
        rw [hdr, List.any_cons, hbd, Bool.false_or]
        rw [ec] at this
        exact this
      · subst b2
        refine hplace b b1 ?_ ?_
        · rw [hf]
          unfold jnF
          rw [find_of_count (f := sml set (wMask (R.getD i (0, 0)).1 set)) q1 b1 (decide_eq_true b3)]
        · rw [hbad]
          exact decide_eq_false (by rw [show U.countP (sml set (wMask (R.getD i (0, 0)).1 set)) = 1 from q1]; omega)
      · subst q2
        refine hJ _ _ _ _ ⟨h6.1.1, fun h9 => by omega, fun _ => ⟨h1, ⟨_, _, hs⟩, Or.inr ⟨rfl, ?_⟩⟩⟩
        rw [hdr, List.any_cons, hbad, show decide (2 ≤ U.countP (sml set (wMask (R.getD i (0, 0)).1 set))) = true from decide_eq_true q1, Bool.true_or]
    · rw [h6.2.1] at hu1
      obtain ⟨hf, hbad⟩ := hb1 hu1
      have := hU.lead hu1
      exact hplace 0 (by omega) (hf _) (hbad _)
theorem ok_join (hL : LW E G) (hO : OW G) (hp : gcl G p = 3) (hsp : gfd G 2 2 p = sp) (hs : ∃ n' R', RowH G sp n' R') (hlo : lo ≠ sp) (hup : up ≠ sp) (h5 : RowH G lo nl R) (h6 : RowH G up nu U) (hR : RV nl R) (hU : RV nu U) (hwd : gcl G wd = 11) (hk : gfd G 10 0 wd = k) (hst : gfd G 10 1 wd = set) (hset : 0 ≤ set ∧ set ≤ 7) :
    Ok E M_X2_join [rv p, rv wd, rv lo, rv up] G 0 0 (fun rr G' => spF E G G' sp ∧ (∃ n' R', RowH G' sp n' R') ∧ ((rr = 0 ∧ joinR k set nl R nu U = none) ∨ ∃ n' R', rr = 1 ∧ joinR k set nl R nu U = some (n', R') ∧ RowH G' sp n' R')) (fun _ _ => False) := by
  obtain ⟨n', R', hs⟩ := hs
  have h4 := hs.1.1
  have hvec : ∀ (Q : Int → Gt → Prop), (∀ G1, RU G G1 sp → RowH G1 sp 0 [] → JnS E G G1 p sp lo up wd nl nu R U k set → ((nl = 0 → V E M_X2_join 101 [some (rv p), some (rv wd), some (rv lo), some (rv up), some (iv 0), none] [] G1 0 0 Q (fun _ _ => False)) ∧ (nl ≠ 0 → V E M_X2_join 48 [some (rv p), some (rv wd), some (rv lo), some (rv up), some (iv 0), none] [] G1 0 0 Q (fun _ _ => False)))) →
      (gcl G p = 3 ∧ gcl G (gfd G 2 2 p) = 4 ∧ Call E M_X3_becomeVector [rv (gfd G 2 2 p)] G 0 0 (fun _ _ => False) (fun _ G6 c7 s8 => gcl G6 lo = 4 ∧ (((gfd G6 3 3 lo) = 0 → V E M_X2_join 101 [some (rv p), some (rv wd), some (rv lo), some (rv up), some (iv 0), none] [] G6 c7 s8 Q (fun _ _ => False)) ∧ ((gfd G6 3 3 lo) ≠ 0 → V E M_X2_join 48 [some (rv p), some (rv wd), some (rv lo), some (rv up), some (iv 0), none] [] G6 c7 s8 Q (fun _ _ => False))))) := fun Q hQ => by
    rw [hsp]
    refine ⟨hp, h4, Call.to (ok_vec hs) (Nat.le_refl _) (Nat.le_refl _) fun _ G1 hq => ?_⟩
    have hj : JnS E G G1 p sp lo up wd nl nu R U k set := JnS.ru ⟨spF.refl hL, hp, hsp, h5, h6, hwd, hk, hst⟩ hO h4 hs.1 hlo hup hq.1
    have := hQ G1 hq.1 hq.2 hj
    refine ⟨hj.2.2.2.1.1.1, ?_⟩
    rw [hj.2.2.2.1.2.1]
    exact this
  have hseq : ∀ (P : Int → Gt → Prop), (∀ rr G', P rr G' → spF E G G' sp ∧ (∃ n' R', RowH G' sp n' R') ∧ ((rr = 0 ∧ joinR k set nl R nu U = none) ∨ ∃ n' R', rr = 1 ∧ joinR k set nl R nu U = some (n', R') ∧ RowH G' sp n' R')) → Ok E M_X2_join [rv p, rv wd, rv lo, rv up] G 0 0 P (fun _ _ => False) → Ok E M_X2_join [rv p, rv wd, rv lo, rv up] G 0 0 (fun rr G' => spF E G G' sp ∧ (∃ n' R', RowH G' sp n' R') ∧ ((rr = 0 ∧ joinR k set nl R nu U = none) ∨ ∃ n' R', rr = 1 ∧ joinR k set nl R nu U = some (n', R') ∧ RowH G' sp n' R')) (fun _ _ => False) := fun P hP h => h.mono hP (fun _ _ h9 => h9)
  by_cases hn : nl ≠ 0
  · by_cases hm : nu ≠ 0
    · have l1 := hR.lead hn
      have l2 := hU.lead hm
      refine i_X2_join ⟨h5.1.1, fun J hJ => ⟨fun h9 => (hn (by rw [← h5.2.1]; exact h9)).elim, fun _ => ⟨h6.1.1, fun h9 => (hm (by rw [← h6.2.1]; exact h9)).elim, fun _ => ⟨hwd, h5.1.1, Call.pure (h5.single hR) ⟨h6.1.1, Call.pure (h6.single hU) ⟨hp, ?_⟩⟩⟩⟩⟩⟩
      rw [if_neg hn, if_neg hm, hk]
      refine Call.to (ok_joinNumbers hp hsp hs l1.2 l2.2) (Nat.le_refl _) (Nat.le_refl _) fun rr G1 hq => ?_
      obtain ⟨q1, q2, q3⟩ := hq
      subst q1
      refine ⟨by split <;> simp, (spF.refl hL).ru hs.1 h4 q2, ⟨_, _, q3⟩, ?_⟩
      have hJ9 : joinR k set nl R nu U = if k = 13 ∧ (U.getD 0 (0, 0)).2 = 0 then none else some (1, [(666, if k = 14 then (if (U.getD 0 (0, 0)).2 < (R.getD 0 (0, 0)).2 then 1000 else 0) else rkV k (R.getD 0 (0, 0)).2 (U.getD 0 (0, 0)).2)]) := by
        unfold joinR
        exact if_pos ⟨hn, hm⟩
      rw [hJ9]
      by_cases hc : k = 13 ∧ (U.getD 0 (0, 0)).2 = 0
      · exact Or.inl ⟨if_pos hc, if_pos hc⟩
      · exact Or.inr ⟨_, _, if_neg hc, if_neg hc, q3⟩
    · have hm0 : nu = 0 := by
        by_cases h9 : nu = 0
        · exact h9
        · exact (hm h9).elim
      refine hseq _ (fun rr G' (h9 : rr = 1 ∧ spF E G G' sp ∧ RowH G' sp 0 (fmJ (fun y => jnV k (R.getD 0 (0, 0)).2 y.2 y.2) U)) => ⟨h9.2.1, ⟨_, _, h9.2.2⟩, Or.inr ⟨_, _, h9.1, ?_, h9.2.2⟩⟩) ?_
      · unfold joinR
        rw [if_neg (fun h9 => hm h9.2), if_pos hn]
      · refine i_X2_join ⟨h5.1.1, fun J hJ => ?_⟩
        have hJ2 : J := hJ (hvec _ fun G1 _ hv hj => ⟨fun h9 => (hn h9).elim, fun _ => v_join48 hO h4 hlo hup hn hR hU U.length 0 G1 (by omega) hj hv⟩)
        exact ⟨fun _ => hJ2, fun _ => ⟨h6.1.1, fun _ => hJ2, fun h9 => (h9 (by rw [h6.2.1]; exact hm0)).elim⟩⟩
  · have hn0 : nl = 0 := by
      by_cases h9 : nl = 0
      · exact h9
      · exact (hn h9).elim
    by_cases hm : nu ≠ 0
    · refine hseq _ (fun rr G' (h9 : spF E G G' sp ∧ (∃ n' R', RowH G' sp n' R') ∧ ((rr = 1 ∧ (R.drop 0).any (fun _ => false) = false ∧ RowH G' sp 0 (fmJ (fun y => jnV k y.2 (U.getD 0 (0, 0)).2 y.2) R)) ∨ (rr = 0 ∧ (R.drop 0).any (fun _ => false) = true))) => ⟨h9.1, h9.2.1, ?_⟩) ?_
      · rcases h9.2.2 with h8 | h8
        · refine Or.inr ⟨_, _, h8.1, ?_, h8.2.2⟩
          unfold joinR
          rw [if_neg (fun h9 => hn h9.1), if_neg hn, if_pos hm]
        · have := h8.2
          simp at this
      · refine i_X2_join ⟨h5.1.1, fun J hJ => ?_⟩
        have hJ2 : J := hJ (hvec _ fun G1 _ hv hj => ⟨fun _ => v_join101 hO h4 hlo hup hR hU hset (bad := fun _ => false) (fun _ => ⟨fun _ => rfl, fun _ => rfl⟩) (fun h9 => (hm h9).elim) R.length 0 G1 (by omega) hj hv, fun h9 => (hn h9).elim⟩)
        exact ⟨fun _ => hJ2, fun h9 => (h9 (by rw [h5.2.1]; exact hn0)).elim⟩
    · have hm0 : nu = 0 := by
        by_cases h9 : nu = 0
        · exact h9
        · exact (hm h9).elim
      refine hseq _ (fun rr G' (h9 : spF E G G' sp ∧ (∃ n' R', RowH G' sp n' R') ∧ ((rr = 1 ∧ (R.drop 0).any (fun y => decide (2 ≤ U.countP (sml set (wMask y.1 set)))) = false ∧ RowH G' sp 0 (fmJ (jnF k set U) R)) ∨ (rr = 0 ∧ (R.drop 0).any (fun y => decide (2 ≤ U.countP (sml set (wMask y.1 set)))) = true))) => ⟨h9.1, h9.2.1, ?_⟩) ?_
      · rw [List.drop_zero] at h9
        unfold joinR
        rw [if_neg (fun h9 => hn h9.1), if_neg hn, if_neg hm]
        rcases h9.2.2 with h8 | h8
        · rw [h8.2.1]
          exact Or.inr ⟨_, _, h8.1, if_neg (by decide), h8.2.2⟩
        · rw [h8.2]
          exact Or.inl ⟨h8.1, if_pos rfl⟩
      · refine i_X2_join ⟨h5.1.1, fun J hJ => ?_⟩
        have hJ2 : J := hJ (hvec _ fun G1 _ hv hj => ⟨fun _ => v_join101 hO h4 hlo hup hR hU hset (fun h9 => (h9 hm0).elim) (fun _ => ⟨rfl, fun _ => rfl⟩) R.length 0 G1 (by omega) hj hv, fun h9 => (hn h9).elim⟩)
        exact ⟨fun _ => hJ2, fun h9 => (h9 (by rw [h5.2.1]; exact hn0)).elim⟩
end S64
