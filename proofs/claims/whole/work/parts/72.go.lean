/-! the pile goes through a word -/
section S72
variable {E : EE} {G G' G2 G0 : Gt} {Q X : Int → Gt → Prop} {a r q l u v n m p sp wn k set fr to wd g st t one two time sel nl : Int} {R T : List (Int × Int)} {zs : List Zt} {ser : List Int} {smp : List (Sm4 × Int)} {dn wr : Int} {rows K : List Int} {S : List Rw} {w : Wd}
theorem spF.rd (h : spF E G0 G sp) (wn : Int) : rdS E G0 G sp wn := ⟨h.1, h.2.1, h.2.2.mono (fun _ _ _ h9 => Or.inl h9) (fun _ h9 => h9) (fun _ h9 => h9)⟩
theorem PlS.row (h : PlS G p wn rows sp K S) {i : Nat} (hi : i < rows.length) : rows.getD i 0 ∈ K ∧ rows.getD i 0 ≠ sp := by
  have hm := getD_mem hi
  obtain ⟨h1, h2, h3, h4, h5, h6, h7, h8, h9, -⟩ := h
  refine ⟨h8.mem_iff.mp (List.mem_cons_of_mem _ hm), fun h10 => ?_⟩
  have := h8.nodup_iff.mpr h9
  exact (List.nodup_cons.mp this).1 (by rw [← h10]; exact hm)
theorem PlS.spK (h : PlS G p wn rows sp K S) : sp ∈ K := h.2.2.2.2.2.2.2.1.mem_iff.mp List.mem_cons_self
/-- another result is left while the spare one and the window change -/
theorem rdS.row (h : rdS E G0 G sp wn) (hO : OW G0) (h4 : gcl G0 sp = 4) (hr : RowH G0 r n R) (hne : r ≠ sp) : RowH G r n R := by
  have g4 := hr.1.1
  have c0 := hr.1.2.1.1
  have c1 := hr.1.2.2.1.1
  have n0 := hO.nn (y := gfd G0 3 0 r) (by omega) (by omega)
  have n1 := hO.nn (y := gfd G0 3 1 r) (by omega) (by omega)
  refine hr.fr h.2.2 (fun j h9 => by rcases h9 with h9 | h9; exact hne h9.2.2; omega) (fun h9 => ?_) (fun h9 => ?_)
  · rcases h9 with h9 | h9
    · exact absurd h9 (hO.ne 3 0 3 0 g4 h4 n0 (fun h8 => hne h8.2.2))
    · exact absurd h9 (hO.ne 3 0 3 1 g4 h4 n0 (by omega))
  · rcases h9 with h9 | h9
    · exact absurd h9 (hO.ne 3 1 3 0 g4 h4 n1 (by omega))
    · exact absurd h9 (hO.ne 3 1 3 1 g4 h4 n1 (fun h8 => hne h8.2.2))
theorem perm_swap {rows K : List Int} {sp : Int} {i : Nat} (h : (sp :: rows).Perm K) (hi : i < rows.length) : (rows.getD i 0 :: rows.set i sp).Perm K := by
  refine List.Perm.trans ?_ h
  have e : rows.getD i 0 = rows[i] := by rw [List.getD_eq_getElem?_getD, List.getElem?_eq_getElem hi]; rfl
  rw [e, List.set_eq_take_append_cons_drop, if_pos hi]
  have e2 : rows = rows.take i ++ rows[i] :: rows.drop (i + 1) := by
    conv => lhs; rw [← List.take_append_drop i rows, List.drop_eq_getElem_cons hi]
  have p1 : (rows[i] :: (rows.take i ++ sp :: rows.drop (i + 1))).Perm (rows[i] :: sp :: (rows.take i ++ rows.drop (i + 1))) := List.perm_middle.cons _
  have p2 : (sp :: rows).Perm (sp :: rows[i] :: (rows.take i ++ rows.drop (i + 1))) := by
    refine List.Perm.cons _ ?_
    conv => lhs; rw [e2]
    exact List.perm_middle
  exact p1.trans ((List.Perm.swap sp rows[i] _).trans p2.symm)
/-- the end of a word: the spare row is kept in its bounds, and takes its place -/
theorem go_fin {x : Int} {n' : Int} {R' : List (Int × Int)} {S0 : List Rw} {c s : Nat} {Q9 : Int → Gt → Prop} (hL : LW E G) (hO : OW G) (h : PlS G p wn rows sp K S) (hd : rdS E G G' sp wn) (hr : RowH G' sp n' R') (htop : gfd G 2 3 p - 1 = (S0.length : Int)) (hS0 : S0.length < 10) (hpre : ∀ i, i < S0.length → i < S.length ∧ S0.getD i (0, []) = S.getD i (0, [])) (hv : x = 1 → RV n' (bdL R')) (hx : x = 0 ∨ x = 1)
    (hQ : ∀ G32, evF E G G32 p wn K → gfd G32 2 3 p = gfd G 2 3 p → (∃ rows' sp', PlS G32 p wn rows' sp' K (if x = 1 then S0 ++ [(n', bdL R')] else S0)) → Q9 x G32) :
    (gcl G' p = 3 ∧ gcl G' (gfd G' 2 2 p) = 4 ∧ Call E M_X3_keepInBounds [rv (gfd G' 2 2 p)] G' c s X (fun _ G21 c22 s23 => gcl G21 p = 3 ∧ gcl G21 p = 3 ∧ gcl G21 (gfd G21 2 0 p) = 14 ∧ Call E M_A_set [rv (gfd G21 2 0 p), iv ((gfd G 2 3 p) - 1), rv (gfd G21 2 2 p)] G21 c22 s23 X (fun _ G28 _ _ => gcl G28 p = 3 ∧ ∀ G32 : Gt, G32 = (sfd G28 2 2 p (alAt G (gfd G 2 0 p) ((gfd G 2 3 p) - 1))) → (x = 0 ∨ x = 1) ∧ Q9 x G32))) := by
  have hp0 := h
  obtain ⟨h1, h2, h3, h4, h5, h6, h7, h8, h9, h10, h11, h12⟩ := h
  have hF := hd.2.2
  have s4 : gcl G sp = 4 := by obtain ⟨n, R, h⟩ := h10 sp hp0.spK; exact h.1.1
  have p3 : gcl G' p = 3 := by rw [hF.1 p (by omega)]; exact h1
  have e22 : gfd G' 2 2 p = sp := by rw [hF.2.1 2 2 p (by decide) (by omega) (fun h9 => by omega)]; exact h5
  have e20 : gfd G' 2 0 p = gfd G 2 0 p := hF.2.1 2 0 p (by decide) (by omega) (fun h9 => by omega)
  rw [e22]
  refine ⟨p3, hr.1.1, Call.to (ok_bndR hr) (Nat.zero_le _) (Nat.zero_le _) fun _ G21 hq => ?_⟩
  have d21 := hd.ru hr.1 s4 hq.1
  have F21 := d21.2.2
  have p21 : gcl G21 p = 3 := by rw [F21.1 p (by omega)]; exact h1
  have e21 : gfd G21 2 2 p = sp := by rw [F21.2.1 2 2 p (by decide) (by omega) (fun h9 => by omega)]; exact h5
  have e210 : gfd G21 2 0 p = gfd G 2 0 p := F21.2.1 2 0 p (by decide) (by omega) (fun h9 => by omega)
  have l14 : gcl G21 (gfd G 2 0 p) = 14 := by rw [F21.1 _ (by omega)]; exact h2.1
  have ll := F21.2.2.1 _ h2.1 h2.2
  have eR : lst G21 (gfd G 2 0 p) = rows := by rw [(ll.2 id).1]; exact h3
  have sz21 : gfd G21 13 2 (gfd G 2 0 p) = 10 := by rw [d21.1.size l14 ll.1, eR, h4]; rfl
  rw [e210, e21, htop]
  refine ⟨p21, p21, l14, Call.to (ok_set d21.1 l14 ll.1 (Or.inr (by unfold okE; rw [hq.2.1.1]; omega)) (by omega) (by omega)) (Nat.zero_le _) (Nat.zero_le _) fun _ G28 hs => ?_⟩
  obtain ⟨-, hs⟩ := hs
  rw [eR, Int.toNat_natCast] at hs
  have p28 : gcl G28 p = 3 := by rw [hs.fr.1 p (by omega)]; exact p21
  have hat : alAt G (gfd G 2 0 p) (S0.length : Int) = rows.getD S0.length 0 := by rw [alAt_get hL h2.1 h2.2 (by rw [h3, h4]; exact hS0), h3]
  rw [hat]
  refine ⟨p28, fun G32 e32 => ⟨hx, ?_⟩⟩
  have k28 : FR G21 G32 (fun c k y => c = 2 ∧ k = 2 ∧ y = p) (fun y => y = gfd G 2 0 p) noA := by
    have k0 : FR G21 G28 (fun c k y => c = 2 ∧ k = 2 ∧ y = p) (fun y => y = gfd G 2 0 p) noA := (FR.refl G21).luIn hs rfl
    rw [e32]; exact k0.sfdIn ⟨rfl, rfl, rfl⟩ (by decide)
  have F32 : FR G G32 (fun c k y => (c = 3 ∧ 2 ≤ k ∧ y ∈ K) ∨ (c = 9 ∧ y = wn) ∨ (c = 2 ∧ 2 ≤ k ∧ y = p)) (fun y => y = gfd G 2 0 p) (fun y => ∃ r ∈ K, y = gfd G 3 0 r ∨ y = gfd G 3 1 r) :=
    (F21.mono (fun c k y h9 => by
      rcases h9 with h9 | h9
      · exact Or.inl ⟨h9.1, h9.2.1, by rw [h9.2.2]; exact hp0.spK⟩
      · exact Or.inr (Or.inl h9)) (fun _ h9 => h9.elim) (fun y h9 => ⟨sp, hp0.spK, h9⟩)).andThen k28 (fun c k y _ h9 => Or.inr (Or.inr ⟨h9.1, by omega, h9.2.2⟩)) (fun _ _ h9 => h9) (fun _ _ h9 => h9.elim)
  have hlen : S0.length < rows.length := by rw [h4]; exact hS0
  have hsp9 := hp0.row hlen
  have c20 : gfd G32 2 0 p = gfd G 2 0 p := F32.2.1 2 0 p (by decide) (by omega) (fun h9 => by omega)
  have x13 : ∀ k y, gfd G32 13 k y = gfd G28 13 k y := fun k y => by rw [e32, gfd_sfd, if_neg (by omega)]
  have c32 : lst G32 (gfd G 2 0 p) = rows.set S0.length sp := by rw [e32, lst_sfd (by decide)]; exact hs.2.2.2.2.2.1
  have rowK : ∀ r ∈ K, r ≠ sp → ∀ n R, RowH G r n R → RowH G32 r n R := fun r _ hne n R hr9 =>
    (d21.row hO s4 hr9 hne).fr k28 (fun j h9 => by omega) id id
  have rowSp : RowH G32 sp n' (bdL R') := hq.2.fr k28 (fun j h9 => by omega) id id
  refine hQ G32 ⟨by rw [e32]; exact hs.1.sfd (by decide), by rw [e32]; exact (d21.2.1.luT hs).sfdT (by decide), F32⟩ ?_ ⟨rows.set S0.length sp, rows.getD S0.length 0, ?_⟩
  · rw [k28.2.1 2 3 p (by decide) (by omega) (fun h9 => by omega)]
    exact F21.2.1 2 3 p (by decide) (by omega) (fun h9 => by omega)
  · refine ⟨by rw [F32.1 p (by omega)]; exact h1, by rw [c20]; exact ⟨by rw [F32.1 _ (by omega)]; exact h2.1, (F32.2.2.1 _ h2.1 h2.2).1⟩, by rw [c20]; exact c32, by rw [List.length_set]; exact h4, by rw [e32, gfd_sfd, if_pos ⟨rfl, rfl, rfl⟩], by rw [F32.2.1 2 1 p (by decide) (by omega) (fun h9 => by omega)]; exact h6, by rw [F32.1 wn (by omega)]; exact h7, perm_swap h8 hlen, h9, fun r hr9 => ?_, ?_, ?_⟩
    · by_cases hrs : r = sp
      · rw [hrs]; exact ⟨_, _, rowSp⟩
      · obtain ⟨n1, R1, h13⟩ := h10 r hr9
        exact ⟨n1, R1, rowK r hr9 hrs n1 R1 h13⟩
    · split
      · rw [List.length_append]; show S0.length + 1 ≤ 10; omega
      · omega
    · have hold : ∀ i, i < S0.length → RowH G32 ((rows.set S0.length sp).getD i 0) (S0.getD i (0, [])).1 (S0.getD i (0, [])).2 ∧ RV (S0.getD i (0, [])).1 (S0.getD i (0, [])).2 := fun i hi => by
        obtain ⟨i1, i2⟩ := hpre i hi
        have hri := hp0.row (i := i) (by omega)
        have e : (rows.set S0.length sp).getD i 0 = rows.getD i 0 := by
          rw [List.getD_eq_getElem?_getD, List.getElem?_set, if_neg (by omega), ← List.getD_eq_getElem?_getD]
        rw [e, i2]
        exact ⟨rowK _ hri.1 hri.2 _ _ (h12 i i1).1, (h12 i i1).2⟩
      intro i hi
      by_cases hx1 : x = 1
      · rw [if_pos hx1] at hi ⊢
        rw [List.length_append] at hi
        have hi' : i < S0.length + 1 := hi
        by_cases hit : i = S0.length
        · have e : (rows.set S0.length sp).getD i 0 = sp := by
            rw [hit, List.getD_eq_getElem?_getD, List.getElem?_set, if_pos rfl, if_pos hlen]; rfl
          have e2 : (S0 ++ [((n', bdL R') : Rw)]).getD i (0, []) = (n', bdL R') := by
            rw [hit, List.getD_eq_getElem?_getD, List.getElem?_append_right (Nat.le_refl _), Nat.sub_self]; rfl
          rw [e, e2]
          exact ⟨rowSp, hv hx1⟩
        · have e2 : (S0 ++ [((n', bdL R') : Rw)]).getD i (0, []) = S0.getD i (0, []) := by
            rw [List.getD_eq_getElem?_getD, List.getElem?_append_left (by omega), ← List.getD_eq_getElem?_getD]
          rw [e2]
          exact hold i (by omega)
      · rw [if_neg hx1] at hi ⊢
        exact hold i hi
theorem take_getD {S : List Rw} {k i : Nat} (hi : i < (S.take k).length) : i < S.length ∧ (S.take k).getD i (0, []) = S.getD i (0, []) := by
  rw [List.length_take] at hi
  refine ⟨by omega, ?_⟩
  rw [List.getD_eq_getElem?_getD, List.getElem?_take, if_pos (by omega), ← List.getD_eq_getElem?_getD]
def wNd (w : Wd) : Nat := if w.1 ≤ 7 then 0 else if 10 ≤ w.1 ∧ w.1 ≤ 14 then 2 else 1
def goQ (E : EE) (G G' : Gt) (p wn : Int) (K : List Int) (time : Int) (ser : List Int) (sm : List Sm4) (w : Wd) (S : List Rw) (x : Int) : Prop :=
  evF E G G' p wn K ∧ gfd G' 2 3 p = gfd G 2 3 p ∧ ((x = 1 ∧ ∃ S' rows' sp', evW time ser sm w S = some S' ∧ PlS G' p wn rows' sp' K S') ∨ (x = 0 ∧ evW time ser sm w S = none ∧ ∃ rows' sp' S', PlS G' p wn rows' sp' K S'))
theorem ok_goThrough (hL : LW E G) (hO : OW G) (h : PlS G p wn rows sp K S) (hw : WdH G wd w) (hok : wOk w) (hC : StC G st zs ser smp dn wr) (hi : SC ser (smp.map (·.1))) (hcs : ∀ c ∈ ser, cOk c) (h12 : ser.length ≤ 12) (hnl : nl = gfd G 8 0 st) (htm : 0 ≤ time ∧ time ≤ 100000)
    (hh : gfd G 2 3 p = (S.length : Int) + 1 - wNd w) (hnd : wNd w ≤ S.length) (h10 : S.length - wNd w < 10) :
    Ok E M_X2_goThrough [rv p, rv wd, rv nl, iv time] G 0 0 (fun x G' => goQ E G G' p wn K time ser (smp.map (·.1)) w S x) (fun _ _ => False) := by
  have hp0 := h
  obtain ⟨h1, h2, h3, h4, h5, h6, h7, h8, h9, hK, hS10, hSr⟩ := h
  obtain ⟨w1, w2, w3, w4, w5, w6⟩ := hw
  obtain ⟨k1, k2, k3, k4, k5⟩ := hok
  have hspK := hK sp hp0.spK
  have hsz : gfd G 13 2 (gfd G 2 0 p) = 10 := by rw [hL.size h2.1 h2.2, h3, h4]; rfl
  have htop : gfd G 2 3 p - 1 = ((S.length - wNd w : Nat) : Int) := by omega
  have hat : ∀ i : Nat, i < 10 → alAt G (gfd G 2 0 p) (i : Int) = rows.getD i 0 ∧ OkP E M_A_get [rv (gfd G 2 0 p), iv (i : Int)] G (rows.getD i 0) ∧ gcl G (rows.getD i 0) = 4 := fun i hi9 => by
    have e := alAt_get hL h2.1 h2.2 (i := i) (by rw [h3, h4]; exact hi9)
    rw [h3] at e
    have hg := okp_get (E := E) hL h2.1 h2.2 (i := (i : Int)) (by omega) (by omega)
    rw [e] at hg
    obtain ⟨n1, R1, h13⟩ := hK _ (hp0.row (i := i) (by omega)).1
    exact ⟨e, hg, h13.1.1⟩
  obtain ⟨a1, a2, a3⟩ := hat (S.length - wNd w) h10
  refine i_X2_goThrough ⟨h1, i32s (by omega), fun h9 => by omega, fun _ => ⟨h1, h2.1, okp_size h2.1, fun _ => ?_, fun h9 => by omega⟩⟩
  rw [htop, a1]
  refine ⟨h1, h2.1, a2, Or.inr a3, w1, ?_⟩
  intro J hJ
  rw [w2]
  -- what the end needs
  have fin : ∀ (x : Int) (G15 : Gt) (c s : Nat) (n' : Int) (R' : List (Int × Int)) (S0 : List Rw), rdS E G G15 sp wn → RowH G15 sp n' R' → S0.length = S.length - wNd w → (∀ i, i < S0.length → i < S.length ∧ S0.getD i (0, []) = S.getD i (0, [])) → (x = 1 → RV n' (bdL R')) → ((x = 1 ∧ evW time ser (smp.map (·.1)) w S = some (S0 ++ [(n', bdL R')])) ∨ (x = 0 ∧ evW time ser (smp.map (·.1)) w S = none)) → J x G15 c s := by
    intro x G15 c s n' R' S0 f1 f2 f3 f4 f5 f6
    refine hJ _ _ _ _ ?_
    have := go_fin (X := fun _ _ => False) (c := c) (s := s) (Q9 := fun x G' => goQ E G G' p wn K time ser (smp.map (·.1)) w S x) hL hO hp0 f1 f2 (by rw [f3]; exact htop) (by omega) f4 f5 (by rcases f6 with f6 | f6; exact Or.inr f6.1; exact Or.inl f6.1) (fun G32 q1 q2 ⟨rows', sp', q3⟩ => by
      refine ⟨q1, q2, ?_⟩
      rcases f6 with ⟨f6, f7⟩ | ⟨f6, f7⟩
      · rw [if_pos f6] at q3
        exact Or.inl ⟨f6, _, rows', sp', f7, q3⟩
      · rw [if_neg (by omega)] at q3
        exact Or.inr ⟨f6, f7, rows', sp', _, q3⟩)
    rw [htop, a1] at this
    exact this
  have hSN := hSr (S.length - 1)
  obtain ⟨nsp, Rsp, hrsp⟩ := hspK
  have hsp4 := hrsp.1.1
  have tk : ∀ k, k ≤ S.length → (S.take (S.length - k)).length = S.length - k := fun k _ => by rw [List.length_take]; omega
  have hpre : ∀ k i, i < (S.take (S.length - k)).length → i < S.length ∧ (S.take (S.length - k)).getD i (0, []) = S.getD i (0, []) := fun k i hi => take_getD hi
  rw [w3, h5]
  refine ⟨fun hn0 => ⟨w1, okp_reads, fun hnr => ⟨w1, fun hn15 => ⟨w1, okp_joins, fun hj => ?_, fun hj => ?_⟩, fun h15 => ?_⟩, fun hr => ?_⟩, fun h0 => ?_⟩
  · -- joins
    have hjn : 10 ≤ w.1 ∧ w.1 ≤ 14 := by
      rcases wIn01 w.1 10 14 with h4 | h4
      · exact (hj h4).elim
      · exact wIn1.mp h4
    have hw2 : wNd w = 2 := by unfold wNd; rw [if_neg (by omega), if_pos hjn]
    rw [hw2] at hnd h10 htop a1 a2 a3 ⊢
    obtain ⟨b1, b2, b3⟩ := hat (S.length - 1) (by omega)
    have e1 : ((S.length - 2 : Nat) : Int) + 1 = ((S.length - 1 : Nat) : Int) := by omega
    rw [e1, b1]
    have hl := hSr (S.length - 2) (by omega)
    have hu := hSr (S.length - 1) (by omega)
    have hev : evW time ser (smp.map (·.1)) w S = (joinR w.1 w.2.1 (S.getD (S.length - 2) (0, [])).1 (S.getD (S.length - 2) (0, [])).2 (S.getD (S.length - 1) (0, [])).1 (S.getD (S.length - 1) (0, [])).2).map fun x => S.take (S.length - 2) ++ [(x.1, bdL x.2)] := by
      unfold evW
      rw [if_neg (by omega), if_neg (by omega), if_neg (by omega), if_neg (by omega), if_neg (by omega)]
    refine ⟨i32s (by omega), h1, h2.1, okp_size h2.1, fun J47 hJ47 J52 hJ52 => ⟨fun h9 => by omega, fun _ => ⟨h1, i32s (by omega), h2.1, b2, Or.inr b3, h1, ?_⟩⟩⟩
    refine Call.to (ok_join hL hO h1 h5 ⟨_, _, hrsp⟩ (hp0.row (i := S.length - 2) (by omega)).2 (hp0.row (i := S.length - 1) (by omega)).2 hl.1 hu.1 hl.2 hu.2 w1 w2 w3 (k4 (by omega) (by omega))) (Nat.zero_le _) (Nat.zero_le _) fun x G1 hq => ?_
    obtain ⟨q1, ⟨n1, R1, q2⟩, q3⟩ := hq
    rcases q3 with ⟨q3, q4⟩ | ⟨n2, R2, q3, q4, q5⟩
    · refine ⟨fun _ => hJ52 _ _ _ (hJ47 _ _ _ _ (fin 0 G1 _ _ n1 R1 (S.take (S.length - 2)) (q1.rd wn) q2 (by rw [hw2]; exact tk 2 (by omega)) (hpre 2) (fun h9 => absurd h9 (by decide)) (Or.inr ⟨rfl, by rw [hev, q4]; rfl⟩))), fun h9 => (h9 q3).elim⟩
    · refine ⟨fun h9 => by omega, fun _ => hJ47 _ _ _ _ (fin 1 G1 _ _ n2 R2 (S.take (S.length - 2)) (q1.rd wn) q5 (by rw [hw2]; exact tk 2 (by omega)) (hpre 2) (fun _ => ?_) (Or.inl ⟨rfl, by rw [hev, q4]; rfl⟩))⟩
      have hj2 := joinR_ok hl.2 hu.2 q4
      have hln := q5.len
      have := q5.1.2.2.2.1
      exact RV.bd (by omega) hj2.1 hj2.2.1 hj2.2.2
  · -- folds
    have hjn : ¬ (10 ≤ w.1 ∧ w.1 ≤ 14) := wIn0.mp hj
    have hrn : ¬ (1 ≤ w.1 ∧ w.1 ≤ 7) := wIn0.mp hnr
    have hw1 : wNd w = 1 := by unfold wNd; rw [if_neg (by omega), if_neg hjn]
    rw [hw1] at hnd h10 htop a1 a2 a3 ⊢
    have hl := hSr (S.length - 1) (by omega)
    refine ⟨h1, Call.to (ok_fold hL hO h1 h5 ⟨_, _, hrsp⟩ (hp0.row (i := S.length - 1) (by omega)).2 hl.1 hl.2 w1 w2 w3 (k4 (by omega) (by omega))) (Nat.zero_le _) (Nat.zero_le _) fun _ G1 hq => ?_⟩
    refine fin 1 G1 _ _ _ _ (S.take (S.length - 1)) (hq.1.rd wn) hq.2 (by rw [hw1]; exact tk 1 (by omega)) (hpre 1) (fun _ => ?_) (Or.inl ⟨rfl, ?_⟩)
    · have hln := hq.2.len
      have := hq.2.1.2.2.2.1
      have hf := foldR_ok (k := w.1) hl.2 (k4 (by omega) (by omega))
      refine RV.bd (by omega) ?_ ?_ ?_
      · split
        · exact hf.1
        · exact hl.2.2.1
      · split
        · exact hf.2
        · exact fun y hy => (hl.2.2.2.1 y hy).1
      · rcases hl.2.2.2.2 with h9 | ⟨h9, v, h8⟩
        · exact Or.inl h9
        · exact Or.inr ⟨h9, v, by rw [if_neg (by omega)]; exact h8⟩
    · unfold evW
      rw [if_neg (by omega), if_neg (by omega), if_neg (by omega), if_pos (by omega), if_neg (by omega)]
  · -- quantiles
    have hw1 : wNd w = 1 := by unfold wNd; rw [if_neg (by omega), if_neg (by omega)]
    rw [hw1] at hnd h10 htop a1 a2 a3 ⊢
    have hl := hSr (S.length - 1) (by omega)
    refine ⟨w1, h1, Call.to (ok_takeQuantiles hL hO h1 h5 ⟨_, _, hrsp⟩ (hp0.row (i := S.length - 1) (by omega)).2 hl.1 hl.2 (k5 h15)) (Nat.zero_le _) (Nat.zero_le _) fun _ G1 hq => ?_⟩
    refine fin 1 G1 _ _ _ _ (S.take (S.length - 1)) (hq.1.rd wn) hq.2.1 (by rw [hw1]; exact tk 1 (by omega)) (hpre 1) (fun _ => ?_) (Or.inl ⟨rfl, ?_⟩)
    · have hln := hq.2.1.len
      have := hq.2.1.1.2.2.2.1
      refine RV.bd (by omega) hq.2.2 (fun y hy => ?_) (Or.inl rfl)
      split at hy
      · obtain ⟨z, hz, e⟩ := qtN_key _ _ y hy
        rw [e]; exact cOk_six (hl.2.2.2.1 z hz).1
      · exact (List.not_mem_nil hy).elim
    · unfold evW
      rw [if_neg (by omega), if_neg (by omega), if_pos h15, if_neg (by omega)]
  · -- a word that reads
    have hrn : 1 ≤ w.1 ∧ w.1 ≤ 7 := by
      rcases wIn01 w.1 1 7 with h4 | h4
      · exact (hr h4).elim
      · exact wIn1.mp h4
    have hw0 : wNd w = 0 := by unfold wNd; rw [if_pos hrn.2]
    obtain ⟨s0, s1, s2⟩ := w6 hrn.1 hrn.2
    have hsl : selP G (gfd G 10 3 wd) = wSl w := by
      funext c
      unfold selP wSl slS
      rw [s0, s1, s2]
    have hro := readR_ok (P := wSl w) (k := w.1) (two := w.2.2.1) (time := time) (sm := smp.map (·.1)) hi.1 hcs
    refine ⟨h1, Call.to (ok_read hL hO hC hi h12 hnl hrn (k3 hrn.1 hrn.2) htm ⟨_, _, hrsp⟩ h1 h5 h6 h7 w1 w2 w4 rfl w5) (Nat.zero_le _) (Nat.zero_le _) fun _ G1 hq => ?_⟩
    rw [hsl] at hq
    refine fin 1 G1 _ _ _ _ S hq.1 hq.2 (by rw [hw0]; rfl) (fun i hi => ⟨hi, rfl⟩) (fun _ => ?_) (Or.inl ⟨rfl, ?_⟩)
    · have hln := hq.2.len
      have := hq.2.1.2.2.2.1
      exact RV.bd (by omega) hro.1 hro.2 (Or.inl rfl)
    · unfold evW
      rw [if_neg (by omega), if_pos hrn.2]
  · -- a number
    have hw0 : wNd w = 0 := by unfold wNd; rw [if_pos (by omega)]
    refine ⟨h1, w1, hsp4, Call.to (ok_num hrsp) (Nat.zero_le _) (Nat.zero_le _) fun _ G1 hq => ?_⟩
    refine fin 1 G1 _ _ _ _ S (((spF.refl hL).ru hrsp.1 hsp4 hq.1).rd wn) hq.2 (by rw [hw0]; rfl) (fun i hi => ⟨hi, rfl⟩) (fun _ => ?_) (Or.inl ⟨rfl, ?_⟩)
    · exact RV.bd (by show 1 ≤ 12; omega) (List.pairwise_singleton _ _) (fun y hy => by rw [List.mem_singleton.mp hy]; exact cOk666) (Or.inr ⟨rfl, _, rfl⟩)
    · unfold evW
      rw [if_pos h0]
end S72
