/-! an alert looks at a result -/
section S76
variable {E : EE} {G G' G2 G0 : Gt} {Q X : Int → Gt → Prop} {a r q l u v n m x fl ru now st kp wt9 : Int} {R : List (Int × Int)} {es es0 : List En} {c s : Nat}
def LkS (E : EE) (G0 G : Gt) (ru fl : Int) (es : List En) : Prop :=
  LW E G ∧ ONW G0 G ∧ FR G0 G (fun c _ y => c = 0 ∧ y ∈ lst G0 fl) (fun y => y = fl) noA ∧ gcl G ru = 5 ∧ gfd G 4 4 ru = fl ∧ FnH G fl es ∧ (∀ y ∈ lst G fl, y ∈ lst G0 fl ∨ gcl G0 y = 0)
theorem eraseE {L : List En} {i j : Nat} : (L.eraseIdx i).getD j e0 = if j < i then L.getD j e0 else L.getD (j + 1) e0 := by
  rw [List.getD_eq_getElem?_getD, List.getElem?_eraseIdx]
  split <;> rw [List.getD_eq_getElem?_getD]
theorem FnH.erase {k : Nat} {C : Int} (h : FnH G fl es) (hk : k < es.length) (l9 : LU E G G' fl ((lst G fl).eraseIdx k) C) : FnH G' fl (es.eraseIdx k) := by
  obtain ⟨h1, h2, h3, h4, h5⟩ := h
  have e : lst G' fl = (lst G fl).eraseIdx k := l9.2.2.2.2.2.1
  have f := l9.fr
  refine ⟨by rw [f.1 fl (by omega)]; exact h1, l9.2.2.2.2.2.2.2, ?_, ?_, fun i hi => ?_⟩
  · rw [e, List.length_eraseIdx, if_pos (by omega), List.length_eraseIdx, if_pos hk, h3]
  · rw [e]; exact h4.sublist (List.eraseIdx_sublist _ _)
  · rw [List.length_eraseIdx, if_pos hk] at hi
    rw [e, eraseD, eraseE]
    have key : ∀ j, j < es.length → EnH G' ((lst G fl).getD j 0) (es.getD j e0) := fun j hj => by
      have hy := h5 j hj
      have ee : ∀ q, gfd G' 0 q ((lst G fl).getD j 0) = gfd G 0 q ((lst G fl).getD j 0) := fun q => l9.2.2.1 0 q _ (by decide)
      exact ⟨by rw [f.1 _ (by rw [hy.1]; decide)]; exact hy.1, (ee 0).trans hy.2.1, (ee 1).trans hy.2.2.1, (ee 3).trans hy.2.2.2.1, (ee 4).trans hy.2.2.2.2.1, (ee 2).trans hy.2.2.2.2.2⟩
    split
    · exact key i (by omega)
    · exact key (i + 1) (by omega)
/-- one entry is written -/
theorem FnH.upd {i : Nat} {e' : En} (h : FnH G fl es) (hi : i < es.length) (hl : lst G' fl = lst G fl) (h1' : gcl G' fl = 14 ∧ gfd G' 13 1 fl ≠ -1) (hc : ∀ y, gcl G' y = gcl G y) (ho : ∀ j y, y ≠ (lst G fl).getD i 0 → gfd G' 0 j y = gfd G 0 j y) (he : EnH G' ((lst G fl).getD i 0) e') : FnH G' fl (es.set i e') := by
  obtain ⟨h1, h2, h3, h4, h5⟩ := h
  refine ⟨h1'.1, h1'.2, by rw [hl, List.length_set]; exact h3, by rw [hl]; exact h4, fun j hj => ?_⟩
  rw [List.length_set] at hj
  rw [hl, List.getD_eq_getElem?_getD (l := es.set i e'), List.getElem?_set]
  by_cases c1 : i = j
  · subst c1
    rw [if_pos rfl, if_pos hi]; exact he
  · rw [if_neg c1, ← List.getD_eq_getElem?_getD]
    have hy := h5 j hj
    have hne : (lst G fl).getD j 0 ≠ (lst G fl).getD i 0 := fun h9 => by
      have hp := List.pairwise_iff_getElem.mp h4
      rw [List.getD_eq_getElem?_getD, List.getD_eq_getElem?_getD, List.getElem?_eq_getElem (by omega), List.getElem?_eq_getElem (by omega)] at h9
      have h9' : (lst G fl)[j] = (lst G fl)[i] := h9
      rcases Nat.lt_or_gt_of_ne c1 with h8 | h8
      · exact hp i j (by omega) (by omega) h8 h9'.symm
      · exact hp j i (by omega) (by omega) h8 h9'
    have ee := fun q => ho q _ hne
    exact ⟨by rw [hc]; exact hy.1, (ee 0).trans hy.2.1, (ee 1).trans hy.2.2.1, (ee 3).trans hy.2.2.2.1, (ee 4).trans hy.2.2.2.2.1, (ee 2).trans hy.2.2.2.2.2⟩
def lkA1 (now kp : Int) (P : Int → Bool) (e : En) : Option En := if P e.1 = true then some (e.1, e.2.1, e.2.2.1, now, e.2.2.2.2) else if e.2.1 = 0 ∨ kp < now - e.2.2.2.1 then none else some e
def fireE (now wt9 : Int) (e : En) : En := if e.2.1 = 0 ∧ wt9 ≤ now - e.2.2.1 then (e.1, 1, now, e.2.2.2.1, 0) else e
def anyR (o : Option Rw) : Bool := match o with
  | none => false
  | some x => decide (x.1 = 0) || decide (0 < (x.2.getD 0 (0, 0)).2)
def labR (o : Option Rw) : List (Int × Int) := match o with
  | none => []
  | some x => x.2
/-- the entries behind a look -/
def lookS (now wt9 kp : Int) (o : Option Rw) (es : List En) : List En :=
  (if anyR o = true then lkB now (es.filterMap (lkA1 now kp (fun c => (labR o).any (fun y => decide (y.1 = c))))) (labR o) else es.filterMap (lkA1 now kp (fun _ => false))).map (fireE now wt9)
def enOk (e : En) : Prop := (0 ≤ e.2.2.1 ∧ e.2.2.1 ≤ 100000) ∧ (0 ≤ e.2.2.2.1 ∧ e.2.2.2.1 ≤ 100000) ∧ (e.2.1 = 0 ∨ e.2.1 = 1) ∧ (e.2.2.2.2 = 0 ∨ e.2.2.2.2 = 1)
theorem LkS.rem {k : Nat} {C : Int} (h : LkS E G0 G ru fl es) (hk : k < es.length) (l9 : LU E G G' fl ((lst G fl).eraseIdx k) C) : LkS E G0 G' ru fl (es.eraseIdx k) := by
  obtain ⟨h1, h2, h3, h4, h5, h6, h7⟩ := h
  have f := l9.fr
  refine ⟨l9.1, h2.luT l9, h3.luIn l9 rfl, by rw [f.1 ru (by omega)]; exact h4, by rw [l9.2.2.1 4 4 ru (by decide)]; exact h5, h6.erase hk l9, fun y hy => ?_⟩
  rw [show lst G' fl = (lst G fl).eraseIdx k from l9.2.2.2.2.2.1] at hy
  exact h7 y ((List.eraseIdx_sublist _ _).subset hy)
theorem LkS.set1 {i : Nat} {j : Nat} {w : Int} {e' : En} (h : LkS E G0 G ru fl es) (hi : i < es.length) (he : EnH (sfd G 0 j ((lst G fl).getD i 0) w) ((lst G fl).getD i 0) e') : LkS E G0 (sfd G 0 j ((lst G fl).getD i 0) w) ru fl (es.set i e') ∧ lst (sfd G 0 j ((lst G fl).getD i 0) w) fl = lst G fl := by
  obtain ⟨h1, h2, h3, h4, h5, h6, h7⟩ := h
  have hl : lst (sfd G 0 j ((lst G fl).getD i 0) w) fl = lst G fl := lst_sfd (by decide)
  have hm := getD_mem (L := lst G fl) (i := i) (by rw [h6.2.2.1]; exact hi)
  refine ⟨⟨h1.sfd (by decide), h2.sfdT (fun h9 => by
    have : ∀ p ∈ oF, p.1 ≠ 0 := by decide
    exact this _ h9 rfl), h3.andThen (FR.mSfd (by decide)) (fun c k y hy h9 => ⟨h9.1, ?_⟩) (fun _ _ h9 => h9.elim) (fun _ _ h9 => h9.elim), h4, by rw [gfd_sfd, if_neg (by omega)]; exact h5, h6.upd hi hl ⟨h6.1, by rw [gfd_sfd, if_neg (by omega)]; exact h6.2.1⟩ (fun _ => rfl) (fun q y hy => by rw [gfd_sfd, if_neg (fun h9 => hy h9.2.2)]) he, fun y hy => by rw [hl] at hy; exact h7 y hy⟩, hl⟩
  rw [h9.2.2] at hy ⊢
  rcases h7 _ hm with h8 | h8
  · exact h8
  · exact (hy h8).elim
theorem v_fire (hnow : 0 ≤ now ∧ now ≤ 100000) (hw0 : gfd G0 4 2 ru = wt9) (h5 : gcl G0 ru = 5) {K : List En → Prop} : ∀ (j i : Nat) (G : Gt) (es1 : List En), i + j = es1.length → es1.length ≤ 1000 → LkS E G0 G ru fl ((es1.take i).map (fireE now wt9) ++ es1.drop i) → (∀ e ∈ es1, enOk e) →
    V E M_X4_look 133 [some (rv ru), none, some (iv now), none, some (iv (i : Int)), none] [] G c s (fun _ G' => LkS E G0 G' ru fl (es1.map (fireE now wt9)) ∧ capOf G' fl = capOf G fl) X := by
  intro j
  induction j with
  | zero =>
    intro i G es1 hij hb hS _
    have hi : i = es1.length := by omega
    subst hi
    rw [List.take_length, List.drop_length, List.append_nil] at hS
    have hS0 := hS
    obtain ⟨h1, h2, h3, h4, h44, h6, h7⟩ := hS
    have sz : gfd G 13 2 fl = es1.length := by rw [h1.size h6.1 h6.2.1, h6.2.2.1, List.length_map]
    exact b_X4_look_133 ⟨h4, by rw [h44]; exact h6.1, by rw [h44]; exact okp_size h6.1, fun _ => ⟨hS0, rfl⟩, fun h9 => by rw [h44] at h9; omega⟩
  | succ j ih =>
    intro i G es1 hij hb hS hok
    have hi : i < es1.length := by omega
    have hS0 := hS
    obtain ⟨h1, h2, h3, h4, h44, h6, h7⟩ := hS
    have hlen : ((es1.take i).map (fireE now wt9) ++ es1.drop i).length = es1.length := by rw [List.length_append, List.length_map, List.length_take, List.length_drop]; omega
    obtain ⟨g1, g2, g3, g4⟩ := h6.get h1 (i := i) (by omega)
    have hcur : ((es1.take i).map (fireE now wt9) ++ es1.drop i).getD i e0 = es1.getD i e0 := by
      rw [List.getD_eq_getElem?_getD, List.getElem?_append_right (by rw [List.length_map, List.length_take]; omega), List.length_map, List.length_take, List.getElem?_drop, show i + (i - min i es1.length) = i by omega, ← List.getD_eq_getElem?_getD]
    rw [hcur] at g2
    have hem : es1.getD i e0 ∈ es1 := by rw [List.getD_eq_getElem?_getD, List.getElem?_eq_getElem hi]; exact List.getElem_mem hi
    have hok1 := hok _ hem
    have hw : gfd G 4 2 ru = wt9 := by rw [h3.2.1 4 2 ru (by decide) (by omega) (fun h9 => by omega)]; exact hw0
    have hat := alAt_get h1 h6.1 h6.2.1 (i := i) (by rw [h6.2.2.1]; omega)
    have hstep : (es1.take (i + 1)).map (fireE now wt9) ++ es1.drop (i + 1) = ((es1.take i).map (fireE now wt9) ++ es1.drop i).set i (fireE now wt9 (es1.getD i e0)) := by
      have hd : es1.drop i = es1.getD i e0 :: es1.drop (i + 1) := by
        rw [List.drop_eq_getElem_cons hi, List.getD_eq_getElem?_getD, List.getElem?_eq_getElem hi]; rfl
      rw [takeS (d := e0) hi, List.map_append, List.append_assoc, List.set_append_right _ _ (by rw [List.length_map, List.length_take]; omega), List.length_map, List.length_take, show i - min i es1.length = 0 by omega, hd]; rfl
    have ec : ((i + 1 : Nat) : Int) = (i : Int) + 1 := by omega
    have skip : fireE now wt9 (es1.getD i e0) = es1.getD i e0 → i32 ((i : Int) + 1) ∧ V E M_X4_look 133 [some (rv ru), none, some (iv now), none, some (iv ((i : Int) + 1)), none] [] G c s (fun _ G' => LkS E G0 G' ru fl (es1.map (fireE now wt9)) ∧ capOf G' fl = capOf G fl) X := fun hf => by
      have hse : ((es1.take i).map (fireE now wt9) ++ es1.drop i).set i (es1.getD i e0) = (es1.take i).map (fireE now wt9) ++ es1.drop i := by
        apply List.ext_getElem?
        intro j9
        rw [List.getElem?_set]
        split
        · rename_i h9; subst h9
          rw [if_pos (by omega), ← hcur, List.getD_eq_getElem?_getD, List.getElem?_eq_getElem (by omega)]; rfl
        · rfl
      rw [hf, hse] at hstep
      have := ih (i + 1) G es1 (by omega) hb (by rw [hstep]; exact hS0) hok
      rw [ec] at this
      exact ⟨i32s (by omega), this⟩
    refine b_X4_look_133 ⟨h4, by rw [h44]; exact h6.1, by rw [h44]; exact okp_size h6.1, fun h9 => by rw [h44] at h9; omega, fun _ => ?_⟩
    rw [h44, g2.2.2.1, g2.2.2.2.1, hw]
    refine ⟨h4, h6.1, g1, Or.inr g2.1, g2.1, fun h9 => skip (by unfold fireE; rw [if_neg (fun h8 => h9 h8.1)]), fun h9 => ⟨g2.1, i32s (by unfold enOk at hok1; omega), h4, fun h8 => skip (by unfold fireE; rw [if_neg (by omega)]), fun h8 => ⟨g2.1, ?_⟩⟩⟩
    have hfe : fireE now wt9 (es1.getD i e0) = ((es1.getD i e0).1, 1, now, (es1.getD i e0).2.2.2.1, 0) := by unfold fireE; rw [if_pos ⟨h9, h8⟩]
    refine Call.to (ok_fire g2.1) (Nat.zero_le _) (Nat.zero_le _) fun _ G5 e5 => ?_
    rw [hat] at e5 g2
    have s1 := hS0.set1 (i := i) (j := 1) (w := 1) (e' := ((es1.getD i e0).1, 1, (es1.getD i e0).2.2.1, (es1.getD i e0).2.2.2.1, (es1.getD i e0).2.2.2.2)) (by omega) (by
      refine ⟨g2.1, ?_, ?_, ?_, ?_, ?_⟩ <;> rw [gfd_sfd]
      · rw [if_neg (by omega)]; exact g2.2.1
      · rw [if_pos ⟨rfl, rfl, rfl⟩]
      · rw [if_neg (by omega)]; exact g2.2.2.2.1
      · rw [if_neg (by omega)]; exact g2.2.2.2.2.1
      · rw [if_neg (by omega)]; exact g2.2.2.2.2.2)
    have s2 := s1.1.set1 (i := i) (j := 2) (w := 0) (e' := ((es1.getD i e0).1, 1, (es1.getD i e0).2.2.1, (es1.getD i e0).2.2.2.1, 0)) (by rw [List.length_set]; omega) (by
      rw [s1.2]
      have hh := s1.1.2.2.2.2.2.1.2.2.2.2 i (by rw [List.length_set]; omega)
      rw [s1.2, List.getD_eq_getElem?_getD (l := List.set _ _ _), List.getElem?_set, if_pos rfl, if_pos (by omega)] at hh
      refine ⟨hh.1, ?_, ?_, ?_, ?_, ?_⟩ <;> rw [gfd_sfd]
      · rw [if_neg (by omega)]; exact hh.2.1
      · rw [if_neg (by omega)]; exact hh.2.2.1
      · rw [if_neg (by omega)]; exact hh.2.2.2.1
      · rw [if_neg (by omega)]; exact hh.2.2.2.2.1
      · rw [if_pos ⟨rfl, rfl, rfl⟩])
    rw [s1.2] at s2
    have s3 := s2.1.set1 (i := i) (j := 3) (w := now) (e' := ((es1.getD i e0).1, 1, now, (es1.getD i e0).2.2.2.1, 0)) (by rw [List.length_set, List.length_set]; omega) (by
      rw [s2.2]
      have hh := s2.1.2.2.2.2.2.1.2.2.2.2 i (by rw [List.length_set, List.length_set]; omega)
      rw [s2.2, List.getD_eq_getElem?_getD (l := List.set _ _ _), List.getElem?_set, if_pos rfl, if_pos (by rw [List.length_set]; omega)] at hh
      refine ⟨hh.1, ?_, ?_, ?_, ?_, ?_⟩ <;> rw [gfd_sfd]
      · rw [if_neg (by omega)]; exact hh.2.1
      · rw [if_neg (by omega)]; exact hh.2.2.1
      · rw [if_pos ⟨rfl, rfl, rfl⟩]
      · rw [if_neg (by omega)]; exact hh.2.2.2.2.1
      · rw [if_neg (by omega)]; exact hh.2.2.2.2.2)
    rw [s2.2, List.set_set, List.set_set, ← hfe, ← hstep, ← e5] at s3
    have := ih (i + 1) G5 es1 (by omega) hb s3.1 hok
    have hcp : capOf G5 fl = capOf G fl := by rw [e5, capOf_sfd (by decide), capOf_sfd (by decide), capOf_sfd (by decide)]
    rw [hcp, ec] at this
    exact ⟨i32s (by omega), this⟩
end S76
