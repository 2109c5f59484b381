/-! ask, its loop -/
section S97
variable {E : EE} {G G' G2 : Gt} {c s bc bs : Nat} {Q X : Int → Gt → Prop} {a x i j l u t v z o w m q r n wl time : Int} {d d' d2 : DS} {R : List (Int × Int)}
def cAsk (d : DS) (t : Int) : Sp := if 0 ≤ t ∧ t ≤ 100000 then (if rlV (dDr d) = 1 then (match evA t (dSer d) (smS d) (dDr d) with | none => yes (-1) (ansD d []) | some p => yes p.2.length (ansD d p.2)) else no 2 d) else no 1 d
theorem RV.take {k : Nat} (h : RV n R) : RV 0 (R.take k) := ⟨by have := h.1; rw [List.length_take]; omega, h.2.1.sublist (List.take_sublist k R), fun y hy => h.2.2.1 y (List.mem_of_mem_take hy), Or.inl rfl⟩
theorem RowH.ru (h : RowH G r n R) (hL : LW E G) (hO : OW G) (ha : gcl G a = 4 ∧ gcl G (gfd G 3 0 a) = 15 ∧ gcl G (gfd G 3 1 a) = 16) (hne : r ≠ a) (k : RU G G' a) : RowH G' r n R := by
  have na : ∀ y, gcl G y = 15 ∨ gcl G y = 16 → y ≠ -1 := fun y hy => hO.nn (by omega) (by omega)
  have hr4 := h.1.1
  refine h.fr (RU.fr hL k (by omega) (by omega)) (fun j h9 => hne h9.2.2) (fun h8 => ?_) (fun h8 => ?_)
  · rcases h8 with h8 | h8
    · exact absurd h8 (hO.ne 3 0 3 0 hr4 ha.1 (na _ (Or.inl h.1.2.1.1)) (fun h7 => hne h7.2.2))
    · exact absurd h8 (hO.ne 3 0 3 1 hr4 ha.1 (na _ (Or.inl h.1.2.1.1)) (fun h7 => absurd h7.2.1 (by decide)))
  · rcases h8 with h8 | h8
    · exact absurd h8 (hO.ne 3 1 3 0 hr4 ha.1 (na _ (Or.inr h.1.2.2.1.1)) (fun h7 => absurd h7.2.1 (by decide)))
    · exact absurd h8 (hO.ne 3 1 3 1 hr4 ha.1 (na _ (Or.inr h.1.2.2.1.1)) (fun h7 => hne h7.2.2))
theorem v_ask (hR : RV n R) : ∀ (k i : Nat) (G1 : Gt), i + k = R.length → CF E G G1 x (ansD d (R.take i)) → DI (ansD d (R.take i)) → RowH G1 r n R → r ≠ gfd G1 11 2 x →
    V E M_X11_ask 73 [some (rv x), none, some (rv r), some (iv (i : Int))] [] G1 c s (fun y G' => y = R.length ∧ CF E G G' x (ansD d R)) X := by
  intro k
  induction k with
  | zero =>
    intro i G1 hi hC hD hr hne
    have hz := hr.len
    unfold rN at hz
    obtain ⟨-, h4, h15, h16, hza, h12⟩ := hC.1.asked
    rw [List.take_of_length_le (by omega)] at hC hza
    refine b_X11_ask_73 ⟨hr.1.1, fun _ => ⟨hC.1.1, h4, ?_, hC⟩, fun h9 => absurd h9 (by omega)⟩
    rw [hza]; rfl
  | succ k ih =>
    intro i G1 hi hC hD hr hne
    have hlt : i < R.length := by omega
    obtain ⟨⟨na, hA⟩, h4, h15, h16, hza, h12⟩ := hC.1.asked
    obtain ⟨e0, e1, e2, e3, e4⟩ := hr.elt hlt
    have h12R := hR.1
    have hA' : RowH G1 (gfd G1 11 2 x) na (R.take i) := hA
    have hlen : (R.take i).length = i := by rw [List.length_take]; omega
    have hasc : ascL (R.take i) := hR.2.1.sublist (List.take_sublist i R)
    refine b_X11_ask_73 ⟨hr.1.1, fun h9 => absurd h9 (by omega), fun _ => ⟨hC.1.1, hr.1.1, hr.1.2.1.1, by omega, e3, hr.1.1, hr.1.2.2.1.1, by omega, e4, h4, ?_⟩⟩
    rw [e0, e1]
    refine Call.to (ok_putR hA' hasc (by omega)) (Nat.zero_le _) (Nat.zero_le _) fun _ G2 ⟨kU, hA2⟩ => ⟨i32s (by omega), ?_⟩
    rw [putL_end (asc_lt hR.2.1 hlt)] at hA2
    have eT : R.take i ++ [((R.getD i (0, 0)).1, (R.getD i (0, 0)).2)] = R.take (i + 1) := (takeS hlt).symm
    rw [eT] at hA2
    have hC2 : CF E G1 G2 x (ansD (ansD d (R.take i)) (R.take (i + 1))) := hC.1.asked_ru hD kU ⟨na, hA2⟩
    have e5 : gfd G2 11 2 x = gfd G1 11 2 x := (RU.fr hC.1.2.1 kU (by omega) (by omega)).2.1 11 2 x (by decide) (by have := hC.1.1; omega) (fun h9 => absurd h9.1 (by decide))
    exact ih (i + 1) G2 (by omega) (hC.trans hC2) (hD.ans ⟨0, hR.take⟩) (hr.ru hC.1.2.1 hC.1.2.2.1 ⟨h4, h15, h16⟩ hne kU) (by rw [e5]; exact hne)
theorem ok_ask (h : CH E G x d) (hi : DI d) (hc : 1 ≤ c) (hs : 6 ≤ s) : Ok E M_X11_ask [rv x, iv t] G c s (RQ E G x (cAsk d t)) (RX G (cAsk d t)) := by
  obtain ⟨hD, hzD⟩ := h.draft
  have hwl : gfd G 11 10 x ≠ gfd G 2 0 (gfd G 11 1 x) := by
    obtain ⟨-, -, hno, -⟩ := h.apart
    obtain ⟨hx, hL, hO, ⟨zs, hS⟩, hB, ⟨rows, sp, K, wn, hP, hK⟩, -⟩ := h
    exact (hno (2, 0) (by decide) _ hP.1).symm
  have hp3 : gcl G (gfd G 11 1 x) = 3 := by
    obtain ⟨hx, hL, hO, ⟨zs, hS⟩, hB, ⟨rows, sp, K, wn, hP, hK⟩, -⟩ := h
    exact hP.1
  have hdr := hi.2.2.2.2.2.2.1
  refine i_X11_ask ⟨okp_isWithin, fun h1 => ?_, fun h1 => ⟨hc, hs, by rw [cAsk, if_neg (wIn0.mp h1)]; exact RX.n⟩⟩
  have h1' := wInY h1
  refine ⟨h.1, Call.pure (okp_resultsLeft h hi) ⟨fun h2 => ?_, fun h2 => ⟨hc, hs, by rw [cAsk, if_pos h1', if_neg h2]; exact RX.n⟩⟩⟩
  refine ⟨h.1, h.1, h.1, h.cls.1, hp3, Call.to (ok_reckonD h hi hD hwl hdr.2 hdr.1 h1') (Nat.zero_le _) (Nat.zero_le _) fun r G15 ⟨hC, hr⟩ => ?_⟩
  obtain ⟨⟨na, hA⟩, h4, h15, h16, hza, h12⟩ := hC.1.asked
  refine ⟨hC.1.1, h4, Call.to (ok_vec hA) (Nat.zero_le _) (Nat.zero_le _) fun _ G21 ⟨kU, hA2⟩ => ?_⟩
  have hC2 : CF E G G21 x (ansD d []) := hC.trans (hC.1.asked_ru hi kU ⟨0, hA2⟩)
  have e5 : gfd G21 11 2 x = gfd G15 11 2 x := (RU.fr hC.1.2.1 kU (by omega) (by omega)).2.1 11 2 x (by decide) (by have := hC.1.1; omega) (fun h9 => absurd h9.1 (by decide))
  refine ⟨fun h3 => ?_, fun h3 => ?_⟩
  · rcases hr with hr | ⟨hr1, hr2, n', R', he, hR, hV⟩
    · exact absurd hr.1 (by omega)
    · have hsp : cAsk d t = yes R'.length (ansD d R') := by rw [cAsk, if_pos h1', if_pos h2, he]
      have hRQ : RQ E G x (cAsk d t) = fun (y : Int) G' => y = R'.length ∧ CF E G G' x (ansD d R') := by
        funext y G'
        rw [hsp]
        exact propext ⟨fun h9 => h9.2, fun h9 => ⟨rfl, h9⟩⟩
      rw [hRQ]
      exact v_ask hV _ 0 G21 (Nat.zero_add _) hC2 (hi.ans ⟨0, Nat.zero_le _, List.Pairwise.nil, fun _ h9 => (List.not_mem_nil h9).elim, Or.inl rfl⟩) (hR.ru hC.1.2.1 hC.1.2.2.1 ⟨h4, h15, h16⟩ hr2 kU) (by rw [e5]; exact hr2)
  · rcases hr with hr | ⟨hr1, -⟩
    · have hsp : cAsk d t = yes (-1) (ansD d []) := by rw [cAsk, if_pos h1', if_pos h2, hr.2]
      rw [hsp]
      exact RQ.y hC2
    · exact absurd h3 hr1
end S97
