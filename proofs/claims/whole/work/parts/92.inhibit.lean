/-! inhibit -/
section S92
variable {E : EE} {G G' G2 : Gt} {c s : Nat} {Q X : Int → Gt → Prop} {a x i j l u t v z o w m q f fl : Int} {d d' d2 : DS} {qs : List Rl}
def inhQ (q : Rl) (v : Int) : Rl := ((q.1.1, q.1.2.1, q.1.2.2.1, v), q.2)
def inhD (d : DS) (i v : Int) : DS := ownD d (dN d) (dSel d) (dDr d) ((dRl d).set i.toNat (inhQ ((dRl d).getD i.toNat r0) v)) (dSil d) (dNt d)
def cInhibit (d : DS) (i v : Int) : Sp := if isA d i then (if v = -1 ∨ (isA d v ∧ v < i) then yes ((dRl d).getD i.toNat r0).1.2.2.2 (inhD d i v) else no 3 d) else no 3 d
theorem RuL.inh (hL : LW E G) (h : RuL G l qs) {n : Nat} (hn : n < qs.length) : RuL (sfd G 4 5 ((lst G l).getD n 0) v) l (qs.set n (inhQ (qs.getD n r0) v)) := by
  have k : FR G (sfd G 4 5 ((lst G l).getD n 0) v) (fun c' k' y => c' = 4 ∧ k' = 5 ∧ y = (lst G l).getD n 0) noA noA := FR.mSfd (by decide)
  obtain ⟨h1, h2, h3, h4, h5, h6⟩ := h
  have ll := k.2.2.1 l h1 h2
  have e := (ll.2 (fun h9 => h9)).1
  have e44 : ∀ y, gfd (sfd G 4 5 ((lst G l).getD n 0) v) 4 4 y = gfd G 4 4 y := fun y => by rw [gfd_sfd, if_neg (by omega)]
  have eL : ∀ y, gcl G y = 14 → gfd G 13 1 y ≠ -1 → lst (sfd G 4 5 ((lst G l).getD n 0) v) y = lst G y := fun y hy hr => ((k.2.2.1 y hy hr).2 (fun h9 => h9)).1
  have h5' : ∀ b ∈ lst G l, ∃ q, RuH G b q := fun b hb => by
    obtain ⟨j, hj, rfl⟩ := List.getElem_of_mem hb
    have := h5 j (by omega)
    rw [List.getD_eq_getElem?_getD, List.getElem?_eq_getElem hj] at this
    exact ⟨_, this⟩
  refine ⟨h1, ll.1, by rw [e, List.length_set]; exact h3, by rw [e]; exact h4, fun j hj => ?_, ?_⟩
  · rw [List.length_set] at hj
    have hq := h5 j hj
    rw [e]
    show RuH _ _ ((qs.set n (inhQ (qs.getD n r0) v)).getD j r0)
    rw [setDT hn]
    by_cases hjn : j = n
    · rw [if_pos hjn]
      have hq : RuH G ((lst G l).getD n 0) (qs.getD n r0) := by
        have := h5 n hn
        exact this
      rw [hjn]
      obtain ⟨a1, a2, a3, a4, a5⟩ := hq
      have f := a4.fr k (fun y _ j h9 => absurd h9.1 (by decide)) (fun h9 => h9)
      have e4 : ∀ j, j ≠ 5 → gfd (sfd G 4 5 ((lst G l).getD n 0) v) 4 j ((lst G l).getD n 0) = gfd G 4 j ((lst G l).getD n 0) := fun j hj => by rw [gfd_sfd, if_neg (fun h9 => hj h9.2.1)]
      refine ⟨a1, ⟨by rw [e4 1 (by decide)]; exact a2.1, by rw [e4 2 (by decide)]; exact a2.2.1, by rw [e4 3 (by decide)]; exact a2.2.2.1, by rw [gfd_sfd, if_pos ⟨rfl, rfl, rfl⟩]; rfl⟩, by rw [e4 0 (by decide)]; exact (a3.fr k (fun j y h9 => absurd h9.1 (by decide)) (fun j y h9 => absurd h9.1 (by decide)) (fun h9 => h9)).1, by rw [e4 4 (by decide)]; exact f.1, by rw [e4 4 (by decide), f.2.2]; exact a5⟩
    · rw [if_neg hjn]
      have hne : (lst G l).getD j 0 ≠ (lst G l).getD n 0 := fun h9 => hjn (by
        have hj' : j < (lst G l).length := by omega
        have hn' : n < (lst G l).length := by omega
        exact (List.getD_inj hj' hn' h4).mp h9)
      exact (hq.fr k (fun j h9 => hne h9.2.2) (fun j y h9 => absurd h9.1 (by decide)) (fun j y h9 => absurd h9.1 (by decide)) (fun y _ j h9 => absurd h9.1 (by decide)) (fun h9 => h9) (fun h9 => h9)).1
  · rw [e]
    intro a ha b hb y hya hyb
    obtain ⟨qa, hqa⟩ := h5' a ha
    obtain ⟨qb, hqb⟩ := h5' b hb
    rw [e44, eL _ hqa.2.2.2.1.1 hqa.2.2.2.1.2.1] at hya
    rw [e44, eL _ hqb.2.2.2.1.1 hqb.2.2.2.1.2.1] at hyb
    exact h6 a ha b hb y hya hyb
theorem DI.inh (h : DI d) (ha : isA d i) (hv : v = -1 ∨ (isA d v ∧ v < i)) : DI (inhD d i v) := by
  obtain ⟨a1, a2, a3, a4, a5, a6, a7, a8, a9, a10, a11, a12, a13, a14⟩ := id h
  have hlt : i.toNat < (dRl d).length := by have := ha.1; have := ha.2.1; omega
  refine h.own ⟨rfl, rfl, rfl⟩ a3 a4 a12 a6 a7 ⟨by rw [List.length_set]; exact a8.1, fun q hq => ?_⟩ a9 a10
  rcases List.mem_or_eq_of_mem_set hq with h9 | h9
  · exact a8.2 _ h9
  · have hm : (dRl d).getD i.toNat r0 ∈ dRl d := by
      rw [List.getD_eq_getElem?_getD, List.getElem?_eq_getElem hlt]
      exact List.getElem_mem hlt
    have hk := a8.2 _ hm
    rw [h9]
    have hv' : -1 ≤ v ∧ v ≤ 7 := by
      rcases hv with h8 | h8
      · omega
      · have h7 := h8.1.1; have h6 := h8.1.2.1; have := a8.1; omega
    exact ⟨⟨hk.1.1, hk.1.2.1, hk.1.2.2.1, hv'⟩, hk.2⟩
theorem CH.inh (h : CH E G x d) (hi : DI d) (ha : isA d i) : CF E G (sfd G 4 5 ((lst G (gfd G 11 6 x)).getD i.toNat 0) v) x (inhD d i v) := by
  have hx := h.1
  have hlt : i.toNat < (dRl d).length := by have := ha.1; have := ha.2.1; omega
  have k : FR G (sfd G 4 5 ((lst G (gfd G 11 6 x)).getD i.toNat 0) v) (fun c' k' y => c' = 4 ∧ k' = 5 ∧ y = (lst G (gfd G 11 6 x)).getD i.toNat 0) noA noA := FR.mSfd (by decide)
  have hO' : OWG G (sfd G 4 5 ((lst G (gfd G 11 6 x)).getD i.toNat 0) v) := (ONW.mSfd (by decide)).owg h.2.2.1
  have e11 : ∀ j, gfd (sfd G 4 5 ((lst G (gfd G 11 6 x)).getD i.toNat 0) v) 11 j x = gfd G 11 j x := fun j => by rw [gfd_sfd, if_neg (by omega)]
  have w : ∀ c' k' y, c' ≠ 4 → ¬ (c' = 4 ∧ k' = 5 ∧ y = (lst G (gfd G 11 6 x)).getD i.toNat 0) := fun c' k' y h8 h9 => h8 h9.1
  exact h.mine hi (LW.sfd (by decide) h.2.1) hO'.1 hO'.now k (fun c' k' y h9 => by omega) (fun y h9 => h9.elim) (fun y h9 => h9.elim) ⟨rfl, rfl, rfl⟩
    (h.k5 k (fun j y => w _ _ _ (by decide)) (w _ _ _ (by decide)) (fun h9 => h9)) (by rw [e11]; exact (h.rul hi).1.inh h.2.1 hlt)
    (h.k7 k (fun j y => w _ _ _ (by decide)) ⟨w _ _ _ (by decide), w _ _ _ (by decide)⟩ (fun h9 => h9) (fun h9 => h9)) (h.k9 k (w _ _ _ (by decide)) (fun h9 => h9))
    (h.k10 k (fun c j y hc => w _ _ _ (by omega)) (w _ _ _ (by decide)) (fun h9 => h9) hO') (by rw [e11, e11, e11]; exact h.nums)
theorem ok_inhibit (h : CH E G x d) (hi : DI d) (hc : 1 ≤ c) (hs : 6 ≤ s) : Ok E M_X11_inhibit [rv x, iv i, iv v] G c s (RQ E G x (cInhibit d i v)) (RX G (cInhibit d i v)) := by
  refine i_X11_inhibit ⟨h.1, ?_⟩
  by_cases hr : isA d i
  · refine Call.to (mc' := 0) (ms' := 0) (ok_alertOf (Q := fun r G1 => r = (lst G (gfd G 11 6 x)).getD i.toNat 0 ∧ G1 = G) h hi (fun _ => ⟨rfl, rfl⟩) (fun h8 => absurd hr h8)) (Nat.zero_le _) (Nat.zero_le _) fun r G1 ⟨e1, e2⟩ => ?_
    rw [e1, e2]
    obtain ⟨hR, hk⟩ := h.alert hi hr
    have e5 : gfd G 4 5 ((lst G (gfd G 11 6 x)).getD i.toNat 0) = ((dRl d).getD i.toNat r0).1.2.2.2 := hR.2.1.2.2.2
    refine ⟨fun h1 => ⟨hR.1, hR.1, fun G9 e9 => ?_⟩, fun h1 => ⟨h.1, Call.pure (okp_isAlert h hi) ⟨fun h2 => ⟨by omega, by omega, ?_⟩, fun h2 => ⟨fun h3 => ⟨hR.1, hR.1, fun G21 e21 => ?_⟩, fun h3 => ⟨by omega, by omega, ?_⟩⟩⟩⟩⟩
    · rw [e9, e5, cInhibit, if_pos hr, if_pos (Or.inl h1)]
      exact RQ.y (h.inh hi hr)
    · rw [cInhibit, if_pos hr, if_neg]
      · exact RX.n
      · intro h9
        rcases h9 with h9 | h9
        · exact h1 h9
        · rw [if_pos h9.1] at h2
          exact absurd h2 (by decide)
    · have hav : isA d v := by
        by_cases h9 : isA d v
        · exact h9
        · rw [if_neg h9] at h2
          exact absurd rfl h2
      rw [e21, e5, cInhibit, if_pos hr, if_pos (Or.inr ⟨hav, h3⟩)]
      exact RQ.y (h.inh hi hr)
    · rw [cInhibit, if_pos hr, if_neg]
      · exact RX.n
      · intro h9
        rcases h9 with h9 | h9
        · exact h1 h9
        · have := h9.2
          omega
  · refine Call.of (mc' := 1) (ms' := 6) (Q' := fun _ _ => False) (X' := fun e G1 => e = 3 ∧ G1 = G) (ok_alertOf h hi (fun h8 => absurd h8 hr) (fun _ => ⟨Nat.le_refl _, Nat.le_refl _, rfl, rfl⟩)) (by omega) (by omega) (fun e G1 ⟨e1, e2⟩ => ?_) (fun _ _ h8 => h8.elim)
    rw [e1, e2, cInhibit, if_neg hr]
    exact RX.n
end S92
