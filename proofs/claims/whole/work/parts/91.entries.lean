/-! entries, entry, notice -/
section S91
variable {E : EE} {G G' G2 : Gt} {c s : Nat} {Q X : Int → Gt → Prop} {a x i j k l u t v z o w m q f fl : Int} {d d' d2 : DS} {es : List En}
def enT (d : DS) (i : Int) : List En := ((dRl d).getD i.toNat r0).2.2
def cEntries (d : DS) (i f : Int) : Sp := if isA d i then yes ((enT d i).countP fun e => decide (f = 0 ∨ e.2.1 ≠ 0) : Nat) d else no 3 d
def enW (e : En) (k : Int) : Int := if k = 0 then e.1 else if k = 1 then (if e.2.1 = 0 then 0 else 1) else if k = 2 then e.2.2.1 else (if e.2.2.2.2 = 0 then 0 else 1)
def cEntry (d : DS) (i j k : Int) : Sp := if isA d i then (if 0 ≤ j ∧ j < (enT d i).length then (if 0 ≤ k ∧ k ≤ 3 then yes (enW ((enT d i).getD j.toNat e0) k) d else no 1 d) else no 3 d) else no 3 d
def ntW (n : Int × Int × Int) (k : Int) : Int := if k = 0 then n.1 else if k = 1 then n.2.1 else n.2.2
def cNotice (d : DS) (j k : Int) : Sp := if 0 ≤ j ∧ j < (dNt d).length then (if 0 ≤ k ∧ k ≤ 2 then yes (ntW ((dNt d).getD j.toNat s0) k) d else no 1 d) else no 3 d
theorem v_entries (hL : LW E G) (h : FnH G fl es) (h12 : es.length ≤ 12) : ∀ (n j : Nat) (y : Int), j + n = es.length → 0 ≤ y ∧ y ≤ j → Q (y + ((es.drop j).countP fun e => decide (f = 0 ∨ e.2.1 ≠ 0) : Nat)) G → V E M_X11_entries 15 [none, none, some (iv f), some (rv fl), some (iv y), some (iv (j : Int))] [] G c s Q X := by
  have hz : gfd G 13 2 fl = es.length := by rw [hL.size h.1 h.2.1, h.2.2.1]
  intro n
  induction n with
  | zero =>
    intro j y hj hy hq
    rw [List.drop_eq_nil_of_le (by omega), show ((([] : List En).countP fun e => decide (f = 0 ∨ e.2.1 ≠ 0) : Nat) : Int) = 0 from rfl, Int.add_zero] at hq
    exact b_X11_entries_15 ⟨h.1, okp_size h.1, fun _ => hq, fun h9 => absurd h9 (by omega)⟩
  | succ n ih =>
    intro j y hj hy hq
    have hlt : j < es.length := by omega
    obtain ⟨g1, g2, g3, g4⟩ := h.get hL hlt
    have eD : es.drop j = es.getD j e0 :: es.drop (j + 1) := by
      rw [List.getD_eq_getElem?_getD, List.getElem?_eq_getElem hlt, List.drop_eq_getElem_cons hlt]; rfl
    refine b_X11_entries_15 ⟨h.1, okp_size h.1, fun h9 => absurd h9 (by omega), fun _ => ⟨fun _ => i32s (by omega), fun _ => h.1, fun _ => g1, fun _ => Or.inr g2.1, fun _ => g2.1, fun _ _ => i32s (by omega), i32s (by omega), ?_⟩⟩
    rw [g2.2.2.1]
    have key : ∀ y' : Int, (y' = y ∧ decide (f = 0 ∨ (es.getD j e0).2.1 ≠ 0) = false ∨ y' = y + 1 ∧ decide (f = 0 ∨ (es.getD j e0).2.1 ≠ 0) = true) → V E M_X11_entries 15 [none, none, some (iv f), some (rv fl), some (iv y'), some (iv ((j : Int) + 1))] [] G c s Q X := by
      intro y' h9
      refine ih (j + 1) y' (by omega) (by omega) ?_
      rw [eD] at hq
      have e2 : y + (((es.getD j e0 :: es.drop (j + 1)).countP fun e => decide (f = 0 ∨ e.2.1 ≠ 0) : Nat) : Int) = y' + (((es.drop (j + 1)).countP fun e => decide (f = 0 ∨ e.2.1 ≠ 0) : Nat) : Int) := by
        rcases h9 with ⟨e1, e2⟩ | ⟨e1, e2⟩
        · rw [List.countP_cons_of_neg (by rw [e2]; decide), e1]
        · rw [List.countP_cons_of_pos (p := fun e : En => decide (f = 0 ∨ e.2.1 ≠ 0)) e2, e1]
          omega
      rw [e2] at hq
      exact hq
    by_cases hf : f = 0
    · rw [if_pos hf]
      exact key _ (Or.inr ⟨rfl, decide_eq_true (Or.inl hf)⟩)
    · rw [if_neg hf]
      by_cases he : (es.getD j e0).2.1 = 0
      · rw [if_pos he]
        exact key _ (Or.inl ⟨rfl, decide_eq_false fun h9 => h9.elim hf (fun h8 => h8 he)⟩)
      · rw [if_neg he]
        exact key _ (Or.inr ⟨rfl, decide_eq_true (Or.inr he)⟩)
theorem CH.alert (h : CH E G x d) (hi : DI d) (ha : isA d i) : RuH G ((lst G (gfd G 11 6 x)).getD i.toNat 0) ((dRl d).getD i.toNat r0) ∧ ruOk ((dRl d).getD i.toNat r0) := by
  have hlt : i.toNat < (dRl d).length := by have := ha.1; have := ha.2.1; omega
  refine ⟨(h.rule hi ha.1 ha.2.1).2.2, hi.2.2.2.2.2.2.2.1.2 _ ?_⟩
  rw [List.getD_eq_getElem?_getD, List.getElem?_eq_getElem hlt]
  exact List.getElem_mem hlt
theorem ok_entries (h : CH E G x d) (hi : DI d) (hc : 1 ≤ c) (hs : 6 ≤ s) : Ok E M_X11_entries [rv x, iv i, iv f] G c s (RQ E G x (cEntries d i f)) (RX G (cEntries d i f)) := by
  refine i_X11_entries ⟨h.1, ?_⟩
  by_cases hr : isA d i
  · refine Call.to (mc' := 0) (ms' := 0) (ok_alertOf (Q := fun r G1 => r = (lst G (gfd G 11 6 x)).getD i.toNat 0 ∧ G1 = G) h hi (fun _ => ⟨rfl, rfl⟩) (fun h8 => absurd hr h8)) (Nat.zero_le _) (Nat.zero_le _) fun r G1 ⟨e1, e2⟩ => ?_
    rw [e1, e2]
    obtain ⟨hR, hk⟩ := h.alert hi hr
    refine ⟨hR.1, v_entries h.2.1 hR.2.2.2.1 hk.2.2.2.2 _ 0 0 (Nat.zero_add _) ⟨Int.le_refl _, Int.le_refl _⟩ ?_⟩
    rw [List.drop_zero, Int.zero_add, cEntries, if_pos hr]
    exact RQ.y (CF.refl h)
  · refine Call.of (mc' := 1) (ms' := 6) (Q' := fun _ _ => False) (X' := fun e G1 => e = 3 ∧ G1 = G) (ok_alertOf h hi (fun h8 => absurd h8 hr) (fun _ => ⟨Nat.le_refl _, Nat.le_refl _, rfl, rfl⟩)) (by omega) (by omega) (fun e G1 ⟨e1, e2⟩ => ?_) (fun _ _ h8 => h8.elim)
    rw [e1, e2, cEntries, if_neg hr]
    exact RX.n
theorem enV_W {e : En} (h : EnH G a e) : enV G a k = enW e k := by
  unfold enV enW
  rw [h.2.1, h.2.2.1, h.2.2.2.1, h.2.2.2.2.2]
theorem ok_entry (h : CH E G x d) (hi : DI d) (hc : 1 ≤ c) (hs : 6 ≤ s) : Ok E M_X11_entry [rv x, iv i, iv j, iv k] G c s (RQ E G x (cEntry d i j k)) (RX G (cEntry d i j k)) := by
  refine i_X11_entry ⟨h.1, ?_⟩
  by_cases hr : isA d i
  · refine Call.to (mc' := 0) (ms' := 0) (ok_alertOf (Q := fun r G1 => r = (lst G (gfd G 11 6 x)).getD i.toNat 0 ∧ G1 = G) h hi (fun _ => ⟨rfl, rfl⟩) (fun h8 => absurd hr h8)) (Nat.zero_le _) (Nat.zero_le _) fun r G1 ⟨e1, e2⟩ => ?_
    rw [e1, e2]
    obtain ⟨hR, hk⟩ := h.alert hi hr
    have hF := hR.2.2.2.1
    have h12 := hk.2.2.2.2
    have hz : gfd G 13 2 (gfd G 4 4 ((lst G (gfd G 11 6 x)).getD i.toNat 0)) = (enT d i).length := by rw [h.2.1.size hF.1 hF.2.1, hF.2.2.1]; rfl
    have h12' : (enT d i).length ≤ 12 := h12
    refine ⟨hR.1, hF.1, okp_size hF.1, i32s (by omega), okp_isWithin, fun h1 => ⟨okp_isWithin, fun h2 => ?_, fun h2 => ⟨by omega, by omega, ?_⟩⟩, fun h1 => ⟨by omega, by omega, ?_⟩⟩
    · have h1' := wInY h1
      obtain ⟨n, rfl⟩ := Int.eq_ofNat_of_zero_le h1'.1
      obtain ⟨g1, g2, g3, g4⟩ := hF.get h.2.1 (i := n) (by have : ((dRl d).getD i.toNat r0).2.2.length = (enT d i).length := rfl; omega)
      refine ⟨hF.1, g1, Or.inr g2.1, g2.1, Call.pure (okp_tell g2.1) ?_⟩
      rw [enV_W g2, cEntry, if_pos hr, if_pos ⟨h1'.1, by omega⟩, if_pos (wInY h2)]
      exact RQ.y (CF.refl h)
    · have h1' := wInY h1
      rw [cEntry, if_pos hr, if_pos ⟨h1'.1, by omega⟩, if_neg (wIn0.mp h2)]
      exact RX.n
    · have h1' := wIn0.mp h1
      rw [cEntry, if_pos hr, if_neg (fun h9 => by have h5 := h9.1; have h6 := h9.2; omega)]
      exact RX.n
  · refine Call.of (mc' := 1) (ms' := 6) (Q' := fun _ _ => False) (X' := fun e G1 => e = 3 ∧ G1 = G) (ok_alertOf h hi (fun h8 => absurd h8 hr) (fun _ => ⟨Nat.le_refl _, Nat.le_refl _, rfl, rfl⟩)) (by omega) (by omega) (fun e G1 ⟨e1, e2⟩ => ?_) (fun _ _ h8 => h8.elim)
    rw [e1, e2, cEntry, if_neg hr]
    exact RX.n
theorem CH.ntcs (h : CH E G x d) : NtH G x (dNt d) := by
  obtain ⟨hx, hL, hO, hS, hB, hP, hA, h10, hE, hSl, hR, hSi, hN, hD, e3, e0, e1⟩ := h
  exact hN
theorem ok_notice (h : CH E G x d) (hi : DI d) (hc : 1 ≤ c) (hs : 6 ≤ s) : Ok E M_X11_notice [rv x, iv j, iv k] G c s (RQ E G x (cNotice d j k)) (RX G (cNotice d j k)) := by
  have hN := h.ntcs
  have e3 := h.nums.1
  have hl := hi.2.2.2.2.2.2.2.2.2.1
  have h3 := hi.2.2.2.2.2.2.2.2.2.2.2.1
  have h180 := hN.2.1
  refine i_X11_notice ⟨h.1, i32s (by omega), okp_isWithin, fun h1 => ⟨okp_isWithin, fun h2 => ?_, fun h2 => ⟨hc, hs, ?_⟩⟩, fun h1 => ⟨hc, hs, ?_⟩⟩
  · have h1' := wInY h1
    have h2' := wInY h2
    obtain ⟨n, rfl⟩ := Int.eq_ofNat_of_zero_le h1'.1
    have hn : n < (dNt d).length := by omega
    have g := hN.2.2 n hn
    refine ⟨h.1, i32s (by omega), i32s (by omega), hN.1, by omega, by omega, ?_⟩
    rw [cNotice, if_pos ⟨h1'.1, by omega⟩, if_pos h2']
    have e : gel G (gfd G 11 9 x) ((n : Int) * 3 + k) = ntW ((dNt d).getD (n : Int).toNat s0) k := by
      unfold ntW
      have h5 : k = 0 ∨ k = 1 ∨ k = 2 := by omega
      rcases h5 with h5 | h5 | h5
      · rw [if_pos h5, h5, show (n : Int) * 3 + 0 = 3 * (n : Int) by omega]; exact g.1
      · rw [if_neg (by omega), if_pos h5, h5, show (n : Int) * 3 + 1 = 3 * (n : Int) + 1 by omega]; exact g.2.1
      · rw [if_neg (by omega), if_neg (by omega), h5, show (n : Int) * 3 + 2 = 3 * (n : Int) + 2 by omega]; exact g.2.2
    rw [e]
    exact RQ.y (CF.refl h)
  · have h1' := wInY h1
    rw [cNotice, if_pos ⟨h1'.1, by omega⟩, if_neg (wIn0.mp h2)]
    exact RX.n
  · have h1' := wIn0.mp h1
    rw [cNotice, if_neg (fun h9 => by have h5 := h9.1; have h6 := h9.2; omega)]
    exact RX.n
end S91
