/-! the model's write, erase, crash, mend -/
section Sa31
variable {E : EE} {G G' G2 G0 : Gt} {c s bc bs : Nat} {Q X : Int → Gt → Prop} {a i v q m x ml mr u l t w z o f e p n r sx : Int} {k j b : Nat} {T T' : Nat → Prop} {d d' : DS} {ser : List Int} {smp : List (Sm4 × Int)} {rs : List Int}
abbrev wrP (d : DS) (z o w t v : Int) : Prop := (0 ≤ z ∧ z ≤ 6) ∧ (0 ≤ o ∧ o ≤ 6) ∧ (0 ≤ w ∧ w ≤ 6) ∧ (0 ≤ t ∧ t ≤ dN d 0) ∧ (v = -2147483648 ∨ (-1000000 ≤ v ∧ v ≤ 1000000))
def wML (d : DS) (z o w t v ml : Int) : Int := if wrP d z o w t v then tML d (wCode z o w) t v ml else ml
def wMR (d : DS) (z o w t v mr : Int) : Int := if wrP d z o w t v then tMR d (wCode z o w) t v mr else mr
def wMC (d : DS) (z o w t v ml mr : Int) : Nat := if wrP d z o w t v then tMC d (wCode z o w) t v ml mr else 0
def wMS (d : DS) (z o w t v ml mr : Int) : Nat := if wrP d z o w t v then tMS d (wCode z o w) t v ml mr else 0
theorem om_write (h : MH E G m d ml mr) (hi : DI d) (hml : ml ≤ 10000000 ∧ mr ≤ 10000000) (hc : wMC d z o w t v ml mr ≤ c) (hs : wMS d z o w t v ml mr ≤ s) :
    Ok E M_X12_write [rv m, iv z, iv o, iv w, iv t, iv v] G c s (MqR E G m (cWrite d z o w t v) tA (wML d z o w t v ml) (wMR d z o w t v mr)) (fun _ _ => False) := by
  have f1 := h.2.1.1
  refine i_X12_write ⟨okp_in, fun _ => okp_in, fun _ _ => okp_in, fun _ _ _ => h.k13, fun _ _ _ => okp_in, fun _ _ _ _ _ => okp_in, h.k13, fun G15 e15 => ?_⟩
  rw [f1] at e15
  have key : (if wIn z 0 6 = 0 then (0 : Int) else if wIn o 0 6 = 0 then 0 else if wIn w 0 6 = 0 then 0 else if wIn t 0 (dN d 0) = 0 then 0 else if v = -2147483648 then 1 else if wIn v (-1000000) 1000000 = 0 then 0 else 1) = 0 ↔ ¬ wrP d z o w t v := by
    by_cases h1 : wIn z 0 6 = 0
    · rw [if_pos h1]; exact ⟨fun _ h9 => wIn0.mp h1 h9.1, fun _ => rfl⟩
    by_cases h2 : wIn o 0 6 = 0
    · rw [if_neg h1, if_pos h2]; exact ⟨fun _ h9 => wIn0.mp h2 h9.2.1, fun _ => rfl⟩
    by_cases h3 : wIn w 0 6 = 0
    · rw [if_neg h1, if_neg h2, if_pos h3]; exact ⟨fun _ h9 => wIn0.mp h3 h9.2.2.1, fun _ => rfl⟩
    by_cases h4 : wIn t 0 (dN d 0) = 0
    · rw [if_neg h1, if_neg h2, if_neg h3, if_pos h4]; exact ⟨fun _ h9 => wIn0.mp h4 h9.2.2.2.1, fun _ => rfl⟩
    rw [if_neg h1, if_neg h2, if_neg h3, if_neg h4]
    by_cases h5 : v = -2147483648
    · rw [if_pos h5]
      exact ⟨fun h9 => absurd h9 (by decide), fun h9 => (h9 ⟨wInY h1, wInY h2, wInY h3, wInY h4, Or.inl h5⟩).elim⟩
    · rw [if_neg h5]
      by_cases h6 : wIn v (-1000000) 1000000 = 0
      · rw [if_pos h6]
        refine ⟨fun _ h9 => ?_, fun _ => rfl⟩
        rcases h9.2.2.2.2 with h8 | h8
        · exact h5 h8
        · exact wIn0.mp h6 h8
      · rw [if_neg h6]
        exact ⟨fun h9 => absurd h9 (by decide), fun h9 => (h9 ⟨wInY h1, wInY h2, wInY h3, wInY h4, Or.inr (wInY h6)⟩).elim⟩
  by_cases hr : wrP d z o w t v
  · rw [if_neg (fun h9 => (key.mp h9) hr)] at e15
    obtain ⟨k1, k2⟩ := h.thr 0
    rw [← e15] at k1 k2
    have hnow := hi.2.2.1
    have e1 : wMC d z o w t v ml mr = tMC d (wCode z o w) t v ml mr := by unfold wMC; rw [if_pos hr]
    have e2 : wMS d z o w t v ml mr = tMS d (wCode z o w) t v ml mr := by unfold wMS; rw [if_pos hr]
    have e3 : wML d z o w t v ml = tML d (wCode z o w) t v ml := by unfold wML; rw [if_pos hr]
    have e4 : wMR d z o w t v mr = tMR d (wCode z o w) t v mr := by unfold wMR; rw [if_pos hr]
    refine ⟨k1.1.k13, fun _ => ⟨k1.1.k13, Call.to (om_take (l := wCode z o w) k1.1 hi hr.1 hr.2.1 hr.2.2.1 rfl ⟨hr.2.2.2.1.1, by omega⟩ hml (by rw [e1] at hc; exact hc) (by rw [e2] at hs; exact hs)) (Nat.le_refl _) (Nat.le_refl _) fun r G20 ⟨er, hF⟩ => ?_⟩, fun h9 => by omega⟩
    rw [cWrite, if_pos hr, e3, e4]
    have hne : ¬ T14 0 := fun h9 => by unfold T14 at h9; omega
    exact MqR.ok ((hF.2.2.2.2.2.2.f 0 hne).trans k2) rfl er ⟨hF.1, k1.2.trans (hF.2.mono (fun _ _ => trivial))⟩
  · rw [if_pos (key.mpr hr)] at e15
    obtain ⟨k1, k2⟩ := h.thr 1
    rw [← e15] at k1 k2
    have e3 : wML d z o w t v ml = ml := by unfold wML; rw [if_neg hr]
    have e4 : wMR d z o w t v mr = mr := by unfold wMR; rw [if_neg hr]
    refine ⟨k1.1.k13, fun h9 => by omega, fun _ => ?_⟩
    rw [cWrite, if_neg hr, e3, e4]
    exact MqR.nok (by decide) k2 k1
/-- the model with other samples -/
theorem MH.otherS (h : MH E G m d ml mr) {smp' : List (Sm4 × Int)} (kk : MU E G G' m T) (hT : ∀ j, T j → j = 10 ∨ j = 11) (hS : MSm G' m (dSer d) smp' ml) : MH E G' m (stD d (dN d) (dSer d) smp' (dRec d) (dBk d)) ml mr := by
  have kt := kk.2.2.2.2.2
  have b : ∀ j, ¬ (j = 10 ∨ j = 11) → ¬ T j := fun j h9 h8 => h9 (hT j h8)
  obtain ⟨h0, h1, h2, h3, h4, h5, h6, h7, h8, h9, h10, h11, h12⟩ := h
  exact ⟨⟨kk.1, kk.2.1, kk.2.2.1.1⟩, h1.mt kt ⟨b _ (by omega), b _ (by omega), b _ (by omega), b _ (by omega), b _ (by omega)⟩, h2.mt kt ⟨b _ (by omega), b _ (by omega), b _ (by omega), b _ (by omega)⟩, hS, h4.mt kt ⟨b _ (by omega), b _ (by omega)⟩, h5.mt kt ⟨b _ (by omega), b _ (by omega), b _ (by omega), b _ (by omega)⟩, h6.mt kt (b _ (by omega)), h7.mt kt ⟨b _ (by omega), b _ (by omega)⟩, h8.mt kt ⟨b _ (by omega), b _ (by omega), b _ (by omega), b _ (by omega), b _ (by omega), b _ (by omega), b _ (by omega), b _ (by omega)⟩, h9.mt kt ⟨b _ (by omega), b _ (by omega), b _ (by omega), b _ (by omega), b _ (by omega), b _ (by omega)⟩, h10.mt kt ⟨b _ (by omega), b _ (by omega), b _ (by omega)⟩, h11.mt kt ⟨b _ (by omega), b _ (by omega)⟩, h12.mt kt (b _ (by omega))⟩
theorem setZ {L : List (Sm4 × Int)} {q : Sm4 × Int} {i j : Nat} (hi : i < L.length) : (L.set i q).getD j z4 = if j = i then q else L.getD j z4 := setDT hi
/-- a mark of one sample is written -/
theorem MSm.setH (hs : MSh E G m) (h : MSm G m ser smp ml) (hk : k < smp.length) (v : Int) : MSm (sel G (gfd G 12 10 m) (k : Int) v) m ser (smp.set k ((qC (smp.getD k z4).1, qT (smp.getD k z4).1, qV (smp.getD k z4).1, v), (smp.getD k z4).2)) ml := by
  obtain ⟨h1, h2, h3, h4⟩ := h
  refine ⟨by rw [List.length_set]; exact h1, by rw [List.length_set]; exact h2, h3, fun n hn => ?_⟩
  rw [List.length_set] at hn
  have g := h4 n hn
  rw [setZ hk]
  show (0 ≤ gel (sel G (gfd G 12 10 m) (k : Int) v) (gfd G 12 7 m) n ∧ gel (sel G (gfd G 12 10 m) (k : Int) v) (gfd G 12 7 m) n < ser.length ∧ ser.getD (gel (sel G (gfd G 12 10 m) (k : Int) v) (gfd G 12 7 m) n).toNat 0 = _) ∧ gel (sel G (gfd G 12 10 m) (k : Int) v) (gfd G 12 8 m) n = _ ∧ gel (sel G (gfd G 12 10 m) (k : Int) v) (gfd G 12 9 m) n = _ ∧ gel (sel G (gfd G 12 10 m) (k : Int) v) (gfd G 12 10 m) n = _ ∧ gel (sel G (gfd G 12 10 m) (k : Int) v) (gfd G 12 11 m) n = _
  have eo : ∀ (j : Nat) (i : Int), j ∈ mArr → j ≠ 10 → gel (sel G (gfd G 12 10 m) (k : Int) v) (gfd G 12 j m) i = gel G (gfd G 12 j m) i := fun j i hj hne => by
    rw [gel_sel, if_neg (fun h9 => hs.ne j 10 hne hj (by decide) h9.1)]
  rw [eo 7 _ (by decide) (by decide), eo 8 _ (by decide) (by decide), eo 9 _ (by decide) (by decide), eo 11 _ (by decide) (by decide), gel_sel]
  by_cases hnk : n = k
  · rw [if_pos hnk, if_pos ⟨rfl, by omega⟩]
    rw [hnk] at g ⊢
    exact ⟨g.1, g.2.1, g.2.2.1, rfl, g.2.2.2.2⟩
  · rw [if_neg hnk, if_neg (by omega)]
    exact g
theorem MSm.setC (hs : MSh E G m) (h : MSm G m ser smp ml) (hk : k < smp.length) (v : Int) : MSm (sel G (gfd G 12 11 m) (k : Int) v) m ser (smp.set k ((smp.getD k z4).1, v)) ml := by
  obtain ⟨h1, h2, h3, h4⟩ := h
  refine ⟨by rw [List.length_set]; exact h1, by rw [List.length_set]; exact h2, h3, fun n hn => ?_⟩
  rw [List.length_set] at hn
  have g := h4 n hn
  rw [setZ hk]
  show (0 ≤ gel (sel G (gfd G 12 11 m) (k : Int) v) (gfd G 12 7 m) n ∧ gel (sel G (gfd G 12 11 m) (k : Int) v) (gfd G 12 7 m) n < ser.length ∧ ser.getD (gel (sel G (gfd G 12 11 m) (k : Int) v) (gfd G 12 7 m) n).toNat 0 = _) ∧ gel (sel G (gfd G 12 11 m) (k : Int) v) (gfd G 12 8 m) n = _ ∧ gel (sel G (gfd G 12 11 m) (k : Int) v) (gfd G 12 9 m) n = _ ∧ gel (sel G (gfd G 12 11 m) (k : Int) v) (gfd G 12 10 m) n = _ ∧ gel (sel G (gfd G 12 11 m) (k : Int) v) (gfd G 12 11 m) n = _
  have eo : ∀ (j : Nat) (i : Int), j ∈ mArr → j ≠ 11 → gel (sel G (gfd G 12 11 m) (k : Int) v) (gfd G 12 j m) i = gel G (gfd G 12 j m) i := fun j i hj hne => by
    rw [gel_sel, if_neg (fun h9 => hs.ne j 11 hne hj (by decide) h9.1)]
  rw [eo 7 _ (by decide) (by decide), eo 8 _ (by decide) (by decide), eo 9 _ (by decide) (by decide), eo 10 _ (by decide) (by decide), gel_sel]
  by_cases hnk : n = k
  · rw [if_pos hnk, if_pos ⟨rfl, by omega⟩]
    rw [hnk] at g ⊢
    exact ⟨g.1, g.2.1, g.2.2.1, g.2.2.2.1, rfl⟩
  · rw [if_neg hnk, if_neg (by omega)]
    exact g
theorem mapset {α : Type} {f : α → α} {y : α} : ∀ {L : List α} {j : Nat}, j < L.length → ((L.take j).map f ++ L.drop j).set j (f (L.getD j y)) = (L.take (j + 1)).map f ++ L.drop (j + 1)
  | [], j, h => absurd h (Nat.not_lt_zero j)
  | x :: L, 0, _ => rfl
  | x :: L, j + 1, h => congrArg (List.cons (f x)) (mapset (L := L) (j := j) (Nat.lt_of_succ_lt_succ h))
theorem mapat {α : Type} {f : α → α} {y : α} : ∀ {L : List α} {j : Nat}, j < L.length → ((L.take j).map f ++ L.drop j).getD j y = L.getD j y
  | [], j, h => absurd h (Nat.not_lt_zero j)
  | x :: L, 0, _ => rfl
  | x :: L, j + 1, h => mapat (L := L) (j := j) (Nat.lt_of_succ_lt_succ h)
theorem mapset0 {α : Type} {f : α → α} {y : α} {L : List α} {j : Nat} (h : j < L.length) (hf : f (L.getD j y) = L.getD j y) : (L.take j).map f ++ L.drop j = (L.take (j + 1)).map f ++ L.drop (j + 1) := by
  rw [takeS (d := y) h, List.map_append, dropG y h]
  show _ = (L.take j).map f ++ [f (L.getD j y)] ++ _
  rw [hf, List.append_assoc]; rfl
theorem maplen {α : Type} {f : α → α} {L : List α} {j : Nat} : ((L.take j).map f ++ L.drop j).length = L.length := by
  rw [List.length_append, List.length_map, ← List.length_append, List.take_append_drop]
def hdF (e : Int) (P : Sm4 → Bool) (q : Sm4 × Int) : Sm4 × Int := (hides e P q.1, q.2)
def smpD (d : DS) (smp : List (Sm4 × Int)) : DS := stD d (dN d) (dSer d) smp (dRec d) (dBk d)
theorem v_merase (h0 : MH E G0 m d ml mr) (hcs : ∀ c ∈ dSer d, cOk c) (hso : setOk (selD d i)) (hr : 0 ≤ i ∧ i < 4) (he : e = dN d 2) (hQ : ∀ G', MU E G0 G' m (fun k => k = 10) → MH E G' m (smpD d ((dSmp d).map (hdF e (inP (slT (selD d i)) u t)))) ml mr → Q ((dSmp d).countP fun q => decide (qH q.1 = 0) && inP (slT (selD d i)) u t q.1) G') :
    ∀ (n j : Nat) (G : Gt), j + n = (dSmp d).length → MU E G0 G m (fun k => k = 10) → MH E G m (smpD d (((dSmp d).take j).map (hdF e (inP (slT (selD d i)) u t)) ++ (dSmp d).drop j)) ml mr →
      V E M_X12_erase 120 [some (rv m), some (iv i), some (iv u), some (iv t), some (iv (((dSmp d).take j).countP fun q => decide (qH q.1 = 0) && inP (slT (selD d i)) u t q.1)), some (iv (j : Int))] [] G c s Q X := by
  have hlen := h0.2.2.2.1.2.1
  intro n
  induction n with
  | zero =>
    intro j G hj kk h
    have e1 : (dSmp d).take j = dSmp d := List.take_of_length_le (by omega)
    have e2 : (dSmp d).drop j = [] := List.drop_eq_nil_of_le (by omega)
    rw [e1, e2, List.append_nil] at h
    rw [e1]
    have hn := h.2.2.2.1.1
    rw [show dSmp (smpD d ((dSmp d).map (hdF e (inP (slT (selD d i)) u t)))) = (dSmp d).map (hdF e (inP (slT (selD d i)) u t)) from rfl, List.length_map] at hn
    exact b_X12_erase_120 ⟨h.k13, fun _ => hQ G kk h, fun h9 => by omega⟩
  | succ n ih =>
    intro j G hj kk h
    have hlt : j < (dSmp d).length := by omega
    have hL := maplen (f := hdF e (inP (slT (selD d i)) u t)) (L := dSmp d) (j := j)
    have hat := mapat (f := hdF e (inP (slT (selD d i)) u t)) (y := z4) hlt
    have hn := h.2.2.2.1.1
    have hS : MSm G m (dSer d) (((dSmp d).take j).map (hdF e (inP (slT (selD d i)) u t)) ++ (dSmp d).drop j) ml := h.2.2.2.1
    have hn' : gfd G 12 12 m = (dSmp d).length := by rw [hS.1, hL]
    have ek : dSmp (smpD d (((dSmp d).take j).map (hdF e (inP (slT (selD d i)) u t)) ++ (dSmp d).drop j)) = ((dSmp d).take j).map (hdF e (inP (slT (selD d i)) u t)) ++ (dSmp d).drop j := rfl
    obtain ⟨k1, k2, k3⟩ := h.isSeen (k := j) (by rw [ek, hL]; exact hlt)
    rw [ek, hat] at k2
    obtain ⟨⟨a1, a2, a3⟩, a4, a5, a6, a7⟩ := hS.at (k := j) (by rw [hL]; exact hlt)
    rw [hat] at a3 a4 a5 a6 a7
    have hgl := hS.2.2.1
    have hml := hS.2.1
    rw [hL] at hml
    have hcP : ((dSmp d).take (j + 1)).countP (fun q => decide (qH q.1 = 0) && inP (slT (selD d i)) u t q.1) = ((dSmp d).take j).countP (fun q => decide (qH q.1 = 0) && inP (slT (selD d i)) u t q.1) + if (fun q : Sm4 × Int => decide (qH q.1 = 0) && inP (slT (selD d i)) u t q.1) ((dSmp d).getD j z4) = true then 1 else 0 := by
      rw [takeS (d := z4) hlt, List.countP_append, List.countP_cons, List.countP_nil, Nat.zero_add]
    have hcl := List.countP_le_length (p := fun q : Sm4 × Int => decide (qH q.1 = 0) && inP (slT (selD d i)) u t q.1) (l := (dSmp d).take j)
    rw [List.length_take] at hcl
    have skip : (decide (qH ((dSmp d).getD j z4).1 = 0) && inP (slT (selD d i)) u t ((dSmp d).getD j z4).1) = false → i32 ((j : Int) + 1) ∧ V E M_X12_erase 120 [some (rv m), some (iv i), some (iv u), some (iv t), some (iv (((dSmp d).take j).countP fun q => decide (qH q.1 = 0) && inP (slT (selD d i)) u t q.1)), some (iv ((j : Int) + 1))] [] G c s Q X := fun hb => by
      refine ⟨i32s' (by omega), ?_⟩
      have hf : hdF e (inP (slT (selD d i)) u t) ((dSmp d).getD j z4) = (dSmp d).getD j z4 := by
        unfold hdF hides
        rw [if_neg]
        intro h9
        rw [decide_eq_true h9.1, h9.2] at hb
        cases hb
      have h2 := h
      rw [mapset0 (y := z4) hlt hf] at h2
      have := ih (j + 1) G (by omega) kk h2
      rw [hcP] at this
      have e0 : (if (fun q : Sm4 × Int => decide (qH q.1 = 0) && inP (slT (selD d i)) u t q.1) ((dSmp d).getD j z4) = true then 1 else 0) = 0 := if_neg (by show ¬ (decide (qH ((dSmp d).getD j z4).1 = 0) && inP (slT (selD d i)) u t ((dSmp d).getD j z4).1) = true; rw [hb]; decide)
      rw [e0, Nat.add_zero] at this
      exact this
    have x8 := h.1.1.gw 8 15
    have x7 := h.1.1.gw 7 15
    have x10 := h.1.1.gw 10 15
    have h12 := h.sr6
    have hsd : dSer (smpD d (((dSmp d).take j).map (hdF e (inP (slT (selD d i)) u t)) ++ (dSmp d).drop j)) = dSer d := rfl
    rw [hsd] at h12
    refine b_X12_erase_120 ⟨h.k13, fun h9 => by omega, fun _ => ⟨h.k13, k1, fun hz => skip ?_, fun hz => ⟨h.k13, x8.1, by omega, by omega, okp_in, ?_⟩⟩⟩
    · rw [decide_eq_false (k2.mp hz), Bool.false_and]
    have hh : qH ((dSmp d).getD j z4).1 = 0 := Classical.byContradiction fun h9 => hz (k2.mpr h9)
    rw [a4]
    refine ⟨fun hw => skip ?_, fun hw => ⟨h.k13, x7.1, by omega, by omega, h.k13, okp_isSelected h.1.1 h.lb.1 ⟨hr.1, by omega⟩ a1 (by omega), ?_⟩⟩
    · unfold inP
      have := wIn0.mp hw
      by_cases g1 : u ≤ qT ((dSmp d).getD j z4).1
      · rw [decide_eq_false (p := qT ((dSmp d).getD j z4).1 ≤ t) (fun h9 => this ⟨g1, h9⟩), Bool.and_false, Bool.false_and, Bool.and_false]
      · rw [decide_eq_false g1, Bool.false_and, Bool.false_and, Bool.and_false]
    have hw' := wInY hw
    have hms : mSel G m i (gel G (gfd G 12 7 m) j) = 0 ↔ slT (selD d i) (qC ((dSmp d).getD j z4).1) = false := by
      have hlt7 : (gel G (gfd G 12 7 m) j).toNat < (dSer d).length := by omega
      have hcc := hcs _ (getD_mem' (v := 0) hlt7)
      rw [a3] at hcc
      have hsl := hso
      have e9 : mSel G m i (gel G (gfd G 12 7 m) j) = slV (selD d i).1 (selD d i).2.1 (selD d i).2.2 (qC ((dSmp d).getD j z4).1) := by
        have e8 : mSel G m i (gel G (gfd G 12 7 m) j) = mIn (selD d i).1 (selD d i).2.1 (selD d i).2.2 (mCode G m (gel G (gfd G 12 7 m) j)) := mSel_slT h.2.2.2.2.2.2.1 hr _
        rw [e8, h.lb.2 _ a1 (by rw [hsd]; exact a2), hsd, a3]
        exact sel_eq hsl ⟨hcc.1, by have := hcc.2.1; omega⟩
      rw [e9]
      unfold slT
      constructor
      · intro h9; rw [decide_eq_false (fun h8 => h8 h9)]
      · intro h9; exact Classical.byContradiction fun h8 => by rw [decide_eq_true h8] at h9; cases h9
    refine ⟨fun hsz => skip ?_, fun hsz => ⟨h.k13, h.k13, x10.1, by omega, by omega, fun G27 e27 => ⟨i32s' (by omega), i32s' (by omega), ?_⟩⟩⟩
    · unfold inP
      rw [hms.mp hsz, Bool.and_false, Bool.and_false]
    have hst : slT (selD d i) (qC ((dSmp d).getD j z4).1) = true := by
      cases hb : slT (selD d i) (qC ((dSmp d).getD j z4).1) with
      | true => rfl
      | false => exact (hsz (hms.mpr hb)).elim
    have hP : inP (slT (selD d i)) u t ((dSmp d).getD j z4).1 = true := by
      unfold inP
      rw [decide_eq_true hw'.1, decide_eq_true hw'.2, hst]; rfl
    have f15 : gfd G 12 15 m = e := by rw [he]; exact h.2.1.2.2.2.1
    have k27 : MU E G G27 m (fun k => k = 10) := by rw [e27]; exact h.ru.mSel (by decide) rfl
    have hS27 := hS.setH h.1.1 (k := j) (by rw [hL]; exact hlt) e
    rw [hat] at hS27
    have hfq : hdF e (inP (slT (selD d i)) u t) ((dSmp d).getD j z4) = ((qC ((dSmp d).getD j z4).1, qT ((dSmp d).getD j z4).1, qV ((dSmp d).getD j z4).1, e), ((dSmp d).getD j z4).2) := by
      unfold hdF hides
      rw [if_pos ⟨hh, hP⟩]; rfl
    rw [← hfq, mapset hlt, ← f15, ← e27] at hS27
    rw [f15] at hS27
    have h27 := h.otherS k27 (fun j h9 => Or.inl h9) hS27
    have := ih (j + 1) G27 (by omega) (kk.trans k27) h27
    rw [hcP] at this
    have e1 : (if (fun q : Sm4 × Int => decide (qH q.1 = 0) && inP (slT (selD d i)) u t q.1) ((dSmp d).getD j z4) = true then 1 else 0) = 1 := if_pos (by show (decide (qH ((dSmp d).getD j z4).1 = 0) && inP (slT (selD d i)) u t ((dSmp d).getD j z4).1) = true; rw [decide_eq_true hh, hP]; rfl)
    rw [e1] at this
    exact this
end Sa31
