/-! an alert tells of its entries -/
section Sa04
variable {E : EE} {G G' G2 : Gt} {c s bc bs : Nat} {Q X : Int → Gt → Prop} {a x i j l u t v z w m q r fl en ru now wt9 kp : Int} {d d' d2 : DS} {es : List En} {L : List Int} {o : Option Rw} {n : Nat}
def toldE (e : En) : En := (e.1, e.2.1, e.2.2.1, e.2.2.2.1, 1)
def ihD (d : DS) (n : Nat) : Int := (ruD d n).1.2.2.2
abbrev telP (d : DS) (n i : Nat) : Prop := ((esD d n).getD i e0).2.1 ≠ 0 ∧ ((esD d n).getD i e0).2.2.2.2 = 0 ∧ inhD2 d (ihD d n) ((esD d n).getD i e0).1 = false ∧ silB d ((esD d n).getD i e0).1 = false
def tel1 (n : Nat) (d : DS) (i : Nat) : DS := if telP d n i then ntD (entD d n ((esD d n).set i (toldE ((esD d n).getD i e0)))) n ((esD d n).getD i e0).1 else d
def telN (n : Nat) : Nat → Nat → DS → DS
  | _, 0, d => d
  | i, k + 1, d => telN n (i + 1) k (tel1 n d i)
def tellD (n : Nat) (d : DS) : DS := telN n 0 (esD d n).length d
theorem ruD_ent (hn : n < (dRl d).length) : ruD (entD d n es) n = ((ruD d n).1, (ruD d n).2.1, es) := by
  show (setE (dRl d) n es).getD n r0 = _
  rw [setE, setDT hn, if_pos rfl]; rfl
theorem ent_facts (hn : n < (dRl d).length) : (dRl (entD d n es)).length = (dRl d).length ∧ esD (entD d n es) n = es ∧ dN (entD d n es) = dN d ∧ dSer (entD d n es) = dSer d ∧ dRec (entD d n es) = dRec d ∧ smS (entD d n es) = smS d :=
  ⟨by show (setE (dRl d) n es).length = _; rw [setE, List.length_set], by unfold esD; rw [ruD_ent hn], rfl, rfl, rfl, rfl⟩
/-- what a telling leaves -/
def telF (d d' : DS) (n : Nat) : Prop := (dRl d').length = (dRl d).length ∧ (esD d' n).length = (esD d n).length ∧ dN d' 0 = dN d 0 ∧ dN d' 3 ≤ dN d 3 + 1 ∧ dN d' 5 = dN d 5 ∧ dRec d' = dRec d ∧ dSer d' = dSer d ∧ smS d' = smS d ∧ dN d' 6 = dN d 6
theorem set_mem' {α : Type} {T : List α} {v y : α} {i : Nat} (hi : i < T.length) (h : y ∈ T.set i v) : y ∈ T ∨ y = v := List.mem_or_eq_of_mem_set h
theorem getD_mem' {α : Type} {T : List α} {v : α} {i : Nat} (hi : i < T.length) : T.getD i v ∈ T := by
  rw [List.getD_eq_getElem?_getD, List.getElem?_eq_getElem hi]
  exact List.getElem_mem hi
theorem told_ok {i : Nat} (hn : n < (dRl d).length) (hi : DI d) (hb : LB d) (hii : i < (esD d n).length) : DI (entD d n ((esD d n).set i (toldE ((esD d n).getD i e0)))) ∧ LB (entD d n ((esD d n).set i (toldE ((esD d n).getD i e0)))) := by
  have hm : ruD d n ∈ dRl d := getD_mem' hn
  have hk := hi.2.2.2.2.2.2.2.1.2 _ hm
  have he := getD_mem' (v := e0) hii
  refine ⟨hi.ent hn (fun e h9 => ?_) ?_ (by rw [List.length_set]; exact hk.2.2.2.2), fun q hq => ?_⟩
  · rcases set_mem' hii h9 with h8 | h8
    · exact hk.2.2.1 e h8
    · rw [h8]
      have := hk.2.2.1 _ he
      exact ⟨this.1, this.2.1, this.2.2.1, Or.inr rfl⟩
  · have hp : ((esD d n).map (·.1)).Pairwise (· < ·) := List.pairwise_map.mpr hk.2.2.2.1
    have e : ((esD d n).set i (toldE ((esD d n).getD i e0))).map (·.1) = (esD d n).map (·.1) := by
      rw [List.map_set]
      refine List.ext_getElem (by rw [List.length_set]) fun j h1 h2 => ?_
      rw [List.getElem_set]
      split
      · rename_i h3
        subst h3
        rw [List.getElem_map]
        show ((esD d n).getD i e0).1 = _
        rw [List.getD_eq_getElem?_getD, List.getElem?_eq_getElem hii]; rfl
      · rfl
    exact List.pairwise_map.mp (by rw [e]; exact hp)
  · rcases List.mem_or_eq_of_mem_set hq with h9 | h9
    · exact hb q h9
    · rw [h9]
      intro e h8
      rcases set_mem' hii h8 with h7 | h7
      · exact hb.at hn e h7
      · have h6 := hb.at hn _ he
        rw [h7]; exact h6
theorem tel1_ok {i : Nat} (hn : n < (dRl d).length) (hi : DI d) (hb : LB d) (hii : i < (esD d n).length) (h3 : dN d 3 < 100000000) : DI (tel1 n d i) ∧ LB (tel1 n d i) ∧ telF d (tel1 n d i) n := by
  unfold tel1
  split
  · obtain ⟨a1, a2⟩ := told_ok hn hi hb hii
    have a3 := ent_facts (es := (esD d n).set i (toldE ((esD d n).getD i e0))) hn
    refine ⟨a1.nt h3, a2, a3.1, ?_, rfl, Int.le_refl _, rfl, rfl, rfl, rfl, rfl⟩
    show (esD (entD d n _) n).length = _
    rw [a3.2.1, List.length_set]
  · exact ⟨hi, hb, rfl, rfl, rfl, by omega, rfl, rfl, rfl, rfl, rfl⟩
theorem v_tellOf {D : DS} : ∀ (k i : Nat) (G1 : Gt) (d1 : DS), i + k = (esD d1 n).length → CF E G G1 x d1 → DI d1 → LB d1 → n < (dRl d1).length → RuAt G1 x ru fl n → dN d1 3 + k < 100000000 → telN n i k d1 = D →
    V E M_X11_tellOf 2 [some (rv x), some (rv ru), some (iv (n : Int)), some (iv (i : Int)), none] [] G1 c s (fun _ G' => CF E G G' x D ∧ DI D ∧ LB D) X := by
  intro k
  induction k with
  | zero =>
    intro i G1 d1 hk hC hi hb hn hA h3 hD
    obtain ⟨hq, hk2, hF, hc, h6⟩ := hC.1.ruAt hi hn hA
    have hz : gfd G1 13 2 fl = (esD d1 n).length := by rw [hC.1.2.1.size hF.1 hF.2.1, hF.2.2.1]
    have ef := hA.2
    have hD' : d1 = D := hD
    refine b_X11_tellOf_2 ⟨hq.1, by rw [← ef]; exact hF.1, okp_size (by rw [← ef]; exact hF.1), fun _ => by rw [← hD']; exact ⟨hC, hi, hb⟩, fun h9 => ?_⟩
    rw [← ef] at h9
    omega
  | succ k ih =>
    intro i G1 d1 hk hC hi hb hn hA h3 hD
    obtain ⟨hq, hk2, hF, hc, h6⟩ := hC.1.ruAt hi hn hA
    have hz : gfd G1 13 2 fl = (esD d1 n).length := by rw [hC.1.2.1.size hF.1 hF.2.1, hF.2.2.1]
    have ef := hA.2
    have hii : i < (esD d1 n).length := by omega
    have h12 := hk2.2.2.2.2
    have h12' : (esD d1 n).length ≤ 12 := h12
    obtain ⟨g1, g2, g3, g4⟩ := hF.get hC.1.2.1 hii
    have hx := hC.1.1
    obtain ⟨t1, t2, t3⟩ := tel1_ok hn hi hb hii (by omega)
    have hRl := (hC.1.rul hi).1
    have hn8 : (dRl d1).length ≤ 8 := hi.2.2.2.2.2.2.2.1.1
    have skip : ¬ telP d1 n i → V E M_X11_tellOf 2 [some (rv x), some (rv ru), some (iv (n : Int)), some (iv ((i : Int) + 1)), none] [] G1 c s (fun _ G' => CF E G G' x D ∧ DI D ∧ LB D) X := fun h9 => by
      have e : tel1 n d1 i = d1 := by unfold tel1; rw [if_neg h9]
      have hD' : telN n (i + 1) k (tel1 n d1 i) = D := hD
      rw [e] at hD'
      exact ih (i + 1) G1 d1 (by omega) hC hi hb hn hA (by omega) hD'
    refine b_X11_tellOf_2 ⟨hq.1, by rw [← ef]; exact hF.1, okp_size (by rw [← ef]; exact hF.1), fun h9 => ?_, fun _ => ?_⟩
    · rw [← ef] at h9
      omega
    rw [← ef]
    refine ⟨hq.1, hF.1, g1, Or.inr g2.1, g2.1, fun h9 => ⟨i32s (by omega), skip (fun h8 => ?_)⟩, fun p1 => ⟨g2.1, fun h9 => ⟨i32s (by omega), skip (fun h8 => ?_)⟩, fun p2 => ⟨hx, ?_⟩⟩⟩
    · exact h8.1 (by rw [← g2.2.2.1]; exact h9)
    · exact h9 (by rw [g2.2.2.2.2.2]; exact h8.2.1)
    refine Call.pure (okp_isInhibited (ih := ihD d1 n) (l := ((esD d1 n).getD i e0).1) hC.1 hi ⟨hq.1, hq.2.1.2.2.2⟩ ⟨g2.1, g2.2.1⟩) ⟨fun h9 => ⟨i32s (by omega), skip (fun h8 => ?_)⟩, fun p3 => ⟨hx, ?_⟩⟩
    · rw [h8.2.2.1] at h9
      exact h9 rfl
    refine Call.pure (okp_isSilenced (l := ((esD d1 n).getD i e0).1) hC.1 hi ⟨g2.1, g2.2.1⟩) ⟨fun h9 => ⟨i32s (by omega), skip (fun h8 => ?_)⟩, fun p4 => ⟨g2.1, fun G30 e30 => ?_⟩⟩
    · rw [h8.2.2.2] at h9
      exact h9 rfl
    have hP : telP d1 n i := ⟨by rw [← g2.2.2.1]; exact p1, by rw [← g2.2.2.2.2.2]; exact p2, by
      cases hh : inhD2 d1 (ihD d1 n) ((esD d1 n).getD i e0).1 with
      | false => rfl
      | true => rw [hh] at p3; exact absurd p3 (by decide), by
      cases hh : silB d1 ((esD d1 n).getD i e0).1 with
      | false => rfl
      | true => rw [hh] at p4; exact absurd p4 (by decide)⟩
    have e : tel1 n d1 i = ntD (entD d1 n ((esD d1 n).set i (toldE ((esD d1 n).getD i e0)))) n ((esD d1 n).getD i e0).1 := by unfold tel1; rw [if_pos hP]
    have ea := alAt_get (i := i) hC.1.2.1 hF.1 hF.2.1 (by rw [hF.2.2.1]; exact hii)
    have ea' : alAt G1 fl (i : Int) = (lst G1 fl).getD i 0 := ea
    have k30 : FR G1 G30 (fun c' k' y => c' = 0 ∧ k' = 2 ∧ y = alAt G1 fl (i : Int)) noA noA := by rw [e30]; exact FR.mSfd (by decide)
    have k30' : FR G1 G30 (fun c _ y => c = 0 ∧ y ∈ lst G1 fl) (fun y => y = fl) noA := k30.mono (fun c' k' y h9 => ⟨h9.1, by rw [h9.2.2]; exact g4⟩) (fun _ h9 => h9.elim) (fun _ h9 => h9.elim)
    have l30 : LW E G30 := by rw [e30]; exact hC.1.2.1.sfd (by decide)
    have o30 : ONW G1 G30 := by rw [e30]; exact ONW.mSfd (by decide)
    have el30 : lst G30 fl = lst G1 fl := by rw [e30]; exact lst_sfd (by decide)
    have f30 : FnH G30 fl ((esD d1 n).set i (toldE ((esD d1 n).getD i e0))) := by
      refine hF.upd hii el30 (by rw [e30]; exact ⟨hF.1, hF.2.1⟩) (fun y => by rw [e30]; rfl) (fun j y hy => by rw [e30, gfd_sfd, if_neg (fun h9 => hy (by rw [h9.2.2, ea']))]) ?_
      rw [← ea', e30]
      refine ⟨g2.1, by rw [gfd_sfd, if_neg (by omega)]; exact g2.2.1, by rw [gfd_sfd, if_neg (by omega)]; exact g2.2.2.1, by rw [gfd_sfd, if_neg (by omega)]; exact g2.2.2.2.1, by rw [gfd_sfd, if_neg (by omega)]; exact g2.2.2.2.2.1, by rw [gfd_sfd, if_pos ⟨rfl, rfl, rfl⟩]; rfl⟩
    have hC30 := hC.1.ent hi hn hA.1 hA.2 l30 (o30.owg hC.1.2.2.1) k30' f30 (by rw [e30, capOf_sfd (by decide)]; exact hc) (fun y hy => Or.inl (by rw [← el30]; exact hy))
    have hA30 : RuAt G30 x ru fl n := hA.fr k30' hx (fun h9 => absurd h9.1 (by decide)) ⟨hRl.1, hRl.2.1⟩ h6 hq.1 (fun h9 => absurd h9.1 (by decide))
    have hi30 := (told_ok hn hi hb hii).1
    have hx30 := hC30.1.1
    refine ⟨by rw [e30]; exact g2.1, hx30, ?_⟩
    have e1 : gfd G30 0 0 (alAt G1 fl (i : Int)) = ((esD d1 n).getD i e0).1 := by rw [e30, gfd_sfd, if_neg (by omega)]; exact g2.2.1
    rw [e1]
    refine Call.to (ok_keepNotice (n := (n : Int)) hC30.1 hi30 (by show dN d1 3 < _; omega)) (Nat.zero_le _) (Nat.zero_le _) fun _ G34 ⟨hC34, k34⟩ => ⟨i32s (by omega), ?_⟩
    have hq30 : gcl G30 ru = 5 := by rw [e30]; exact hq.1
    have hR30 := (hC30.1.rul hi30).1
    have hA34 : RuAt G34 x ru fl n := hA30.fr k34 hx30 (fun h9 => absurd h9.2.1 (by decide)) ⟨hR30.1, hR30.2.1⟩ (fun h9 => h9) hq30 (fun h9 => absurd h9.1 (by decide))
    rw [← e] at hC34
    obtain ⟨u1, u2, u3, u4, -⟩ := t3
    exact ih (i + 1) G34 _ (by rw [u2]; omega) ((hC.trans hC30).trans hC34) t1 t2 (by rw [u1]; exact hn) hA34 (by omega) hD
theorem ok_tellOf (h : CH E G x d) (hi : DI d) (hb : LB d) (hn : n < (dRl d).length) (hA : RuAt G x ru fl n) (h3 : dN d 3 + 12 < 100000000) : Ok E M_X11_tellOf [rv x, rv ru, iv (n : Int)] G c s (fun _ G' => CF E G G' x (tellD n d) ∧ DI (tellD n d) ∧ LB (tellD n d)) (fun _ _ => False) := by
  have hk := (h.ruAt hi hn hA).2.1.2.2.2.2
  have hk' : (esD d n).length ≤ 12 := hk
  exact i_X11_tellOf (v_tellOf _ 0 G d (Nat.zero_add _) (CF.refl h) hi hb hn hA (by omega) rfl)
end Sa04
