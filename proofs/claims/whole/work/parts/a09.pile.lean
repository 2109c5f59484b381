/-! making the pile and the object itself -/
section Sa09
variable {E : EE} {G G' G2 : Gt} {c s bc bs : Nat} {Q X : Int → Gt → Prop} {a b l v q r n sp wn : Int} {cl k ck : Nat} {rows : List Int}
theorem mkObj {cl' : Nat} (h : NB E G G' a cl) (hq : gcl G' q = 0) (h0 : 0 ≤ q) (k : NB E (newo G' q ck) G2 q cl') : NB E G G2 a cl ∧ FR G' G2 noW noA noA ∧ noref G2 q ∧ gcl G2 q = ck + 1 ∧ gcl G q = 0 := by
  obtain ⟨n1, n2, n3⟩ := h.newo (ck := ck) hq h0
  have z := h.old hq
  exact ⟨n1.then z k, (FR.mNewo (c := ck) hq).andThen k.2.2 (fun c j y hy h9 => (hy (by rw [h9.2]; exact hq)).elim) (fun _ _ h9 => h9) (fun _ _ h9 => h9), k.2.1.2 q h0 (by omega) n2, by rw [k.gc (by omega)]; exact n3, z⟩
/-- the pile, while it is made -/
def PI (E : EE) (G0 G : Gt) (a l wn sp : Int) (rows : List Int) : Prop :=
  NB E G0 G a 2 ∧ (gfd G 2 0 a = l ∧ gcl G l = 14 ∧ gfd G 13 1 l ≠ -1 ∧ lst G l = rows ∧ capOf G l = (if rows.length = 0 then 0 else 10) ∧ gcl G0 l = 0) ∧ (gfd G 2 1 a = wn ∧ gcl G wn = 10) ∧ gfd G 2 2 a = sp ∧ (sp :: rows).Nodup ∧ ∀ r ∈ sp :: rows, RowH G r 0 [] ∧ gcl G0 r = 0
theorem v_pileInit {G0 : Gt} (ha : gcl G0 a = 3) (hQ : ∀ G' rows', rows'.length = 10 → PI E G0 G' a l wn sp rows' → Q 0 G') : ∀ (j : Nat) (G1 : Gt) (rows : List Int) (c s : Nat), rows.length + j = 10 → PI E G0 G1 a l wn sp rows → 3 * j + (if rows.length = 0 then 1 else 0) ≤ c → 28 * j + (if rows.length = 0 then 10 else 0) ≤ s →
    V E M_X2_init 44 [some (rv a), some (iv (rows.length : Int))] [] G1 c s Q X := by
  intro j
  induction j with
  | zero =>
    intro G1 rows c s hj h _ _
    exact b_X2_init_44 ⟨fun _ => hQ G1 rows (by omega) h, fun h9 => by omega⟩
  | succ j ih =>
    intro G1 rows c s hj h hc hs
    obtain ⟨hN, ⟨l1, l2, l3, l4, l5, l6⟩, ⟨w1, w2⟩, s1, hnd, hr⟩ := h
    have a1 : gcl G1 a = 3 := by rw [hN.gc (by omega)]; exact ha
    refine b_X2_init_44 ⟨fun h9 => by omega, fun _ => ⟨a1, by omega, by omega, fun q hq hqb G6 e6 => ⟨by omega, ?_⟩⟩⟩
    obtain ⟨n6, r6, c6⟩ := hN.newo (ck := 3) hq (by omega)
    rw [← e6] at n6 r6 c6
    refine Call.to (mc' := 2) (ms' := 24) (ok_resInit (by omega) n6.1 n6.2.1.1 c6 (Nat.le_refl _) (Nat.le_refl _)) (by omega) (by omega) fun _ G9 ⟨k9, hq9⟩ => ?_
    rw [e6] at k9
    obtain ⟨n9, f9, r9, c9, z⟩ := mkObj hN hq (by omega) k9
    have l9 := f9.2.2.1 l l2 l3
    have e20 : gfd G1 2 0 a = l := l1
    rw [e20]
    have c14 : gcl G9 l = 14 := by rw [f9.1 l (by omega)]; exact l2
    have lst9 : lst G9 l = rows := by rw [(l9.2 (fun h9 => h9)).1]; exact l4
    have cap9 : capOf G9 l = (if rows.length = 0 then 0 else 10) := by rw [(l9.2 (fun h9 => h9)).2]; exact l5
    have sz9 : gfd G9 13 2 l = rows.length := by rw [n9.1.size c14 l9.1, lst9]
    have gc : gC G9 l = (if rows.length = 0 then 1 else 0) ∧ gS G9 l = (if rows.length = 0 then 10 else 0) ∧ addCap G9 l = 10 := by
      unfold gC gS addCap
      rw [cap9, sz9]
      by_cases h0 : rows.length = 0
      · rw [if_pos h0, if_pos h0, if_pos h0, h0]; exact ⟨rfl, rfl, rfl⟩
      · rw [if_neg h0, if_neg h0, if_neg h0, if_neg (by omega), if_neg (by omega), if_neg (by omega)]
        exact ⟨rfl, rfl, rfl⟩
    refine ⟨c14, ?_⟩
    refine Call.to (mc' := gC G9 l) (ms' := gS G9 l) (ok_add n9.1 c14 l9.1 (Or.inr (by unfold okE; omega)) (by omega) (gRoom (Nat.le_refl _) (Nat.le_refl _))) (by rw [gc.1]; omega) (by rw [gc.2.1]; omega) fun _ G14 ⟨_, k14⟩ => ⟨i32s (by omega), ?_⟩
    rw [lst9, gc.2.2] at k14
    have n14 : NB E G0 G14 a 2 := n9.list l6 k14
    have f14 := k14.fr
    have fd : ∀ k, gfd G14 2 k a = gfd G1 2 k a := fun k => by
      rw [f14.2.1 2 k a (by decide) (by rw [f9.1 a (by omega)]; omega) (fun h9 => h9), f9.2.1 2 k a (by decide) (by omega) (fun h9 => h9)]
    have hold : ∀ r, RowH G1 r 0 [] → RowH G14 r 0 [] := fun r h9 => (h9.fr f9 (fun _ h8 => h8) (fun h8 => h8) (fun h8 => h8)).fr f14 (fun _ h8 => h8) (fun h8 => h8) (fun h8 => h8)
    have hq14 : RowH G14 q 0 [] := hq9.fr f14 (fun _ h8 => h8) (fun h8 => h8) (fun h8 => h8)
    have hne : ∀ r ∈ sp :: rows, r ≠ q := fun r h9 h8 => by
      have := (hr r h9).1.1.1
      rw [h8] at this
      omega
    have e1 : ((rows ++ [q]).length : Int) = (rows.length : Int) + 1 := by rw [List.length_append]; rfl
    rw [← e1]
    have el : (rows ++ [q]).length = rows.length + 1 := by rw [List.length_append]; rfl
    refine ih G14 (rows ++ [q]) _ _ (by rw [el]; omega) ⟨n14, ⟨by rw [fd]; exact l1, by rw [f14.1 l (by omega)]; exact c14, k14.2.2.2.2.2.2.2, k14.2.2.2.2.2.1, by rw [if_neg (by omega)]; exact k14.2.2.2.2.2.2.1, l6⟩, ⟨by rw [fd]; exact w1, by rw [f14.1 wn (by rw [f9.1 wn (by omega)]; omega), f9.1 wn (by omega)]; exact w2⟩, by rw [fd]; exact s1, ?_, fun r h9 => ?_⟩ (by rw [if_neg (by omega), gc.1]; omega) (by rw [if_neg (by omega), gc.2.1]; omega)
    · rw [← List.cons_append, List.nodup_append]
      refine ⟨hnd, List.nodup_cons.mpr ⟨by simp, List.nodup_nil⟩, fun y hy z hz h8 => ?_⟩
      rw [List.mem_singleton.mp hz] at h8
      exact hne y hy h8
    · rw [← List.cons_append] at h9
      rcases List.mem_append.mp h9 with h8 | h8
      · exact ⟨hold r (hr r h8).1, (hr r h8).2⟩
      · rw [List.mem_singleton.mp h8]
        exact ⟨hq14, z⟩
theorem ok_pileInit (h0 : 0 ≤ a) (hL : LW E G) (hO : OW G) (ha : gcl G a = 3) (hc : 36 ≤ bc) (hs : 330 ≤ bs) : Ok E M_X2_init [rv a] G bc bs (fun _ G' => NB E G G' a 2 ∧ ∃ rows sp wn, PlS G' a wn rows sp (sp :: rows) [] ∧ ∀ r ∈ sp :: rows, gcl G r = 0) (fun _ _ => False) := by
  have N0 : NB E G G a 2 := NB.refl hL hO
  refine i_X2_init ⟨h0, by omega, by omega, fun q hq hqb G5 e5 => ⟨by omega, ?_⟩⟩
  rw [e5]
  refine ok_newList N0 hq (by omega) fun _ G8 n8 m8 l8 r8 => ⟨by rw [n8.gc (by omega)]; exact ha, fun G12 e12 => ?_⟩
  have n12 : NB E G G12 a 2 := by rw [e12]; exact n8.put (by decide) hq r8 (by rw [l8.1]; decide)
  have k12 : FR G8 G12 (fun c k y => c = 2 ∧ k = 0 ∧ y = a) noA noA := by rw [e12]; exact FR.mSfd (by decide)
  refine ⟨by omega, by omega, fun w hw hwb G16 e16 => ⟨by omega, ?_⟩⟩
  obtain ⟨n16, r16, c16⟩ := n12.newo (ck := 9) hw (by omega)
  rw [← e16] at n16 r16 c16
  refine Call.to (mc' := 0) (ms' := 0) (ok_winInit (by omega) n16.1 n16.2.1.1 c16) (Nat.zero_le _) (Nat.zero_le _) fun _ G19 k19 => ?_
  rw [e16] at k19
  obtain ⟨n19, f19, r19, c19, zw⟩ := mkObj n12 hw (by omega) k19
  refine ⟨by rw [n19.gc (by omega)]; exact ha, fun G23 e23 => ?_⟩
  have n23 : NB E G G23 a 2 := by rw [e23]; exact ⟨n19.1.sfd (by decide), n19.2.1.onw (ONW.mSfd (by decide)), n19.2.2.sfdIn ⟨rfl, rfl⟩ (by decide)⟩
  have k23 : FR G19 G23 (fun c k y => c = 2 ∧ k = 1 ∧ y = a) noA noA := by rw [e23]; exact FR.mSfd (by decide)
  refine ⟨by omega, by omega, fun p hp hpb G27 e27 => ⟨by omega, ?_⟩⟩
  obtain ⟨n27, r27, c27⟩ := n23.newo (ck := 3) hp (by omega)
  rw [← e27] at n27 r27 c27
  refine Call.to (mc' := 2) (ms' := 24) (ok_resInit (by omega) n27.1 n27.2.1.1 c27 (Nat.le_refl _) (Nat.le_refl _)) (by omega) (by omega) fun _ G30 ⟨k30, hr30⟩ => ?_
  rw [e27] at k30
  obtain ⟨n30, f30, r30, c30, zp⟩ := mkObj n23 hp (by omega) k30
  have a30 : gcl G30 a = 3 := by rw [n30.gc (by omega)]; exact ha
  refine ⟨a30, fun G34 e34 => ⟨by rw [e34]; exact a30, fun G36 e36 => ?_⟩⟩
  have n36 : NB E G G36 a 2 := by
    rw [e36, e34]
    have x1 : NB E G (sfd G30 2 2 a p) a 2 := ⟨n30.1.sfd (by decide), n30.2.1.onw (ONW.mSfd (by decide)), n30.2.2.sfdIn ⟨rfl, rfl⟩ (by decide)⟩
    exact ⟨x1.1.sfd (by decide), x1.2.1.onw (ONW.mSfd (by decide)), x1.2.2.sfdIn ⟨rfl, rfl⟩ (by decide)⟩
  have k36 : FR G30 G36 (fun c k y => c = 2 ∧ 2 ≤ k ∧ y = a) noA noA := by
    rw [e36, e34]
    exact ((FR.refl G30).sfdIn ⟨rfl, Nat.le_refl _, rfl⟩ (by decide)).sfdIn ⟨rfl, by decide, rfl⟩ (by decide)
  have a8 : gcl G8 a ≠ 0 := by rw [n8.gc (by omega)]; omega
  have a12 : gcl G12 a ≠ 0 := by rw [n12.gc (by omega)]; omega
  have a19 : gcl G19 a ≠ 0 := by rw [n19.gc (by omega)]; omega
  have a23 : gcl G23 a ≠ 0 := by rw [n23.gc (by omega)]; omega
  have g0 : gfd G36 2 0 a = q := by
    rw [k36.2.1 2 0 a (by decide) (by omega) (by omega), f30.2.1 2 0 a (by decide) a23 (fun h9 => h9), k23.2.1 2 0 a (by decide) a19 (by omega), f19.2.1 2 0 a (by decide) a12 (fun h9 => h9), e12, gfd_sfd, if_pos ⟨rfl, rfl, rfl⟩]
  have g1 : gfd G36 2 1 a = w := by
    rw [k36.2.1 2 1 a (by decide) (by omega) (by omega), f30.2.1 2 1 a (by decide) a23 (fun h9 => h9), e23, gfd_sfd, if_pos ⟨rfl, rfl, rfl⟩]
  have g2 : gfd G36 2 2 a = p := by
    rw [e36, gfd_sfd, if_neg (by omega), e34, gfd_sfd, if_pos ⟨rfl, rfl, rfl⟩]
  have l36 : EL G36 q := ((((l8.fr k12 (fun h9 => h9)).fr f19 (fun h9 => h9)).fr k23 (fun h9 => h9)).fr f30 (fun h9 => h9)).fr k36 (fun h9 => h9)
  have w36 : gcl G36 w = 10 := by
    have w23 : gcl G23 w = 10 := by rw [k23.1 w (by omega)]; exact c19
    have w30 : gcl G30 w = 10 := by rw [f30.1 w (by omega)]; exact w23
    rw [k36.1 w (by omega)]; exact w30
  have p36 : RowH G36 p 0 [] := hr30.fr k36 (fun j h9 => absurd h9.1 (by decide)) (fun h9 => h9) (fun h9 => h9)
  refine v_pileInit (l := q) (wn := w) (sp := p) ha (fun G' rows' h1 h2 => ?_) 10 G36 [] _ _ rfl ⟨n36, ⟨g0, l36.1, l36.2.1, l36.2.2.1, l36.2.2.2, hq⟩, ⟨g1, w36⟩, g2, List.nodup_cons.mpr ⟨List.not_mem_nil, List.nodup_nil⟩, fun r h9 => ?_⟩ (by show 3 * 10 + 1 ≤ _; omega) (by show 28 * 10 + 10 ≤ _; omega)
  · obtain ⟨hN, ⟨l1, l2, l3, l4, l5, l6⟩, ⟨w1, w2⟩, s1, hnd, hr⟩ := h2
    exact ⟨hN, rows', p, w, ⟨by rw [hN.gc (by omega)]; exact ha, by rw [l1]; exact ⟨l2, l3⟩, by rw [l1]; exact l4, h1, s1, w1, w2, List.Perm.refl _, hnd, fun r h9 => ⟨0, [], (hr r h9).1⟩, Nat.zero_le _, fun i hi => absurd hi (Nat.not_lt_zero i)⟩, fun r h9 => (hr r h9).2⟩
  · rw [List.mem_singleton.mp h9]; exact ⟨p36, zp⟩
end Sa09
