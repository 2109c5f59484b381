/-! select, silence -/
section S88
variable {E : EE} {G G' G2 : Gt} {c s : Nat} {Q X : Int → Gt → Prop} {a x i j l u t v z o w m q : Int} {d d' d2 : DS} {W : Nat → Nat → Int → Prop} {L A : Int → Prop} {nn : Nat → Int} {ts sl nt : List (Int × Int × Int)} {dr : List Wd} {rl : List Rl} {si : List ((Int × Int × Int) × Int)} {C : Int}
theorem DI.own (h : DI d) (hn : nn 2 = dN d 2 ∧ nn 4 = dN d 4 ∧ nn 5 = dN d 5) (h0 : 0 ≤ nn 0 ∧ nn 0 ≤ 100000) (h1 : 1 ≤ nn 1 ∧ nn 1 ≤ 100000) (h3 : 0 ≤ nn 3 ∧ nn 3 ≤ 100000000) (p5 : sl.length = 4 ∧ ∀ t ∈ sl, setOk t) (p10 : dr.length ≤ 10 ∧ ∀ w ∈ dr, wOk w) (p6 : rl.length ≤ 8 ∧ ∀ q ∈ rl, ruOk q) (p7 : si.length ≤ 10 ∧ ∀ t ∈ si, setOk t.1) (p9 : nt.length = min (nn 3).toNat 60) : DI (ownD d nn sl dr rl si nt) := by
  obtain ⟨a1, a2, a3, a4, a5, a6, a7, a8, a9, a10, a11, a12, a13, a14⟩ := h
  refine ⟨?_, ?_, h0, h1, ?_, p5, p10, p6, p7, p9, a11, h3, ?_, a14⟩
  · show SI (dSer d) ((dSmp d).map (·.1)) (dRec d) (nn 2)
    rw [hn.1]; exact a1
  · show nn 4 = 0 ∨ nn 4 = 1
    rw [hn.2.1]; exact a2
  · show 0 ≤ nn 2
    rw [hn.1]; exact a5
  · show 0 ≤ nn 5 ∧ nn 5 ≤ 1000000 ∧ (dRec d).length ≤ 1000000
    rw [hn.2.2]; exact a13
theorem setDT {α : Type} {T : List α} {d v : α} {i j : Nat} (hi : i < T.length) : (T.set i v).getD j d = if j = i then v else T.getD j d := by
  rw [List.getD_eq_getElem?_getD, List.getElem?_set, List.getD_eq_getElem?_getD]
  by_cases h : i = j
  · rw [if_pos h, if_pos (by omega), if_pos h.symm]; rfl
  · rw [if_neg h, if_neg (fun h9 => h h9.symm)]
theorem appD {α : Type} {T : List α} {d v : α} {j : Nat} (hj : j < T.length + 1) : (T ++ [v]).getD j d = if j < T.length then T.getD j d else v := by
  rw [List.getD_eq_getElem?_getD]
  by_cases h : j < T.length
  · rw [if_pos h, List.getElem?_append_left h, List.getD_eq_getElem?_getD]
  · have e : j = T.length := by omega
    rw [if_neg h, List.getElem?_append_right (by omega), e, Nat.sub_self]; rfl
theorem SlH.fr {q : Int × Int × Int} (h : SlH G a q) (k : FR G G' W L A) (w : ∀ j, ¬ W 6 j a) : SlH G' a q := by
  have e : ∀ j, gfd G' 6 j a = gfd G 6 j a := fun j => k.2.1 6 j a (by decide) (by have := h.1; omega) (w j)
  exact ⟨by rw [k.1 a (by have := h.1; omega)]; exact h.1, by rw [e]; exact h.2.1, by rw [e]; exact h.2.2.1, by rw [e]; exact h.2.2.2⟩
theorem clV_eq {q : Int × Int × Int} (h : SlH G a q) (L : List Int) : clV G L a = (L.map (sLab G)).countP (slT q) := by
  have e : (fun x => decide (slS G a (sLab G x) ≠ 0)) = slT q ∘ sLab G := by
    funext y
    show decide (slS G a (sLab G y) ≠ 0) = decide (slV q.1 q.2.1 q.2.2 (sLab G y) ≠ 0)
    unfold slS
    rw [h.2.1, h.2.2.1, h.2.2.2]
  unfold clV
  rw [List.countP_map, e]
def selectD (d : DS) (i : Int) (q : Int × Int × Int) : DS := ownD d (dN d) ((dSel d).set i.toNat q) (dDr d) (dRl d) (dSil d) (dNt d)
def cSelect (d : DS) (i z o t : Int) : Sp := if 0 ≤ i ∧ i < 4 then (if (0 ≤ z ∧ z ≤ 127) ∧ (0 ≤ o ∧ o ≤ 127) ∧ (0 ≤ t ∧ t ≤ 127) then yes ((dSer d).countP (slT (z, o, t)) : Nat) (selectD d i (z, o, t)) else no 1 d) else no 3 d
theorem DI.select (h : DI d) (hq : setOk (z, o, t)) : DI (selectD d i (z, o, t)) := by
  obtain ⟨a1, a2, a3, a4, a5, a6, a7, a8, a9, a10, a11, a12, a13, a14⟩ := id h
  refine h.own ⟨rfl, rfl, rfl⟩ a3 a4 a12 ⟨by rw [List.length_set]; exact a6.1, fun q' hq' => ?_⟩ a7 a8 a9 a10
  rcases List.mem_or_eq_of_mem_set hq' with h9 | h9
  · exact a6.2 _ h9
  · rw [h9]; exact hq
theorem CH.sels (h : CH E G x d) : SlL G (gfd G 11 5 x) (dSel d) := by
  obtain ⟨hx, hL, hO, hS, hB, hP, hA, h10, hE, hSl, hR, hSi, hN, hD, e3, e0, e1⟩ := h
  exact hSl
theorem ok_select (h : CH E G x d) (hi : DI d) (hc : 1 ≤ c) (hs : 6 ≤ s) : Ok E M_X11_select [rv x, iv i, iv z, iv o, iv t] G c s (RQ E G x (cSelect d i z o t)) (RX G (cSelect d i z o t)) := by
  have hSl := h.sels
  have hx := h.1
  have hL := h.2.1
  have hO := h.2.2.1
  have h4 := hi.2.2.2.2.2.1.1
  have hl4 := hSl.2.2.1
  have hz : gfd G 13 2 (gfd G 11 5 x) = 4 := by rw [hL.size hSl.1 hSl.2.1, hSl.2.2.1, h4]; rfl
  have hno : ∀ (_ : 0 ≤ i ∧ i < 4), ¬ ((0 ≤ z ∧ z ≤ 127) ∧ (0 ≤ o ∧ o ≤ 127) ∧ (0 ≤ t ∧ t ≤ 127)) → 1 ≤ c ∧ 6 ≤ s ∧ RX G (cSelect d i z o t) 1 G := fun hr h9 => ⟨hc, hs, by rw [cSelect, if_pos hr, if_neg h9]; exact RX.n⟩
  refine i_X11_select ⟨hx, hSl.1, okp_size hSl.1, i32s (by omega), okp_isWithin, fun h0 => ?_, fun h0 => ⟨hc, hs, ?_⟩⟩
  · have hr : 0 ≤ i ∧ i < 4 := by have := wInY h0; omega
    refine ⟨okp_isWithin, fun h1 => hno hr fun h9 => wIn0.mp h1 h9.1, fun h1 => ⟨okp_isWithin, fun h2 => hno hr fun h9 => wIn0.mp h2 h9.2.1, fun h2 => ⟨okp_isWithin, fun h3 => ?_, fun h3 => hno hr fun h9 => wIn0.mp h3 h9.2.2⟩⟩⟩
    have hq3 : setOk (z, o, t) := ⟨wInY h1, wInY h2, wInY h3⟩
    refine ⟨hc, by omega, fun q hq hqe G20 e20 => ⟨by omega, ?_⟩⟩
    have hq0 : 0 ≤ q := by omega
    have h7 : gcl G20 q = 7 := by rw [e20, gcl_newo, if_pos rfl]
    refine Call.to (ok_selInit hq0 h7) (Nat.zero_le _) (Nat.zero_le _) fun _ G23 e23 => ?_
    have k3 : FR G G23 noW (fun y => y = gfd G 11 5 x) noA := by
      rw [e23, e20]
      exact ((((FR.mNewo hq).mono (fun _ _ _ h9 => h9) (fun _ h9 => h9.elim) (fun _ h9 => h9)).sfdN hq (by decide)).sfdN hq (by decide)).sfdN hq (by decide)
    have kn : FR G G23 noW noA noA := by
      rw [e23, e20]
      exact (((FR.mNewo hq).sfdN hq (by decide)).sfdN hq (by decide)).sfdN hq (by decide)
    have o3 : ONW G G23 := by
      rw [e23, e20]
      exact (((ONW.mNewo hq hq0).trans (ONW.mSfd (by decide))).trans (ONW.mSfd (by decide))).trans (ONW.mSfd (by decide))
    have L3 : LW E G23 := by
      rw [e23, e20]
      exact LW.sfd (by decide) (LW.sfd (by decide) (LW.sfd (by decide) (hL.newo hq)))
    have hq7 : SlH G23 q (z, o, t) := by
      rw [e23]
      refine ⟨h7, ?_, ?_, ?_⟩
      · rw [gfd_sfd, if_neg (by omega), gfd_sfd, if_neg (by omega), gfd_sfd, if_pos ⟨rfl, rfl, rfl⟩]
      · rw [gfd_sfd, if_neg (by omega), gfd_sfd, if_pos ⟨rfl, rfl, rfl⟩]
      · rw [gfd_sfd, if_pos ⟨rfl, rfl, rfl⟩]
    have hx3 : gcl G23 x = 12 := by rw [kn.1 x (by omega)]; exact hx
    have e5 : gfd G23 11 5 x = gfd G 11 5 x := kn.2.1 11 5 x (by decide) (by omega) (fun h9 => h9)
    have S3 := hSl.fr kn (fun _ _ h9 => h9) (fun h9 => h9)
    have hz3 : gfd G23 13 2 (gfd G 11 5 x) = 4 := by rw [L3.size S3.1.1 S3.1.2.1, S3.1.2.2.1, h4]; rfl
    refine ⟨hx3, by rw [e5]; exact S3.1.1, ?_⟩
    rw [e5]
    refine Call.to (ok_set L3 S3.1.1 S3.1.2.1 (Or.inr (by rw [hq7.1]; exact ⟨by decide, by decide⟩)) hr.1 (by omega)) (Nat.zero_le _) (Nat.zero_le _) fun _ G29 ⟨_, k9⟩ => ?_
    have k : FR G G29 noW (fun y => y = gfd G 11 5 x) noA := k3.andThen k9.fr (fun _ _ _ _ h9 => h9) (fun _ _ h9 => h9) (fun _ _ h9 => h9)
    have o9 : ONW G G29 := o3.trans k9.onw
    have hO9 : OWG G G29 := o9.owg hO
    have e11 : ∀ j, gfd G29 11 j x = gfd G 11 j x := fun j => k.2.1 11 j x (by decide) (by omega) (fun h9 => h9)
    obtain ⟨⟨a5, a6, a7, a10⟩, ⟨n56, n57, n67⟩, hdr, -⟩ := h.apart
    have S9 : SlL G29 (gfd G 11 5 x) ((dSel d).set i.toNat (z, o, t)) := by
      refine SlL.lu S3.1.1 k9 (by rw [List.length_set, List.length_set]; exact S3.1.2.2.1) (fun j hj => ?_)
      rw [List.length_set] at hj
      rw [setD (by rw [S3.1.2.2.1]; omega), setDT (by omega)]
      by_cases hji : j = i.toNat
      · rw [if_pos hji, if_pos hji]; exact hq7
      · rw [if_neg hji, if_neg hji]; exact S3.1.2.2.2 j hj
    have hCF : CF E G G29 x (selectD d i (z, o, t)) := h.mine hi k9.1 hO9.1 hO9.now k (fun _ _ _ h9 => h9.elim) (fun y h9 => Or.inl h9) (fun _ h9 => h9.elim) ⟨rfl, rfl, rfl⟩
      (by rw [e11]; exact S9) (h.k6 k (fun _ _ _ _ h9 => h9) (fun h9 => h9) (fun h9 => n56 h9.symm) (fun ru h5 hn => (h.ruleL (Or.inl rfl) ru h5).1 hn) (fun ru h5 hn => (h.ruleL (Or.inl rfl) ru h5).2 hn))
      (h.k7 k (fun _ _ h9 => h9) ⟨fun h9 => h9, fun h9 => h9⟩ (fun h9 => n57 h9.symm) (fun h9 => h9)) (h.k9 k (fun h9 => h9) (fun h9 => h9))
      (h.k10 k (fun _ _ _ _ h9 => h9) (fun h9 => h9) (fun h9 => hdr (11, 5) (by decide) x hx h9.symm) hO9) (by rw [e11, e11, e11]; exact h.nums)
    have hi' : DI (selectD d i (z, o, t)) := hi.select hq3
    obtain ⟨h9, hN, -⟩ := hCF.1.num hi'
    have hq9 : SlH G29 q (z, o, t) := by
      have := hq7.fr k9.fr (fun _ h9 => h9)
      exact this
    refine ⟨hCF.1.1, h9, Call.pure (okp_countSelected k9.1 hN hq9.1) ?_⟩
    have hm : (numL G29 (gfd G29 11 0 x)).map (sLab G29) = dSer d := by
      obtain ⟨zs, hS⟩ := hCF.1.2.2.2.1
      exact hS.2.2.2.1
    rw [clV_eq hq9, hm, cSelect, if_pos hr, if_pos ⟨wInY h1, wInY h2, wInY h3⟩]
    exact RQ.y hCF
  · have := wIn0.mp h0
    rw [cSelect, if_neg (by omega)]
    exact RX.n
end S88
