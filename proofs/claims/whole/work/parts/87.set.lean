/-! retain, clear, select -/
section S87
variable {E : EE} {G G' G2 : Gt} {c s : Nat} {Q X : Int → Gt → Prop} {a x i j l u t v z o w m q : Int} {d d' d2 : DS} {W : Nat → Nat → Int → Prop} {L A : Int → Prop} {nn : Nat → Int} {ts : List (Int × Int × Int)} {C : Int}
theorem FR.sfdN {c k : Nat} (h : FR G G' W L A) (hq : gcl G q = 0) (hc : c ≠ 13) : FR G (sfd G' c k q v) W L A :=
  h.andThen (FR.mSfd hc) (fun c' k' y hy hw => absurd (by rw [hw.2.2]; exact hq) hy) (fun _ _ h9 => h9.elim) (fun _ _ h9 => h9.elim)
theorem addSmall {bc bs : Nat} (h : gfd G 13 2 a ≤ 12) (h0 : 0 ≤ gfd G 13 2 a) (h1 : 1 ≤ bc) (h2 : 18 ≤ bs) : addRoom G a bc bs := fun h9 => ⟨h1, by
  unfold ncap
  split <;> omega⟩
theorem LU.gclk {l9 : List Int} (h : LU E G G' l l9 C) {y : Int} (hy : gcl G y ≠ 0) : gcl G' y = gcl G y := by
  rcases h.2.1 y with h9 | h9
  · exact h9
  · exact absurd h9.1 hy
theorem SlL.lu {l9 : List Int} {ts' : List (Int × Int × Int)} (h14 : gcl G l = 14) (k : LU E G G' l l9 C) (hl : l9.length = ts'.length) (hm : ∀ i, i < ts'.length → SlH G (l9.getD i 0) (ts'.getD i s0)) : SlL G' l ts' := by
  have e6 : ∀ j y, gfd G' 6 j y = gfd G 6 j y := fun j y => k.2.2.1 6 j y (by decide)
  have e : lst G' l = l9 := k.2.2.2.2.2.1
  refine ⟨by rw [k.gclk (by omega)]; exact h14, k.2.2.2.2.2.2.2, by rw [e]; exact hl, fun i hi => ?_⟩
  rw [e]
  obtain ⟨a1, a2, a3, a4⟩ := hm i hi
  exact ⟨by rw [k.gclk (by omega)]; exact a1, by rw [e6]; exact a2, by rw [e6]; exact a3, by rw [e6]; exact a4⟩
theorem ok_setn (h : CH E G x d) (hi : DI d) {j : Nat} (hj : 11 ≤ j) (hn : nn 4 = dN d 4 ∧ nn 5 = dN d 5 ∧ nn 6 = dN d 6) (pn : gfd (sfd G 11 j x v) 11 11 x = nn 3 ∧ gfd (sfd G 11 j x v) 11 12 x = nn 0 ∧ gfd (sfd G 11 j x v) 11 13 x = nn 1) : CF E G (sfd G 11 j x v) x (ownD d nn (dSel d) (dDr d) (dRl d) (dSil d) (dNt d)) := by
  have k : FR G (sfd G 11 j x v) (fun c' k' y => c' = 11 ∧ k' = j ∧ y = x) noA noA := FR.mSfd (by decide)
  have hO' : OWG G (sfd G 11 j x v) := (ONW.mSfd (fun h9 => by
    have : ∀ p ∈ oF, p.1 = 11 → p.2 < 11 := by decide
    have := this _ h9 rfl
    omega)).owg h.2.2.1
  have w : ∀ c' k' y, c' ≠ 11 ∨ k' < 11 → ¬ (c' = 11 ∧ k' = j ∧ y = x) := fun c' k' y h8 h9 => by omega
  exact h.mine hi (LW.sfd (by decide) h.2.1) hO'.1 hO'.now k (fun c' k' y h9 => by omega) (fun y h9 => h9.elim) (fun y h9 => h9.elim) hn
    (h.k5 k (fun j y => w _ _ _ (Or.inl (by decide))) (w _ _ _ (Or.inr (by decide))) (fun h9 => h9)) (h.k6 k (fun c j y hc => w _ _ _ (Or.inl (by omega))) (w _ _ _ (Or.inr (by decide))) (fun h9 => h9) (fun _ _ _ h9 => h9) (fun _ _ _ h9 => h9))
    (h.k7 k (fun j y => w _ _ _ (Or.inl (by decide))) ⟨w _ _ _ (Or.inr (by decide)), w _ _ _ (Or.inr (by decide))⟩ (fun h9 => h9) (fun h9 => h9)) (h.k9 k (w _ _ _ (Or.inr (by decide))) (fun h9 => h9))
    (h.k10 k (fun c j y hc => w _ _ _ (Or.inl (by omega))) (w _ _ _ (Or.inr (by decide))) (fun h9 => h9) hO') pn
/-- another retention -/
def retD (d : DS) (m : Int) : DS := ownD d (fun j => if j = 1 then m else dN d j) (dSel d) (dDr d) (dRl d) (dSil d) (dNt d)
def cRetain (d : DS) (m : Int) : Sp := if 1 ≤ m ∧ m ≤ 100000 then yes (dN d 1) (retD d m) else no 1 d
theorem ok_retain (h : CH E G x d) (hi : DI d) (hc : 1 ≤ c) (hs : 6 ≤ s) : Ok E M_X11_retain [rv x, iv m] G c s (RQ E G x (cRetain d m)) (RX G (cRetain d m)) := by
  obtain ⟨e3, e0, e1⟩ := h.nums
  refine i_X11_retain ⟨okp_isWithin, fun h1 => ⟨h.1, h.1, fun G5 e5 => ?_⟩, fun h1 => ⟨hc, hs, ?_⟩⟩
  · rw [e5, e1, cRetain, if_pos (wInY h1)]
    refine RQ.y (ok_setn h hi (by decide) ⟨rfl, rfl, rfl⟩ ⟨?_, ?_, ?_⟩)
    · rw [gfd_sfd, if_neg (by omega)]; exact e3
    · rw [gfd_sfd, if_neg (by omega)]; exact e0
    · rw [gfd_sfd, if_pos ⟨rfl, rfl, rfl⟩]; rfl
  · rw [cRetain, if_neg (wIn0.mp h1)]
    exact RX.n
/-- the lists of its own -/
theorem CH.apart (h : CH E G x d) : (gcl G (gfd G 11 5 x) = 14 ∧ gcl G (gfd G 11 6 x) = 14 ∧ gcl G (gfd G 11 7 x) = 14 ∧ gcl G (gfd G 11 10 x) = 14) ∧ (gfd G 11 5 x ≠ gfd G 11 6 x ∧ gfd G 11 5 x ≠ gfd G 11 7 x ∧ gfd G 11 6 x ≠ gfd G 11 7 x) ∧ (∀ p ∈ oF, ∀ y, gcl G y = p.1 + 1 → gfd G p.1 p.2 y ≠ gfd G 11 10 x) ∧ gfd G 11 8 x ≠ gfd G 11 9 x ∧ gfd G 11 8 x ≠ -1 ∧ gfd G 11 9 x ≠ -1 := by
  obtain ⟨hx, hL, hO, hS, hB, hP, hA, h10, hE, hSl, hR, hSi, hN, hD, e3, e0, e1⟩ := h
  have nl : ∀ y, gcl G y = 14 → y ≠ -1 := fun y hy => hO.nn (by omega) (by omega)
  have na : ∀ y, gcl G y = 15 → y ≠ -1 := fun y hy => hO.nn (by omega) (by omega)
  exact ⟨⟨hSl.1, hR.1, hSi.1.1, hD.1.1⟩, ⟨hO.ne 11 5 11 6 hx hx (nl _ hSl.1) (by omega), hO.ne 11 5 11 7 hx hx (nl _ hSl.1) (by omega), hO.ne 11 6 11 7 hx hx (nl _ hR.1) (by omega)⟩, hD.2.1, hO.ne 11 8 11 9 hx hx (na _ hSi.2.1) (by omega), na _ hSi.2.1, na _ hN.1⟩
theorem CH.ruleL (h : CH E G x d) {y : Int} (hy : y = gfd G 11 5 x ∨ y = gfd G 11 7 x ∨ y = gfd G 11 6 x) (ru : Int) (h5 : gcl G ru = 5) : (gfd G 4 0 ru ≠ -1 → gfd G 4 0 ru ≠ y) ∧ (gfd G 4 4 ru ≠ -1 → gfd G 4 4 ru ≠ y) := by
  have hO := h.2.2.1
  have hx := h.1
  refine ⟨fun hn => ?_, fun hn => ?_⟩
  · rcases hy with rfl | rfl | rfl
    · exact hO.ne 4 0 11 5 h5 hx hn (by omega)
    · exact hO.ne 4 0 11 7 h5 hx hn (by omega)
    · exact hO.ne 4 0 11 6 h5 hx hn (by omega)
  · rcases hy with rfl | rfl | rfl
    · exact hO.ne 4 4 11 5 h5 hx hn (by omega)
    · exact hO.ne 4 4 11 7 h5 hx hn (by omega)
    · exact hO.ne 4 4 11 6 h5 hx hn (by omega)
/-- another draft -/
def drD (d : DS) (dr : List Wd) : DS := ownD d (dN d) (dSel d) dr (dRl d) (dSil d) (dNt d)
theorem ok_draft (h : CH E G x d) (hi : DI d) {dr : List Wd} (k : FR G G' noW (fun y => y = gfd G 11 10 x) noA) (hL' : LW E G') (hO' : OWG G G') (hd : WlH G' (gfd G 11 10 x) dr) : CF E G G' x (drD d dr) := by
  obtain ⟨⟨a5, a6, a7, a10⟩, -, hno, -⟩ := h.apart
  have hx := h.1
  have e11 : ∀ j, gfd G' 11 j x = gfd G 11 j x := fun j => k.2.1 11 j x (by decide) (by omega) (fun h9 => h9)
  have hdd : noref G (gfd G 11 10 x) ∧ 0 ≤ gfd G 11 10 x := by
    obtain ⟨hx, hL, hO, hS, hB, hP, hA, h10, hE, hSl, hR, hSi, hN, hD, e3, e0, e1⟩ := h
    exact hD.2
  exact h.mine hi hL' hO'.1 hO'.now k (fun c' k' y h9 => h9.elim) (fun y h9 => Or.inr (Or.inr (Or.inr (Or.inl h9)))) (fun y h9 => h9.elim) ⟨rfl, rfl, rfl⟩
    (h.k5 k (fun _ _ h9 => h9) (fun h9 => h9) (hno (11, 5) (by decide) x hx)) (h.k6 k (fun _ _ _ _ h9 => h9) (fun h9 => h9) (hno (11, 6) (by decide) x hx) (fun ru h5 _ => hno (4, 0) (by decide) ru h5) (fun ru h5 _ => hno (4, 4) (by decide) ru h5))
    (h.k7 k (fun _ _ h9 => h9) ⟨fun h9 => h9, fun h9 => h9⟩ (hno (11, 7) (by decide) x hx) (fun h9 => h9)) (h.k9 k (fun h9 => h9) (fun h9 => h9))
    (by rw [e11]; exact ⟨hd, hO'.2 _ hdd.2 (by omega) hdd.1, hdd.2⟩) (by rw [e11, e11, e11]; exact h.nums)
def cClear (d : DS) : Sp := yes (dDr d).length (drD d [])
theorem CH.draft (h : CH E G x d) : WlH G (gfd G 11 10 x) (dDr d) ∧ gfd G 13 2 (gfd G 11 10 x) = (dDr d).length := by
  obtain ⟨hx, hL, hO, hS, hB, hP, hA, h10, hE, hSl, hR, hSi, hN, hD, e3, e0, e1⟩ := h
  exact ⟨hD.1, by rw [hL.size hD.1.1 hD.1.2.1, hD.1.2.2.1]⟩
theorem ok_dclear (h : CH E G x d) (hi : DI d) : Ok E M_X11_clear [rv x] G c s (RQ E G x (cClear d)) (RX G (cClear d)) := by
  obtain ⟨hD, hz⟩ := h.draft
  refine i_X11_clear ⟨h.1, hD.1, okp_size hD.1, h.1, hD.1, Call.to (ok_clear h.2.1 hD.1 hD.2.1) (Nat.zero_le _) (Nat.zero_le _) fun r G1 k => ?_⟩
  rw [hz]
  have e : lst G1 (gfd G 11 10 x) = [] := k.2.2.2.2.2.1
  exact RQ.y (ok_draft h hi k.fr k.1 (k.onw.owg h.2.2.1) ⟨by rw [k.gclk (by rw [hD.1]; decide)]; exact hD.1, k.2.2.2.2.2.2.2, by rw [e]; rfl, fun i hi => absurd hi (Nat.not_lt_zero i)⟩)
end S87
