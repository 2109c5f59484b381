/-! the model's state, what changes of it -/
section Sa20
variable {E : EE} {G G' G2 : Gt} {c s bc bs : Nat} {Q X : Int → Gt → Prop} {a i v q m x ml mr u : Int} {k j : Nat} {T T' : Nat → Prop} {ser : List Int} {smp : List (Sm4 × Int)} {rs : List Int} {bk : Int → List (Int × Int)} {d d' : DS}
def MT (G G' : Gt) (m : Int) (T : Nat → Prop) : Prop := ∀ k, ¬ T k → gfd G' 12 k m = gfd G 12 k m ∧ (k ∈ mArr → gln G' (gfd G 12 k m) = gln G (gfd G 12 k m) ∧ ∀ i, gel G' (gfd G 12 k m) i = gel G (gfd G 12 k m) i)
theorem MT.f (h : MT G G' m T) (k : Nat) (hk : ¬ T k) : gfd G' 12 k m = gfd G 12 k m := (h k hk).1
theorem MT.e (h : MT G G' m T) (k : Nat) (hk : ¬ T k) (hm : k ∈ mArr := by decide) (i : Int) : gel G' (gfd G' 12 k m) i = gel G (gfd G 12 k m) i := by rw [(h k hk).1]; exact ((h k hk).2 hm).2 i
theorem MT.l (h : MT G G' m T) (k : Nat) (hk : ¬ T k) (hm : k ∈ mArr := by decide) : gln G' (gfd G' 12 k m) = gln G (gfd G 12 k m) := by rw [(h k hk).1]; exact ((h k hk).2 hm).1
/-- what a method of the model leaves: all but the parts T, and all that isn't the model's -/
def MU (E : EE) (G G' : Gt) (m : Int) (T : Nat → Prop) : Prop :=
  MSh E G' m ∧ LW E G' ∧ OWG G G' ∧ FR G G' (fun c _ y => c = 12 ∧ y = m) noA (fun y => ∃ k ∈ mArr, y = gfd G 12 k m) ∧ (∀ k ∈ mArr, gfd G' 12 k m = gfd G 12 k m ∨ gcl G (gfd G' 12 k m) = 0) ∧ MT G G' m T
theorem MU.refl (hs : MSh E G m) (hL : LW E G) (hO : OW G) : MU E G G m T := ⟨hs, hL, OWG.refl hO, FR.refl G, fun _ _ => Or.inl rfl, fun _ _ => ⟨rfl, fun _ => ⟨rfl, fun _ => rfl⟩⟩⟩
theorem MU.mono (h : MU E G G' m T) (ht : ∀ k, T k → T' k) : MU E G G' m T' := ⟨h.1, h.2.1, h.2.2.1, h.2.2.2.1, h.2.2.2.2.1, fun k hk => h.2.2.2.2.2 k (fun h9 => hk (ht k h9))⟩
theorem MU.trans (h : MU E G G' m T) (h2 : MU E G' G2 m T) : MU E G G2 m T := by
  refine ⟨h2.1, h2.2.1, h.2.2.1.trans h2.2.2.1 (fun y hy => by rw [h.2.2.2.1.1 y hy]; exact hy), h.2.2.2.1.andThen h2.2.2.2.1 (fun c k y _ h9 => h9) (fun y _ h9 => h9) (fun y hy h9 => ?_), fun k hk => ?_, fun k hk => ?_⟩
  · obtain ⟨k, hk, h8⟩ := h9
    rcases h.2.2.2.2.1 k hk with h7 | h7
    · exact ⟨k, hk, by rw [h8, h7]⟩
    · exact (hy (by rw [h8]; exact h7)).elim
  · rcases h2.2.2.2.2.1 k hk with h9 | h9
    · rw [h9]; exact h.2.2.2.2.1 k hk
    · exact Or.inr (h.2.2.2.1.old h9)
  · have a := h.2.2.2.2.2 k hk
    have b := h2.2.2.2.2.2 k hk
    refine ⟨b.1.trans a.1, fun hm => ?_⟩
    have b2 := b.2 hm
    rw [a.1] at b2
    exact ⟨b2.1.trans (a.2 hm).1, fun i => (b2.2 i).trans ((a.2 hm).2 i)⟩
theorem mArr_oF {k : Nat} (h : k ∉ mArr) : (12, k) ∉ oF := by
  intro h9
  unfold oF at h9
  rcases List.mem_append.mp h9 with h8 | h8
  · simp at h8
  · obtain ⟨j, hj, e⟩ := List.mem_map.mp h8
    have : j = k := congrArg Prod.snd e
    exact h (this ▸ hj)
theorem mArr_kd (h : MSh E G m) (hk : k ∈ mArr) : gcl G (gfd G 12 k m) = 15 ∨ gcl G (gfd G 12 k m) = 16 ∨ gcl G (gfd G 12 k m) = 17 := by
  unfold mArr at hk
  rcases List.mem_append.mp hk with h8 | h8
  · obtain ⟨p, hp, e⟩ := List.mem_map.mp h8
    have h7 := (h.2.1 p hp).1
    rw [e] at h7
    rw [h7]
    have : ∀ p ∈ mFix, p.2.1 = 15 ∨ p.2.1 = 16 ∨ p.2.1 = 17 := by decide
    exact this p hp
  · obtain ⟨p, hp, e⟩ := List.mem_map.mp h8
    have h7 := (h.2.2.1 p hp).1
    rw [e] at h7
    rw [h7]
    have : ∀ p ∈ mGrow, p.2 = 15 ∨ p.2 = 16 ∨ p.2 = 17 := by decide
    exact this p hp
theorem MU.mSfd (h : MU E G G' m T) (hk : k ∉ mArr) (ht : T k) : MU E G (sfd G' 12 k m v) m T := by
  have e : ∀ j, j ≠ k → gfd (sfd G' 12 k m v) 12 j m = gfd G' 12 j m := fun j hj => by rw [gfd_sfd, if_neg (fun h9 => hj h9.2.1)]
  have e2 : ∀ j ∈ mArr, gfd (sfd G' 12 k m v) 12 j m = gfd G' 12 j m := fun j hj => e j (fun h9 => hk (h9 ▸ hj))
  refine ⟨⟨h.1.1, fun p hp => ?_, fun p hp => ?_, fun i hi j hj h9 => ?_⟩, h.2.1.sfd (by decide), h.2.2.1.onw (ONW.mSfd (mArr_oF hk)), h.2.2.2.1.sfdIn ⟨rfl, rfl⟩ (by decide), fun j hj => ?_, fun j hj => ?_⟩
  · rw [e2 p.1 (List.mem_append_left _ (List.mem_map.mpr ⟨p, hp, rfl⟩))]; exact h.1.2.1 p hp
  · rw [e2 p.1 (List.mem_append_right _ (List.mem_map.mpr ⟨p, hp, rfl⟩))]; exact h.1.2.2.1 p hp
  · rw [e2 i hi, e2 j hj] at h9
    exact h.1.2.2.2 i hi j hj h9
  · rw [e2 j hj]; exact h.2.2.2.2.1 j hj
  · rw [e j (fun h9 => hj (h9 ▸ ht))]; exact h.2.2.2.2.2 j hj
theorem MU.mSel (h : MU E G G' m T) (hk : k ∈ mArr) (ht : T k) : MU E G (sel G' (gfd G' 12 k m) i v) m T := by
  have hkd := mArr_kd h.1 hk
  refine ⟨h.1, h.2.1.sel, h.2.2.1.onw ONW.mSel, h.2.2.2.1.andThen (FR.mSel h.2.1 (by omega)) (fun c k y _ h9 => h9.elim) (fun y _ h9 => h9) (fun y hy h9 => ?_), h.2.2.2.2.1, fun j hj => ?_⟩
  · rcases h.2.2.2.2.1 k hk with h7 | h7
    · exact ⟨k, hk, by rw [h9, h7]⟩
    · exact (hy (by rw [h9]; exact h7)).elim
  · have a := h.2.2.2.2.2 j hj
    refine ⟨a.1, fun hm => ⟨(a.2 hm).1, fun i => ?_⟩⟩
    rw [gel_sel, if_neg (fun h9 => h.1.2.2.2 j hm k hk (by rw [a.1]; exact h9.1) ▸ hj |> fun h8 => h8 ht)]
    exact (a.2 hm).2 i
def z4 : Sm4 × Int := ((0, 0, 0, 0), 0)
def rz : Rl := ((0, 0, 0, -1), [], [])
def MSer (G : Gt) (m : Int) (ser : List Int) : Prop := gfd G 12 6 m = ser.length ∧ ser.length ≤ 12 ∧ ∀ i : Nat, i < ser.length → ((0 ≤ gel G (gfd G 12 3 m) i ∧ gel G (gfd G 12 3 m) i ≤ 6) ∧ (0 ≤ gel G (gfd G 12 4 m) i ∧ gel G (gfd G 12 4 m) i ≤ 6) ∧ (0 ≤ gel G (gfd G 12 5 m) i ∧ gel G (gfd G 12 5 m) i ≤ 6)) ∧ wCode (gel G (gfd G 12 3 m) i) (gel G (gfd G 12 4 m) i) (gel G (gfd G 12 5 m) i) = ser.getD i 0
def MSm (G : Gt) (m : Int) (ser : List Int) (smp : List (Sm4 × Int)) (ml : Int) : Prop :=
  gfd G 12 12 m = smp.length ∧ (smp.length ≤ ml ∧ ml ≤ 20000000) ∧ (gln G (gfd G 12 7 m) = ml ∧ gln G (gfd G 12 8 m) = ml ∧ gln G (gfd G 12 9 m) = ml ∧ gln G (gfd G 12 10 m) = ml ∧ gln G (gfd G 12 11 m) = ml) ∧
  ∀ k : Nat, k < smp.length → (0 ≤ gel G (gfd G 12 7 m) k ∧ gel G (gfd G 12 7 m) k < ser.length ∧ ser.getD (gel G (gfd G 12 7 m) k).toNat 0 = qC (smp.getD k z4).1) ∧ gel G (gfd G 12 8 m) k = qT (smp.getD k z4).1 ∧ gel G (gfd G 12 9 m) k = qV (smp.getD k z4).1 ∧ gel G (gfd G 12 10 m) k = qH (smp.getD k z4).1 ∧ gel G (gfd G 12 11 m) k = (smp.getD k z4).2
def MRc (G : Gt) (m : Int) (rs : List Int) (mr : Int) : Prop := gfd G 12 14 m = rs.length ∧ (rs.length ≤ mr ∧ mr ≤ 20000000) ∧ gln G (gfd G 12 13 m) = mr ∧ ∀ j : Nat, j < rs.length → gel G (gfd G 12 13 m) j = rs.reverse.getD j 0
/-- the blocks as the model has them: number of the series, hundred, bits -/
def mBl (ser : List Int) (bk : Int → List (Int × Int)) : List (Int × Int × Int) := ((List.range ser.length).map fun i : Nat => (bk (ser.getD i 0)).map fun p => ((i : Int), p.1, p.2)).flatten
def MBk (G : Gt) (m : Int) (L : List (Int × Int × Int)) : Prop := gfd G 12 19 m = L.length ∧ L.length ≤ 600 ∧ ∀ j : Nat, j < L.length → gel G (gfd G 12 16 m) j = (L.getD j (0, 0, 0)).1 ∧ gel G (gfd G 12 17 m) j = (L.getD j (0, 0, 0)).2.1 ∧ gel G (gfd G 12 18 m) j = (L.getD j (0, 0, 0)).2.2
def MSl (G : Gt) (m : Int) (sl : List (Int × Int × Int)) : Prop := ∀ i : Nat, i < 4 → gel G (gfd G 12 20 m) (3 * i) = (sl.getD i s0).1 ∧ gel G (gfd G 12 20 m) (3 * i + 1) = (sl.getD i s0).2.1 ∧ gel G (gfd G 12 20 m) (3 * i + 2) = (sl.getD i s0).2.2
def WdM (G : Gt) (m p : Int) (w : Wd) : Prop := gel G (gfd G 12 21 m) p = w.1 ∧ gel G (gfd G 12 21 m) (p + 1) = w.2.1 ∧ gel G (gfd G 12 21 m) (p + 2) = w.2.2.1 ∧ gel G (gfd G 12 21 m) (p + 3) = w.2.2.2.1 ∧ gel G (gfd G 12 21 m) (p + 4) = w.2.2.2.2.1 ∧ gel G (gfd G 12 21 m) (p + 5) = w.2.2.2.2.2
def MWl (G : Gt) (m : Int) (b : Nat) (ws : List Wd) : Prop := gel G (gfd G 12 22 m) b = ws.length ∧ ws.length ≤ 10 ∧ ∀ k : Nat, k < ws.length → WdM G m (60 * b + 6 * k) (ws.getD k w0)
def MRl (G : Gt) (m : Int) (rl : List Rl) : Prop := gfd G 12 23 m = rl.length ∧ rl.length ≤ 8 ∧ (∀ r : Nat, r < rl.length → gel G (gfd G 12 24 m) r = (if (rl.getD r rz).1.1 = -1 then 1 else 0) ∧ ((rl.getD r rz).1.1 ≠ -1 → gel G (gfd G 12 25 m) r = (rl.getD r rz).1.1) ∧ ((rl.getD r rz).1.1 = -1 → gel G (gfd G 12 26 m) r = (rl.getD r rz).1.2.1 ∧ gel G (gfd G 12 27 m) r = (rl.getD r rz).1.2.2.1) ∧ MWl G m (r + 1) (rl.getD r rz).2.1) ∧ ∀ r : Nat, r < 8 → gel G (gfd G 12 28 m) r = (rl.getD r rz).1.2.2.2
def EnM (G : Gt) (m p : Int) (e : En) : Prop := gel G (gfd G 12 39 m) p = e.1 ∧ gel G (gfd G 12 40 m) p = e.2.1 ∧ gel G (gfd G 12 41 m) p = e.2.2.1 ∧ gel G (gfd G 12 42 m) p = e.2.2.2.1 ∧ gel G (gfd G 12 43 m) p = e.2.2.2.2
/-- the entries of one alert -/
def MEs (G : Gt) (m : Int) (r : Nat) (es : List En) : Prop := gel G (gfd G 12 38 m) r = es.length ∧ es.length ≤ 24 ∧ ∀ e : Nat, e < es.length → EnM G m (24 * r + e) (es.getD e e0)
def MEn (G : Gt) (m : Int) (rl : List Rl) : Prop := ∀ r : Nat, r < 8 → MEs G m r (rl.getD r rz).2.2
def MAn (G : Gt) (m : Int) (R : List (Int × Int)) : Prop := gfd G 12 35 m = R.length ∧ R.length ≤ 12 ∧ ∀ i : Nat, i < R.length → gel G (gfd G 12 36 m) i = (R.getD i (0, 0)).1 ∧ gel G (gfd G 12 37 m) i = (R.getD i (0, 0)).2
def MSi (G : Gt) (m : Int) (si : List ((Int × Int × Int) × Int)) : Prop := gfd G 12 45 m = si.length ∧ si.length ≤ 10 ∧ ∀ k : Nat, k < si.length → gel G (gfd G 12 44 m) (4 * k) = (si.getD k (s0, 0)).1.1 ∧ gel G (gfd G 12 44 m) (4 * k + 1) = (si.getD k (s0, 0)).1.2.1 ∧ gel G (gfd G 12 44 m) (4 * k + 2) = (si.getD k (s0, 0)).1.2.2 ∧ gel G (gfd G 12 44 m) (4 * k + 3) = (si.getD k (s0, 0)).2
def MNt (G : Gt) (m : Int) (ns : List (Int × Int × Int)) : Prop := ∀ k : Nat, k < ns.length → gel G (gfd G 12 47 m) (3 * k) = (ns.getD k s0).1 ∧ gel G (gfd G 12 47 m) (3 * k + 1) = (ns.getD k s0).2.1 ∧ gel G (gfd G 12 47 m) (3 * k + 2) = (ns.getD k s0).2.2
def MNu (G : Gt) (m : Int) (d : DS) : Prop := gfd G 12 1 m = dN d 0 ∧ gfd G 12 2 m = dN d 1 ∧ gfd G 12 48 m = dN d 4 ∧ gfd G 12 15 m = dN d 2 ∧ gfd G 12 46 m = dN d 3
/-- the model in the state d; the length of its rows of samples, of its records -/
def MH (E : EE) (G : Gt) (m : Int) (d : DS) (ml mr : Int) : Prop :=
  (MSh E G m ∧ LW E G ∧ OW G) ∧ MNu G m d ∧ MSer G m (dSer d) ∧ MSm G m (dSer d) (dSmp d) ml ∧ MRc G m (dRec d) mr ∧ MBk G m (mBl (dSer d) (dBk d)) ∧ MSl G m (dSel d) ∧ MWl G m 0 (dDr d) ∧ MRl G m (dRl d) ∧ MEn G m (dRl d) ∧ MAn G m (dAns d) ∧ MSi G m (dSil d) ∧ MNt G m (dNt d)
/-! parts that are left -/
theorem MSer.mt (h : MSer G m ser) (k : MT G G' m T) (hT : ¬ T 3 ∧ ¬ T 4 ∧ ¬ T 5 ∧ ¬ T 6) : MSer G' m ser := by
  unfold MSer
  simp only [k.f 6 hT.2.2.2, k.e 3 hT.1, k.e 4 hT.2.1, k.e 5 hT.2.2.1]
  exact h
theorem MSm.mt (h : MSm G m ser smp ml) (k : MT G G' m T) (hT : ¬ T 7 ∧ ¬ T 8 ∧ ¬ T 9 ∧ ¬ T 10 ∧ ¬ T 11 ∧ ¬ T 12) : MSm G' m ser smp ml := by
  unfold MSm
  simp only [k.f 12 hT.2.2.2.2.2, k.e 7 hT.1, k.e 8 hT.2.1, k.e 9 hT.2.2.1, k.e 10 hT.2.2.2.1, k.e 11 hT.2.2.2.2.1, k.l 7 hT.1, k.l 8 hT.2.1, k.l 9 hT.2.2.1, k.l 10 hT.2.2.2.1, k.l 11 hT.2.2.2.2.1]
  exact h
theorem MRc.mt (h : MRc G m rs mr) (k : MT G G' m T) (hT : ¬ T 13 ∧ ¬ T 14) : MRc G' m rs mr := by
  unfold MRc
  simp only [k.f 14 hT.2, k.e 13 hT.1, k.l 13 hT.1]
  exact h
theorem MBk.mt {L : List (Int × Int × Int)} (h : MBk G m L) (k : MT G G' m T) (hT : ¬ T 16 ∧ ¬ T 17 ∧ ¬ T 18 ∧ ¬ T 19) : MBk G' m L := by
  unfold MBk
  simp only [k.f 19 hT.2.2.2, k.e 16 hT.1, k.e 17 hT.2.1, k.e 18 hT.2.2.1]
  exact h
theorem MSl.mt {L : List (Int × Int × Int)} (h : MSl G m L) (k : MT G G' m T) (hT : ¬ T 20) : MSl G' m L := by
  unfold MSl
  simp only [k.e 20 hT]
  exact h
theorem MWl.mt {ws : List Wd} {b : Nat} (h : MWl G m b ws) (k : MT G G' m T) (hT : ¬ T 21 ∧ ¬ T 22) : MWl G' m b ws := by
  unfold MWl WdM
  simp only [k.e 21 hT.1, k.e 22 hT.2]
  exact h
theorem MRl.mt {rl : List Rl} (h : MRl G m rl) (k : MT G G' m T) (hT : ¬ T 21 ∧ ¬ T 22 ∧ ¬ T 23 ∧ ¬ T 24 ∧ ¬ T 25 ∧ ¬ T 26 ∧ ¬ T 27 ∧ ¬ T 28) : MRl G' m rl := by
  obtain ⟨h1, h2, h3, h4⟩ := h
  refine ⟨(k.f 23 hT.2.2.1).trans h1, h2, fun r hr => ?_, fun r hr => (k.e 28 hT.2.2.2.2.2.2.2 (by decide) _).trans (h4 r hr)⟩
  rw [k.e 24 hT.2.2.2.1, k.e 25 hT.2.2.2.2.1, k.e 26 hT.2.2.2.2.2.1, k.e 27 hT.2.2.2.2.2.2.1]
  exact ⟨(h3 r hr).1, (h3 r hr).2.1, (h3 r hr).2.2.1, (h3 r hr).2.2.2.mt k ⟨hT.1, hT.2.1⟩⟩
theorem MEs.mt {r : Nat} {es : List En} (h : MEs G m r es) (k : MT G G' m T) (hT : ¬ T 38 ∧ ¬ T 39 ∧ ¬ T 40 ∧ ¬ T 41 ∧ ¬ T 42 ∧ ¬ T 43) : MEs G' m r es := by
  unfold MEs EnM
  simp only [k.e 38 hT.1, k.e 39 hT.2.1, k.e 40 hT.2.2.1, k.e 41 hT.2.2.2.1, k.e 42 hT.2.2.2.2.1, k.e 43 hT.2.2.2.2.2]
  exact h
theorem MEn.mt {rl : List Rl} (h : MEn G m rl) (k : MT G G' m T) (hT : ¬ T 38 ∧ ¬ T 39 ∧ ¬ T 40 ∧ ¬ T 41 ∧ ¬ T 42 ∧ ¬ T 43) : MEn G' m rl := fun r hr => (h r hr).mt k hT
theorem MAn.mt {R : List (Int × Int)} (h : MAn G m R) (k : MT G G' m T) (hT : ¬ T 35 ∧ ¬ T 36 ∧ ¬ T 37) : MAn G' m R := by
  unfold MAn
  simp only [k.f 35 hT.1, k.e 36 hT.2.1, k.e 37 hT.2.2]
  exact h
theorem MSi.mt {L : List ((Int × Int × Int) × Int)} (h : MSi G m L) (k : MT G G' m T) (hT : ¬ T 44 ∧ ¬ T 45) : MSi G' m L := by
  unfold MSi
  simp only [k.f 45 hT.2, k.e 44 hT.1]
  exact h
theorem MNt.mt {L : List (Int × Int × Int)} (h : MNt G m L) (k : MT G G' m T) (hT : ¬ T 47) : MNt G' m L := by
  unfold MNt
  simp only [k.e 47 hT]
  exact h
theorem MNu.mt (h : MNu G m d) (k : MT G G' m T) (hT : ¬ T 1 ∧ ¬ T 2 ∧ ¬ T 48 ∧ ¬ T 15 ∧ ¬ T 46) : MNu G' m d := by
  unfold MNu
  rw [k.f 1 hT.1, k.f 2 hT.2.1, k.f 48 hT.2.2.1, k.f 15 hT.2.2.2.1, k.f 46 hT.2.2.2.2]
  exact h
theorem MH.lb (h : MH E G m d ml mr) : MLb G m ∧ ∀ i : Int, 0 ≤ i → i < (dSer d).length → mCode G m i = (dSer d).getD i.toNat 0 := by
  obtain ⟨h1, h2, h3⟩ := h.2.2.1
  refine ⟨⟨by omega, by omega, fun i h0 h9 => ?_⟩, fun i h0 h9 => ?_⟩
  · have := (h3 i.toNat (by omega)).1
    rw [Int.toNat_of_nonneg h0] at this
    exact this
  · have := (h3 i.toNat (by omega)).2
    rw [Int.toNat_of_nonneg h0] at this
    exact this
theorem MH.sa (h : MH E G m d ml mr) : MSa G m := by
  obtain ⟨h1, h2, ⟨l1, l2, l3, l4, l5⟩, h3⟩ := h.2.2.2.1
  unfold MSa
  omega
/-- what a call of the model leaves -/
def MF (E : EE) (G G' : Gt) (m : Int) (d' : DS) (ml' mr' : Int) : Prop := MH E G' m d' ml' mr' ∧ MU E G G' m (fun _ => True)
/-- the class's object is left -/
theorem CH.mu (h : CH E G x d) (hi : DI d) (hm : gcl G m = 13) (hs : MSh E G m) (k : MU E G G' m T) : CH E G' x d := by
  obtain ⟨hx, hL, hO, ⟨zs, hS⟩, hB, ⟨rows, sp, K, wn, hP, hK⟩, ⟨n, hA⟩, h10, hE, hSl, hR, hSi, hN, hD, e3, e0, e1⟩ := h
  obtain ⟨k1, k2, k3, kf, k5, k6⟩ := k
  have w : ∀ (c j : Nat) (y : Int), c ≠ 12 → ¬ (c = 12 ∧ y = m) := fun c j y h9 h8 => h9 h8.1
  have na : ∀ {y : Int}, gcl G y = 15 ∨ gcl G y = 16 → y ≠ -1 := fun hy => hO.nn (by omega) (by omega)
  have hm' : gcl G m = 12 + 1 := hm
  have no : ∀ {y : Int} (c k : Nat), gcl G y = c + 1 → gfd G c k y ≠ -1 → c ≠ 12 → (c, k) ∈ oF → ¬ ∃ j ∈ mArr, gfd G c k y = gfd G 12 j m := fun {y} c k hy hn hc hp h9 => by
    obtain ⟨j, hj, h8⟩ := h9
    exact hO.ne c k 12 j hy hm' hn (fun h7 => hc h7.1) hp (List.mem_append_right _ (List.mem_map.mpr ⟨j, hj, rfl⟩)) h8
  have e11 : ∀ j, gfd G' 11 j x = gfd G 11 j x := fun j => kf.2.1 11 j x (by decide) (by omega) (w 11 j x (by decide))
  have hS' := hS.fr hi.1.sc kf (fun c j y h9 => w c j y (by omega)) (fun h9 => h9) (fun h9 => h9) (fun b hb h9 => h9)
  have hrow : ∀ {r n R}, RowH G r n R → RowH G' r n R := fun {r n R} hr => hr.fr kf (fun j => w 3 j r (by decide)) (no 3 0 hr.1.1 (na (Or.inl hr.1.2.1.1)) (by decide) (by decide)) (no 3 1 hr.1.1 (na (Or.inr hr.1.2.2.1.1)) (by decide) (by decide))
  have hx' : gcl G x = 11 + 1 := hx
  refine ⟨by rw [kf.1 x (by omega)]; exact hx, k2, k3.1, ⟨zs, by rw [e11]; exact hS'.1⟩, ?_, ⟨rows, sp, K, wn, ?_, by rw [e11]; exact hK⟩, ⟨n, by rw [e11]; exact hrow hA⟩, by rw [e11, kf.1 _ (by omega)]; exact h10, by rw [e11, kf.1 _ (by omega)]; exact hE, ?_, ?_, ?_, ?_, ?_, by rw [e11]; exact e3, by rw [e11]; exact e0, by rw [e11]; exact e1⟩
  · rw [e11]
    refine hB.fr hS kf (fun j y => w 7 j y (by decide)) hS'.2 (fun b hb => ?_)
    have hb9 := (hS.2.2.2.2.1 b hb)
    have hbs := hb9.2.2.2.2.1
    exact ⟨no 7 2 hb9.1 (na (Or.inl hbs.2.1.1)) (by decide) (by decide), no 7 3 hb9.1 (na (Or.inl hbs.2.2.1.1)) (by decide) (by decide)⟩
  · rw [e11]
    refine hP.fr kf (fun j => w 2 j _ (by decide)) (fun r _ j => w 3 j r (by decide)) (fun h9 => h9) (fun r hr => ?_)
    obtain ⟨n', R', h9⟩ := hP.2.2.2.2.2.2.2.2.2.1 r hr
    exact ⟨no 3 0 h9.1.1 (na (Or.inl h9.1.2.1.1)) (by decide) (by decide), no 3 1 h9.1.1 (na (Or.inr h9.1.2.2.1.1)) (by decide) (by decide)⟩
  · rw [e11]; exact (hSl.fr kf (fun j y => w 6 j y (by decide)) (fun h9 => h9)).1
  · rw [e11]; exact (hR.fr kf (fun j y => w 4 j y (by decide)) (fun j y => w 10 j y (by decide)) (fun j y => w 6 j y (by decide)) (fun j y => w 0 j y (by decide)) (fun h9 => h9) (fun ru _ => ⟨fun h9 => h9, fun h9 => h9⟩)).1
  · have a8 := kf.2.2.2 (gfd G 11 8 x) (by have := hSi.2.1; omega) (by have := hSi.2.1; omega)
    refine ⟨by rw [e11]; exact (hSi.1.fr kf (fun j y => w 6 j y (by decide)) (fun h9 => h9)).1, by rw [e11, kf.1 _ (by rw [hSi.2.1]; decide)]; exact hSi.2.1, by rw [e11, a8.1]; exact hSi.2.2.1, fun i hi9 => ?_⟩
    rw [e11, a8.2 (no 11 8 hx' (na (Or.inl hSi.2.1)) (by decide) (by decide))]
    exact hSi.2.2.2 i hi9
  · have a9 := kf.2.2.2 (gfd G 11 9 x) (by have := hN.1; omega) (by have := hN.1; omega)
    have a9' := a9.2 (no 11 9 hx' (na (Or.inl hN.1)) (by decide) (by decide))
    refine ⟨by rw [e11, kf.1 _ (by rw [hN.1]; decide)]; exact hN.1, by rw [e11, a9.1]; exact hN.2.1, fun i hi9 => ?_⟩
    rw [e11, a9', a9', a9']
    exact hN.2.2 i hi9
  · rw [e11]
    exact ⟨(hD.1.fr kf (fun j y => w 10 j y (by decide)) (fun j y => w 6 j y (by decide)) (fun h9 => h9)).1, k3.2 _ hD.2.2 (by rw [hD.1.1]; decide) hD.2.1, hD.2.2⟩
/-- the model is left by the class's calls -/
theorem MH.fr9 (h : MH E G m d ml mr) (k : FR G G' W9 L9 (AN G)) (hL : LW E G') (hO : OW G') : MH E G' m d ml mr := by
  have hm := h.1.1.1
  have f : ∀ j, gfd G' 12 j m = gfd G 12 j m := fun j => k.2.1 12 j m (by decide) (by omega) (fun h9 => h9 rfl)
  have an : ∀ j ∈ mArr, ¬ AN G (gfd G 12 j m) := fun j hj h9 => h9 j hj m hm rfl
  have kt : MT G G' m (fun _ => False) := fun j _ => ⟨f j, fun hj => by
    have hk := mArr_kd h.1.1 hj
    have := k.2.2.2 (gfd G 12 j m) (by omega) (by omega)
    exact ⟨this.1, this.2 (an j hj)⟩⟩
  have hs : MSh E G' m := by
    refine ⟨by rw [k.1 m (by omega)]; exact hm, fun p hp => ?_, fun p hp => ?_, fun i hi j hj h9 => ?_⟩
    · have h8 := h.1.1.2.1 p hp
      have hj : p.1 ∈ mArr := List.mem_append_left _ (List.mem_map.mpr ⟨p, hp, rfl⟩)
      have hk := mArr_kd h.1.1 hj
      rw [f, k.1 _ (by omega), ((kt p.1 id).2 hj).1]; exact h8
    · have h8 := h.1.1.2.2.1 p hp
      have hj : p.1 ∈ mArr := List.mem_append_right _ (List.mem_map.mpr ⟨p, hp, rfl⟩)
      have hk := mArr_kd h.1.1 hj
      rw [f, k.1 _ (by omega), ((kt p.1 id).2 hj).1]; exact h8
    · rw [f, f] at h9
      exact h.1.1.2.2.2 i hi j hj h9
  obtain ⟨h0, h1, h2, h3, h4, h5, h6, h7, h8, h9, h10, h11, h12⟩ := h
  exact ⟨⟨hs, hL, hO⟩, h1.mt kt ⟨id, id, id, id, id⟩, h2.mt kt ⟨id, id, id, id⟩, h3.mt kt ⟨id, id, id, id, id, id⟩, h4.mt kt ⟨id, id⟩, h5.mt kt ⟨id, id, id, id⟩, h6.mt kt id, h7.mt kt ⟨id, id⟩, h8.mt kt ⟨id, id, id, id, id, id, id, id⟩, h9.mt kt ⟨id, id, id, id, id, id⟩, h10.mt kt ⟨id, id, id⟩, h11.mt kt ⟨id, id⟩, h12.mt kt id⟩
end Sa20
