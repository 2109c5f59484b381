/-! the copy is mended -/
section S49
variable {E : EE} {G G' G2 : Gt} {c s : Nat} {Q X : Int → Gt → Prop} {a st x q l t v f : Int} {zs zs' : List Zt} {W : Nat → Nat → Int → Prop} {L A : Int → Prop}
variable {ser : List Int} {smp : List (Sm4 × Int)} {rs : List Int} {dn wr cr er : Int}
def pj (z : Zt) : Int × Sm4 := (z.1, z.2.1)
theorem zHid_pj (r : Int) (zs : List Zt) : zHid r zs = ((zs.map pj).filter (fun z => decide (qH z.2 = r))).map (·.1) := by
  unfold zHid
  rw [List.filter_map, List.map_map]; rfl
theorem zO_pj (l : Int) (zs : List Zt) : zO l zs = ((zs.map pj).filter (fun z => own l z.2)).map (·.1) := by
  unfold zO
  rw [List.filter_map, List.map_map]; rfl
theorem zU_pj (r : Int) (zs : List Zt) : (zU r zs).map pj = if r = 0 then (zs.map pj).dropLast else (zs.map pj).map (fun z => (z.1, unh r z.2)) := by
  unfold zU
  split
  · rw [List.map_dropLast]
  · rw [List.map_map, List.map_map]; rfl
theorem RecR.ofPj : ∀ {gs rs : List Int} {zs zs' : List Zt}, RecR G zs gs rs → zs'.map pj = zs.map pj → RecR G zs' gs rs
  | [], [], _, _, _, _ => trivial
  | g :: gs, r :: rs, zs, zs', h, e => by
    obtain ⟨h1, h2, h3, h4⟩ := h
    refine ⟨h1, fun e0 => ?_, fun e0 => ?_, RecR.ofPj h4 (by rw [zU_pj, zU_pj, e])⟩
    · obtain ⟨k1, z0, z, k2, k3⟩ := h2 e0
      refine ⟨k1, ?_⟩
      rw [k2, List.map_append] at e
      obtain ⟨y0, y1, e1, e2, e3⟩ := List.map_eq_append_iff.mp e
      have e4 := congrArg List.length e3
      rw [List.length_map] at e4
      obtain ⟨y, rfl⟩ := List.length_eq_one_iff.mp e4
      refine ⟨y0, y, e1, ?_⟩
      rw [k3]
      have e5 : pj y = pj z := List.head_eq_of_cons_eq (show [pj y] = [pj z] from e3)
      exact (congrArg Prod.fst e5).symm
    · obtain ⟨k1, ks, k2, k3⟩ := h3 e0
      refine ⟨k1, ks, ?_, k3⟩
      rw [zHid_pj, e, ← zHid_pj]; exact k2
  | [], _ :: _, _, _, h, _ => h.elim
  | _ :: _, [], _, _, h, _ => h.elim
def updC (f : Int) (z : Zt) : Zt := if z.1 = f then (z.1, z.2.1, 1) else z
theorem updC_pj (f : Int) (z : Zt) : pj (updC f z) = pj z := by unfold updC; split <;> rfl
theorem updC_1 (f : Int) (z : Zt) : (updC f z).1 = z.1 := by unfold updC; split <;> rfl
theorem updC_id {f : Int} {zs : List Zt} (h : f ∉ zs.map (·.1)) : zs.map (updC f) = zs := by
  conv => rhs; rw [← List.map_id zs]
  refine List.map_congr_left fun z hz => ?_
  unfold updC
  rw [if_neg]; rfl
  intro h9
  exact h (List.mem_map.mpr ⟨z, hz, h9⟩)
theorem set1_zs (o : Int → Int) (f : Int) : ∀ (zs : List Zt), zs.Pairwise (fun z y => o z.1 < o y.1) → (zs.map (·.1)).Nodup → (∃ z ∈ zs, z.1 = f ∧ unc z.2 = true) → (∀ z ∈ zs, unc z.2 = true → o f ≤ o z.1) → set1 (zs.map (·.2)) = (zs.map (updC f)).map (·.2)
  | [], _, _, h, _ => by obtain ⟨z, hz, -⟩ := h; cases hz
  | z :: zs, hp, hn, ⟨y, hy, y1, y2⟩, hb => by
    have hp' := List.pairwise_cons.mp hp
    have hn' := List.nodup_cons.mp hn
    rw [List.map_cons, List.map_cons, List.map_cons]
    unfold set1
    by_cases hu : unc z.2 = true
    · rw [if_pos hu]
      have hf : z.1 = f := by
        rcases List.mem_cons.mp hy with h9 | h9
        · rw [← h9]; exact y1
        · have h8 := hp'.1 y h9
          have h7 := hb z List.mem_cons_self hu
          rw [y1] at h8; omega
      rw [updC_id (by rw [← hf]; exact hn'.1)]
      congr 1
      unfold updC
      rw [if_pos hf]
    · rw [if_neg hu]
      have hyt : y ∈ zs := by
        rcases List.mem_cons.mp hy with h9 | h9
        · rw [h9] at y2; exact (hu y2).elim
        · exact h9
      have hzf : z.1 ≠ f := fun h9 => hn'.1 (List.mem_map.mpr ⟨y, hyt, y1.trans h9.symm⟩)
      rw [set1_zs o f zs hp'.2 hn'.2 ⟨y, hyt, y1, y2⟩ (fun z' hz' => hb z' (List.mem_cons_of_mem _ hz'))]
      congr 1
      unfold updC
      rw [if_neg hzf]
/-- a sample is copied -/
theorem StH.cp (h : StH G st zs ser smp rs dn wr cr) (hi : SI ser (smp.map (·.1)) rs er) (hL : LW E G) : StH (sfd G 5 4 f 1) st (zs.map (updC f)) ser ((zs.map (updC f)).map (·.2)) rs dn wr cr := by
  have F : FR G (sfd G 5 4 f 1) (fun c k y => c = 5 ∧ k = 4 ∧ y = f) noA noA := FR.mSfd (by decide)
  have epj : (zs.map (updC f)).map pj = zs.map pj := by rw [List.map_map]; exact List.map_congr_left fun z _ => updC_pj f z
  have ezO : ∀ l, zO l (zs.map (updC f)) = zO l zs := fun l => by rw [zO_pj, epj, ← zO_pj]
  have e5 : ∀ (c k : Nat) (y : Int), ¬ (c = 5 ∧ k = 4) → gfd (sfd G 5 4 f 1) c k y = gfd G c k y := fun c k y hn => by rw [gfd_sfd, if_neg (fun h9 => hn ⟨h9.1, h9.2.1⟩)]
  have eN : numL (sfd G 5 4 f 1) st = numL G st := by unfold numL; rw [e5 8 0 st (by decide), lst_sfd (by decide)]
  have hm : ∀ z ∈ zs.map (updC f), ∃ y ∈ zs, z = updC f y := fun z hz => by
    obtain ⟨y, hy, rfl⟩ := List.mem_map.mp hz
    exact ⟨y, hy, rfl⟩
  refine ⟨h.1, ⟨by rw [e5 8 0 st (by decide)]; exact h.2.1.1, by rw [e5 8 0 st (by decide), e5 13 1 _ (by decide)]; exact h.2.1.2⟩, ⟨by rw [e5 8 1 st (by decide)]; exact h.2.2.1.1, by rw [e5 8 1 st (by decide), e5 13 1 _ (by decide)]; exact h.2.2.1.2⟩, ?_, ?_, rfl, ?_, ?_, ?_, ?_, ?_, ?_, ?_, ?_⟩
  · rw [eN]; exact h.2.2.2.1
  · intro b hb
    rw [eN] at hb
    have hsb := h.2.2.2.2.1 b hb
    exact (hsb.fr F (fun j h9 => by omega) (fun y _ h9 => by omega) (fun y hy => by rw [((h.sr hi hb).2.2.2.1 y hy).1]; decide) id (by rw [ezO])).1
  · rw [List.map_map, show ((fun x : Zt => x.1) ∘ updC f) = (fun x : Zt => x.1) from funext fun z => updC_1 f z]
    exact h.2.2.2.2.2.2.1
  · intro z hz
    obtain ⟨y, hy, rfl⟩ := hm z hz
    have h8 := h.2.2.2.2.2.2.2.1 y hy
    have e2 : (updC f y).2.1 = y.2.1 := congrArg Prod.snd (updC_pj f y)
    refine ⟨by rw [updC_1]; exact h8.1, by rw [updC_1, e2]; exact h8.2.1, by rw [updC_1, e2]; exact h8.2.2.1, ?_, by rw [updC_1, eN, e5 5 0 _ (by decide)]; exact h8.2.2.2.2.1, by rw [updC_1, e2, e5 5 0 _ (by decide)]; exact h8.2.2.2.2.2⟩
    rw [updC_1, gfd_sfd]
    unfold updC
    by_cases h9 : y.1 = f
    · rw [if_pos ⟨rfl, rfl, h9⟩, if_pos h9]
    · rw [if_neg (fun h7 => h9 h7.2.2), if_neg h9]; exact h8.2.2.2.1
  · rw [List.pairwise_map]
    refine h.2.2.2.2.2.2.2.2.1.imp fun {y z} h9 => ?_
    rw [updC_1, updC_1]; exact h9
  · intro z hz
    obtain ⟨y, hy, rfl⟩ := hm z hz
    rw [updC_1]; exact h.2.2.2.2.2.2.2.2.2.1 y hy
  · exact h.2.2.2.2.2.2.2.2.2.2.1
  · exact h.2.2.2.2.2.2.2.2.2.2.2.1
  · rw [e5 8 1 st (by decide), capOf_sfd (by decide)]; exact h.2.2.2.2.2.2.2.2.2.2.2.2.1
  · rw [e5 8 1 st (by decide), lst_sfd (by decide)]
    refine RecR.ofPj (RecR.fr h.2.2.2.2.2.2.2.2.2.2.2.2.2 (fun g _ h2 => ⟨h2, e5 1 0 g (by decide), e5 1 1 g (by decide)⟩) (fun z _ _ => e5 5 5 z.1 (by decide))) epj
theorem StH.fi (h : StH G st zs ser smp rs dn wr cr) (hi : SI ser (smp.map (·.1)) rs er) (hf : FI G (((numL G st).map (seenL G)).flatten) f) : (f = -1 ∧ smp.any unc = false) ∨ (f ≠ -1 ∧ gcl G f = 6 ∧ smp.any unc = true ∧ set1 smp = (zs.map (updC f)).map (·.2)) := by
  have hs : ∀ x, x ∈ ((numL G st).map (seenL G)).flatten ↔ ∃ z ∈ zs, z.1 = x ∧ qH z.2.1 = 0 := fun x => by
    rw [List.mem_flatten]
    constructor
    · rintro ⟨l, hl, hx⟩
      obtain ⟨b, hb, rfl⟩ := List.mem_map.mp hl
      obtain ⟨z, z1, z2, z3, -⟩ := zO_mem.mp ((h.2.2.2.2.1 b hb).2.2.1.mem_iff.mp hx)
      exact ⟨z, z1, z2, z3⟩
    · rintro ⟨z, z1, rfl, z3⟩
      have h1 : qC z.2.1 ∈ ser := (hi.2.2.2.1 _ (h.mem z1)).1
      rw [← h.2.2.2.1] at h1
      obtain ⟨b, hb, e⟩ := List.mem_map.mp h1
      exact ⟨_, List.mem_map.mpr ⟨b, hb, rfl⟩, (h.2.2.2.2.1 b hb).2.2.1.mem_iff.mpr (zO_mem.mpr ⟨z, z1, rfl, z3, e.symm⟩)⟩
  have hu : ∀ z ∈ zs, unc z.2 = true ↔ qH z.2.1 = 0 ∧ gfd G 5 4 z.1 = 0 := fun z hz => by
    rw [(h.2.2.2.2.2.2.2.1 z hz).2.2.2.1]
    unfold unc; exact decide_eq_true_iff
  rcases hf.2 with ⟨h1, h2⟩ | ⟨h1, h2, h3, h4⟩
  · refine Or.inl ⟨h1, ?_⟩
    rw [List.any_eq_false, ← h.2.2.2.2.2.1]
    intro q hq
    obtain ⟨z, hz, rfl⟩ := List.mem_map.mp hq
    intro h9
    have h8 := (hu z hz).mp h9
    exact h2 z.1 ((hs _).mpr ⟨z, hz, rfl, h8.1⟩) h8.2
  · obtain ⟨z, z1, z2, z3⟩ := (hs f).mp h2
    have h5 : unc z.2 = true := (hu z z1).mpr ⟨z3, by rw [z2]; exact h3⟩
    refine Or.inr ⟨h1, hf.1 f h2, ?_, ?_⟩
    · rw [List.any_eq_true, ← h.2.2.2.2.2.1]
      exact ⟨z.2, List.mem_map.mpr ⟨z, z1, rfl⟩, h5⟩
    · rw [← h.2.2.2.2.2.1]
      refine set1_zs (fun y => gfd G 5 3 y) f zs h.2.2.2.2.2.2.2.2.1 h.2.2.2.2.2.2.1 ⟨z, z1, z2, h5⟩ (fun y hy h9 => ?_)
      have h8 := (hu y hy).mp h9
      exact h4 y.1 ((hs _).mpr ⟨y, hy, rfl, h8.1⟩) h8.2
def cpQ (E : EE) (G G' : Gt) (st : Int) (ser : List Int) (smp' : List (Sm4 × Int)) (rs : List Int) (dn wr cr : Int) : Prop :=
  LW E G' ∧ OWG G G' ∧ FR G G' (fun c k _ => c = 5 ∧ k = 4) noA noA ∧ ∃ zs', StH G' st zs' ser smp' rs dn wr cr
theorem v_copyFirst {m : Int} (hm : m ≤ 1000) : ∀ (j : Nat) (n : Int) (G1 : Gt) (f : Int) (zs1 : List Zt) (smp1 : List (Sm4 × Int)), 0 ≤ n → n + j = m → LW E G1 → OWG G G1 → FR G G1 (fun c k _ => c = 5 ∧ k = 4) noA noA → StH G1 st zs1 ser smp1 rs dn wr cr → SI ser (smp1.map (·.1)) rs er → FI G1 (((numL G1 st).map (seenL G1)).flatten) f →
    V E M_X8_copyFirst 7 [some (rv st), some (iv m), some (iv n), some (rv f)] [] G1 c s (fun r G' => r = n + (mnd j smp1).2 ∧ cpQ E G G' st ser (mnd j smp1).1 rs dn wr cr) X := by
  intro j
  induction j with
  | zero =>
    intro n G1 f zs1 smp1 h0 hn hL hO hF h hi hf
    refine b_X8_copyFirst_7 ⟨fun _ => ⟨?_, hL, hO, hF, zs1, h⟩, fun h9 => by omega⟩
    show n = n + ((0 : Nat) : Int)
    omega
  | succ j ih =>
    intro n G1 f zs1 smp1 h0 hn hL hO hF h hi hf
    refine b_X8_copyFirst_7 ⟨fun h9 => by omega, fun _ => ?_⟩
    rcases h.fi hi hf with ⟨h1, h2⟩ | ⟨h1, h2, h3, h4⟩
    · refine ⟨fun _ => ?_, fun h9 => by omega⟩
      unfold mnd
      rw [h2]
      refine ⟨?_, hL, hO, hF, zs1, h⟩
      show n = n + ((0 : Nat) : Int)
      omega
    · refine ⟨fun h9 => (h1 h9).elim, fun _ => ⟨h2, fun G2 e2 => ⟨i32s (by omega), ?_⟩⟩⟩
      have hc := h.cp (f := f) hi hL
      rw [← h4, ← e2] at hc
      have hi2 : SI ser ((set1 smp1).map (·.1)) rs er := by rw [set1_fst]; exact hi
      have hL2 : LW E G2 := by rw [e2]; exact hL.sfd (by decide)
      have hO2 : OWG G G2 := by rw [e2]; exact hO.onw (ONW.mSfd (by decide))
      have hF2 : FR G G2 (fun c k _ => c = 5 ∧ k = 4) noA noA := by rw [e2]; exact hF.sfdIn ⟨rfl, rfl⟩ (by decide)
      have h6 : gcl G2 (-1) ≠ 6 := by rcases hO2.1.2.2 with h9 | h9 <;> omega
      refine ⟨hc.1, Call.to (ok_firstNotCopied hL2 (hc.nr hi2) h6) (Nat.zero_le _) (Nat.zero_le _) fun r G3 hr => ?_⟩
      obtain ⟨hr, rfl⟩ := hr
      have := ih (n + 1) G3 r _ _ (by omega) (by omega) hL2 hO2 hF2 hc hi2 hr
      have e1 : mnd (j + 1) smp1 = ((mnd j (set1 smp1)).1, (mnd j (set1 smp1)).2 + 1) := by
        rw [show mnd (j + 1) smp1 = if smp1.any unc = true then ((mnd j (set1 smp1)).1, (mnd j (set1 smp1)).2 + 1) else (smp1, 0) from rfl, if_pos h3]
      rw [e1, show n + (((mnd j (set1 smp1)).2 + 1 : Nat) : Int) = n + 1 + ((mnd j (set1 smp1)).2 : Int) by omega]
      exact this
theorem ok_copyFirst {m : Int} (hm : 1 ≤ m ∧ m ≤ 1000) (hL : LW E G) (hO : OW G) (h : StH G st zs ser smp rs dn wr cr) (hi : SI ser (smp.map (·.1)) rs er) :
    Ok E M_X8_copyFirst [rv st, iv m] G 0 0 (fun r G' => r = (mnd m.toNat smp).2 ∧ cpQ E G G' st ser (mnd m.toNat smp).1 rs dn wr cr) (fun _ _ => False) := by
  have h6 : gcl G (-1) ≠ 6 := by rcases hO.2.2 with h9 | h9 <;> omega
  refine i_X8_copyFirst ⟨h.1, Call.to (ok_firstNotCopied hL (h.nr hi) h6) (Nat.zero_le _) (Nat.zero_le _) fun r G3 hr => ?_⟩
  obtain ⟨hr, rfl⟩ := hr
  have := v_copyFirst (c := 0) (s := 0) (X := fun _ _ => False) (m := m) hm.2 m.toNat 0 G3 r zs smp (Int.le_refl 0) (by omega) hL (OWG.refl hO) (FR.refl G3) h hi hr
  rw [Int.zero_add] at this
  exact this
/-- how many the copy doesn't have -/
theorem sumZ (p : Zt → Bool) : ∀ (cs : List Int) (zs : List Zt), cs.Nodup → (∀ z ∈ zs, qC z.2.1 ∈ cs) → (cs.map fun c => zs.countP (fun z => own c z.2.1 && p z)).sum = zs.countP (fun z => decide (qH z.2.1 = 0) && p z) := by
  intro cs zs hn hm
  induction zs with
  | nil =>
    show _ = 0
    clear hm hn
    induction cs with
    | nil => rfl
    | cons c cs ih => rw [List.map_cons, List.sum_cons, ih]; rfl
  | cons z zs ih =>
    have ih' := ih (fun z' h' => hm z' (List.mem_cons_of_mem _ h'))
    rw [List.countP_cons, ← ih']
    have key : ∀ cs : List Int, cs.Nodup → (cs.map fun c => (z :: zs).countP (fun z => own c z.2.1 && p z)).sum = (cs.map fun c => zs.countP (fun z => own c z.2.1 && p z)).sum + if (decide (qH z.2.1 = 0) && p z) = true ∧ qC z.2.1 ∈ cs then 1 else 0 := by
      intro cs hn
      induction cs with
      | nil => simp
      | cons c cs ih2 =>
        have hn' := List.nodup_cons.mp hn
        rw [List.map_cons, List.sum_cons, List.map_cons, List.sum_cons, ih2 hn'.2, List.countP_cons]
        by_cases h1 : (own c z.2.1 && p z) = true
        · have h1' := (Bool.and_eq_true _ _).mp h1
          have h2 := own_iff.mp h1'.1
          have h3 : qC z.2.1 ∉ cs := by rw [h2.2]; exact hn'.1
          have e3 : (if (decide (qH z.2.1 = 0) && p z) = true ∧ qC z.2.1 ∈ cs then 1 else 0) = 0 := if_neg (fun h9 => h3 h9.2)
          have e4 : (if (decide (qH z.2.1 = 0) && p z) = true ∧ qC z.2.1 ∈ c :: cs then 1 else 0) = 1 := if_pos ⟨by rw [decide_eq_true h2.1, h1'.2]; rfl, by rw [h2.2]; exact List.mem_cons_self⟩
          rw [e3, e4, if_pos h1]; omega
        · rw [if_neg h1]
          have h5 : ((decide (qH z.2.1 = 0) && p z) = true ∧ qC z.2.1 ∈ c :: cs) ↔ ((decide (qH z.2.1 = 0) && p z) = true ∧ qC z.2.1 ∈ cs) := by
            constructor
            · rintro ⟨h6, h7⟩
              refine ⟨h6, ?_⟩
              rcases List.mem_cons.mp h7 with h8 | h8
              · have h6' := (Bool.and_eq_true _ _).mp h6
                refine (h1 ?_).elim
                rw [own_iff.mpr ⟨of_decide_eq_true h6'.1, h8⟩, h6'.2]; rfl
              · exact h8
            · rintro ⟨h6, h7⟩
              exact ⟨h6, List.mem_cons_of_mem _ h7⟩
          simp only [h5]
          omega
    rw [key cs hn]
    have hq := hm z List.mem_cons_self
    simp only [hq, and_true]
theorem StH.behind (h : StH G st zs ser smp rs dn wr cr) (hi : SI ser (smp.map (·.1)) rs er) : ncA G (numL G st) = smp.countP unc := by
  have e : smp.countP unc = zs.countP (fun z => decide (qH z.2.1 = 0) && decide (z.2.2 = 0)) := by
    rw [← h.2.2.2.2.2.1, List.countP_map]
    refine List.countP_congr fun z _ => ?_
    show unc z.2 = true ↔ _
    unfold unc
    rw [Bool.and_eq_true, decide_eq_true_iff, decide_eq_true_iff, decide_eq_true_iff]
  rw [e, ← sumZ (fun z => decide (z.2.2 = 0)) ser zs hi.1 (fun z hz => (hi.2.2.2.1 _ (h.mem hz)).1), ← h.2.2.2.1, List.map_map]
  unfold ncA
  refine congrArg List.sum (List.map_congr_left fun b hb => ?_)
  have h5 := h.2.2.2.2.1 b hb
  show ncN G (seenL G b) = zs.countP (fun z => own (sLab G b) z.2.1 && decide (z.2.2 = 0))
  unfold ncN
  rw [h5.2.2.1.countP_eq]
  unfold zO
  rw [List.countP_map, List.countP_filter]
  refine List.countP_congr fun z hz => ?_
  show (decide (gfd G 5 4 z.1 = 0) && own (sLab G b) z.2.1) = true ↔ _
  rw [(h.2.2.2.2.2.2.2.1 z hz).2.2.2.1, Bool.and_comm]
end S49
