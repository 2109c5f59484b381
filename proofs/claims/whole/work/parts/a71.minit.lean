/-! the model is made -/
section Sa71
variable {E : EE} {G G' G2 G0 : Gt} {c s : Nat} {Q X : Int → Gt → Prop} {m q n : Int} {k t j : Nat} {ks : List (Nat × Nat × Int)}
/-- the arrays that the model has so far -/
def MI (E : EE) (G0 G : Gt) (m : Int) (ks : List (Nat × Nat × Int)) : Prop :=
  NB E G0 G m 12 ∧ (∀ p ∈ ks, (15 ≤ p.2.1 ∧ p.2.1 ≤ 17) ∧ gcl G (gfd G 12 p.1 m) = p.2.1 ∧ gln G (gfd G 12 p.1 m) = p.2.2 ∧ (eb E : Int) ≤ gfd G 12 p.1 m ∧ gcl G0 (gfd G 12 p.1 m) = 0 ∧ ∀ i, gel G (gfd G 12 p.1 m) i = 0) ∧
  (∀ p ∈ ks, ∀ p' ∈ ks, gfd G 12 p.1 m = gfd G 12 p'.1 m → p.1 = p'.1) ∧ gfd G 12 2 m = 1000 ∧ ∀ k, k ≠ 2 → k ∉ ks.map (·.1) → gfd G 12 k m = gfd G0 12 k m
theorem MI.start (hm : gcl G m = 13) (hL : LW E G) (hO : OW G) : MI E G (sfd G 12 2 m 1000) m [] :=
  ⟨(NB.refl hL hO).num (by decide) (mArr_oF (by decide)), fun p hp => (List.not_mem_nil hp).elim, fun p hp => (List.not_mem_nil hp).elim, by rw [gfd_sfd, if_pos ⟨rfl, rfl, rfl⟩], fun k hk _ => by rw [gfd_sfd, if_neg (fun h9 => hk h9.2.1)]⟩
theorem MI.step {K : Gt → Prop} (h : MI E G0 G m ks) (hm : gcl G0 m = 13) (h0 : 0 ≤ m) (ht : 15 ≤ t ∧ t ≤ 17) (hk2 : k ≠ 2) (hn : k ∉ ks.map (·.1)) (hc : 1 ≤ c) (hs : n.toNat ≤ s) (hK : ∀ G9, MI E G0 G9 m ((k, t, n) :: ks) → K G9) :
    1 ≤ c ∧ n.toNat ≤ s ∧ ∀ q : Int, gcl G q = 0 → (eb E : Int) ≤ q → ∀ G7 : Gt, G7 = newa G q t n → gcl G7 m = 13 ∧ ∀ G9 : Gt, G9 = sfd G7 12 k m q → K G9 := by
  refine ⟨hc, hs, fun q hq hb G7 e7 => ?_⟩
  obtain ⟨h1, h2, h3, h4, h5⟩ := h
  have hm' : gcl G m = 13 := by rw [h1.gc (by omega)]; exact hm
  have hmq : m ≠ q := fun h9 => by rw [h9] at hm'; omega
  obtain ⟨n7, r7, c7, l7⟩ := h1.newa (t := t) (m := n) hq (by omega) ht.1
  rw [← e7] at n7 r7 c7 l7
  refine ⟨by rw [e7, gcl_newa, if_neg hmq]; exact hm', fun G9 e9 => hK G9 ?_⟩
  have f9 : ∀ j, gfd G9 12 j m = if j = k then q else gfd G 12 j m := fun j => by
    rw [e9, gfd_sfd]
    by_cases hj : j = k
    · rw [if_pos ⟨rfl, hj, rfl⟩, if_pos hj]
    · rw [if_neg (fun h9 => hj h9.2.1), if_neg hj, e7, gfd_newa]
  have hq0 : gcl G0 q = 0 := h1.old hq
  have g9 : ∀ y, gcl G9 y = if y = q then t else gcl G y := fun y => by rw [e9, gcl_sfd, e7, gcl_newa]
  have l9 : ∀ y, gln G9 y = if y = q then n else gln G y := fun y => by rw [e9, gln_sfd, e7, gln_newa]
  have v9 : ∀ y i, gel G9 y i = if y = q then (if t = 18 then -1 else 0) else gel G y i := fun y i => by rw [e9, gel_sfd, e7, gel_newa]
  have old : ∀ p ∈ ks, p.1 ≠ k ∧ gfd G 12 p.1 m ≠ q := fun p hp => ⟨fun h9 => hn (h9 ▸ List.mem_map.mpr ⟨p, hp, rfl⟩), fun h9 => by
    have := h2 p hp
    rw [h9, hq] at this
    omega⟩
  refine ⟨by rw [e9]; exact n7.put (by decide) hq0 r7 (by omega), fun p hp => ?_, fun p hp p' hp' he => ?_, by rw [f9, if_neg (fun h9 => hk2 h9.symm)]; exact h4, fun j hj hjn => ?_⟩
  · rcases List.mem_cons.mp hp with h9 | h9
    · rw [h9]
      show _ ∧ gcl G9 (gfd G9 12 k m) = t ∧ gln G9 (gfd G9 12 k m) = n ∧ (eb E : Int) ≤ gfd G9 12 k m ∧ gcl G0 (gfd G9 12 k m) = 0 ∧ ∀ i, gel G9 (gfd G9 12 k m) i = 0
      rw [f9, if_pos rfl, g9, if_pos rfl, l9, if_pos rfl]
      exact ⟨ht, rfl, rfl, hb, hq0, fun i => by rw [v9, if_pos rfl, if_neg (by omega)]⟩
    · obtain ⟨o1, o2⟩ := old p h9
      obtain ⟨a1, a2, a3, a4, a5, a6⟩ := h2 p h9
      rw [f9, if_neg o1, g9, if_neg o2, l9, if_neg o2]
      exact ⟨a1, a2, a3, a4, a5, fun i => by rw [v9, if_neg o2]; exact a6 i⟩
  · rw [f9, f9] at he
    rcases List.mem_cons.mp hp with h9 | h9 <;> rcases List.mem_cons.mp hp' with h8 | h8
    · rw [h9, h8]
    · obtain ⟨o1, o2⟩ := old p' h8
      rw [h9, if_pos rfl, if_neg o1] at he
      exact (o2 he.symm).elim
    · obtain ⟨o1, o2⟩ := old p h9
      rw [h8, if_neg o1, if_pos rfl] at he
      exact (o2 he).elim
    · rw [if_neg (old p h9).1, if_neg (old p' h8).1] at he
      exact h3 p h9 p' h8 he
  · rw [List.map_cons] at hjn
    have hjk : j ≠ k := fun h9 => hjn (h9 ▸ List.mem_cons_self)
    rw [f9, if_neg hjk]
    exact h5 j hj (fun h9 => hjn (List.mem_cons_of_mem _ h9))
/-- the model's arrays in the order of their making, the last one first -/
def LA : List (Nat × Nat × Int) := [(50, 15, 12), (49, 16, 12), (47, 15, 180), (44, 15, 40), (43, 17, 192), (42, 15, 192), (41, 15, 192), (40, 15, 192), (39, 15, 192), (38, 15, 8), (37, 16, 12), (36, 15, 12), (32, 16, 120), (31, 15, 120), (30, 15, 10), (29, 17, 10), (28, 15, 8), (27, 15, 8), (26, 15, 8), (25, 15, 8), (24, 17, 8), (22, 15, 9), (21, 15, 540), (20, 15, 12), (18, 15, 600), (17, 15, 600), (16, 15, 600), (13, 15, 40000), (11, 17, 40000), (10, 15, 40000), (9, 15, 40000), (8, 15, 40000), (7, 15, 40000), (5, 15, 12), (4, 15, 12), (3, 15, 12)]
set_option maxRecDepth 20000 in
theorem mi_chain (hm : gcl G m = 13) (h0 : 0 ≤ m) (hL : LW E G) (hO : OW G) (hc : 36 ≤ c) (hs : 243933 ≤ s) (hK : ∀ G', MI E G G' m LA → V E M_X12_init 311 [some (rv m), some (iv 0)] [] G' (c - 36) (s - 243933) Q X) : Ok E M_X12_init [rv m] G c s Q X := by
  obtain ⟨c9, rfl⟩ : ∃ c9, c = c9 + 36 := ⟨c - 36, by omega⟩
  obtain ⟨s9, rfl⟩ : ∃ s9, s = s9 + 243933 := ⟨s - 243933, by omega⟩
  have hK2 : ∀ G', MI E G G' m LA → V E M_X12_init 311 [some (rv m), some (iv 0)] [] G' c9 s9 Q X := fun G' h9 => by
    have := hK G' h9
    rw [Nat.add_sub_cancel, Nat.add_sub_cancel] at this
    exact this
  refine i_X12_init ⟨h0, hm, fun G3 e3 => ?_⟩
  have a0 : MI E G G3 m [] := by rw [e3]; exact MI.start hm hL hO
  refine MI.step (k := 3) (t := 15) (n := 12) a0 hm h0 (by decide) (by decide) (by decide) (by omega) (by omega) fun G1000 a1 => ?_
  rw [show c9 + 36 - 1 = c9 + 35 by omega, show s9 + 243933 - (12 : Int).toNat = s9 + 243921 by omega]
  refine MI.step (k := 4) (t := 15) (n := 12) a1 hm h0 (by decide) (by decide) (by decide) (by omega) (by omega) fun G1001 a2 => ?_
  rw [show c9 + 35 - 1 = c9 + 34 by omega, show s9 + 243921 - (12 : Int).toNat = s9 + 243909 by omega]
  refine MI.step (k := 5) (t := 15) (n := 12) a2 hm h0 (by decide) (by decide) (by decide) (by omega) (by omega) fun G1002 a3 => ?_
  rw [show c9 + 34 - 1 = c9 + 33 by omega, show s9 + 243909 - (12 : Int).toNat = s9 + 243897 by omega]
  refine MI.step (k := 7) (t := 15) (n := 40000) a3 hm h0 (by decide) (by decide) (by decide) (by omega) (by omega) fun G1003 a4 => ?_
  rw [show c9 + 33 - 1 = c9 + 32 by omega, show s9 + 243897 - (40000 : Int).toNat = s9 + 203897 by omega]
  refine MI.step (k := 8) (t := 15) (n := 40000) a4 hm h0 (by decide) (by decide) (by decide) (by omega) (by omega) fun G1004 a5 => ?_
  rw [show c9 + 32 - 1 = c9 + 31 by omega, show s9 + 203897 - (40000 : Int).toNat = s9 + 163897 by omega]
  refine MI.step (k := 9) (t := 15) (n := 40000) a5 hm h0 (by decide) (by decide) (by decide) (by omega) (by omega) fun G1005 a6 => ?_
  rw [show c9 + 31 - 1 = c9 + 30 by omega, show s9 + 163897 - (40000 : Int).toNat = s9 + 123897 by omega]
  refine MI.step (k := 10) (t := 15) (n := 40000) a6 hm h0 (by decide) (by decide) (by decide) (by omega) (by omega) fun G1006 a7 => ?_
  rw [show c9 + 30 - 1 = c9 + 29 by omega, show s9 + 123897 - (40000 : Int).toNat = s9 + 83897 by omega]
  refine MI.step (k := 11) (t := 17) (n := 40000) a7 hm h0 (by decide) (by decide) (by decide) (by omega) (by omega) fun G1007 a8 => ?_
  rw [show c9 + 29 - 1 = c9 + 28 by omega, show s9 + 83897 - (40000 : Int).toNat = s9 + 43897 by omega]
  refine MI.step (k := 13) (t := 15) (n := 40000) a8 hm h0 (by decide) (by decide) (by decide) (by omega) (by omega) fun G1008 a9 => ?_
  rw [show c9 + 28 - 1 = c9 + 27 by omega, show s9 + 43897 - (40000 : Int).toNat = s9 + 3897 by omega]
  refine MI.step (k := 16) (t := 15) (n := 600) a9 hm h0 (by decide) (by decide) (by decide) (by omega) (by omega) fun G1009 a10 => ?_
  rw [show c9 + 27 - 1 = c9 + 26 by omega, show s9 + 3897 - (600 : Int).toNat = s9 + 3297 by omega]
  refine MI.step (k := 17) (t := 15) (n := 600) a10 hm h0 (by decide) (by decide) (by decide) (by omega) (by omega) fun G1010 a11 => ?_
  rw [show c9 + 26 - 1 = c9 + 25 by omega, show s9 + 3297 - (600 : Int).toNat = s9 + 2697 by omega]
  refine MI.step (k := 18) (t := 15) (n := 600) a11 hm h0 (by decide) (by decide) (by decide) (by omega) (by omega) fun G1011 a12 => ?_
  rw [show c9 + 25 - 1 = c9 + 24 by omega, show s9 + 2697 - (600 : Int).toNat = s9 + 2097 by omega]
  refine MI.step (k := 20) (t := 15) (n := 12) a12 hm h0 (by decide) (by decide) (by decide) (by omega) (by omega) fun G1012 a13 => ?_
  rw [show c9 + 24 - 1 = c9 + 23 by omega, show s9 + 2097 - (12 : Int).toNat = s9 + 2085 by omega]
  refine MI.step (k := 21) (t := 15) (n := 540) a13 hm h0 (by decide) (by decide) (by decide) (by omega) (by omega) fun G1013 a14 => ?_
  rw [show c9 + 23 - 1 = c9 + 22 by omega, show s9 + 2085 - (540 : Int).toNat = s9 + 1545 by omega]
  refine MI.step (k := 22) (t := 15) (n := 9) a14 hm h0 (by decide) (by decide) (by decide) (by omega) (by omega) fun G1014 a15 => ?_
  rw [show c9 + 22 - 1 = c9 + 21 by omega, show s9 + 1545 - (9 : Int).toNat = s9 + 1536 by omega]
  refine MI.step (k := 24) (t := 17) (n := 8) a15 hm h0 (by decide) (by decide) (by decide) (by omega) (by omega) fun G1015 a16 => ?_
  rw [show c9 + 21 - 1 = c9 + 20 by omega, show s9 + 1536 - (8 : Int).toNat = s9 + 1528 by omega]
  refine MI.step (k := 25) (t := 15) (n := 8) a16 hm h0 (by decide) (by decide) (by decide) (by omega) (by omega) fun G1016 a17 => ?_
  rw [show c9 + 20 - 1 = c9 + 19 by omega, show s9 + 1528 - (8 : Int).toNat = s9 + 1520 by omega]
  refine MI.step (k := 26) (t := 15) (n := 8) a17 hm h0 (by decide) (by decide) (by decide) (by omega) (by omega) fun G1017 a18 => ?_
  rw [show c9 + 19 - 1 = c9 + 18 by omega, show s9 + 1520 - (8 : Int).toNat = s9 + 1512 by omega]
  refine MI.step (k := 27) (t := 15) (n := 8) a18 hm h0 (by decide) (by decide) (by decide) (by omega) (by omega) fun G1018 a19 => ?_
  rw [show c9 + 18 - 1 = c9 + 17 by omega, show s9 + 1512 - (8 : Int).toNat = s9 + 1504 by omega]
  refine MI.step (k := 28) (t := 15) (n := 8) a19 hm h0 (by decide) (by decide) (by decide) (by omega) (by omega) fun G1019 a20 => ?_
  rw [show c9 + 17 - 1 = c9 + 16 by omega, show s9 + 1504 - (8 : Int).toNat = s9 + 1496 by omega]
  refine MI.step (k := 29) (t := 17) (n := 10) a20 hm h0 (by decide) (by decide) (by decide) (by omega) (by omega) fun G1020 a21 => ?_
  rw [show c9 + 16 - 1 = c9 + 15 by omega, show s9 + 1496 - (10 : Int).toNat = s9 + 1486 by omega]
  refine MI.step (k := 30) (t := 15) (n := 10) a21 hm h0 (by decide) (by decide) (by decide) (by omega) (by omega) fun G1021 a22 => ?_
  rw [show c9 + 15 - 1 = c9 + 14 by omega, show s9 + 1486 - (10 : Int).toNat = s9 + 1476 by omega]
  refine MI.step (k := 31) (t := 15) (n := 120) a22 hm h0 (by decide) (by decide) (by decide) (by omega) (by omega) fun G1022 a23 => ?_
  rw [show c9 + 14 - 1 = c9 + 13 by omega, show s9 + 1476 - (120 : Int).toNat = s9 + 1356 by omega]
  refine MI.step (k := 32) (t := 16) (n := 120) a23 hm h0 (by decide) (by decide) (by decide) (by omega) (by omega) fun G1023 a24 => ?_
  rw [show c9 + 13 - 1 = c9 + 12 by omega, show s9 + 1356 - (120 : Int).toNat = s9 + 1236 by omega]
  refine MI.step (k := 36) (t := 15) (n := 12) a24 hm h0 (by decide) (by decide) (by decide) (by omega) (by omega) fun G1024 a25 => ?_
  rw [show c9 + 12 - 1 = c9 + 11 by omega, show s9 + 1236 - (12 : Int).toNat = s9 + 1224 by omega]
  refine MI.step (k := 37) (t := 16) (n := 12) a25 hm h0 (by decide) (by decide) (by decide) (by omega) (by omega) fun G1025 a26 => ?_
  rw [show c9 + 11 - 1 = c9 + 10 by omega, show s9 + 1224 - (12 : Int).toNat = s9 + 1212 by omega]
  refine MI.step (k := 38) (t := 15) (n := 8) a26 hm h0 (by decide) (by decide) (by decide) (by omega) (by omega) fun G1026 a27 => ?_
  rw [show c9 + 10 - 1 = c9 + 9 by omega, show s9 + 1212 - (8 : Int).toNat = s9 + 1204 by omega]
  refine MI.step (k := 39) (t := 15) (n := 192) a27 hm h0 (by decide) (by decide) (by decide) (by omega) (by omega) fun G1027 a28 => ?_
  rw [show c9 + 9 - 1 = c9 + 8 by omega, show s9 + 1204 - (192 : Int).toNat = s9 + 1012 by omega]
  refine MI.step (k := 40) (t := 15) (n := 192) a28 hm h0 (by decide) (by decide) (by decide) (by omega) (by omega) fun G1028 a29 => ?_
  rw [show c9 + 8 - 1 = c9 + 7 by omega, show s9 + 1012 - (192 : Int).toNat = s9 + 820 by omega]
  refine MI.step (k := 41) (t := 15) (n := 192) a29 hm h0 (by decide) (by decide) (by decide) (by omega) (by omega) fun G1029 a30 => ?_
  rw [show c9 + 7 - 1 = c9 + 6 by omega, show s9 + 820 - (192 : Int).toNat = s9 + 628 by omega]
  refine MI.step (k := 42) (t := 15) (n := 192) a30 hm h0 (by decide) (by decide) (by decide) (by omega) (by omega) fun G1030 a31 => ?_
  rw [show c9 + 6 - 1 = c9 + 5 by omega, show s9 + 628 - (192 : Int).toNat = s9 + 436 by omega]
  refine MI.step (k := 43) (t := 17) (n := 192) a31 hm h0 (by decide) (by decide) (by decide) (by omega) (by omega) fun G1031 a32 => ?_
  rw [show c9 + 5 - 1 = c9 + 4 by omega, show s9 + 436 - (192 : Int).toNat = s9 + 244 by omega]
  refine MI.step (k := 44) (t := 15) (n := 40) a32 hm h0 (by decide) (by decide) (by decide) (by omega) (by omega) fun G1032 a33 => ?_
  rw [show c9 + 4 - 1 = c9 + 3 by omega, show s9 + 244 - (40 : Int).toNat = s9 + 204 by omega]
  refine MI.step (k := 47) (t := 15) (n := 180) a33 hm h0 (by decide) (by decide) (by decide) (by omega) (by omega) fun G1033 a34 => ?_
  rw [show c9 + 3 - 1 = c9 + 2 by omega, show s9 + 204 - (180 : Int).toNat = s9 + 24 by omega]
  refine MI.step (k := 49) (t := 16) (n := 12) a34 hm h0 (by decide) (by decide) (by decide) (by omega) (by omega) fun G1034 a35 => ?_
  rw [show c9 + 2 - 1 = c9 + 1 by omega, show s9 + 24 - (12 : Int).toNat = s9 + 12 by omega]
  refine MI.step (k := 50) (t := 15) (n := 12) a35 hm h0 (by decide) (by decide) (by decide) (by omega) (by omega) fun G1035 a36 => ?_
  rw [show c9 + 1 - 1 = c9 + 0 by omega, show s9 + 12 - (12 : Int).toNat = s9 + 0 by omega]
  exact hK2 _ a36
theorem LA_fix : ∀ q ∈ mFix, q ∈ LA := by decide
theorem LA_grow : ∀ q ∈ mGrow, (q.1, q.2, (40000 : Int)) ∈ LA := by decide
theorem LA_arr : ∀ k ∈ mArr, k ∈ LA.map (·.1) := by decide
theorem LA_no : ∀ k ∈ [0, 1, 6, 12, 14, 15, 19, 23, 33, 34, 35, 45, 46, 48], k ≠ 2 ∧ k ∉ LA.map (·.1) := by decide
theorem MI.mu (h : MI E G0 G m LA) (hm : gcl G0 m = 13) : MSh E G m := by
  obtain ⟨h1, h2, h3, h4, h5⟩ := h
  refine ⟨by rw [h1.gc (by omega)]; exact hm, fun q hq => ?_, fun q hq => ?_, fun k hk j hj he => ?_⟩
  · have := h2 q (LA_fix q hq)
    exact ⟨this.2.1, this.2.2.1, this.2.2.2.1⟩
  · have := h2 _ (LA_grow q hq)
    exact ⟨this.2.1, by have h9 := this.2.2.1; show 40000 ≤ gln G (gfd G 12 q.1 m); rw [h9]; exact Int.le_refl _, this.2.2.2.1⟩
  · obtain ⟨p, hp, e1⟩ := List.mem_map.mp (LA_arr k hk)
    obtain ⟨p', hp', e2⟩ := List.mem_map.mp (LA_arr j hj)
    rw [← e1, ← e2] at he ⊢
    exact h3 p hp p' hp' he
/-- the arrays' lists are right behind the two loops -/
def MJ (E : EE) (G0 G1 G : Gt) (m a b : Int) : Prop := MU E G1 G m (fun k => k = 20 ∨ k = 28) ∧ (∀ k, gfd G 12 k m = gfd G1 12 k m) ∧ (∀ i, 0 ≤ i → i < a → gel G (gfd G1 12 20 m) i = 127) ∧ ∀ i, 0 ≤ i → i < b → gel G (gfd G1 12 28 m) i = -1
theorem v_mi333 {G1 : Gt} (hQ : ∀ G', MJ E G0 G1 G' m 12 8 → Q 0 G') : ∀ (j : Nat) (i : Int) (G : Gt), 0 ≤ i → i + j = 8 → MJ E G0 G1 G m 12 i → V E M_X12_init 333 [some (rv m), some (iv i)] [] G c s Q X := by
  intro j
  induction j with
  | zero =>
    intro i G h0 hi hJ
    have e : i = 8 := by omega
    rw [e] at hJ ⊢
    exact b_X12_init_333 ⟨fun _ => hQ G hJ, fun h9 => by omega⟩
  | succ j ih =>
    intro i G h0 hi hJ
    obtain ⟨k1, k2, k3, k4⟩ := hJ
    have x28 := k1.1.fx 28 15 8
    have ne : gfd G 12 20 m ≠ gfd G 12 28 m := k1.1.ne 20 28
    refine b_X12_init_333 ⟨fun h9 => by omega, fun _ => ⟨k1.1.1, x28.1, by omega, by omega, fun G6 e6 => ⟨i32s' (by omega), ih (i + 1) G6 (by omega) (by omega) ⟨?_, fun k => by rw [e6]; exact k2 k, fun y y0 y1 => ?_, fun y y0 y1 => ?_⟩⟩⟩⟩
    · rw [e6]; exact k1.mSel (by decide) (Or.inr rfl)
    · rw [e6, gel_sel, if_neg (fun h9 => ne ((k2 20).trans h9.1))]; exact k3 y y0 y1
    · rw [e6, gel_sel]
      by_cases hy : y = i
      · rw [if_pos ⟨(k2 28).symm, hy⟩]
      · rw [if_neg (fun h9 => hy h9.2)]; exact k4 y y0 (by omega)
theorem v_mi311 {G1 : Gt} (hQ : ∀ G', MJ E G0 G1 G' m 12 8 → Q 0 G') : ∀ (j : Nat) (i : Int) (G : Gt), 0 ≤ i → i + j = 12 → MJ E G0 G1 G m i 0 → V E M_X12_init 311 [some (rv m), some (iv i)] [] G c s Q X := by
  intro j
  induction j with
  | zero =>
    intro i G h0 hi hJ
    have e : i = 12 := by omega
    rw [e] at hJ ⊢
    exact b_X12_init_311 ⟨fun _ => v_mi333 (G0 := G0) hQ 8 0 G (Int.le_refl _) rfl hJ, fun h9 => by omega⟩
  | succ j ih =>
    intro i G h0 hi hJ
    obtain ⟨k1, k2, k3, k4⟩ := hJ
    have x20 := k1.1.fx 20 15 12
    refine b_X12_init_311 ⟨fun h9 => by omega, fun _ => ⟨k1.1.1, x20.1, by omega, by omega, fun G6 e6 => ⟨i32s' (by omega), ih (i + 1) G6 (by omega) (by omega) ⟨?_, fun k => by rw [e6]; exact k2 k, fun y y0 y1 => ?_, fun y y0 y1 => by omega⟩⟩⟩⟩
    · rw [e6]; exact k1.mSel (by decide) (Or.inl rfl)
    · rw [e6, gel_sel]
      by_cases hy : y = i
      · rw [if_pos ⟨(k2 20).symm, hy⟩]
      · rw [if_neg (fun h9 => hy h9.2)]; exact k3 y y0 (by omega)
theorem om_init (hm : gcl G m = 13) (h0 : 0 ≤ m) (hL : LW E G) (hO : OW G) (hz : ∀ k ∈ [0, 1, 6, 12, 14, 15, 19, 23, 33, 34, 35, 45, 46, 48], gfd G 12 k m = 0) (hc : 36 ≤ c) (hs : 243933 ≤ s) : Ok E M_X12_init [rv m] G c s (fun _ G' => NB E G G' m 12 ∧ MH E G' m dZ 40000 40000) (fun _ _ => False) := by
  refine mi_chain hm h0 hL hO hc hs fun G1 hI => ?_
  have hs1 := hI.mu hm
  have hn := hI.1
  obtain ⟨h1, h2, h3, h4, h5⟩ := hI
  refine v_mi311 (G0 := G) (G1 := G1) (fun G' hJ => ?_) 12 0 G1 (Int.le_refl _) rfl ⟨MU.refl hs1 h1.1 h1.2.1.1, fun _ => rfl, fun i _ _ => by omega, fun i _ _ => by omega⟩
  obtain ⟨k1, k2, k3, k4⟩ := hJ
  have fz : ∀ k ∈ [0, 1, 6, 12, 14, 15, 19, 23, 33, 34, 35, 45, 46, 48], gfd G' 12 k m = 0 := fun k hk => by
    rw [k2 k, h5 k (LA_no k hk).1 (LA_no k hk).2]
    exact hz k hk
  have kt := k1.2.2.2.2.2
  have vz : ∀ k, k ≠ 20 → k ≠ 28 → k ∈ mArr → ∀ i, gel G' (gfd G' 12 k m) i = 0 := fun k a b hk i => by
    rw [kt.e k (fun h9 => by rcases h9 with h9 | h9; exact a h9; exact b h9) hk]
    obtain ⟨p, hp, e1⟩ := List.mem_map.mp (LA_arr k hk)
    rw [← e1]
    exact (h2 p hp).2.2.2.2.2 i
  have lz : ∀ q ∈ mGrow, gln G' (gfd G' 12 q.1 m) = 40000 := fun q hq => by
    have hne : ∀ q ∈ mGrow, ¬ (q.1 = 20 ∨ q.1 = 28) ∧ q.1 ∈ mArr := by decide
    rw [kt.l q.1 (hne q hq).1 (hne q hq).2]
    exact (h2 _ (LA_grow q hq)).2.2.1
  have v20 : ∀ i : Int, 0 ≤ i → i < 12 → gel G' (gfd G' 12 20 m) i = 127 := fun i a b => by rw [k2]; exact k3 i a b
  have v28 : ∀ i : Int, 0 ≤ i → i < 8 → gel G' (gfd G' 12 28 m) i = -1 := fun i a b => by rw [k2]; exact k4 i a b
  refine ⟨⟨k1.2.1, h1.2.1.trans k1.2.2.1 (fun y hy => by rw [h1.2.2.1 y hy]; exact hy), h1.2.2.andThen k1.2.2.2.1 (fun c k y _ h9 => h9) (fun _ _ h9 => h9) (fun y hy h9 => ?_)⟩, ⟨k1.1, k1.2.1, k1.2.2.1.1⟩, ⟨fz 1 (by decide), by rw [k2]; exact h4, fz 48 (by decide), fz 15 (by decide), fz 46 (by decide)⟩, ⟨fz 6 (by decide), by decide, fun i h9 => absurd h9 (Nat.not_lt_zero i)⟩,
    ⟨fz 12 (by decide), by decide, ⟨lz (7, 15) (by decide), lz (8, 15) (by decide), lz (9, 15) (by decide), lz (10, 15) (by decide), lz (11, 17) (by decide)⟩, fun i h9 => absurd h9 (Nat.not_lt_zero i)⟩, ⟨fz 14 (by decide), by decide, lz (13, 15) (by decide), fun i h9 => absurd h9 (Nat.not_lt_zero i)⟩,
    ⟨fz 19 (by decide), Nat.zero_le _, fun i h9 => absurd h9 (Nat.not_lt_zero i)⟩, fun i hi => ?_, ⟨vz 22 (by decide) (by decide) (by decide) _, Nat.zero_le _, fun i h9 => absurd h9 (Nat.not_lt_zero i)⟩, ⟨fz 23 (by decide), Nat.zero_le _, fun i h9 => absurd h9 (Nat.not_lt_zero i), fun r hr => ?_⟩,
    fun r hr => ⟨vz 38 (by decide) (by decide) (by decide) _, Nat.zero_le _, fun i h9 => absurd h9 (Nat.not_lt_zero i)⟩, ⟨fz 35 (by decide), Nat.zero_le _, fun i h9 => absurd h9 (Nat.not_lt_zero i)⟩, ⟨fz 45 (by decide), Nat.zero_le _, fun i h9 => absurd h9 (Nat.not_lt_zero i)⟩, fun i h9 => absurd h9 (Nat.not_lt_zero i)⟩
  · obtain ⟨k, hk, e⟩ := h9
    obtain ⟨p, hp, e1⟩ := List.mem_map.mp (LA_arr k hk)
    have := (h2 p hp).2.2.2.2.1
    rw [e1, ← e] at this
    exact hy this
  · have hd : (dSel dZ).getD i s0 = (127, 127, 127) := by
      have : i = 0 ∨ i = 1 ∨ i = 2 ∨ i = 3 := by omega
      rcases this with rfl | rfl | rfl | rfl <;> rfl
    rw [hd]
    exact ⟨v20 _ (by omega) (by omega), v20 _ (by omega) (by omega), v20 _ (by omega) (by omega)⟩
  · exact v28 _ (by omega) (by omega)
end Sa71
