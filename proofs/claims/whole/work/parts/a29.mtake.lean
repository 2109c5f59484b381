/-! the model takes a sample: all of it -/
section Sa29
variable {E : EE} {G G' G2 G0 : Gt} {c s bc bs : Nat} {Q X : Int → Gt → Prop} {a i v q m x ml mr u l t w z o two wt9 kp f e p n r sx : Int} {k j b : Nat} {T T' : Nat → Prop} {d d' : DS} {ser : List Int} {smp : List (Sm4 × Int)} {sm : List Sm4} {rs : List Int}
def T14 (k : Nat) : Prop := 3 ≤ k ∧ k ≤ 14
def mlN (n : Nat) (ml : Int) : Int := if (n : Int) = ml then 2 * ml else ml
def mgC (n : Nat) (ml : Int) (a : Nat) : Nat := if (n : Int) = ml then a else 0
def mgS (n : Nat) (ml : Int) (a : Nat) : Nat := if (n : Int) = ml then a * (2 * ml.toNat) else 0
abbrev tkO (d : DS) (l t v : Int) : Prop := tkA (dSer d) (smS d) l t v = 0
def tML (d : DS) (l t v ml : Int) : Int := if tkO d l t v then mlN (dSmp d).length ml else ml
def tMR (d : DS) (l t v mr : Int) : Int := if tkO d l t v then mlN (dRec d).length mr else mr
def tMC (d : DS) (l t v ml mr : Int) : Nat := if tkO d l t v then mgC (dSmp d).length ml 5 + mgC (dRec d).length mr 1 else 0
def tMS (d : DS) (l t v ml mr : Int) : Nat := if tkO d l t v then mgS (dSmp d).length ml 5 + mgS (dRec d).length mr 1 else 0
/-- the record of what was taken: the last piece -/
theorem rec_add {v9 : Int} (hU : MU E G0 G m T) (h : MRc G m rs mr) (hT : T 13 ∧ T 14) (hml : mr ≤ 10000000) (hc : mgC rs.length mr 1 ≤ c) (hs : mgS rs.length mr 1 ≤ s) {K : Gt → Nat → Nat → Prop} (hK : ∀ G2 c2 s2, MU E G0 G2 m T → MT G G2 m (fun k => k = 13 ∨ k = 14) → MRc G2 m (v9 :: rs) (mlN rs.length mr) → c ≤ c2 + mgC rs.length mr 1 → s ≤ s2 + mgS rs.length mr 1 → K G2 c2 s2) :
    ∀ J58 : Int → Gt → Nat → Nat → Prop, (∀ (x59 : Int) (G60 : Gt) (c61 s62 : Nat), (∀ G64 : Gt, G64 = (sfd G60 12 13 m x59) → gcl G64 m = 13 ∧ gcl G64 (gfd G64 12 13 m) = 15 ∧ 0 ≤ (gfd G64 12 14 m) ∧ (gfd G64 12 14 m) < gln G64 (gfd G64 12 13 m) ∧ gfd G64 12 15 m = gfd G 12 15 m ∧ ∀ G70 : Gt, G70 = (sel G64 (gfd G64 12 13 m) (gfd G64 12 14 m) v9) → gcl G70 m = 13 ∧ i32 ((gfd G70 12 14 m) + 1) ∧ ∀ G74 : Gt, G74 = (sfd G70 12 14 m ((gfd G70 12 14 m) + 1)) → K G74 c61 s62) → J58 x59 G60 c61 s62) →
      (((gfd G 12 14 m) ≠ (gln G (gfd G 12 13 m)) → J58 (gfd G 12 13 m) G c s) ∧ ((gfd G 12 14 m) = (gln G (gfd G 12 13 m)) → Call E M_X12_longer [rv (gfd G 12 13 m)] G c s X (fun r78 G79 c80 s81 => J58 r78 G79 c80 s81))) := by
  intro J58 hJ
  obtain ⟨h1, h2, h3, h4⟩ := h
  have x13 := hU.1.gw 13 15
  have rest : ∀ (x59 : Int) (G60 G64 : Gt) (c61 s62 : Nat), G64 = sfd G60 12 13 m x59 → MU E G0 G64 m T → MT G G64 m (fun k => k = 13) → rs.length < mlN rs.length mr → mlN rs.length mr ≤ 20000000 → gln G64 (gfd G64 12 13 m) = mlN rs.length mr → (∀ i : Int, 0 ≤ i → i < rs.length → gel G64 (gfd G64 12 13 m) i = gel G (gfd G 12 13 m) i) → c ≤ c61 + mgC rs.length mr 1 → s ≤ s62 + mgS rs.length mr 1 → J58 x59 G60 c61 s62 := fun x59 G60 G64 c61 s62 e64 k64 t64 hlt hle hl hel hc9 hs9 => hJ _ _ _ _ fun G64' e64' => by
    rw [e64', ← e64]
    have f14 : gfd G64 12 14 m = rs.length := (t64.f 14 (by omega)).trans h1
    have y13 := k64.1.gw 13 15
    refine ⟨k64.1.1, y13.1, by omega, by omega, t64.f 15 (by omega), fun G70 e70 => ?_⟩
    have k70 : MU E G0 G70 m T := by rw [e70]; exact k64.mSel (by decide) hT.1
    have f70 : ∀ k, gfd G70 12 k m = gfd G64 12 k m := fun k => by rw [e70]; rfl
    refine ⟨k70.1.1, by rw [f70, f14]; exact i32s' (by omega), fun G74 e74 => hK G74 c61 s62 ?_ ?_ ?_ hc9 hs9⟩
    · rw [e74]; exact k70.mSfd (by decide) hT.2
    · intro j hj
      have a := t64 j (fun h9 => hj (Or.inl h9))
      refine ⟨by rw [e74, gfd_sfd, if_neg (fun h9 => hj (Or.inr h9.2.1)), f70]; exact a.1, fun hm => ⟨?_, fun i => ?_⟩⟩
      · rw [e74, e70]; exact (a.2 hm).1
      · rw [e74, e70]
        show gel (sel G64 (gfd G64 12 13 m) (gfd G64 12 14 m) v9) _ _ = _
        rw [gel_sel, if_neg (fun h9 => ?_)]
        · exact (a.2 hm).2 i
        · rw [← a.1] at h9
          exact hj (Or.inl (k64.1.2.2.2 j hm 13 (by decide) h9.1))
    · have f74 : gfd G74 12 13 m = gfd G64 12 13 m := by rw [e74, gfd_sfd, if_neg (by omega)]; exact f70 13
      refine ⟨by rw [e74, gfd_sfd, if_pos ⟨rfl, rfl, rfl⟩, f70, f14]; rfl, ⟨by show ((rs.length + 1 : Nat) : Int) ≤ _; omega, hle⟩, ?_, fun i hi => ?_⟩
      · rw [f74, e74, e70]; exact hl
      · have hi' : i < rs.length + 1 := hi
        rw [List.reverse_cons, appD (by rw [List.length_reverse]; exact hi'), f74, e74, List.length_reverse]
        show gel G70 _ _ = _
        rw [e70, gel_sel, f14]
        by_cases hil : i < rs.length
        · rw [if_neg (by omega), if_pos hil, hel _ (by omega) (by omega)]
          exact h4 i hil
        · rw [if_pos ⟨rfl, by omega⟩, if_neg hil]
  rw [h1, h3]
  refine ⟨fun hne => ?_, fun heq => ?_⟩
  · have e1 : mlN rs.length mr = mr := by unfold mlN; rw [if_neg hne]
    have e2 : mgC rs.length mr 1 = 0 := by unfold mgC; rw [if_neg hne]
    have e3 : mgS rs.length mr 1 = 0 := by unfold mgS; rw [if_neg hne]
    refine rest _ G G c s (sfd_same).symm hU (fun _ _ => ⟨rfl, fun _ => ⟨rfl, fun _ => rfl⟩⟩) (by rw [e1]; omega) (by rw [e1]; omega) (by rw [e1]; exact h3) (fun i _ _ => rfl) (by omega) (by omega)
  · have e1 : mlN rs.length mr = 2 * mr := by unfold mlN; rw [if_pos heq]
    have e2 : mgC rs.length mr 1 = 1 := by unfold mgC; rw [if_pos heq]
    have e3 : mgS rs.length mr 1 = 1 * (2 * mr.toNat) := by unfold mgS; rw [if_pos heq]
    refine Call.to (mc' := 1) (ms' := 2 * mr.toNat) (om_longer hU.2.1 hU.2.2.1.1 x13.1 x13.2.2 (by omega) (Nat.le_refl _) (by rw [h3]; exact Nat.le_refl _)) (by omega) (by omega) fun r78 G79 hg => ?_
    have kg := hU.grow (k := 13) (tt := 15) (by decide) hT.1 hg
    have kl := (MU.refl (T := fun k => k = 13) hU.1 hU.2.1 hU.2.2.1.1).grow (k := 13) (tt := 15) (by decide) rfl hg
    have hgl := hg.2.2.2.2.2.2.1
    have hge := hg.2.2.2.2.2.2.2
    refine rest r78 G79 _ _ _ rfl kg kl.2.2.2.2.2 (by rw [e1]; omega) (by rw [e1]; omega) ?_ (fun i h0 h9 => ?_) (by omega) (by omega)
    · rw [gfd_sfd, if_pos ⟨rfl, rfl, rfl⟩]
      show gln G79 r78 = _
      rw [hgl, h3, e1]
    · rw [gfd_sfd, if_pos ⟨rfl, rfl, rfl⟩]
      show gel G79 r78 i = _
      exact hge i h0 (by omega)
/-- the five rows of the samples grow -/
theorem rows_grow (hU : MU E G0 G m T) (h : MSm G m ser smp ml) (hT : ∀ k, 7 ≤ k → k ≤ 11 → T k) (hml : ml ≤ 10000000) (hfull : (smp.length : Int) = ml) (hc : 5 ≤ c) (hs : 5 * (2 * ml.toNat) ≤ s) {J14 : Gt → Nat → Nat → Prop} (hK : ∀ G2 c2 s2, MU E G0 G2 m T → MT G G2 m (fun k => 7 ≤ k ∧ k ≤ 11) → MSm G2 m ser smp (2 * ml) → c ≤ c2 + 5 → s ≤ s2 + 5 * (2 * ml.toNat) → J14 G2 c2 s2) :
    (gcl G m = 13 ∧ Call E M_X12_longer [rv (gfd G 12 7 m)] G c s X (fun r84 G85 c86 s87 => gcl G85 m = 13 ∧ ∀ G89 : Gt, G89 = (sfd G85 12 7 m r84) → gcl G89 m = 13 ∧ Call E M_X12_longer [rv (gfd G89 12 8 m)] G89 c86 s87 X (fun r91 G92 c93 s94 => gcl G92 m = 13 ∧ ∀ G96 : Gt, G96 = (sfd G92 12 8 m r91) → gcl G96 m = 13 ∧ Call E M_X12_longer [rv (gfd G96 12 9 m)] G96 c93 s94 X (fun r98 G99 c100 s101 => gcl G99 m = 13 ∧ ∀ G103 : Gt, G103 = (sfd G99 12 9 m r98) → gcl G103 m = 13 ∧ Call E M_X12_longer [rv (gfd G103 12 10 m)] G103 c100 s101 X (fun r105 G106 c107 s108 => gcl G106 m = 13 ∧ ∀ G110 : Gt, G110 = (sfd G106 12 10 m r105) → gcl G110 m = 13 ∧ 15 ≤ gcl G110 (gfd G110 12 11 m) ∧ i32 (2 * (gln G110 (gfd G110 12 11 m))) ∧ 0 ≤ (2 * (gln G110 (gfd G110 12 11 m))) ∧ (2 * (gln G110 (gfd G110 12 11 m))) ≤ 60000000 ∧ 1 ≤ c107 ∧ ((2 * (gln G110 (gfd G110 12 11 m))) : Int).toNat ≤ s108 ∧ ∀ q114 : Int, gcl G110 q114 = 0 → (eb E : Int) ≤ q114 → ∀ G119 : Gt, G119 = (newa G110 q114 17 (2 * (gln G110 (gfd G110 12 11 m)))) → gcl G119 m = 13 ∧ gcl G119 m = 13 ∧ (gcl G119 q114 = 15 ∨ gcl G119 q114 = 17 ∨ gcl G119 q114 = 18) ∧ gcl G119 (gfd G119 12 11 m) = gcl G119 q114 ∧ (eb E : Int) ≤ (gfd G119 12 11 m) ∧ (eb E : Int) ≤ q114 ∧ 0 ≤ (gfd G119 12 12 m) ∧ 0 + (gfd G119 12 12 m) ≤ gln G119 (gfd G119 12 11 m) ∧ 0 + (gfd G119 12 12 m) ≤ gln G119 q114 ∧ ∀ G129 : Gt, G129 = (cpy G119 (gfd G119 12 11 m) q114 0 0 (gfd G119 12 12 m)) → gcl G129 m = 13 ∧ ∀ G131 : Gt, G131 = (sfd G129 12 11 m q114) → J14 G131 (c107 - 1) (s108 - ((2 * (gln G110 (gfd G110 12 11 m))) : Int).toNat)))))) := by
  obtain ⟨h1, h2, ⟨l7, l8, l9, l10, l11⟩, h4⟩ := id h
  have step : ∀ (k : Nat) (G1 G2 G3 : Gt) (r : Int), (k, 15) ∈ mGrow → 7 ≤ k → k ≤ 11 → MU E G0 G1 m T → lgQ E G1 G2 (gfd G1 12 k m) r (gln G1 (gfd G1 12 k m)) 15 → G3 = sfd G2 12 k m r → MU E G0 G3 m T ∧ MT G1 G3 m (fun j => j = k) ∧ gln G3 (gfd G3 12 k m) = 2 * gln G1 (gfd G1 12 k m) ∧ ∀ i, 0 ≤ i → i < gln G1 (gfd G1 12 k m) → gel G3 (gfd G3 12 k m) i = gel G1 (gfd G1 12 k m) i := fun k G1 G2 G3 r hk h7 h11 kU hg e3 => by
    rw [e3]
    have kl := (MU.refl (T := fun j => j = k) kU.1 kU.2.1 kU.2.2.1.1).grow hk rfl hg
    have hgl := hg.2.2.2.2.2.2.1
    have hge := hg.2.2.2.2.2.2.2
    refine ⟨kU.grow hk (hT k h7 h11) hg, kl.2.2.2.2.2, ?_, fun i h0 h9 => ?_⟩
    · rw [gfd_sfd, if_pos ⟨rfl, rfl, rfl⟩]; exact hgl
    · rw [gfd_sfd, if_pos ⟨rfl, rfl, rfl⟩]; exact hge i h0 h9
  have x7 := hU.1.gw 7 15
  have hN2 : (2 * ml).toNat = 2 * ml.toNat := by omega
  refine ⟨hU.1.1, Call.to (mc' := 1) (ms' := 2 * ml.toNat) (om_longer hU.2.1 hU.2.2.1.1 x7.1 x7.2.2 (by omega) (Nat.le_refl _) (by rw [l7]; exact Nat.le_refl _)) (by omega) (by omega) fun r84 G85 hg7 => ⟨by rw [hg7.2.2.2.1.1 m (by have := hU.1.1; omega)]; exact hU.1.1, fun G89 e89 => ?_⟩⟩
  have hc1 : 4 ≤ c - 1 ∧ c ≤ (c - 1) + 1 := by omega
  have hs1 : 4 * (2 * ml.toNat) ≤ s - 2 * ml.toNat ∧ s ≤ (s - 2 * ml.toNat) + 2 * ml.toNat := by omega
  generalize c - 1 = c1 at hc1 ⊢
  generalize s - 2 * ml.toNat = s1 at hs1 ⊢
  obtain ⟨k89, t89, n7, v7⟩ := step 7 G G85 G89 r84 (by decide) (by decide) (by decide) hU hg7 e89
  have x8 := k89.1.gw 8 15
  have g8 : gln G89 (gfd G89 12 8 m) = ml := (t89.l 8 (by omega)).trans l8
  refine ⟨k89.1.1, Call.to (mc' := 1) (ms' := 2 * ml.toNat) (om_longer k89.2.1 k89.2.2.1.1 x8.1 x8.2.2 (by omega) (Nat.le_refl _) (by rw [g8]; exact Nat.le_refl _)) (by omega) (by omega) fun r91 G92 hg8 => ⟨by rw [hg8.2.2.2.1.1 m (by have := k89.1.1; omega)]; exact k89.1.1, fun G96 e96 => ?_⟩⟩
  have hc2 : 3 ≤ c1 - 1 ∧ c1 ≤ (c1 - 1) + 1 := by omega
  have hs2 : 3 * (2 * ml.toNat) ≤ s1 - 2 * ml.toNat ∧ s1 ≤ (s1 - 2 * ml.toNat) + 2 * ml.toNat := by omega
  generalize c1 - 1 = c2 at hc2 ⊢
  generalize s1 - 2 * ml.toNat = s2 at hs2 ⊢
  obtain ⟨k96, t96, n8, v8⟩ := step 8 G89 G92 G96 r91 (by decide) (by decide) (by decide) k89 hg8 e96
  have x9 := k96.1.gw 9 15
  have g9 : gln G96 (gfd G96 12 9 m) = ml := ((t96.l 9 (by omega)).trans (t89.l 9 (by omega))).trans l9
  refine ⟨k96.1.1, Call.to (mc' := 1) (ms' := 2 * ml.toNat) (om_longer k96.2.1 k96.2.2.1.1 x9.1 x9.2.2 (by omega) (Nat.le_refl _) (by rw [g9]; exact Nat.le_refl _)) (by omega) (by omega) fun r98 G99 hg9 => ⟨by rw [hg9.2.2.2.1.1 m (by have := k96.1.1; omega)]; exact k96.1.1, fun G103 e103 => ?_⟩⟩
  have hc3 : 2 ≤ c2 - 1 ∧ c2 ≤ (c2 - 1) + 1 := by omega
  have hs3 : 2 * (2 * ml.toNat) ≤ s2 - 2 * ml.toNat ∧ s2 ≤ (s2 - 2 * ml.toNat) + 2 * ml.toNat := by omega
  generalize c2 - 1 = c3 at hc3 ⊢
  generalize s2 - 2 * ml.toNat = s3 at hs3 ⊢
  obtain ⟨k103, t103, n9, v9⟩ := step 9 G96 G99 G103 r98 (by decide) (by decide) (by decide) k96 hg9 e103
  have x10 := k103.1.gw 10 15
  have g10 : gln G103 (gfd G103 12 10 m) = ml := (((t103.l 10 (by omega)).trans (t96.l 10 (by omega))).trans (t89.l 10 (by omega))).trans l10
  refine ⟨k103.1.1, Call.to (mc' := 1) (ms' := 2 * ml.toNat) (om_longer k103.2.1 k103.2.2.1.1 x10.1 x10.2.2 (by omega) (Nat.le_refl _) (by rw [g10]; exact Nat.le_refl _)) (by omega) (by omega) fun r105 G106 hg10 => ⟨by rw [hg10.2.2.2.1.1 m (by have := k103.1.1; omega)]; exact k103.1.1, fun G110 e110 => ?_⟩⟩
  have hc4 : 1 ≤ c3 - 1 ∧ c3 ≤ (c3 - 1) + 1 := by omega
  have hs4 : 1 * (2 * ml.toNat) ≤ s3 - 2 * ml.toNat ∧ s3 ≤ (s3 - 2 * ml.toNat) + 2 * ml.toNat := by omega
  generalize c3 - 1 = c4 at hc4 ⊢
  generalize s3 - 2 * ml.toNat = s4 at hs4 ⊢
  obtain ⟨k110, t110, n10, v10⟩ := step 10 G103 G106 G110 r105 (by decide) (by decide) (by decide) k103 hg10 e110
  have x11 := k110.1.gw 11 17
  have g11 : gln G110 (gfd G110 12 11 m) = ml := ((((t110.l 11 (by omega)).trans (t103.l 11 (by omega))).trans (t96.l 11 (by omega))).trans (t89.l 11 (by omega))).trans l11
  have f12 : gfd G110 12 12 m = smp.length := ((((t110.f 12 (by omega)).trans (t103.f 12 (by omega))).trans (t96.f 12 (by omega))).trans (t89.f 12 (by omega))).trans h1
  rw [g11]
  refine ⟨k110.1.1, by omega, i32s' (by omega), by omega, by omega, by omega, by omega, fun q hq hqb G119 e119 => ?_⟩
  have m110 := k110.1.1
  have hne : gfd G110 12 11 m ≠ q := fun h9 => by rw [h9] at x11; omega
  have hmq : m ≠ q := fun h9 => by rw [h9] at m110; omega
  have c119 : gcl G119 m = 13 := by rw [e119, gcl_newa, if_neg hmq]; exact m110
  have f119 : ∀ k, gfd G119 12 k m = gfd G110 12 k m := fun k => by rw [e119, gfd_newa]
  have q119 : gcl G119 q = 17 ∧ gln G119 q = 2 * ml := by rw [e119, gcl_newa, gln_newa, if_pos rfl, if_pos rfl]; exact ⟨rfl, rfl⟩
  have o119 : gcl G119 (gfd G110 12 11 m) = 17 ∧ gln G119 (gfd G110 12 11 m) = ml := by rw [e119, gcl_newa, gln_newa, if_neg hne, if_neg hne]; exact ⟨x11.1, g11⟩
  rw [f119, f119, f12]
  refine ⟨c119, c119, Or.inr (Or.inl q119.1), by omega, x11.2.2, hqb, by omega, by omega, by omega, fun G129 e129 => ?_⟩
  have hg11 : lgQ E G110 G129 (gfd G110 12 11 m) q (smp.length : Int) 17 := by
    rw [e129, e119]
    exact lg_of k110.2.1 k110.2.2.1.1 x11.1 (by decide) hq hqb (by rw [g11])
  refine ⟨by rw [hg11.2.2.2.1.1 m (by omega)]; exact m110, fun G131 e131 => ?_⟩
  have k131 : MU E G0 G131 m T := by rw [e131]; exact k110.grow (k := 11) (tt := 17) (by decide) (hT 11 (by decide) (by decide)) hg11
  have t131 : MT G110 G131 m (fun j => j = 11) := by
    rw [e131]
    exact ((MU.refl (T := fun j => j = 11) k110.1 k110.2.1 k110.2.2.1.1).grow (k := 11) (tt := 17) (by decide) rfl hg11).2.2.2.2.2
  have n11 : gln G131 (gfd G131 12 11 m) = 2 * ml := by
    rw [e131, gfd_sfd, if_pos ⟨rfl, rfl, rfl⟩]
    show gln G129 q = _
    rw [hg11.2.2.2.2.2.2.1, g11]
  have v11 : ∀ i : Int, 0 ≤ i → i < smp.length → gel G131 (gfd G131 12 11 m) i = gel G110 (gfd G110 12 11 m) i := fun i h0 h9 => by
    rw [e131, gfd_sfd, if_pos ⟨rfl, rfl, rfl⟩]
    show gel G129 q i = _
    exact hg11.2.2.2.2.2.2.2 i h0 h9
  rw [hN2]
  have hc5 : c ≤ c4 - 1 + 5 := by omega
  have hs5 : s ≤ s4 - 2 * ml.toNat + 5 * (2 * ml.toNat) := by omega
  refine hK G131 _ _ k131 ?_ ?_ hc5 hs5
  · intro j hj
    have a1 := t89 j (fun h9 => hj (by omega))
    have a2 := t96 j (fun h9 => hj (by omega))
    have a3 := t103 j (fun h9 => hj (by omega))
    have a4 := t110 j (fun h9 => hj (by omega))
    have a5 := t131 j (fun h9 => hj (by omega))
    refine ⟨by rw [a5.1, a4.1, a3.1, a2.1, a1.1], fun hm => ?_⟩
    have b1 := a1.2 hm
    have b2 := a2.2 hm
    have b3 := a3.2 hm
    have b4 := a4.2 hm
    have b5 := a5.2 hm
    rw [a4.1, a3.1, a2.1, a1.1] at b5
    rw [a3.1, a2.1, a1.1] at b4
    rw [a2.1, a1.1] at b3
    rw [a1.1] at b2
    exact ⟨by rw [b5.1, b4.1, b3.1, b2.1, b1.1], fun i => by rw [b5.2, b4.2, b3.2, b2.2, b1.2]⟩
  · refine h.grown ⟨by omega, by omega⟩ (((((t131.f 12 (by omega)).trans (t110.f 12 (by omega))).trans (t103.f 12 (by omega))).trans (t96.f 12 (by omega))).trans (t89.f 12 (by omega))) (fun k h7 h11 => ?_)
    have hcs : k = 7 ∨ k = 8 ∨ k = 9 ∨ k = 10 ∨ k = 11 := by omega
    rcases hcs with rfl | rfl | rfl | rfl | rfl
    · refine ⟨((((t131.l 7 (by omega)).trans (t110.l 7 (by omega))).trans (t103.l 7 (by omega))).trans (t96.l 7 (by omega))).trans (n7.trans (by rw [l7])), fun i h0 h9 => ?_⟩
      rw [t131.e 7 (by omega), t110.e 7 (by omega), t103.e 7 (by omega), t96.e 7 (by omega)]
      exact v7 i h0 (by omega)
    · refine ⟨(((t131.l 8 (by omega)).trans (t110.l 8 (by omega))).trans (t103.l 8 (by omega))).trans (n8.trans (by rw [g8])), fun i h0 h9 => ?_⟩
      rw [t131.e 8 (by omega), t110.e 8 (by omega), t103.e 8 (by omega), v8 i h0 (by omega)]
      exact t89.e 8 (by omega) (by decide) i
    · refine ⟨((t131.l 9 (by omega)).trans (t110.l 9 (by omega))).trans (n9.trans (by rw [g9])), fun i h0 h9 => ?_⟩
      rw [t131.e 9 (by omega), t110.e 9 (by omega), v9 i h0 (by omega), t96.e 9 (by omega)]
      exact t89.e 9 (by omega) (by decide) i
    · refine ⟨(t131.l 10 (by omega)).trans (n10.trans (by rw [g10])), fun i h0 h9 => ?_⟩
      rw [t131.e 10 (by omega), v10 i h0 (by omega), t103.e 10 (by omega), t96.e 10 (by omega)]
      exact t89.e 10 (by omega) (by decide) i
    · refine ⟨n11, fun i h0 h9 => ?_⟩
      rw [v11 i h0 h9, t110.e 11 (by omega), t103.e 11 (by omega), t96.e 11 (by omega)]
      exact t89.e 11 (by omega) (by decide) i
end Sa29
