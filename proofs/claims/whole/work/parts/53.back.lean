/-! the store without its records; growth, counted -/
section S53
variable {E : EE} {G G' G2 : Gt} {c s bc bs : Nat} {Q X : Int → Gt → Prop} {a st x q l t v f e r : Int} {zs zs' : List Zt} {W : Nat → Nat → Int → Prop} {L A : Int → Prop}
variable {ser : List Int} {smp : List (Sm4 × Int)} {rs : List Int} {dn wr cr er : Int}
def StC (G : Gt) (st : Int) (zs : List Zt) (ser : List Int) (smp : List (Sm4 × Int)) (dn wr : Int) : Prop :=
  gcl G st = 9 ∧ (gcl G (gfd G 8 0 st) = 14 ∧ gfd G 13 1 (gfd G 8 0 st) ≠ -1) ∧
  (numL G st).map (sLab G) = ser ∧ (∀ a ∈ numL G st, SeH G a zs) ∧ zs.map (·.2) = smp ∧ (zs.map (·.1)).Nodup ∧ (∀ z ∈ zs, ZH G (numL G st) z) ∧
  zs.Pairwise (fun z y => gfd G 5 3 z.1 < gfd G 5 3 y.1) ∧ (∀ z ∈ zs, gfd G 5 3 z.1 < wr) ∧ gfd G 8 3 st = wr ∧ gfd G 8 2 st = dn
theorem StH.core (h : StH G st zs ser smp rs dn wr cr) : StC G st zs ser smp dn wr := ⟨h.1, h.2.1, h.2.2.2.1, h.2.2.2.2.1, h.2.2.2.2.2.1, h.2.2.2.2.2.2.1, h.2.2.2.2.2.2.2.1, h.2.2.2.2.2.2.2.2.1, h.2.2.2.2.2.2.2.2.2.1, h.2.2.2.2.2.2.2.2.2.2.1, h.2.2.2.2.2.2.2.2.2.2.2.1⟩
theorem StC.all (h : StC G st zs ser smp dn wr) (h1 : gcl G (gfd G 8 1 st) = 14 ∧ gfd G 13 1 (gfd G 8 1 st) ≠ -1) (h2 : capOf G (gfd G 8 1 st) = cr) (h3 : RecR G zs (lst G (gfd G 8 1 st)).reverse rs) : StH G st zs ser smp rs dn wr cr :=
  ⟨h.1, h.2.1, h1, h.2.2.1, h.2.2.2.1, h.2.2.2.2.1, h.2.2.2.2.2.1, h.2.2.2.2.2.2.1, h.2.2.2.2.2.2.2.1, h.2.2.2.2.2.2.2.2.1, h.2.2.2.2.2.2.2.2.2.1, h.2.2.2.2.2.2.2.2.2.2, h2, h3⟩
/-- what the numbers have to keep for a series to be in order -/
def SC (ser : List Int) (sm : List Sm4) : Prop := ser.Nodup ∧ (∀ q ∈ sm, qC q ∈ ser ∧ (0 ≤ qT q ∧ qT q ≤ 100000) ∧ vOk (qV q)) ∧ Basic sm
theorem SI.sc {sm : List Sm4} (h : SI ser sm rs er) : SC ser sm := ⟨h.1, fun q hq => ⟨(h.2.2.2.1 q hq).1, (h.2.2.2.1 q hq).2.1, (h.2.2.2.1 q hq).2.2.1⟩, h.2.2.2.2.1.basic⟩
theorem StC.mem (h : StC G st zs ser smp dn wr) {z : Zt} (hz : z ∈ zs) : z.2.1 ∈ smp.map (·.1) := by
  rw [← zs_map h.2.2.2.2.1]
  exact List.mem_map.mpr ⟨z, hz, rfl⟩
theorem StC.sr (h : StC G st zs ser smp dn wr) (hi : SC ser (smp.map (·.1))) {a : Int} (ha : a ∈ numL G st) : SR G a := by
  have h5 := h.2.2.2.1 a ha
  refine ⟨h5.1, h5.2.1.1, h5.2.1.2, fun x hx => ?_, h5.2.2.2.1, ?_⟩
  · obtain ⟨z, hz, rfl, -, -⟩ := zO_mem.mp (h5.2.2.1.mem_iff.mp hx)
    have hz8 := h.2.2.2.2.2.2.1 z hz
    have hq := hi.2.1 _ (h.mem hz)
    exact ⟨hz8.1, by rw [hz8.2.1]; exact hq.2.1.1, by rw [hz8.2.1]; exact hq.2.1.2, by rw [hz8.2.2.1]; exact hq.2.2⟩
  · rw [h5.2.2.1.length_eq, zO_len, zs_map h.2.2.2.2.1]
    exact Nat.le_trans (own_like _ _) (hi.2.2.2 _)
theorem StC.lab (h : StC G st zs ser smp dn wr) (hi : ser.Nodup) {a b : Int} (ha : a ∈ numL G st) (hb : b ∈ numL G st) (he : sLab G a = sLab G b) : a = b := by
  have hn : ((numL G st).map (sLab G)).Nodup := by rw [h.2.2.1]; exact hi
  obtain ⟨i, hi1, rfl⟩ := List.getElem_of_mem ha
  obtain ⟨j, hj1, rfl⟩ := List.getElem_of_mem hb
  have : ((numL G st).map (sLab G))[i]'(by rw [List.length_map]; exact hi1) = ((numL G st).map (sLab G))[j]'(by rw [List.length_map]; exact hj1) := by rw [List.getElem_map, List.getElem_map]; exact he
  have hp := List.pairwise_iff_getElem.mp hn
  rcases Nat.lt_trichotomy i j with h1 | h1 | h1
  · exact (hp i j _ _ h1 this).elim
  · subst h1; rfl
  · exact (hp j i _ _ h1 this.symm).elim
theorem StC.nodup (h : StC G st zs ser smp dn wr) (hi : ser.Nodup) : (numL G st).Nodup := by
  have : ((numL G st).map (sLab G)).Nodup := by rw [h.2.2.1]; exact hi
  exact List.Pairwise.of_map (sLab G) (fun {x y} h9 h8 => h9 (by rw [h8])) this
/-- the room of a list after k more, what its growing costs -/
def capN : Nat → Int → Int → Int
  | 0, C, _ => C
  | k + 1, C, n => capN k (if n = C then ncap C else C) (n + 1)
def grC : Nat → Int → Int → Nat
  | 0, _, _ => 0
  | k + 1, C, n => (if n = C then 1 else 0) + grC k (if n = C then ncap C else C) (n + 1)
def grS : Nat → Int → Int → Nat
  | 0, _, _ => 0
  | k + 1, C, n => (if n = C then (ncap C).toNat else 0) + grS k (if n = C then ncap C else C) (n + 1)
theorem gN_le : ∀ (k : Nat) {C n : Int}, capK C → n + k ≤ 60 → grC k C n + glC (capN k C n) ≤ glC C ∧ grS k C n + glS (capN k C n) ≤ glS C ∧ capK (capN k C n)
  | 0, C, n, h, _ => by unfold grC grS capN; exact ⟨by omega, by omega, h⟩
  | k + 1, C, n, h, hn => by
    have h1 := gl_step h (show n < 60 by omega)
    have h2 := gN_le k (capK_add h (show n < 60 by omega)) (show (n + 1) + k ≤ 60 by omega)
    refine ⟨?_, ?_, h2.2.2⟩
    · show (if n = C then 1 else 0) + grC k (if n = C then ncap C else C) (n + 1) + glC (capN k (if n = C then ncap C else C) (n + 1)) ≤ _
      omega
    · show (if n = C then (ncap C).toNat else 0) + grS k (if n = C then ncap C else C) (n + 1) + glS (capN k (if n = C then ncap C else C) (n + 1)) ≤ _
      omega
/-- forgetting the sample of the last record -/
theorem zO_last {l : Int} {z0 : List Zt} {z : Zt} : zO l (z0 ++ [z]) = zO l z0 ++ if own l z.2.1 = true then [z.1] else [] := zO_app l z0 z
theorem sorted_at (h : SR G a) (hx : x ∈ seenL G a) : cAh G a (sT G x) < (seenL G a).length ∧ (seenL G a).getD (cAh G a (sT G x)) 0 = x := by
  have hc := cAh_spec (sT G x) h
  obtain ⟨i, hi1, e⟩ := List.getElem_of_mem hx
  have eg : (seenL G a).getD i 0 = x := by rw [List.getD_eq_getElem?_getD, List.getElem?_eq_getElem hi1]; exact e
  have a1 : cAh G a (sT G x) ≤ i := by
    by_cases h9 : i < cAh G a (sT G x)
    · have := hc.2.1 i h9
      rw [eg] at this; omega
    · omega
  by_cases h9 : cAh G a (sT G x) = i
  · rw [h9]; exact ⟨hi1, eg⟩
  · have a2 := hc.2.2 (cAh G a (sT G x)) (Nat.le_refl _) (by omega)
    have := sort_lt (T := sT G) h.2.2.2.2.1 (i := cAh G a (sT G x)) (j := i) (by omega) hi1
    rw [eg] at this; omega
theorem erase_perm {l m : List Int} {i : Nat} {y : Int} (hi : i < l.length) (hy : l.getD i 0 = y) (h : l.Perm (m ++ [y])) : (l.eraseIdx i).Perm m := by
  have h1 : l.Perm (y :: l.eraseIdx i) := by
    conv => lhs; rw [← List.take_append_drop i l, List.drop_eq_getElem_cons hi]
    have e : l[i] = y := by rw [← hy, List.getD_eq_getElem?_getD, List.getElem?_eq_getElem hi]; rfl
    rw [e, List.eraseIdx_eq_take_drop_succ]
    exact List.perm_middle
  exact (h1.symm.trans (h.trans (List.perm_append_singleton y m))).cons_inv
/-- what a call on one series leaves of the rest -/
theorem StC.series (h : StC G st zs ser smp dn wr) (hi : SC ser (smp.map (·.1))) (hO : OW G) {a : Int} (ha : a ∈ numL G st) {W : Nat → Nat → Int → Prop} (k : FR G G' W (fun y => y = gfd G 7 1 a) noA) (hw : ∀ c j y, W c j y → c = 5 ∧ j = 5) {smp' : List (Sm4 × Int)}
    (hs : SeH G' a zs') (hz : ∀ b ∈ numL G st, b ≠ a → (zO (sLab G b) zs').Perm (zO (sLab G b) zs)) (hm : zs'.map (·.2) = smp') (hsub : zs'.map (·.1) |>.Sublist (zs.map (·.1))) (hzz : ∀ z ∈ zs', ∃ y ∈ zs, y.1 = z.1 ∧ qC y.2.1 = qC z.2.1 ∧ qT y.2.1 = qT z.2.1 ∧ qV y.2.1 = qV z.2.1 ∧ y.2.2 = z.2.2) :
    StC G' st zs' ser smp' dn wr ∧ numL G' st = numL G st ∧ ∀ b ∈ numL G st, b ≠ a → seenL G' b = seenL G b ∧ capOf G' (gfd G' 7 1 b) = capOf G (gfd G 7 1 b) := by
  have hst := h.1
  have hsa := h.2.2.2.1 a ha
  have nw : ∀ {c j : Nat} {y : Int}, ¬ (c = 5 ∧ j = 5) → ¬ W c j y := fun h8 h9 => h8 (hw _ _ _ h9)
  have hb8 : ∀ b ∈ numL G st, gcl G b = 8 ∧ gcl G (gfd G 7 1 b) = 14 ∧ gfd G 7 1 b ≠ -1 := fun b hb => by
    have := h.2.2.2.1 b hb
    exact ⟨this.1, this.2.1.1, hO.nn (by rw [this.2.1.1]; decide) (by rw [this.2.1.1]; decide)⟩
  have n1 : gfd G' 8 0 st = gfd G 8 0 st := k.2.1 8 0 st (by decide) (by omega) (nw (by decide))
  have hnn := k.2.2.1 _ h.2.1.1 h.2.1.2
  have eN : numL G' st = numL G st := by
    unfold numL
    rw [n1]
    exact (hnn.2 (hO.ne 8 0 7 1 hst hsa.1 (hO.nn (by rw [h.2.1.1]; decide) (by rw [h.2.1.1]; decide)) (by omega))).1
  have eL : ∀ b ∈ numL G st, sLab G' b = sLab G b := fun b hb => k.2.1 7 0 b (by decide) (by rw [(hb8 b hb).1]; decide) (nw (by decide))
  have hz6 : ∀ z ∈ zs, gcl G z.1 = 6 := fun z hz1 => (h.2.2.2.2.2.2.1 z hz1).1
  have eZ : ∀ z ∈ zs, ∀ j, j ≠ 5 → gfd G' 5 j z.1 = gfd G 5 j z.1 := fun z hz1 j hj => k.2.1 5 j z.1 (by decide) (by rw [hz6 z hz1]; decide) (nw (fun h9 => hj h9.2))
  have hB : ∀ b ∈ numL G st, b ≠ a → SeH G' b zs' ∧ seenL G' b = seenL G b ∧ sLab G' b = sLab G b ∧ capOf G' (gfd G' 7 1 b) = capOf G (gfd G 7 1 b) := fun b hb hba => by
    have hsb := h.2.2.2.1 b hb
    exact hsb.fr k (fun j => nw (fun h9 => by omega)) (fun y _ => nw (by decide)) (fun y hy => by rw [((h.sr hi hb).2.2.2.1 y hy).1]; decide) (hO.ne 7 1 7 1 hsb.1 hsa.1 (hb8 b hb).2.2 (fun h9 => hba h9.2.2)) (hz b hb hba)
  refine ⟨⟨by rw [k.1 st (by omega)]; exact hst, by rw [n1]; exact ⟨by rw [k.1 _ (by rw [h.2.1.1]; decide)]; exact h.2.1.1, hnn.1⟩, ?_, ?_, hm, h.2.2.2.2.2.1.sublist hsub, ?_, ?_, ?_, ?_, ?_⟩, eN, fun b hb hba => ⟨(hB b hb hba).2.1, (hB b hb hba).2.2.2⟩⟩
  · rw [eN, ← h.2.2.1]; exact List.map_congr_left eL
  · intro b hb
    rw [eN] at hb
    by_cases hba : b = a
    · rw [hba]; exact hs
    · exact (hB b hb hba).1
  · intro z hz1
    obtain ⟨y, hy, y1, y2, y3, y4, y5⟩ := hzz z hz1
    have h8 := h.2.2.2.2.2.2.1 y hy
    unfold ZH at h8
    rw [y1] at h8
    have e := fun j hj => eZ y hy j hj
    rw [y1] at e
    refine ⟨by rw [k.1 _ (by rw [h8.1]; decide)]; exact h8.1, ?_, ?_, ?_, ?_, ?_⟩
    · show gfd G' 5 1 z.1 = _
      rw [e 1 (by decide), ← y3]; exact h8.2.1
    · show gfd G' 5 2 z.1 = _
      rw [e 2 (by decide), ← y4]; exact h8.2.2.1
    · rw [e 4 (by decide), ← y5]; exact h8.2.2.2.1
    · rw [eN, e 0 (by decide)]; exact h8.2.2.2.2.1
    · rw [e 0 (by decide), eL _ h8.2.2.2.2.1, ← y2]; exact h8.2.2.2.2.2
  · have h1 : (zs.map (·.1)).Pairwise (fun u w => gfd G 5 3 u < gfd G 5 3 w) := List.pairwise_map.mpr h.2.2.2.2.2.2.2.1
    have h2 := h1.sublist hsub
    have h3 := List.pairwise_map.mp h2
    refine h3.imp_of_mem fun {u w} hu hw h9 => ?_
    obtain ⟨y, hy, y1, -⟩ := hzz u hu
    obtain ⟨y', hy', y1', -⟩ := hzz w hw
    have e1 := eZ y hy 3 (by decide)
    have e2 := eZ y' hy' 3 (by decide)
    rw [y1] at e1
    rw [y1'] at e2
    rw [e1, e2]; exact h9
  · intro z hz1
    obtain ⟨y, hy, y1, -⟩ := hzz z hz1
    have e1 := eZ y hy 3 (by decide)
    have := h.2.2.2.2.2.2.2.2.1 y hy
    rw [y1] at e1 this
    rw [e1]; exact this
  · rw [k.2.1 8 3 st (by decide) (by omega) (nw (by decide))]; exact h.2.2.2.2.2.2.2.2.2.1
  · rw [k.2.1 8 2 st (by decide) (by omega) (nw (by decide))]; exact h.2.2.2.2.2.2.2.2.2.2
end S53
