/-! the store takes a record back -/
section S54
variable {E : EE} {G G' G2 : Gt} {bc bs : Nat} {Q X : Int → Gt → Prop} {a st x q l t v f e r g : Int} {zs zs' : List Zt} {W : Nat → Nat → Int → Prop} {L A : Int → Prop}
variable {ser : List Int} {smp : List (Sm4 × Int)} {rs : List Int} {dn wr cr er : Int}
def bkQ (E : EE) (G G' : Gt) (st : Int) (K : List Int) (zs' : List Zt) (ser : List Int) (dn wr : Int) : Prop :=
  LW E G' ∧ ONW G G' ∧ FR G G' (fun c k y => c = 5 ∧ k = 5 ∧ y ∈ K) (fun y => ∃ a ∈ numL G st, y = gfd G 7 1 a) noA ∧ StC G' st zs' ser (zs'.map (·.2)) dn wr ∧ numL G' st = numL G st
theorem ok_back0 {z0 : List Zt} {z : Zt} (hL : LW E G) (hO : OW G) (h : StC G st (z0 ++ [z]) ser smp dn wr) (hi : SC ser (smp.map (·.1))) (g2 : gcl G g = 2) (hg : gfd G 1 1 g = 0 ∧ gfd G 1 0 g = z.1) (hv : qH z.2.1 = 0) :
    Ok E M_X8_takeBack [rv st, rv g] G 0 0 (fun _ G' => bkQ E G G' st [] z0 ser dn wr ∧ ∀ b ∈ numL G st, capOf G' (gfd G' 7 1 b) = capOf G (gfd G 7 1 b)) (fun _ _ => False) := by
  have hzm : z ∈ z0 ++ [z] := List.mem_append_right _ (List.mem_singleton.mpr rfl)
  have hz8 := h.2.2.2.2.2.2.1 z hzm
  have ha := hz8.2.2.2.2.1
  have hsr := h.sr hi ha
  have hsa := h.2.2.2.1 _ ha
  have hzn := hO.nn (y := z.1) (by rw [hz8.1]; decide) (by rw [hz8.1]; decide)
  have hxm : z.1 ∈ seenL G (gfd G 5 0 z.1) := hsa.2.2.1.mem_iff.mpr (zO_mem.mpr ⟨z, hzm, rfl, hv, hz8.2.2.2.2.2.symm⟩)
  have hat := sorted_at hsr hxm
  refine i_X8_takeBack ⟨g2, g2, fun h9 => (h9 hg.1).elim, fun _ => ⟨fun h9 => (hzn (by rw [← hg.2]; exact h9)).elim, fun _ => ?_⟩⟩
  rw [hg.2]
  refine ⟨hz8.1, hsa.1, Call.to (ok_forget hL hsr hz8.1 hat) (Nat.le_refl _) (Nat.le_refl _) fun _ G1 h1 => ?_⟩
  have F1 : FR G G1 noW (fun y => y = gfd G 7 1 (gfd G 5 0 z.1)) noA := h1.fr
  have e7 : gfd G1 7 1 (gfd G 5 0 z.1) = gfd G 7 1 (gfd G 5 0 z.1) := h1.2.2.1 7 1 _ (by decide)
  have eLa : sLab G1 (gfd G 5 0 z.1) = sLab G (gfd G 5 0 z.1) := h1.2.2.1 7 0 _ (by decide)
  have es : seenL G1 (gfd G 5 0 z.1) = (seenL G (gfd G 5 0 z.1)).eraseIdx (cAh G (gfd G 5 0 z.1) (sT G z.1)) := by unfold seenL; rw [e7]; exact h1.2.2.2.2.2.1
  have eT : ∀ y, sT G1 y = sT G y := fun y => h1.2.2.1 5 1 y (by decide)
  have hla : sLab G (gfd G 5 0 z.1) = qC z.2.1 := hz8.2.2.2.2.2
  have hown : own (sLab G (gfd G 5 0 z.1)) z.2.1 = true := own_iff.mpr ⟨hv, hla.symm⟩
  have hS : SeH G1 (gfd G 5 0 z.1) z0 := by
    refine ⟨by rw [F1.1 _ (by rw [hsa.1]; decide)]; exact hsa.1, by rw [e7]; exact ⟨by rw [F1.1 _ (by rw [hsa.2.1.1]; decide)]; exact hsa.2.1.1, h1.2.2.2.2.2.2.2⟩, ?_, ?_, hsa.2.2.2.2.1.fr F1 (fun j => id), by rw [e7, h1.2.2.2.2.2.2.1]; exact hsa.2.2.2.2.2⟩
    · rw [es, eLa]
      refine erase_perm hat.1 hat.2 (hsa.2.2.1.trans ?_)
      rw [zO_app, if_pos hown]
    · rw [es]
      exact (hsa.2.2.2.1.sublist (List.eraseIdx_sublist _ _)).imp (fun {x y} h9 => by rw [eT, eT]; exact h9)
  have hfin := h.series (zs' := z0) (smp' := z0.map (·.2)) hi hO ha F1 (fun c j y h9 => h9.elim) hS (fun b hb hba => by
    rw [zO_app, if_neg (fun h9 => hba (h.lab hi.1 hb ha (by rw [hla]; exact (own_iff.mp h9).2.symm))), List.append_nil]) rfl (by rw [List.map_append]; exact List.sublist_append_left _ _) (fun y hy => ⟨y, List.mem_append_left _ hy, rfl, rfl, rfl, rfl, rfl⟩)
  refine ⟨⟨h1.1, h1.onw, F1.mono (fun _ _ _ h9 => h9.elim) (fun y h9 => ⟨_, ha, h9⟩) (fun _ h9 => h9), hfin.1, hfin.2.1⟩, fun b hb => ?_⟩
  by_cases hba : b = gfd G 5 0 z.1
  · rw [hba, e7]; exact h1.2.2.2.2.2.2.1
  · exact (hfin.2.2 b hb hba).2
/-- those of an erasing that are shown again -/
def unD (D : List Int) (r : Int) (zs : List Zt) : List Zt := zs.map (fun z => (z.1, if z.1 ∈ D then unh r z.2.1 else z.2.1, z.2.2))
theorem unD_1 (D : List Int) (r : Int) (zs : List Zt) : (unD D r zs).map (·.1) = zs.map (·.1) := by unfold unD; rw [List.map_map]; rfl
theorem qH_unh {r : Int} {q : Sm4} : qH (unh r q) = 0 ↔ qH q = r ∨ qH q = 0 := by
  unfold unh
  show (if qH q = r then 0 else qH q) = 0 ↔ _
  split
  · rename_i h; exact ⟨fun _ => Or.inl h, fun _ => rfl⟩
  · rename_i h
    exact ⟨fun h9 => Or.inr h9, fun h9 => by rcases h9 with h9 | h9; exact (h h9).elim; exact h9⟩
theorem unD_mem {D : List Int} {r l y : Int} {zs : List Zt} : y ∈ zO l (unD D r zs) ↔ ∃ w ∈ zs, w.1 = y ∧ qC w.2.1 = l ∧ (qH w.2.1 = 0 ∨ (w.1 ∈ D ∧ qH w.2.1 = r)) := by
  rw [zO_mem]
  unfold unD
  constructor
  · rintro ⟨z, hz1, rfl, h1, h2⟩
    obtain ⟨w, hw, rfl⟩ := List.mem_map.mp hz1
    refine ⟨w, hw, rfl, ?_, ?_⟩
    · rw [← h2]
      show _ = qC (if w.1 ∈ D then unh r w.2.1 else w.2.1)
      split <;> rfl
    · by_cases hd : w.1 ∈ D
      · have h1' : qH (if w.1 ∈ D then unh r w.2.1 else w.2.1) = 0 := h1
        rw [if_pos hd, qH_unh] at h1'
        rcases h1' with h9 | h9
        · exact Or.inr ⟨hd, h9⟩
        · exact Or.inl h9
      · have h1' : qH (if w.1 ∈ D then unh r w.2.1 else w.2.1) = 0 := h1
        rw [if_neg hd] at h1'
        exact Or.inl h1'
  · rintro ⟨w, hw, rfl, h1, h2⟩
    refine ⟨_, List.mem_map.mpr ⟨w, hw, rfl⟩, rfl, ?_, ?_⟩
    · show qH (if w.1 ∈ D then unh r w.2.1 else w.2.1) = 0
      split
      · rw [qH_unh]; rcases h2 with h9 | h9; exact Or.inr h9; exact Or.inl h9.2
      · rename_i hd
        rcases h2 with h9 | h9
        · exact h9
        · exact (hd h9.1).elim
    · show qC (if w.1 ∈ D then unh r w.2.1 else w.2.1) = l
      rw [← h1]; split <;> rfl
theorem zO_nodup {zs : List Zt} (h : (zs.map (·.1)).Nodup) (l : Int) : (zO l zs).Nodup := by
  unfold zO; exact h.sublist (List.filter_sublist.map _)
theorem unD_perm {D : List Int} {r l : Int} {zs : List Zt} (hn : (zs.map (·.1)).Nodup) {z : Zt} (hz : z ∈ zs) (hq : qH z.2.1 = r) (hr : r ≠ 0) (hD : z.1 ∉ D) :
    (qC z.2.1 = l → (zO l (unD (D ++ [z.1]) r zs)).Perm (z.1 :: zO l (unD D r zs))) ∧ (qC z.2.1 ≠ l → (zO l (unD (D ++ [z.1]) r zs)).Perm (zO l (unD D r zs))) := by
  have n1 : (zO l (unD (D ++ [z.1]) r zs)).Nodup := zO_nodup (by rw [unD_1]; exact hn) l
  have n2 : (zO l (unD D r zs)).Nodup := zO_nodup (by rw [unD_1]; exact hn) l
  have hnz : z.1 ∉ zO l (unD D r zs) := fun h9 => by
    obtain ⟨w, w1, w2, w3, w4⟩ := unD_mem.mp h9
    have := zuniq hn w1 hz w2
    subst this
    rcases w4 with h8 | h8
    · exact hr (hq.symm.trans h8)
    · exact hD h8.1
  constructor
  · intro hc
    refine (List.perm_ext_iff_of_nodup n1 (List.nodup_cons.mpr ⟨hnz, n2⟩)).mpr fun y => ?_
    rw [List.mem_cons, unD_mem, unD_mem]
    constructor
    · rintro ⟨w, w1, w2, w3, w4⟩
      by_cases h9 : w.1 = z.1
      · exact Or.inl (w2.symm.trans h9)
      · refine Or.inr ⟨w, w1, w2, w3, ?_⟩
        rcases w4 with h8 | ⟨h8, h7⟩
        · exact Or.inl h8
        · rcases List.mem_append.mp h8 with h6 | h6
          · exact Or.inr ⟨h6, h7⟩
          · exact (h9 (List.mem_singleton.mp h6)).elim
    · rintro (h9 | ⟨w, w1, w2, w3, w4⟩)
      · exact ⟨z, hz, h9.symm, hc, Or.inr ⟨List.mem_append_right _ (List.mem_singleton.mpr rfl), hq⟩⟩
      · refine ⟨w, w1, w2, w3, ?_⟩
        rcases w4 with h8 | ⟨h8, h7⟩
        · exact Or.inl h8
        · exact Or.inr ⟨List.mem_append_left _ h8, h7⟩
  · intro hc
    refine (List.perm_ext_iff_of_nodup n1 n2).mpr fun y => ?_
    rw [unD_mem, unD_mem]
    constructor
    · rintro ⟨w, w1, w2, w3, w4⟩
      refine ⟨w, w1, w2, w3, ?_⟩
      rcases w4 with h8 | ⟨h8, h7⟩
      · exact Or.inl h8
      · rcases List.mem_append.mp h8 with h6 | h6
        · exact Or.inr ⟨h6, h7⟩
        · have := zuniq hn w1 hz (List.mem_singleton.mp h6)
          subst this
          exact (hc w3).elim
    · rintro ⟨w, w1, w2, w3, w4⟩
      refine ⟨w, w1, w2, w3, ?_⟩
      rcases w4 with h8 | ⟨h8, h7⟩
      · exact Or.inl h8
      · exact Or.inr ⟨List.mem_append_left _ h8, h7⟩
theorem Basic.le {α : Type} {zs : List α} {F H : α → Sm4} (h : Basic (zs.map F)) (k : ∀ z ∈ zs, qC (H z) = qC (F z) ∧ qT (H z) = qT (F z) ∧ (qH (H z) = 0 → qH (F z) = 0)) : Basic (zs.map H) := by
  refine ⟨List.pairwise_map.mpr ((List.pairwise_map.mp h.1).imp_of_mem fun {p q} hp hq h9 a1 a2 a3 => ?_), fun z => Nat.le_trans ?_ (h.2 z)⟩
  · have kp := k p hp
    have kq := k q hq
    rw [kp.2.1, kq.2.1]
    exact h9 (kp.2.2 a1) (kq.2.2 a2) (by rw [← kp.1, ← kq.1]; exact a3)
  · unfold likeN
    rw [List.countP_map, List.countP_map]
    refine List.countP_mono_left fun q hq h9 => ?_
    have h8 := of_decide_eq_true h9
    have kq := k q hq
    exact decide_eq_true ⟨kq.2.2 h8.1, by rw [← kq.1]; exact h8.2⟩
theorem unD_basic {D D' : List Int} {r : Int} {zs : List Zt} (hD : ∀ y ∈ D, y ∈ D') (h : Basic ((unD D' r zs).map (·.2.1))) : Basic ((unD D r zs).map (·.2.1)) := by
  unfold unD at *
  rw [List.map_map] at *
  refine h.le fun z hz1 => ?_
  show qC (if z.1 ∈ D then unh r z.2.1 else z.2.1) = qC (if z.1 ∈ D' then unh r z.2.1 else z.2.1) ∧ qT (if z.1 ∈ D then unh r z.2.1 else z.2.1) = qT (if z.1 ∈ D' then unh r z.2.1 else z.2.1) ∧ (qH (if z.1 ∈ D then unh r z.2.1 else z.2.1) = 0 → qH (if z.1 ∈ D' then unh r z.2.1 else z.2.1) = 0)
  by_cases h1 : z.1 ∈ D
  · rw [if_pos h1, if_pos (hD _ h1)]; exact ⟨rfl, rfl, id⟩
  · rw [if_neg h1]
    by_cases h2 : z.1 ∈ D'
    · rw [if_pos h2]
      exact ⟨rfl, rfl, fun h9 => qH_unh.mpr (Or.inr h9)⟩
    · rw [if_neg h2]; exact ⟨rfl, rfl, id⟩
theorem zb_uniq {F : List Zt} (h : Basic (F.map (·.2.1))) {u w : Zt} (hu : u ∈ F) (hw : w ∈ F) (a1 : qH u.2.1 = 0) (a2 : qH w.2.1 = 0) (a3 : qC u.2.1 = qC w.2.1) (a4 : qT u.2.1 = qT w.2.1) : u = w := by
  have hp := List.pairwise_map.mp h.1
  obtain ⟨i, hi, rfl⟩ := List.getElem_of_mem hu
  obtain ⟨j, hj, rfl⟩ := List.getElem_of_mem hw
  have hpw := List.pairwise_iff_getElem.mp hp
  rcases Nat.lt_trichotomy i j with h1 | h1 | h1
  · exact (hpw i j hi hj h1 a1 a2 a3 a4).elim
  · subst h1; rfl
  · exact (hpw j i hj hi h1 a2 a1 a3.symm a4.symm).elim
end S54
