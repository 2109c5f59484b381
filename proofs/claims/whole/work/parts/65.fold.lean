/-! results folded by their labels -/
section S65
variable {E : EE} {G G' G2 G0 : Gt} {c s : Nat} {Q X : Int → Gt → Prop} {a r q l u v n m p sp w k set fr wd g : Int} {W : Nat → Nat → Int → Prop} {L A : Int → Prop} {R T : List (Int × Int)}
def aggS (k x v : Int) : Int := if k = 8 then x + v else max x v
def agg (k : Int) : List Int → Int
  | [] => 0
  | v :: r => r.foldl (aggS k) v
theorem agg_snoc (k v : Int) {r : List Int} (h : r ≠ []) : agg k (r ++ [v]) = aggS k (agg k r) v := by
  cases r with
  | nil => exact (h rfl).elim
  | cons x r =>
    show (r ++ [v]).foldl (aggS k) x = _
    rw [List.foldl_append]; rfl
def grV (k set g : Int) (R : List (Int × Int)) : Int := agg k ((R.filter (sml set g)).map (·.2))
def kyL (set : Int) : List (Int × Int) → List Int
  | [] => []
  | y :: R => if wMask y.1 set ∈ kyL set R then kyL set R else wMask y.1 set :: kyL set R
theorem kyL_mem {set g : Int} : ∀ {R : List (Int × Int)}, g ∈ kyL set R ↔ ∃ y ∈ R, wMask y.1 set = g
  | [] => ⟨fun h => (List.not_mem_nil h).elim, fun ⟨y, hy, _⟩ => (List.not_mem_nil hy).elim⟩
  | y :: R => by
    have ih := kyL_mem (set := set) (g := g) (R := R)
    unfold kyL
    constructor
    · intro h
      split at h
      · obtain ⟨z, hz, e⟩ := ih.mp h
        exact ⟨z, List.mem_cons_of_mem _ hz, e⟩
      · rcases List.mem_cons.mp h with h9 | h9
        · exact ⟨y, List.mem_cons_self, h9.symm⟩
        · obtain ⟨z, hz, e⟩ := ih.mp h9
          exact ⟨z, List.mem_cons_of_mem _ hz, e⟩
    · rintro ⟨z, hz, e⟩
      rcases List.mem_cons.mp hz with h9 | h9
      · subst h9
        split
        · rename_i h8; rw [← e]; exact h8
        · rw [← e]; exact List.mem_cons_self
      · have := ih.mpr ⟨z, h9, e⟩
        split
        · exact this
        · exact List.mem_cons_of_mem _ this
theorem kyL_nodup {set : Int} : ∀ {R : List (Int × Int)}, (kyL set R).Nodup
  | [] => List.nodup_nil
  | y :: R => by
    unfold kyL
    split
    · exact kyL_nodup
    · rename_i h; exact List.nodup_cons.mpr ⟨h, kyL_nodup⟩
/-- those with the same labels of a set, as one -/
def foldR (k set : Int) (R : List (Int × Int)) : List (Int × Int) := srt ((kyL set R).map fun g => (g, grV k set g R))
/-- what the spare row holds, of the first ones -/
def FdS (k set : Int) (R T : List (Int × Int)) (i : Nat) : Prop := ascL T ∧ (∀ g w, (g, w) ∈ T ↔ (∃ y ∈ R, wMask y.1 set = g) ∧ w = grV k set g R) ∧ ∀ y ∈ T, -(100000000000000 * (i : Int)) ≤ y.2 ∧ y.2 ≤ 100000000000000 * (i : Int)
theorem FdS.eq {i : Nat} (h : FdS k set R T i) : T = foldR k set R := by
  refine srt_eq ?_ h.1
  refine (List.perm_ext_iff_of_nodup (h.1.imp fun h9 h8 => by rw [h8] at h9; exact Int.lt_irrefl _ h9) ?_).mpr fun y => ?_
  · have : ((kyL set R).map fun g => ((g, grV k set g R) : Int × Int)).Pairwise (· ≠ ·) := List.pairwise_map.mpr (kyL_nodup.imp fun h9 h8 => h9 (congrArg Prod.fst h8))
    exact this
  · obtain ⟨g, w⟩ := y
    rw [h.2.1 g w, List.mem_map]
    constructor
    · rintro ⟨h1, h2⟩
      exact ⟨g, kyL_mem.mpr h1, by rw [h2]⟩
    · rintro ⟨g', h1, h2⟩
      have e1 : g' = g := congrArg Prod.fst h2
      have e2 : grV k set g' R = w := congrArg Prod.snd h2
      subst e1
      exact ⟨kyL_mem.mp h1, e2.symm⟩
theorem FdS.len {i : Nat} (h : FdS k set R T i) (hR : R.length ≤ 12) : T.length ≤ R.length := by
  rw [h.eq]
  unfold foldR
  rw [(srt_perm _).length_eq, List.length_map]
  clear h
  induction R with
  | nil => exact Nat.le_refl _
  | cons y R ih =>
    have := ih (by rw [List.length_cons] at hR; omega)
    unfold kyL
    rw [List.length_cons]
    split
    · omega
    · rw [List.length_cons]; omega
theorem sml_true {y : Int × Int} : sml set g y = true ↔ wMask y.1 set = g := by unfold sml; exact decide_eq_true_iff
theorem FdS.put {i : Nat} {y : Int × Int} (h : FdS k set R T i) (hn : ∀ z ∈ T, z.1 ≠ wMask y.1 set) (hb : bnd y.2) : FdS k set (R ++ [y]) (putL (wMask y.1 set) y.2 T) (i + 1) := by
  unfold bnd at hb
  have hno : ∀ z ∈ R, wMask z.1 set ≠ wMask y.1 set := fun z hz h9 => by
    have := (h.2.1 (wMask y.1 set) (grV k set (wMask y.1 set) R)).mpr ⟨⟨z, hz, h9⟩, rfl⟩
    exact hn _ this rfl
  refine ⟨putL_asc h.1 hn, fun g w => ?_, fun z hz => ?_⟩
  · rw [(putL_perm _ _ _).mem_iff, List.mem_cons, h.2.1 g w]
    have hfil : ∀ g, (R ++ [y]).filter (sml set g) = R.filter (sml set g) ++ if wMask y.1 set = g then [y] else [] := fun g => by
      rw [List.filter_append]
      congr 1
      by_cases h9 : wMask y.1 set = g
      · rw [if_pos h9, List.filter_cons_of_pos (sml_true.mpr h9)]; rfl
      · rw [if_neg h9, List.filter_cons_of_neg (fun h8 => h9 (sml_true.mp h8))]; rfl
    by_cases hg : wMask y.1 set = g
    · have e0 : R.filter (sml set g) = [] := List.filter_eq_nil_iff.mpr fun z hz h8 => hno z hz (by rw [sml_true.mp h8, hg])
      have e1 : grV k set g (R ++ [y]) = y.2 := by
        unfold grV
        rw [hfil, if_pos hg, e0]; rfl
      rw [e1]
      constructor
      · rintro (h9 | ⟨⟨z, hz, h8⟩, -⟩)
        · exact ⟨⟨y, List.mem_append_right _ (List.mem_singleton.mpr rfl), hg⟩, congrArg Prod.snd h9⟩
        · exact (hno z hz (by rw [h8, hg])).elim
      · rintro ⟨-, h9⟩
        exact Or.inl (by rw [h9, hg])
    · have e1 : grV k set g (R ++ [y]) = grV k set g R := by
        unfold grV
        rw [hfil, if_neg hg, List.append_nil]
      rw [e1]
      constructor
      · rintro (h9 | ⟨⟨z, hz, h8⟩, h7⟩)
        · exact (hg (congrArg Prod.fst h9).symm).elim
        · exact ⟨⟨z, List.mem_append_left _ hz, h8⟩, h7⟩
      · rintro ⟨⟨z, hz, h8⟩, h7⟩
        rcases List.mem_append.mp hz with h6 | h6
        · exact Or.inr ⟨⟨z, h6, h8⟩, h7⟩
        · rw [List.mem_singleton.mp h6] at h8; exact (hg h8).elim
  · rcases List.mem_cons.mp ((putL_perm _ _ _).mem_iff.mp hz) with h9 | h9
    · rw [h9]; show _ ≤ y.2 ∧ y.2 ≤ _; omega
    · have := h.2.2 z h9; omega
theorem set_mem {T : List (Int × Int)} {b : Nat} {z y : Int × Int} (hb : b < T.length) (ha : ascL T) (hz : z.1 = (T.getD b (0, 0)).1) : y ∈ T.set b z ↔ (y = z ∨ (y ∈ T ∧ y.1 ≠ z.1)) := by
  have hg : T.getD b (0, 0) = T[b] := by rw [List.getD_eq_getElem?_getD, List.getElem?_eq_getElem hb]; rfl
  have hp := List.pairwise_iff_getElem.mp ha
  constructor
  · intro h
    obtain ⟨i, hi, e⟩ := List.getElem_of_mem h
    rw [List.length_set] at hi
    rw [List.getElem_set] at e
    split at e
    · exact Or.inl e.symm
    · rename_i hne
      refine Or.inr ⟨by rw [← e]; exact List.getElem_mem hi, ?_⟩
      rw [← e, hz, hg]
      rcases Nat.lt_or_gt_of_ne hne with h9 | h9
      · have := hp b i hb hi h9; omega
      · have := hp i b hi hb h9; omega
  · rintro (h | ⟨h, hne⟩)
    · rw [h]; exact List.mem_set hb z
    · obtain ⟨i, hi, e⟩ := List.getElem_of_mem h
      have hib : b ≠ i := fun h9 => by
        subst h9
        rw [hz, hg, e] at hne; exact hne rfl
      have : (T.set b z)[i]'(by rw [List.length_set]; exact hi) = y := by rw [List.getElem_set, if_neg hib]; exact e
      rw [← this]; exact List.getElem_mem _
theorem FdS.upd {i b : Nat} {y : Int × Int} (h : FdS k set R T i) (hb : b < T.length) (hk : (T.getD b (0, 0)).1 = wMask y.1 set) (hy : bnd y.2) : FdS k set (R ++ [y]) (T.set b (wMask y.1 set, aggS k (T.getD b (0, 0)).2 y.2)) (i + 1) := by
  unfold bnd at hy
  have hm : T.getD b (0, 0) ∈ T := by rw [List.getD_eq_getElem?_getD, List.getElem?_eq_getElem hb]; exact List.getElem_mem hb
  have hm2 := (h.2.1 (T.getD b (0, 0)).1 (T.getD b (0, 0)).2).mp hm
  obtain ⟨⟨z0, hz0, ez0⟩, ev⟩ := hm2
  rw [hk] at ez0 ev
  have hfil : ∀ g, (R ++ [y]).filter (sml set g) = R.filter (sml set g) ++ if wMask y.1 set = g then [y] else [] := fun g => by
    rw [List.filter_append]
    congr 1
    by_cases h9 : wMask y.1 set = g
    · rw [if_pos h9, List.filter_cons_of_pos (sml_true.mpr h9)]; rfl
    · rw [if_neg h9, List.filter_cons_of_neg (fun h8 => h9 (sml_true.mp h8))]; rfl
  have hagg : grV k set (wMask y.1 set) (R ++ [y]) = aggS k (T.getD b (0, 0)).2 y.2 := by
    rw [ev]
    unfold grV
    rw [hfil, if_pos rfl, List.map_append]
    refine agg_snoc k y.2 ?_
    intro h9
    have := List.map_eq_nil_iff.mp h9
    exact (List.filter_eq_nil_iff.mp this) z0 hz0 (sml_true.mpr ez0)
  refine ⟨?_, fun g w => ?_, fun z hz => ?_⟩
  · refine List.pairwise_iff_getElem.mpr fun i j hi hj hij => ?_
    rw [List.length_set] at hi hj
    have hp := List.pairwise_iff_getElem.mp h.1 i j hi hj hij
    have hg : T.getD b (0, 0) = T[b] := by rw [List.getD_eq_getElem?_getD, List.getElem?_eq_getElem hb]; rfl
    rw [hg] at hk
    rw [List.getElem_set, List.getElem_set]
    by_cases c1 : b = i
    · by_cases c2 : b = j
      · omega
      · rw [if_pos c1, if_neg c2]; subst c1; show wMask y.1 set < _; rw [hk] at hp; exact hp
    · by_cases c2 : b = j
      · rw [if_neg c1, if_pos c2]; subst c2; show _ < wMask y.1 set; rw [hk] at hp; exact hp
      · rw [if_neg c1, if_neg c2]; exact hp
  · rw [set_mem hb h.1 hk.symm]
    by_cases hg : wMask y.1 set = g
    · subst hg
      rw [hagg]
      constructor
      · rintro (h9 | ⟨-, h9⟩)
        · exact ⟨⟨y, List.mem_append_right _ (List.mem_singleton.mpr rfl), rfl⟩, congrArg Prod.snd h9⟩
        · exact (h9 rfl).elim
      · rintro ⟨-, h9⟩
        exact Or.inl (by rw [h9])
    · have e1 : grV k set g (R ++ [y]) = grV k set g R := by
        unfold grV
        rw [hfil, if_neg hg, List.append_nil]
      rw [e1]
      constructor
      · rintro (h9 | ⟨h9, -⟩)
        · exact (hg (congrArg Prod.fst h9).symm).elim
        · obtain ⟨⟨z, hz, h8⟩, h7⟩ := (h.2.1 g w).mp h9
          exact ⟨⟨z, List.mem_append_left _ hz, h8⟩, h7⟩
      · rintro ⟨⟨z, hz, h8⟩, h7⟩
        refine Or.inr ⟨(h.2.1 g w).mpr ⟨?_, h7⟩, fun h9 => hg h9.symm⟩
        rcases List.mem_append.mp hz with h6 | h6
        · exact ⟨z, h6, h8⟩
        · rw [List.mem_singleton.mp h6] at h8; exact (hg h8).elim
  · rcases (set_mem hb h.1 hk.symm).mp hz with h9 | ⟨h9, -⟩
    · rw [h9]
      have := h.2.2 _ hm
      show _ ≤ aggS k (T.getD b (0, 0)).2 y.2 ∧ aggS k (T.getD b (0, 0)).2 y.2 ≤ _
      unfold aggS
      split <;> omega
    · have := h.2.2 z h9; omega
/-- a value of a result is set -/
theorem RowH.setV {b : Nat} (h : RowH G r n R) (hb : b < R.length) (hne : gfd G 3 0 r ≠ gfd G 3 1 r) : RU G (sel G (gfd G 3 1 r) (b : Int) v) r ∧ RowH (sel G (gfd G 3 1 r) (b : Int) v) r n (R.set b ((R.getD b (0, 0)).1, v)) := by
  have hl := h.len
  have hru : RU G (sel G (gfd G 3 1 r) (b : Int) v) r := ⟨fun _ => rfl, fun _ _ _ _ => rfl, fun _ => rfl, fun x i h0 h1 => by rw [gel_sel, if_neg (fun h9 => h1 h9.1)]⟩
  refine ⟨hru, RowH.of (hru.sh h.1 h.1.2.2.2.1 h.1.2.2.2.2) h.2.1 (by rw [List.length_set]; exact hl.symm) (fun i hi => ?_)⟩
  rw [List.length_set] at hi
  rw [List.getD_eq_getElem?_getD, List.getElem?_set]
  have ha := h.at hi
  show (gel (sel G (gfd G 3 1 r) (b : Int) v) (gfd G 3 0 r) (i : Int), gel (sel G (gfd G 3 1 r) (b : Int) v) (gfd G 3 1 r) (i : Int)) = _
  rw [gel_sel, gel_sel, if_neg (fun h9 => hne h9.1)]
  by_cases c : b = i
  · subst c
    rw [if_pos ⟨rfl, rfl⟩, if_pos rfl, if_pos hi, ha]; rfl
  · rw [if_neg (fun h9 => c (by omega)), if_neg c, ← List.getD_eq_getElem?_getD, ha]; rfl
end S65
