/-! the pile: what a word makes of it -/
section S71
variable {E : EE} {G G' G2 G0 : Gt} {c s : Nat} {Q X : Int → Gt → Prop} {a r q l u v n m p sp wn k set fr to wd g st t one two time sel nl : Int} {R T : List (Int × Int)} {zs : List Zt} {ser : List Int} {smp : List (Sm4 × Int)} {dn wr : Int} {rows K : List Int}
abbrev Rw : Type := Int × List (Int × Int)
/-- what, one, two, three sets -/
abbrev Wd : Type := Int × Int × Int × Int × Int × Int
def bdL (R : List (Int × Int)) : List (Int × Int) := R.map fun y => (y.1, wBd y.2)
def wSl (w : Wd) (c : Int) : Bool := decide (slV w.2.2.2.1 w.2.2.2.2.1 w.2.2.2.2.2 c ≠ 0)
/-- what a word makes of the pile -/
def evW (time : Int) (ser : List Int) (sm : List Sm4) (w : Wd) (S : List Rw) : Option (List Rw) :=
  if w.1 = 0 then some (S ++ [(1, bdL [(666, w.2.1)])])
  else if w.1 ≤ 7 then some (S ++ [(0, bdL (readR (wSl w) w.1 w.2.2.1 time ser sm))])
  else if w.1 = 15 then (if S.length < 1 then none else some (S.take (S.length - 1) ++ [(0, bdL (if (S.getD (S.length - 1) (0, [])).1 = 0 then qtN w.2.1 (S.getD (S.length - 1) (0, [])).2.length (S.getD (S.length - 1) (0, [])).2 else []))]))
  else if w.1 ≤ 9 then (if S.length < 1 then none else some (S.take (S.length - 1) ++ [((S.getD (S.length - 1) (0, [])).1, bdL (if (S.getD (S.length - 1) (0, [])).1 = 0 then foldR w.1 w.2.1 (S.getD (S.length - 1) (0, [])).2 else (S.getD (S.length - 1) (0, [])).2))]))
  else (if S.length < 2 then none else (joinR w.1 w.2.1 (S.getD (S.length - 2) (0, [])).1 (S.getD (S.length - 2) (0, [])).2 (S.getD (S.length - 1) (0, [])).1 (S.getD (S.length - 1) (0, [])).2).map fun x => S.take (S.length - 2) ++ [(x.1, bdL x.2)])
def wOk (w : Wd) : Prop := (0 ≤ w.1 ∧ w.1 ≤ 15) ∧ (w.1 = 0 → -1000000 ≤ w.2.1 ∧ w.2.1 ≤ 1000000) ∧ (1 ≤ w.1 → w.1 ≤ 7 → 0 ≤ w.2.2.1 ∧ w.2.2.1 ≤ 1000 ∧ (w.1 ≠ 1 → 1 ≤ w.2.2.1)) ∧ (8 ≤ w.1 → w.1 ≤ 14 → 0 ≤ w.2.1 ∧ w.2.1 ≤ 7) ∧ (w.1 = 15 → 0 ≤ w.2.1 ∧ w.2.1 ≤ 1000)
def WdH (G : Gt) (wd : Int) (w : Wd) : Prop := gcl G wd = 11 ∧ gfd G 10 0 wd = w.1 ∧ gfd G 10 1 wd = w.2.1 ∧ gfd G 10 2 wd = w.2.2.1 ∧ gcl G (gfd G 10 3 wd) = 7 ∧ (1 ≤ w.1 → w.1 ≤ 7 → gfd G 6 0 (gfd G 10 3 wd) = w.2.2.2.1 ∧ gfd G 6 1 (gfd G 10 3 wd) = w.2.2.2.2.1 ∧ gfd G 6 2 (gfd G 10 3 wd) = w.2.2.2.2.2)
def evF (E : EE) (G0 G : Gt) (p wn : Int) (K : List Int) : Prop :=
  LW E G ∧ ONW G0 G ∧ FR G0 G (fun c k y => (c = 3 ∧ 2 ≤ k ∧ y ∈ K) ∨ (c = 9 ∧ y = wn) ∨ (c = 2 ∧ 2 ≤ k ∧ y = p)) (fun y => y = gfd G0 2 0 p) (fun y => ∃ r ∈ K, y = gfd G0 3 0 r ∨ y = gfd G0 3 1 r)
def PlS (G : Gt) (p wn : Int) (rows : List Int) (sp : Int) (K : List Int) (S : List Rw) : Prop :=
  gcl G p = 3 ∧ (gcl G (gfd G 2 0 p) = 14 ∧ gfd G 13 1 (gfd G 2 0 p) ≠ -1) ∧ lst G (gfd G 2 0 p) = rows ∧ rows.length = 10 ∧ gfd G 2 2 p = sp ∧ gfd G 2 1 p = wn ∧ gcl G wn = 10 ∧ (sp :: rows).Perm K ∧ K.Nodup ∧ (∀ r ∈ K, ∃ n R, RowH G r n R) ∧ S.length ≤ 10 ∧
  ∀ i, i < S.length → RowH G (rows.getD i 0) (S.getD i (0, [])).1 (S.getD i (0, [])).2 ∧ RV (S.getD i (0, [])).1 (S.getD i (0, [])).2
theorem RV.bd (h1 : R.length ≤ 12) (h2 : ascL R) (h3 : ∀ y ∈ R, cOk y.1) (h4 : n = 0 ∨ (n = 1 ∧ ∃ v, R = [(666, v)])) : RV n (bdL R) := by
  refine ⟨by unfold bdL; rw [List.length_map]; exact h1, List.pairwise_map.mpr h2, fun y hy => ?_, ?_⟩
  · obtain ⟨z, hz, rfl⟩ := List.mem_map.mp hy
    exact ⟨h3 z hz, wBd_in _⟩
  · rcases h4 with h4 | ⟨h4, v, h5⟩
    · exact Or.inl h4
    · exact Or.inr ⟨h4, wBd v, by rw [h5]; rfl⟩
theorem srt_asc {L : List (Int × Int)} (h : L.Pairwise (fun x y => x.1 ≠ y.1)) : ascL (srt L) := by
  have hn : (srt L).Pairwise (fun x y => x.1 ≠ y.1) := (srt_perm L).symm.pairwise h (fun {x y} h9 h8 => h9 h8.symm)
  refine (List.pairwise_and_iff.mpr ⟨srt_sorted L, hn⟩).imp fun {x y} h9 => ?_
  have := h9.1
  have := h9.2
  omega
theorem cOk_mask {l s : Int} (h : cOk l) (hs : 0 ≤ s ∧ s ≤ 7) : cOk (wMask l s) := by
  unfold cOk at h
  have e1 : Int.tdiv l 100 = l / 100 := Int.tdiv_eq_ediv_of_nonneg h.1
  have e2 : Int.tdiv l 10 = l / 10 := Int.tdiv_eq_ediv_of_nonneg h.1
  have e3 : Int.tmod (l / 10) 10 = l / 10 % 10 := Int.tmod_eq_emod_of_nonneg (by omega)
  have e4 : Int.tmod l 10 = l % 10 := Int.tmod_eq_emod_of_nonneg h.1
  rw [e2, e3, e4] at h
  unfold wMask wCode
  rw [e1, e2, e3, e4]
  generalize hA : (if Int.emod s 2 = 1 then l / 100 else 6) = A
  generalize hB : (if Int.emod (s / 2) 2 = 1 then l / 10 % 10 else 6) = B
  generalize hC : (if Int.emod (s / 4) 2 = 1 then l % 10 else 6) = C
  have hA' : 0 ≤ A ∧ A ≤ 6 := by rw [← hA]; split <;> omega
  have hB' : 0 ≤ B ∧ B ≤ 6 := by rw [← hB]; split <;> omega
  have hC' : 0 ≤ C ∧ C ≤ 6 := by rw [← hC]; split <;> omega
  unfold cOk
  have f2 : Int.tdiv (100 * A + 10 * B + C) 10 = (100 * A + 10 * B + C) / 10 := Int.tdiv_eq_ediv_of_nonneg (by omega)
  have f3 : Int.tmod ((100 * A + 10 * B + C) / 10) 10 = (100 * A + 10 * B + C) / 10 % 10 := Int.tmod_eq_emod_of_nonneg (by omega)
  have f4 : Int.tmod (100 * A + 10 * B + C) 10 = (100 * A + 10 * B + C) % 10 := Int.tmod_eq_emod_of_nonneg (by omega)
  rw [f2, f3, f4]
  omega
theorem cOk_six {l : Int} (h : cOk l) : cOk (Int.tdiv l 10 * 10 + 6) := by
  unfold cOk at *
  have e2 : Int.tdiv l 10 = l / 10 := Int.tdiv_eq_ediv_of_nonneg h.1
  have e3 : Int.tmod (l / 10) 10 = l / 10 % 10 := Int.tmod_eq_emod_of_nonneg (by omega)
  rw [e2, e3] at h
  rw [e2]
  have f2 : Int.tdiv (l / 10 * 10 + 6) 10 = (l / 10 * 10 + 6) / 10 := Int.tdiv_eq_ediv_of_nonneg (by omega)
  have f3 : Int.tmod ((l / 10 * 10 + 6) / 10) 10 = (l / 10 * 10 + 6) / 10 % 10 := Int.tmod_eq_emod_of_nonneg (by omega)
  have f4 : Int.tmod (l / 10 * 10 + 6) 10 = (l / 10 * 10 + 6) % 10 := Int.tmod_eq_emod_of_nonneg (by omega)
  rw [f2, f3, f4]
  omega
theorem qtN_key {sh : Int} : ∀ (j : Nat) (R : List (Int × Int)), ∀ y ∈ qtN sh j R, ∃ z ∈ R, y.1 = Int.tdiv z.1 10 * 10 + 6
  | 0, _, y, hy => (List.not_mem_nil (show y ∈ ([] : List (Int × Int)) from hy)).elim
  | _ + 1, [], y, hy => (List.not_mem_nil (show y ∈ ([] : List (Int × Int)) from hy)).elim
  | j + 1, x :: R, y, hy => by
    have hy' : y ∈ optL (Int.tdiv x.1 10 * 10 + 6) (qtV sh (((x :: R).takeWhile (ten x)).filter not6)) ++ qtN sh j ((x :: R).dropWhile (ten x)) := hy
    rcases List.mem_append.mp hy' with h9 | h9
    · cases ho : qtV sh (((x :: R).takeWhile (ten x)).filter not6) with
      | none => rw [ho] at h9; exact (List.not_mem_nil h9).elim
      | some w => rw [ho] at h9; rw [List.mem_singleton.mp h9]; exact ⟨x, List.mem_cons_self, rfl⟩
    · obtain ⟨z, hz, e⟩ := qtN_key j _ y h9
      exact ⟨z, (List.dropWhile_sublist _).subset hz, e⟩
theorem cOk666 : cOk 666 := ⟨by decide, by decide, by decide, by decide⟩
theorem foldR_ok {k set : Int} (h : RV n R) (hs : 0 ≤ set ∧ set ≤ 7) : ascL (foldR k set R) ∧ ∀ y ∈ foldR k set R, cOk y.1 := by
  refine ⟨srt_asc (List.pairwise_map.mpr kyL_nodup), fun y hy => ?_⟩
  obtain ⟨g, hg, rfl⟩ := List.mem_map.mp ((srt_perm _).mem_iff.mp hy)
  obtain ⟨z, hz, e⟩ := kyL_mem.mp hg
  show cOk g
  rw [← e]; exact cOk_mask (h.2.2.1 z hz).1 hs
theorem rdF_key {P : Int → Bool} {sm : List Sm4} {y : Int × Int} {c : Int} (h : rdF P k two time sm c = some y) : y.1 = c := by
  unfold rdF at h
  split at h
  · cases hv : valW k two time (seeT c sm) with
    | none => rw [hv] at h; cases h
    | some v => rw [hv] at h; have : (c, v) = y := Option.some.inj h; rw [← this]
  · cases h
theorem readR_ok {P : Int → Bool} {sm : List Sm4} (hn : ser.Nodup) (hc : ∀ c ∈ ser, cOk c) : ascL (readR P k two time ser sm) ∧ ∀ y ∈ readR P k two time ser sm, cOk y.1 := by
  refine ⟨srt_asc ?_, fun y hy => ?_⟩
  · rw [List.pairwise_filterMap]
    refine hn.imp fun {b d} h9 x hx z hz h8 => h9 ?_
    rw [← rdF_key hx, ← rdF_key hz]; exact h8
  · obtain ⟨b, hb, e⟩ := List.mem_filterMap.mp ((srt_perm _).mem_iff.mp hy)
    rw [rdF_key e]; exact hc b hb
theorem joinR_ok {k set nl nu : Int} {U : List (Int × Int)} {x : Rw} (hR : RV nl R) (hU : RV nu U) (h : joinR k set nl R nu U = some x) : ascL x.2 ∧ (∀ y ∈ x.2, cOk y.1) ∧ (x.1 = 0 ∨ (x.1 = 1 ∧ ∃ v, x.2 = [(666, v)])) := by
  have key : ∀ (f : Int × Int → Option Int) (n' : Int) (R' : List (Int × Int)), RV n' R' → ∀ y ∈ fmJ f R', cOk y.1 := fun f n' R' hv y hy => by
    obtain ⟨z, hz, e⟩ := fmJ_key hy
    rw [← e]; exact (hv.2.2.1 z hz).1
  unfold joinR at h
  split at h
  · split at h
    · cases h
    · have := Option.some.inj h
      rw [← this]
      exact ⟨List.pairwise_singleton _ _, fun y hy => by rw [List.mem_singleton.mp hy]; exact cOk666, Or.inr ⟨rfl, _, rfl⟩⟩
  · split at h
    · have := Option.some.inj h
      rw [← this]
      exact ⟨fmJ_asc hU.2.1, key _ _ _ hU, Or.inl rfl⟩
    · split at h
      · have := Option.some.inj h
        rw [← this]
        exact ⟨fmJ_asc hR.2.1, key _ _ _ hR, Or.inl rfl⟩
      · split at h
        · cases h
        · have := Option.some.inj h
          rw [← this]
          exact ⟨fmJ_asc hR.2.1, key _ _ _ hR, Or.inl rfl⟩
end S71
