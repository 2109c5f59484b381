/-! the store: how the class holds the samples -/
abbrev Zt : Type := Int × Sm4 × Int
section S42
variable {E : EE} {G G' G2 : Gt} {c s : Nat} {Q X : Int → Gt → Prop} {a st x q : Int} {zs : List Zt} {W : Nat → Nat → Int → Prop} {L A : Int → Prop}
theorem SR.fr (h : SR G a) (k : FR G G' W L A) (w1 : ¬ W 7 1 a) (w5 : ∀ x ∈ seenL G a, ¬ W 5 1 x ∧ ¬ W 5 2 x) (hl : ¬ L (gfd G 7 1 a)) : SR G' a ∧ seenL G' a = seenL G a := by
  obtain ⟨h1, h2, h3, h4, h5, h6⟩ := h
  have e1 : gfd G' 7 1 a = gfd G 7 1 a := k.2.1 7 1 a (by omega) (by omega) w1
  have e2 := k.2.2.1 _ h2 h3
  have es : seenL G' a = seenL G a := by unfold seenL; rw [e1]; exact (e2.2 hl).1
  have eT : ∀ x ∈ seenL G a, sT G' x = sT G x := fun x hx => k.2.1 5 1 x (by omega) (by have := (h4 x hx).1; omega) (w5 x hx).1
  have eV : ∀ x ∈ seenL G a, sV G' x = sV G x := fun x hx => k.2.1 5 2 x (by omega) (by have := (h4 x hx).1; omega) (w5 x hx).2
  refine ⟨⟨by rw [k.1 a (by omega)]; exact h1, by rw [e1, k.1 _ (by omega)]; exact h2, by rw [e1]; exact e2.1, fun x hx => ?_, ?_, by rw [es]; exact h6⟩, es⟩
  · rw [es] at hx
    rw [k.1 x (by have := (h4 x hx).1; omega), eT x hx, eV x hx]
    exact h4 x hx
  · rw [es]
    exact h5.imp_of_mem (fun {x y} hx hy h9 => by rw [eT x hx, eT y hy]; exact h9)
def capK (C : Int) : Prop := C = 0 ∨ C = 10 ∨ C = 15 ∨ C = 22 ∨ C = 33 ∨ C = 49 ∨ C = 73
/-- the addresses of a series' seen samples, in the order of their writing -/
def zO (l : Int) (zs : List Zt) : List Int := (zs.filter (fun z => own l z.2.1)).map (·.1)
/-- a series in order -/
def SeH (G : Gt) (a : Int) (zs : List Zt) : Prop :=
  gcl G a = 8 ∧ (gcl G (gfd G 7 1 a) = 14 ∧ gfd G 13 1 (gfd G 7 1 a) ≠ -1) ∧ (seenL G a).Perm (zO (sLab G a) zs) ∧ (seenL G a).Pairwise (fun x y => sT G x < sT G y) ∧ BSh G a ∧ capK (capOf G (gfd G 7 1 a))
/-- a sample in order -/
def ZH (G : Gt) (N : List Int) (z : Zt) : Prop := gcl G z.1 = 6 ∧ sT G z.1 = qT z.2.1 ∧ sV G z.1 = qV z.2.1 ∧ gfd G 5 4 z.1 = z.2.2 ∧ gfd G 5 0 z.1 ∈ N ∧ sLab G (gfd G 5 0 z.1) = qC z.2.1
def chn (G : Gt) : Int → List Int → Prop
  | p, [] => p = -1
  | p, k :: ks => p = k ∧ chn G (gfd G 5 5 k) ks
def zHid (r : Int) (zs : List Zt) : List Int := (zs.filter (fun z => decide (qH z.2.1 = r))).map (·.1)
/-- the samples without the last record -/
def zU (r : Int) (zs : List Zt) : List Zt := if r = 0 then zs.dropLast else zs.map (fun z => (z.1, unh r z.2.1, z.2.2))
/-- the records, the last one first -/
def RecR (G : Gt) : List Zt → List Int → List Int → Prop
  | _, [], [] => True
  | zs, g :: gs, r :: rs => gcl G g = 2 ∧ (r = 0 → gfd G 1 1 g = 0 ∧ ∃ z0 z, zs = z0 ++ [z] ∧ gfd G 1 0 g = z.1) ∧ (r ≠ 0 → gfd G 1 1 g = 1 ∧ ∃ ks, ks.Perm (zHid r zs) ∧ chn G (gfd G 1 0 g) ks) ∧ RecR G (zU r zs) gs rs
  | _, _, _ => False
/-- the store in order: labels of the series, samples with their marks of the copy, records, whether the copy is down, how many were written, the room of the records -/
def StH (G : Gt) (st : Int) (zs : List Zt) (ser : List Int) (smp : List (Sm4 × Int)) (rs : List Int) (dn wr cr : Int) : Prop :=
  gcl G st = 9 ∧ (gcl G (gfd G 8 0 st) = 14 ∧ gfd G 13 1 (gfd G 8 0 st) ≠ -1) ∧ (gcl G (gfd G 8 1 st) = 14 ∧ gfd G 13 1 (gfd G 8 1 st) ≠ -1) ∧
  (numL G st).map (sLab G) = ser ∧ (∀ a ∈ numL G st, SeH G a zs) ∧ zs.map (·.2) = smp ∧ (zs.map (·.1)).Nodup ∧ (∀ z ∈ zs, ZH G (numL G st) z) ∧
  zs.Pairwise (fun z y => gfd G 5 3 z.1 < gfd G 5 3 y.1) ∧ (∀ z ∈ zs, gfd G 5 3 z.1 < wr) ∧ gfd G 8 3 st = wr ∧ gfd G 8 2 st = dn ∧ capOf G (gfd G 8 1 st) = cr ∧
  RecR G zs (lst G (gfd G 8 1 st)).reverse rs
def vOk (v : Int) : Prop := v = -2147483648 ∨ (-1000000 ≤ v ∧ v ≤ 1000000)
def cOk (c : Int) : Prop := 0 ≤ c ∧ c ≤ 666 ∧ Int.tmod (Int.tdiv c 10) 10 ≤ 6 ∧ Int.tmod c 10 ≤ 6
/-- what holds of the numbers -/
def SI (ser : List Int) (sm : List Sm4) (rs : List Int) (er : Int) : Prop :=
  ser.Nodup ∧ ser.length ≤ 12 ∧ (∀ c ∈ ser, cOk c) ∧ (∀ q ∈ sm, qC q ∈ ser ∧ (0 ≤ qT q ∧ qT q ≤ 100000) ∧ vOk (qV q) ∧ 0 ≤ qH q ∧ qH q ≤ er) ∧ Good rs sm ∧ (∀ r ∈ rs, 0 ≤ r ∧ r ≤ er)
variable {ser : List Int} {smp : List (Sm4 × Int)} {rs : List Int} {dn wr cr er : Int}
theorem zO_mem {l y : Int} : y ∈ zO l zs ↔ ∃ z ∈ zs, z.1 = y ∧ qH z.2.1 = 0 ∧ qC z.2.1 = l := by
  unfold zO
  rw [List.mem_map]
  constructor
  · rintro ⟨z, hz, rfl⟩
    have := List.mem_filter.mp hz
    exact ⟨z, this.1, rfl, own_iff.mp this.2⟩
  · rintro ⟨z, hz, rfl, h1⟩
    exact ⟨z, List.mem_filter.mpr ⟨hz, own_iff.mpr h1⟩, rfl⟩
theorem zO_len (l : Int) (zs : List Zt) : (zO l zs).length = (zs.map (·.2.1)).countP (own l) := by
  unfold zO
  rw [List.length_map, ← List.countP_eq_length_filter, List.countP_map]; rfl
theorem own_like (l : Int) (sm : List Sm4) : sm.countP (own l) ≤ likeN (Int.tdiv l 100) sm := by
  refine List.countP_mono_left fun q _ h => ?_
  have := own_iff.mp h
  exact decide_eq_true ⟨this.1, by rw [this.2]⟩
theorem zs_map {zs : List Zt} (h : zs.map (·.2) = smp) : zs.map (·.2.1) = smp.map (·.1) := by
  rw [← h, List.map_map]; rfl
theorem StH.mem (h : StH G st zs ser smp rs dn wr cr) {z : Zt} (hz : z ∈ zs) : z.2.1 ∈ smp.map (·.1) := by
  rw [← zs_map h.2.2.2.2.2.1]
  exact List.mem_map.mpr ⟨z, hz, rfl⟩
theorem StH.sr (h : StH G st zs ser smp rs dn wr cr) (hi : SI ser (smp.map (·.1)) rs er) {a : Int} (ha : a ∈ numL G st) : SR G a := by
  have h5 := h.2.2.2.2.1 a ha
  refine ⟨h5.1, h5.2.1.1, h5.2.1.2, fun x hx => ?_, h5.2.2.2.1, ?_⟩
  · obtain ⟨z, hz, rfl, -, -⟩ := zO_mem.mp (h5.2.2.1.mem_iff.mp hx)
    have hz8 := h.2.2.2.2.2.2.2.1 z hz
    have hq := hi.2.2.2.1 _ (h.mem hz)
    exact ⟨hz8.1, by rw [hz8.2.1]; exact hq.2.1.1, by rw [hz8.2.1]; exact hq.2.1.2, by rw [hz8.2.2.1]; exact hq.2.2.1⟩
  · rw [h5.2.2.1.length_eq, zO_len, zs_map h.2.2.2.2.2.1]
    exact Nat.le_trans (own_like _ _) (hi.2.2.2.2.1.basic.2 _)
theorem StH.nr (h : StH G st zs ser smp rs dn wr cr) (hi : SI ser (smp.map (·.1)) rs er) : NR G st := by
  have e := h.2.2.2.1
  refine ⟨h.1, h.2.1.1, h.2.1.2, ?_, fun x hx => ⟨h.sr hi hx, ?_⟩, by rw [e]; exact hi.1⟩
  · have := congrArg List.length e
    rw [List.length_map] at this
    rw [this]; exact hi.2.1
  · have : sLab G x ∈ ser := by rw [← e]; exact List.mem_map.mpr ⟨x, hx, rfl⟩
    have := hi.2.2.1 _ this
    exact ⟨this.1, this.2.1⟩
/-- the series of these labels -/
theorem StH.find (h : StH G st zs ser smp rs dn wr cr) (l : Int) : (fsV G (numL G st) l = -1 ∧ l ∉ ser) ∨ (fsV G (numL G st) l ∈ numL G st ∧ sLab G (fsV G (numL G st) l) = l ∧ l ∈ ser) := by
  unfold fsV
  cases hf : (numL G st).find? (fun x => decide (sLab G x = l)) with
  | none =>
    left
    refine ⟨rfl, fun h9 => ?_⟩
    rw [← h.2.2.2.1] at h9
    obtain ⟨x, hx, e⟩ := List.mem_map.mp h9
    exact List.find?_eq_none.mp hf x hx (decide_eq_true e)
  | some y =>
    right
    have h1 := List.mem_of_find?_eq_some hf
    have h3 := List.find?_some hf
    have h2 : sLab G y = l := of_decide_eq_true h3
    refine ⟨h1, h2, ?_⟩
    rw [← h.2.2.2.1]
    exact List.mem_map.mpr ⟨y, h1, h2⟩
theorem StH.lab (h : StH G st zs ser smp rs dn wr cr) (hi : SI ser (smp.map (·.1)) rs er) {a b : Int} (ha : a ∈ numL G st) (hb : b ∈ numL G st) (he : sLab G a = sLab G b) : a = b := by
  have hn : ((numL G st).map (sLab G)).Nodup := by rw [h.2.2.2.1]; exact hi.1
  obtain ⟨i, hi1, rfl⟩ := List.getElem_of_mem ha
  obtain ⟨j, hj1, rfl⟩ := List.getElem_of_mem hb
  have : ((numL G st).map (sLab G))[i]'(by rw [List.length_map]; exact hi1) = ((numL G st).map (sLab G))[j]'(by rw [List.length_map]; exact hj1) := by rw [List.getElem_map, List.getElem_map]; exact he
  have hp := List.pairwise_iff_getElem.mp hn
  rcases Nat.lt_trichotomy i j with h1 | h1 | h1
  · exact (hp i j _ _ h1 this).elim
  · subst h1; rfl
  · exact (hp j i _ _ h1 this.symm).elim
/-- what a new sample of a series is: the sorted list tells what the scan tells -/
theorem StH.judge (h : StH G st zs ser smp rs dn wr cr) (hi : SI ser (smp.map (·.1)) rs er) {a : Int} (ha : a ∈ numL G st) (t v : Int) : jdV G a t v = jdg (smp.map (·.1)) (sLab G a) t v := by
  have h5 := h.2.2.2.2.1 a ha
  have hs := h.sr hi ha
  have hc := cAh_spec t hs
  have hz : ∀ x, x ∈ seenL G a → ∃ z ∈ zs, z.1 = x ∧ qH z.2.1 = 0 ∧ qC z.2.1 = sLab G a ∧ sT G x = qT z.2.1 ∧ sV G x = qV z.2.1 := fun x hx => by
    obtain ⟨z, h1, rfl, h2, h3⟩ := zO_mem.mp (h5.2.2.1.mem_iff.mp hx)
    have h8 := h.2.2.2.2.2.2.2.1 z h1
    exact ⟨z, h1, rfl, h2, h3, h8.2.1, h8.2.2.1⟩
  have hq : ∀ q ∈ smp.map (·.1), qH q = 0 → qC q = sLab G a → ∃ x ∈ seenL G a, sT G x = qT q ∧ sV G x = qV q := fun q hq h1 h2 => by
    rw [← zs_map h.2.2.2.2.2.1] at hq
    obtain ⟨z, h3, rfl⟩ := List.mem_map.mp hq
    have h8 := h.2.2.2.2.2.2.2.1 z h3
    exact ⟨z.1, h5.2.2.1.mem_iff.mpr (zO_mem.mpr ⟨z, h3, rfl, h1, h2⟩), h8.2.1, h8.2.2.1⟩
  unfold jdV jdg
  by_cases hcnd : cAh G a t < (seenL G a).length ∧ sT G ((seenL G a).getD (cAh G a t) 0) = t
  · rw [if_pos hcnd]
    obtain ⟨z, z1, z2, z3, z4, z5, z6⟩ := hz _ (getD_mem (L := seenL G a) hcnd.1)
    cases hf : (smp.map (·.1)).find? (fun q => own (sLab G a) q && decide (qT q = t)) with
    | none =>
      have := List.find?_eq_none.mp hf z.2.1 (h.mem z1)
      simp only [Bool.and_eq_true, decide_eq_true_eq, own_iff] at this
      exact (this ⟨⟨z3, z4⟩, by rw [← z5]; exact hcnd.2⟩).elim
    | some q =>
      have hm := List.mem_of_find?_eq_some hf
      have hp := List.find?_some hf
      simp only [Bool.and_eq_true, decide_eq_true_eq, own_iff] at hp
      have := pw_uniq hi.2.2.2.2.1.basic hm (h.mem z1) hp.1.1 z3 (hp.1.2.trans z4.symm) (hp.2.trans (hcnd.2.symm.trans z5))
      rw [z6, this]
  · rw [if_neg hcnd]
    cases hf : (smp.map (·.1)).find? (fun q => own (sLab G a) q && decide (qT q = t)) with
    | some q =>
      exfalso
      have hm := List.mem_of_find?_eq_some hf
      have hp := List.find?_some hf
      simp only [Bool.and_eq_true, decide_eq_true_eq, own_iff] at hp
      obtain ⟨x, hx, e1, -⟩ := hq q hm hp.1.1 hp.1.2
      obtain ⟨i, hi1, rfl⟩ := List.getElem_of_mem hx
      have eg : (seenL G a).getD i 0 = (seenL G a)[i] := by rw [List.getD_eq_getElem?_getD, List.getElem?_eq_getElem hi1]; rfl
      rw [← eg, hp.2] at e1
      have a1 : cAh G a t ≤ i := by
        by_cases h9 : i < cAh G a t
        · have := hc.2.1 i h9; omega
        · omega
      have a2 := hc.2.2 (cAh G a t) (Nat.le_refl _) (by omega)
      by_cases h9 : cAh G a t = i
      · exact hcnd ⟨by omega, by rw [h9]; exact e1⟩
      · have := sort_lt (T := sT G) h5.2.2.2.1 (i := cAh G a t) (j := i) (by omega) hi1
        omega
    | none =>
      show _ = if (smp.map (·.1)).any (fun q => own (sLab G a) q && decide (t < qT q - 100)) = true then (4 : Int) else 0
      by_cases hl : 0 < (seenL G a).length ∧ 100 < sT G ((seenL G a).getD ((seenL G a).length - 1) 0) - t
      · rw [if_pos hl]
        obtain ⟨z, z1, z2, z3, z4, z5, z6⟩ := hz _ (getD_mem (L := seenL G a) (i := (seenL G a).length - 1) (by omega))
        rw [if_pos]
        exact List.any_eq_true.mpr ⟨z.2.1, h.mem z1, by simp only [Bool.and_eq_true, decide_eq_true_eq, own_iff]; exact ⟨⟨z3, z4⟩, by omega⟩⟩
      · rw [if_neg hl, if_neg]
        intro h9
        obtain ⟨q, hq1, h1⟩ := List.any_eq_true.mp h9
        simp only [Bool.and_eq_true, decide_eq_true_eq, own_iff] at h1
        obtain ⟨x, hx, e1, -⟩ := hq q hq1 h1.1.1 h1.1.2
        obtain ⟨i, hi1, rfl⟩ := List.getElem_of_mem hx
        have eg : (seenL G a).getD i 0 = (seenL G a)[i] := by rw [List.getD_eq_getElem?_getD, List.getElem?_eq_getElem hi1]; rfl
        rw [← eg] at e1
        refine hl ⟨by omega, ?_⟩
        by_cases h8 : i = (seenL G a).length - 1
        · rw [← h8, e1]; omega
        · have := sort_lt (T := sT G) h5.2.2.2.1 (i := i) (j := (seenL G a).length - 1) (by omega) (by omega)
          omega
/-- how many are seen of those with a label 0 -/
theorem sum_own (z : Int) (p : Sm4 → Bool) : ∀ (cs : List Int) (sm : List Sm4), cs.Nodup → (∀ q ∈ sm, qC q ∈ cs) → (cs.map fun c => if Int.tdiv c 100 = z then sm.countP (own c) else 0).sum = likeN z sm := by
  intro cs sm hn hm
  induction sm with
  | nil =>
    show _ = 0
    clear hm hn
    induction cs with
    | nil => rfl
    | cons c cs ih => rw [List.map_cons, List.sum_cons, ih]; split <;> rfl
  | cons q sm ih =>
    have ih' := ih (fun q' h' => hm q' (List.mem_cons_of_mem _ h'))
    have e : likeN z (q :: sm) = likeN z sm + if likeP z q = true then 1 else 0 := by unfold likeN; rw [List.countP_cons]
    rw [e, ← ih']
    have key : ∀ cs : List Int, cs.Nodup → (cs.map fun c => if Int.tdiv c 100 = z then (q :: sm).countP (own c) else 0).sum = (cs.map fun c => if Int.tdiv c 100 = z then sm.countP (own c) else 0).sum + if likeP z q = true ∧ qC q ∈ cs then 1 else 0 := by
      intro cs hn
      induction cs with
      | nil => simp
      | cons c cs ih2 =>
        have hn' := List.nodup_cons.mp hn
        rw [List.map_cons, List.sum_cons, List.map_cons, List.sum_cons, ih2 hn'.2, List.countP_cons]
        by_cases h1 : own c q = true
        · have h2 := own_iff.mp h1
          have h3 : qC q ∉ cs := by rw [h2.2]; exact hn'.1
          have e3 : (if likeP z q = true ∧ qC q ∈ cs then 1 else 0) = 0 := if_neg (fun h9 => h3 h9.2)
          rw [e3, if_pos h1]
          by_cases h4 : Int.tdiv c 100 = z
          · have e4 : (if likeP z q = true ∧ qC q ∈ c :: cs then 1 else 0) = 1 := if_pos ⟨decide_eq_true ⟨h2.1, by rw [h2.2]; exact h4⟩, by rw [h2.2]; exact List.mem_cons_self⟩
            rw [e4, if_pos h4, if_pos h4]; omega
          · have e4 : (if likeP z q = true ∧ qC q ∈ c :: cs then 1 else 0) = 0 := by
              refine if_neg ?_
              rintro ⟨h9, -⟩
              have := (of_decide_eq_true h9).2
              rw [h2.2] at this; exact h4 this
            rw [e4, if_neg h4, if_neg h4]; omega
        · rw [if_neg h1]
          have h5 : (likeP z q = true ∧ qC q ∈ c :: cs) ↔ (likeP z q = true ∧ qC q ∈ cs) := by
            constructor
            · rintro ⟨h6, h7⟩
              refine ⟨h6, ?_⟩
              rcases List.mem_cons.mp h7 with h8 | h8
              · exact (h1 (own_iff.mpr ⟨(of_decide_eq_true h6).1, h8⟩)).elim
              · exact h8
            · rintro ⟨h6, h7⟩
              exact ⟨h6, List.mem_cons_of_mem _ h7⟩
          simp only [h5]
          split <;> omega
    rw [key cs hn]
    have hq := hm q List.mem_cons_self
    simp only [hq, and_true]
theorem StH.like (h : StH G st zs ser smp rs dn wr cr) (hi : SI ser (smp.map (·.1)) rs er) (z : Int) : csV G (numL G st) z = likeN z (smp.map (·.1)) := by
  rw [← sum_own z (fun _ => true) ser (smp.map (·.1)) hi.1 (fun q hq => (hi.2.2.2.1 q hq).1), ← h.2.2.2.1, List.map_map]
  unfold csV
  refine congrArg List.sum (List.map_congr_left fun x hx => ?_)
  have h5 := h.2.2.2.2.1 x hx
  show _ = if Int.tdiv (sLab G x) 100 = z then (smp.map (·.1)).countP (own (sLab G x)) else 0
  rw [h5.2.2.1.length_eq, zO_len, zs_map h.2.2.2.2.2.1]
end S42
