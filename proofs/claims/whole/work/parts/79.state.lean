/-! the state of an object of the class, and what leaves it -/
section S79
variable {E : EE} {G G' G2 G0 : Gt} {W : Nat → Nat → Int → Prop} {L A : Int → Prop} {st p wn sp x fl ru l wl cp : Int} {zs : List Zt} {ser : List Int} {smp : List (Sm4 × Int)} {rs rows K : List Int} {dn wr cr er : Int} {bk : Int → List (Int × Int)} {es : List En} {ws : List Wd}
/-- a rule: (label 2 or -1, wait, keep, inhibitor), its words, its entries -/
abbrev Rl : Type := (Int × Int × Int × Int) × List Wd × List En
/-- numbers (0 now, 1 retention, 2 erasings, 3 tellings, 4 copy down, 5 written, 6 the room of the records' list), labels of the series, samples, records (the last one first), blocks by labels, selectors, draft, rules, what was asked, silences, notices -/
abbrev DS : Type := (Nat → Int) × List Int × List (Sm4 × Int) × List Int × (Int → List (Int × Int)) × List (Int × Int × Int) × List Wd × List Rl × List (Int × Int) × List ((Int × Int × Int) × Int) × List (Int × Int × Int)
def dN (d : DS) : Nat → Int := d.1
def dSer (d : DS) : List Int := d.2.1
def dSmp (d : DS) : List (Sm4 × Int) := d.2.2.1
def dRec (d : DS) : List Int := d.2.2.2.1
def dBk (d : DS) : Int → List (Int × Int) := d.2.2.2.2.1
def dSel (d : DS) : List (Int × Int × Int) := d.2.2.2.2.2.1
def dDr (d : DS) : List Wd := d.2.2.2.2.2.2.1
def dRl (d : DS) : List Rl := d.2.2.2.2.2.2.2.1
def dAns (d : DS) : List (Int × Int) := d.2.2.2.2.2.2.2.2.1
def dSil (d : DS) : List ((Int × Int × Int) × Int) := d.2.2.2.2.2.2.2.2.2.1
def dNt (d : DS) : List (Int × Int × Int) := d.2.2.2.2.2.2.2.2.2.2
def SlH (G : Gt) (s : Int) (t : Int × Int × Int) : Prop := gcl G s = 7 ∧ gfd G 6 0 s = t.1 ∧ gfd G 6 1 s = t.2.1 ∧ gfd G 6 2 s = t.2.2
def SlL (G : Gt) (l : Int) (ts : List (Int × Int × Int)) : Prop := gcl G l = 14 ∧ gfd G 13 1 l ≠ -1 ∧ (lst G l).length = ts.length ∧ ∀ i, i < ts.length → SlH G ((lst G l).getD i 0) (ts.getD i (0, 0, 0))
def capF (C : Int) : Prop := C = 0 ∨ C = 10 ∨ C = 15
def RuH (G : Gt) (ru : Int) (q : Rl) : Prop := gcl G ru = 5 ∧ (gfd G 4 1 ru = q.1.1 ∧ gfd G 4 2 ru = q.1.2.1 ∧ gfd G 4 3 ru = q.1.2.2.1 ∧ gfd G 4 5 ru = q.1.2.2.2) ∧ WlH G (gfd G 4 0 ru) q.2.1 ∧ FnH G (gfd G 4 4 ru) q.2.2 ∧ capF (capOf G (gfd G 4 4 ru))
/-- the rules: each in order, all apart, and no entry of two -/
def RuL (G : Gt) (l : Int) (qs : List Rl) : Prop := gcl G l = 14 ∧ gfd G 13 1 l ≠ -1 ∧ (lst G l).length = qs.length ∧ (lst G l).Nodup ∧ (∀ i, i < qs.length → RuH G ((lst G l).getD i 0) (qs.getD i ((0, 0, 0, 0), [], []))) ∧ ∀ a ∈ lst G l, ∀ b ∈ lst G l, ∀ y, y ∈ lst G (gfd G 4 4 a) → y ∈ lst G (gfd G 4 4 b) → a = b
def SiH (G : Gt) (x : Int) (ss : List ((Int × Int × Int) × Int)) : Prop := SlL G (gfd G 11 7 x) (ss.map (·.1)) ∧ gcl G (gfd G 11 8 x) = 15 ∧ gln G (gfd G 11 8 x) = 10 ∧ ∀ i : Nat, i < ss.length → gel G (gfd G 11 8 x) (i : Int) = (ss.getD i ((0, 0, 0), 0)).2
def NtH (G : Gt) (x : Int) (ns : List (Int × Int × Int)) : Prop := gcl G (gfd G 11 9 x) = 15 ∧ gln G (gfd G 11 9 x) = 180 ∧ ∀ i : Nat, i < ns.length → gel G (gfd G 11 9 x) (3 * (i : Int)) = (ns.getD i (0, 0, 0)).1 ∧ gel G (gfd G 11 9 x) (3 * (i : Int) + 1) = (ns.getD i (0, 0, 0)).2.1 ∧ gel G (gfd G 11 9 x) (3 * (i : Int) + 2) = (ns.getD i (0, 0, 0)).2.2
/-- an object of the class in the state d -/
def CH (E : EE) (G : Gt) (x : Int) (d : DS) : Prop :=
  gcl G x = 12 ∧ LW E G ∧ OW G ∧
  (∃ zs, StH G (gfd G 11 0 x) zs (dSer d) (dSmp d) (dRec d) (dN d 4) (dN d 5) (dN d 6)) ∧ BkH G (gfd G 11 0 x) (dBk d) ∧
  (∃ rows sp K wn, PlS G (gfd G 11 1 x) wn rows sp K [] ∧ gfd G 11 2 x ∉ K) ∧ (∃ n, RowH G (gfd G 11 2 x) n (dAns d)) ∧ gcl G (gfd G 11 3 x) = 10 ∧ gcl G (gfd G 11 4 x) = 7 ∧
  SlL G (gfd G 11 5 x) (dSel d) ∧ RuL G (gfd G 11 6 x) (dRl d) ∧ SiH G x (dSil d) ∧ NtH G x (dNt d) ∧ (WlH G (gfd G 11 10 x) (dDr d) ∧ noref G (gfd G 11 10 x) ∧ 0 ≤ gfd G 11 10 x) ∧
  gfd G 11 11 x = dN d 3 ∧ gfd G 11 12 x = dN d 0 ∧ gfd G 11 13 x = dN d 1
theorem StH.fr (h : StH G st zs ser smp rs dn wr cr) (hi : SC ser (smp.map (·.1))) (k : FR G G' W L A) (w : ∀ c j y, c = 1 ∨ c = 5 ∨ c = 7 ∨ c = 8 → ¬ W c j y) (l0 : ¬ L (gfd G 8 0 st)) (l1 : ¬ L (gfd G 8 1 st)) (l2 : ∀ b ∈ numL G st, ¬ L (gfd G 7 1 b)) : StH G' st zs ser smp rs dn wr cr ∧ numL G' st = numL G st := by
  have hC := h.core.fr hi k (fun j y => w 7 j y (by omega)) (fun j => w 8 j st (by omega)) (fun j y _ => w 5 j y (by omega)) l0 l2
  have hr := h.2.2.1
  have hst := h.1
  have e : gfd G' 8 1 st = gfd G 8 1 st := k.2.1 8 1 st (by decide) (by omega) (w 8 1 st (by omega))
  have ll := k.2.2.1 _ hr.1 hr.2
  refine ⟨hC.1.all (by rw [e]; exact ⟨by rw [k.1 _ (by omega)]; exact hr.1, ll.1⟩) (by rw [e, (ll.2 l1).2]; exact h.2.2.2.2.2.2.2.2.2.2.2.2.1) ?_, hC.2.1⟩
  rw [e, (ll.2 l1).1]
  exact h.2.2.2.2.2.2.2.2.2.2.2.2.2.fr (fun g _ h2 => ⟨by rw [k.1 g (by omega)]; exact h2, k.2.1 1 0 g (by decide) (by omega) (w 1 0 g (by omega)), k.2.1 1 1 g (by decide) (by omega) (w 1 1 g (by omega))⟩) (fun z hz _ => k.2.1 5 5 z.1 (by decide) (by rw [(h.2.2.2.2.2.2.2.1 z hz).1]; decide) (w 5 5 z.1 (by omega)))
theorem BkH.fr (h : BkH G st bk) (hs : StH G st zs ser smp rs dn wr cr) (k : FR G G' W L A) (w : ∀ j y, ¬ W 7 j y) (hn : numL G' st = numL G st) (a : ∀ b ∈ numL G st, ¬ A (gfd G 7 2 b) ∧ ¬ A (gfd G 7 3 b)) : BkH G' st bk := by
  intro b hb
  rw [hn] at hb
  have hsb := hs.2.2.2.2.1 b hb
  have h8 := hsb.1
  have e : ∀ j, gfd G' 7 j b = gfd G 7 j b := fun j => k.2.1 7 j b (by decide) (by omega) (w j b)
  have b2 := hsb.2.2.2.2.1.2.1.1
  have b3 := hsb.2.2.2.2.1.2.2.1.1
  have hl : sLab G' b = sLab G b := e 0
  rw [hl, ← h b hb]
  unfold blkL
  rw [e, e, e]
  refine List.map_congr_left fun i _ => ?_
  rw [(k.2.2.2 _ (by omega) (by omega)).2 (a b hb).1, (k.2.2.2 (gfd G 7 3 b) (by omega) (by omega)).2 (a b hb).2]
theorem PlS.fr (h : PlS G p wn rows sp K []) (k : FR G G' W L A) (w2 : ∀ j, ¬ W 2 j p) (w3 : ∀ r ∈ K, ∀ j, ¬ W 3 j r) (hl : ¬ L (gfd G 2 0 p)) (a : ∀ r ∈ K, ¬ A (gfd G 3 0 r) ∧ ¬ A (gfd G 3 1 r)) : PlS G' p wn rows sp K [] := by
  obtain ⟨h1, h2, h3, h4, h5, h6, h7, h8, h9, h10, -, -⟩ := h
  have e : ∀ j, gfd G' 2 j p = gfd G 2 j p := fun j => k.2.1 2 j p (by decide) (by omega) (w2 j)
  have ll := k.2.2.1 _ h2.1 h2.2
  refine ⟨by rw [k.1 p (by omega)]; exact h1, by rw [e]; exact ⟨by rw [k.1 _ (by omega)]; exact h2.1, ll.1⟩, by rw [e, (ll.2 hl).1]; exact h3, h4, by rw [e]; exact h5, by rw [e]; exact h6, by rw [k.1 wn (by omega)]; exact h7, h8, h9, fun r hr => ?_, Nat.zero_le _, fun i hi => absurd hi (Nat.not_lt_zero i)⟩
  obtain ⟨n, R, hR⟩ := h10 r hr
  exact ⟨n, R, hR.fr k (w3 r hr) (a r hr).1 (a r hr).2⟩
theorem SlL.fr {ts : List (Int × Int × Int)} (h : SlL G l ts) (k : FR G G' W L A) (w : ∀ j y, ¬ W 6 j y) (hl : ¬ L l) : SlL G' l ts ∧ lst G' l = lst G l := by
  obtain ⟨h1, h2, h3, h4⟩ := h
  have ll := k.2.2.1 l h1 h2
  have e := (ll.2 hl).1
  refine ⟨⟨by rw [k.1 l (by omega)]; exact h1, ll.1, by rw [e]; exact h3, fun i hi => ?_⟩, e⟩
  rw [e]
  obtain ⟨q1, q2, q3, q4⟩ := h4 i hi
  have e6 : ∀ j, gfd G' 6 j ((lst G l).getD i 0) = gfd G 6 j ((lst G l).getD i 0) := fun j => k.2.1 6 j _ (by decide) (by omega) (w j _)
  exact ⟨by rw [k.1 _ (by omega)]; exact q1, by rw [e6]; exact q2, by rw [e6]; exact q3, by rw [e6]; exact q4⟩
theorem FnH.fr (h : FnH G fl es) (k : FR G G' W L A) (w : ∀ y ∈ lst G fl, ∀ j, ¬ W 0 j y) (hl : ¬ L fl) : FnH G' fl es ∧ lst G' fl = lst G fl ∧ capOf G' fl = capOf G fl := by
  obtain ⟨h1, h2, h3, h4, h5⟩ := h
  have ll := k.2.2.1 fl h1 h2
  have e := (ll.2 hl).1
  refine ⟨⟨by rw [k.1 fl (by omega)]; exact h1, ll.1, by rw [e]; exact h3, by rw [e]; exact h4, fun i hi => ?_⟩, e, (ll.2 hl).2⟩
  rw [e]
  have hy := h5 i hi
  have hm := getD_mem (L := lst G fl) (i := i) (by omega)
  have e0 : ∀ j, gfd G' 0 j ((lst G fl).getD i 0) = gfd G 0 j ((lst G fl).getD i 0) := fun j => k.2.1 0 j _ (by decide) (by rw [hy.1]; decide) (w _ hm j)
  exact ⟨by rw [k.1 _ (by rw [hy.1]; decide)]; exact hy.1, (e0 0).trans hy.2.1, (e0 1).trans hy.2.2.1, (e0 3).trans hy.2.2.2.1, (e0 4).trans hy.2.2.2.2.1, (e0 2).trans hy.2.2.2.2.2⟩
theorem RuH.fr {q : Rl} (h : RuH G ru q) (k : FR G G' W L A) (w4 : ∀ j, ¬ W 4 j ru) (w10 : ∀ j y, ¬ W 10 j y) (w6 : ∀ j y, ¬ W 6 j y) (w0 : ∀ y ∈ lst G (gfd G 4 4 ru), ∀ j, ¬ W 0 j y) (l0 : ¬ L (gfd G 4 0 ru)) (l4 : ¬ L (gfd G 4 4 ru)) : RuH G' ru q ∧ gfd G' 4 4 ru = gfd G 4 4 ru ∧ lst G' (gfd G 4 4 ru) = lst G (gfd G 4 4 ru) := by
  obtain ⟨h1, h2, h3, h4, h5⟩ := h
  have e : ∀ j, gfd G' 4 j ru = gfd G 4 j ru := fun j => k.2.1 4 j ru (by decide) (by omega) (w4 j)
  have f := h4.fr k w0 l4
  exact ⟨⟨by rw [k.1 ru (by omega)]; exact h1, by rw [e, e, e, e]; exact h2, by rw [e]; exact (h3.fr k w10 w6 l0).1, by rw [e]; exact f.1, by rw [e, f.2.2]; exact h5⟩, e 4, f.2.1⟩
theorem RuL.fr {qs : List Rl} (h : RuL G l qs) (k : FR G G' W L A) (w4 : ∀ j y, ¬ W 4 j y) (w10 : ∀ j y, ¬ W 10 j y) (w6 : ∀ j y, ¬ W 6 j y) (w0 : ∀ j y, ¬ W 0 j y) (hl : ¬ L l) (l04 : ∀ ru ∈ lst G l, ¬ L (gfd G 4 0 ru) ∧ ¬ L (gfd G 4 4 ru)) : RuL G' l qs ∧ lst G' l = lst G l := by
  obtain ⟨h1, h2, h3, h4, h5, h6⟩ := h
  have ll := k.2.2.1 l h1 h2
  have e := (ll.2 hl).1
  have hm : ∀ ru ∈ lst G l, ∃ q, RuH G ru q := fun ru hru => by
    obtain ⟨i, hi, rfl⟩ := List.getElem_of_mem hru
    have := h5 i (by omega)
    rw [List.getD_eq_getElem?_getD, List.getElem?_eq_getElem hi] at this
    exact ⟨_, this⟩
  have hf : ∀ ru ∈ lst G l, ∀ q, RuH G ru q → RuH G' ru q ∧ gfd G' 4 4 ru = gfd G 4 4 ru ∧ lst G' (gfd G 4 4 ru) = lst G (gfd G 4 4 ru) := fun ru hru q hq => hq.fr k (fun j => w4 j ru) w10 w6 (fun y _ j => w0 j y) (l04 ru hru).1 (l04 ru hru).2
  refine ⟨⟨by rw [k.1 l (by omega)]; exact h1, ll.1, by rw [e]; exact h3, by rw [e]; exact h4, fun i hi => ?_, ?_⟩, e⟩
  · rw [e]
    exact (hf _ (getD_mem (by omega)) _ (h5 i hi)).1
  · rw [e]
    intro a ha b hb y hya hyb
    obtain ⟨qa, hqa⟩ := hm a ha
    obtain ⟨qb, hqb⟩ := hm b hb
    have fa := hf a ha qa hqa
    have fb := hf b hb qb hqb
    rw [fa.2.1, fa.2.2] at hya
    rw [fb.2.1, fb.2.2] at hyb
    exact h6 a ha b hb y hya hyb
end S79
