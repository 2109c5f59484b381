/-! a rule writes what it found -/
section Sa01
variable {E : EE} {G G' G2 : Gt} {c s bc bs : Nat} {Q X : Int → Gt → Prop} {a x i j l u t v z o w m q r n two : Int} {d d' d2 : DS} {R : List (Int × Int)}
def cnt (d : DS) (l : Int) : Nat := (smS d).countP (own l)
/-- what the growing of a series' list costs at most, by how many it has -/
def gwC (n : Nat) : Nat := if n = 0 ∨ n = 10 ∨ n = 15 ∨ n = 22 ∨ n = 33 ∨ n = 49 then 1 else 0
def gwS (n : Nat) : Nat := if n = 0 then 10 else if n = 10 then 15 else if n = 15 then 22 else if n = 22 then 33 else if n = 33 then 49 else if n = 49 then 73 else 0
def takC (d : DS) (l t v : Int) : Nat := if tkA (dSer d) (smS d) l t v = 0 then (if l ∈ dSer d then 2 + gwC (cnt d l) else 8) + recC d else 0
def takS (d : DS) (l t v : Int) : Nat := if tkA (dSer d) (smS d) l t v = 0 then (if l ∈ dSer d then 8 + gwS (cnt d l) else 162) + recS d else 0
theorem cnt_le (hi : DI d) (l : Int) : cnt d l ≤ 60 := Nat.le_trans (own_like l _) (hi.1.2.2.2.2.1.basic.2 _)
theorem CH.tkE (h : CH E G x d) (hi : DI d) (ha : tkA (dSer d) (smS d) l t v = 0) : tkC G (gfd G 11 0 x) l ≤ takC d l t v ∧ tkS G (gfd G 11 0 x) l ≤ takS d l t v := by
  obtain ⟨e1, e2, -⟩ := h.recs
  obtain ⟨zs, hS⟩ := h.2.2.2.1
  unfold tkC tkS takC takS
  rw [e1, e2, if_pos ha, if_pos ha]
  rcases hS.find l with ⟨h9, h8⟩ | ⟨h9, h8, h7⟩
  · rw [if_pos h9, if_pos h9, if_neg h8, if_neg h8]
    exact ⟨Nat.le_refl _, Nat.le_refl _⟩
  · have hc := (hS.2.2.2.2.1 _ h9).2.2.2.2.2
    have h6 := (hS.2.2.2.2.1 _ h9).1
    have hn : fsV G (numL G (gfd G 11 0 x)) l ≠ -1 := fun h7 => by
      rw [h7] at h6
      rcases h.2.2.1.2.2 with h6 | h6 <;> omega
    have hlen := (hS.len h.2.1 h9).2
    rw [h8] at hlen
    rw [if_neg hn, if_neg hn, if_pos h7, if_pos h7]
    have hcnt := cnt_le hi l
    have el : gfd G 13 2 (gfd G 7 1 (fsV G (numL G (gfd G 11 0 x)) l)) = (cnt d l : Nat) := hlen
    unfold gC gS gwC gwS
    rw [el]
    generalize capOf G (gfd G 7 1 (fsV G (numL G (gfd G 11 0 x)) l)) = C at hc ⊢
    generalize cnt d l = k at hcnt ⊢
    by_cases e : (k : Int) = C
    · rw [if_pos e, if_pos e]
      unfold capK at hc
      have hk : k = 0 ∨ k = 10 ∨ k = 15 ∨ k = 22 ∨ k = 33 ∨ k = 49 := by omega
      rw [← e]
      rcases hk with rfl | rfl | rfl | rfl | rfl | rfl <;> exact ⟨by simp, by simp [ncap]⟩
    · rw [if_neg e, if_neg e]
      exact ⟨by omega, by omega⟩
theorem ok_takeE (h : CH E G x d) (hi : DI d) (hl : cOk l) (ht : 0 ≤ t ∧ t ≤ 100000) (hc : takC d l t v ≤ c) (hs : takS d l t v ≤ s) : Ok E M_X8_take [rv (gfd G 11 0 x), iv l, iv t, iv v] G c s (fun r G' => r = tkA (dSer d) (smS d) l t v ∧ CF E G G' x (tkD d l t v) ∧ ∀ a n R, RowH G a n R → RowH G' a n R) (fun _ _ => False) := by
  obtain ⟨zs, hS⟩ := h.2.2.2.1
  have hb := hi.2.2.2.2.2.2.2.2.2.2.2.2.1
  refine (ok_take h.2.1 h.2.2.1 hS hi.1 hl ht hi.2.1 ⟨hb.1, hb.2.1⟩ hb.2.2 (fun ha => ⟨Nat.le_trans (h.tkE hi ha).1 hc, Nat.le_trans (h.tkE hi ha).2 hs⟩)).mono (fun r G1 ⟨e1, e2, e3⟩ => ⟨e1, ?_⟩) (fun _ _ h9 => h9)
  by_cases ha : tkA (dSer d) (smS d) l t v = 0
  · have hk := e3 (e1.trans ha)
    exact ⟨tk_store h hi hk ha, fun a n R hr => hr.fr hk.2.2.1 (fun j h9 => by unfold wT at h9; omega) (fun h9 => h9) (fun h9 => h9)⟩
  · unfold tkD
    rw [if_neg ha, e2 (fun h9 => ha (e1.symm.trans h9))]
    exact ⟨CF.refl h, fun _ _ _ hr => hr⟩
def noV (v : Int) : Int := max (-1000000) (min 1000000 (Int.tdiv v 1000))
def noL (two l : Int) : Int := Int.tdiv l 10 * 10 + two
def note1 (two : Int) (d : DS) (y : Int × Int) : DS := tkD d (noL two y.1) (dN d 0) (noV y.2)
def noteD (two : Int) (d : DS) (R : List (Int × Int)) : DS := R.foldl (note1 two) d
def noteC (two : Int) : DS → List (Int × Int) → Nat
  | _, [] => 0
  | d, y :: R => takC d (noL two y.1) (dN d 0) (noV y.2) + noteC two (note1 two d y) R
def noteS (two : Int) : DS → List (Int × Int) → Nat
  | _, [] => 0
  | d, y :: R => takS d (noL two y.1) (dN d 0) (noV y.2) + noteS two (note1 two d y) R
def roomy (d : DS) (k : Nat) : Prop := dN d 5 + k ≤ 1000000 ∧ (dRec d).length + k ≤ 1000000
theorem noL_ok (h : cOk l) (h2 : 0 ≤ two ∧ two ≤ 5) : cOk (noL two l) := by
  obtain ⟨h0, h1, h3, h4⟩ := h
  unfold cOk noL
  have e0 : Int.tdiv l 10 = l / 10 := Int.tdiv_eq_ediv_of_nonneg h0
  rw [e0] at h3 ⊢
  rw [Int.tmod_eq_emod_of_nonneg (by omega)] at h3
  have e1 : Int.tdiv (l / 10 * 10 + two) 10 = l / 10 := by rw [Int.tdiv_eq_ediv_of_nonneg (by omega)]; omega
  rw [e1, Int.tmod_eq_emod_of_nonneg (by omega), Int.tmod_eq_emod_of_nonneg (by omega)]
  omega
theorem noV_in (v : Int) : -1000000 ≤ noV v ∧ noV v ≤ 1000000 := by unfold noV; omega
theorem tkD_5 : dN (tkD d l t v) 5 ≤ dN d 5 + 1 ∧ (dRec (tkD d l t v)).length ≤ (dRec d).length + 1 ∧ dN (tkD d l t v) 0 = dN d 0 := by
  unfold tkD
  split
  · exact ⟨Int.le_refl _, Nat.le_refl _, rfl⟩
  · exact ⟨by omega, by omega, rfl⟩
theorem v_writeResult (hR : RV n R) (h2 : 0 ≤ two ∧ two ≤ 5) {D : DS} : ∀ (k i : Nat) (G1 : Gt) (d1 : DS) (c s : Nat), i + k = R.length → CF E G G1 x d1 → DI d1 → RowH G1 r n R → roomy d1 k → noteD two d1 (R.drop i) = D → noteC two d1 (R.drop i) ≤ c → noteS two d1 (R.drop i) ≤ s →
    V E M_X11_writeResult 7 [some (rv x), some (rv r), some (iv two), some (iv (i : Int)), none, none, none, none] [] G1 c s (fun _ G' => CF E G G' x D ∧ DI D) X := by
  intro k
  induction k with
  | zero =>
    intro i G1 d1 c s hk hC hi hr hro hD hc hs
    have hz := hr.len
    unfold rN at hz
    rw [List.drop_eq_nil_of_le (by omega)] at hD
    refine b_X11_writeResult_7 ⟨hr.1.1, fun _ => ?_, fun h9 => absurd h9 (by omega)⟩
    have : d1 = D := hD
    rw [← this]
    exact ⟨hC, hi⟩
  | succ k ih =>
    intro i G1 d1 c s hk hC hi hr hro hD hc hs
    have hlt : i < R.length := by omega
    obtain ⟨e0, e1, e2, e3, e4⟩ := hr.elt hlt
    obtain ⟨hcl, hbn⟩ := hR.at hlt
    have h12 := hR.1
    have hnow := hi.2.2.1
    have en := hC.1.nums.2.1
    have ed : R.drop i = R.getD i (0, 0) :: R.drop (i + 1) := by
      rw [List.drop_eq_getElem_cons hlt, List.getD_eq_getElem?_getD, List.getElem?_eq_getElem hlt]; rfl
    rw [ed] at hD hc hs
    have hcl2 := noL_ok (two := two) hcl h2
    have hm := noV_in (R.getD i (0, 0)).2
    have h0l := hcl.1
    have e10 : Int.tdiv (R.getD i (0, 0)).1 10 = (R.getD i (0, 0)).1 / 10 := Int.tdiv_eq_ediv_of_nonneg h0l
    have h1l := hcl.2.1
    refine b_X11_writeResult_7 ⟨hr.1.1, fun h9 => absurd h9 (by omega), fun _ => ⟨hr.1.1, hr.1.2.2.1.1, by omega, e4, hC.1.1, hr.1.1, hr.1.2.1.1, by omega, e3, ?_⟩⟩
    rw [e0, e1]
    refine ⟨i32s (by rw [e10]; omega), i32s (by rw [e10]; omega), hC.1.1, i32s (by unfold noV at hm; omega), hC.1.cls.1, ?_⟩
    rw [en]
    have hc' : takC d1 (noL two (R.getD i (0, 0)).1) (dN d1 0) (noV (R.getD i (0, 0)).2) + noteC two (note1 two d1 (R.getD i (0, 0))) (R.drop (i + 1)) ≤ c := hc
    have hs' : takS d1 (noL two (R.getD i (0, 0)).1) (dN d1 0) (noV (R.getD i (0, 0)).2) + noteS two (note1 two d1 (R.getD i (0, 0))) (R.drop (i + 1)) ≤ s := hs
    refine Call.to (mc' := takC d1 (noL two (R.getD i (0, 0)).1) (dN d1 0) (noV (R.getD i (0, 0)).2)) (ms' := takS d1 (noL two (R.getD i (0, 0)).1) (dN d1 0) (noV (R.getD i (0, 0)).2)) (ok_takeE hC.1 hi hcl2 hnow (Nat.le_refl _) (Nat.le_refl _)) (by omega) (by omega) fun _ G2 ⟨_, hC2, hrow⟩ => ⟨i32s (by omega), ?_⟩
    have t5 : dN (note1 two d1 (R.getD i (0, 0))) 5 ≤ dN d1 5 + 1 ∧ (dRec (note1 two d1 (R.getD i (0, 0)))).length ≤ (dRec d1).length + 1 ∧ dN (note1 two d1 (R.getD i (0, 0))) 0 = dN d1 0 := tkD_5
    unfold roomy at hro
    exact ih (i + 1) G2 (note1 two d1 (R.getD i (0, 0))) _ _ (by omega) (hC.trans hC2) (hi.take hcl2 hnow (Or.inr hm) ⟨by omega, by omega⟩) (hrow r n R hr) ⟨by omega, by omega⟩ hD (by omega) (by omega)
theorem ok_writeResult {ro : Option Rw} (h : CH E G x d) (hi : DI d) (hr : ResH G x r ro) (h2 : 0 ≤ two ∧ two ≤ 5) (hro : roomy d 12) (hc : noteC two d (labR ro) ≤ c) (hs : noteS two d (labR ro) ≤ s) :
    Ok E M_X11_writeResult [rv x, rv r, iv two] G c s (fun _ G' => CF E G G' x (noteD two d (labR ro)) ∧ DI (noteD two d (labR ro))) (fun _ _ => False) := by
  refine i_X11_writeResult ⟨fun h0 => ?_, fun h0 => ?_⟩
  · rcases hr with hr | ⟨hr1, hr2, n', R', he, hR, hV⟩
    · exact absurd hr.1 (by omega)
    · have h12 := hV.1
      rw [he] at hc hs ⊢
      unfold roomy at hro
      exact v_writeResult hV h2 R'.length 0 G d c s (Nat.zero_add _) (CF.refl h) hi hR ⟨by omega, by omega⟩ rfl hc hs
  · rcases hr with hr | ⟨hr1, -⟩
    · rw [hr.2]
      exact ⟨CF.refl h, hi⟩
    · exact absurd h0 hr1
end Sa01
