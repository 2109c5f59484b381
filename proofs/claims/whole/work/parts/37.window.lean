/-! the class's windows -/
section S37
variable {E : EE} {G G' G2 : Gt} {c s : Nat} {Q X : Int → Gt → Prop} {a x w : Int}
/-- the heap but for one window, whose fields are W -/
def WU (G G' : Gt) (w : Int) (W : Nat → Int) : Prop := (∀ x, gcl G' x = gcl G x) ∧ (∀ c k x, ¬ (c = 9 ∧ x = w) → gfd G' c k x = gfd G c k x) ∧ (∀ x, gln G' x = gln G x) ∧ (∀ x i, gel G' x i = gel G x i) ∧ ∀ k, k < 9 → gfd G' 9 k w = W k
def wv (G : Gt) (w : Int) (k : Nat) : Int := gfd G 9 k w
def begW (W : Nat → Int) (t v : Int) (k : Nat) : Int := match k with
  | 1 => t
  | 4 => v
  | 5 => v
  | 6 => v
  | 7 => 1000 * v
  | 8 => 0
  | k => W k
def moreW (W : Nat → Int) (v : Int) (k : Nat) : Int := match k with
  | 4 => W 4 + v
  | 5 => min (W 5) v
  | 6 => max (W 6) v
  | 7 => W 7 + Int.tdiv (1000 * v - W 7) 2
  | 8 => W 8 + (if W 3 ≤ v then v - W 3 else max v 0)
  | k => W k
def endW (W : Nat → Int) (t v : Int) (k : Nat) : Int := match k with
  | 0 => W 0 + 1
  | 2 => t
  | 3 => v
  | k => W k
def incW (W : Nat → Int) (t v : Int) : Nat → Int := endW (if W 0 = 0 then begW W t v else moreW W v) t v
/-- the bounds of a window -/
def WB (W : Nat → Int) : Prop := 0 ≤ W 0 ∧ W 0 ≤ 100 ∧ (0 < W 0 → (0 ≤ W 1 ∧ W 1 ≤ W 2 ∧ W 2 ≤ 100000) ∧ (-1000000 ≤ W 3 ∧ W 3 ≤ 1000000) ∧ (-1000000 * W 0 ≤ W 4 ∧ W 4 ≤ 1000000 * W 0) ∧ (-1000000 ≤ W 5 ∧ W 5 ≤ 1000000) ∧ (-1000000 ≤ W 6 ∧ W 6 ≤ 1000000) ∧ (-1000000000 ≤ W 7 ∧ W 7 ≤ 1000000000) ∧ (0 ≤ W 8 ∧ W 8 ≤ 2000000 * W 0))
theorem i64s {x : Int} (h : -9000000000000000000 ≤ x ∧ x ≤ 9000000000000000000) : i64 x := ⟨by omega, by omega⟩
theorem tdiv2 {x n : Int} (h : -(2 * n) ≤ x ∧ x ≤ 2 * n) : -n ≤ Int.tdiv x 2 ∧ Int.tdiv x 2 ≤ n := by
  by_cases h0 : 0 ≤ x
  · rw [Int.tdiv_eq_ediv_of_nonneg h0]; omega
  · have e : Int.tdiv x 2 = -(Int.tdiv (-x) 2) := by rw [Int.neg_tdiv]; omega
    rw [e, Int.tdiv_eq_ediv_of_nonneg (by omega)]; omega
theorem ok_begin {t v : Int} (hw : gcl G w = 10) (hv : -1000000 ≤ v ∧ v ≤ 1000000) : Ok E M_X9_begin [rv w, iv t, iv v] G 0 0 (fun _ G' => WU G G' w (begW (wv G w) t v)) (fun _ _ => False) := by
  refine i_X9_begin ⟨hw, fun G1 e1 => ⟨by rw [e1]; exact hw, fun G2 e2 => ⟨by rw [e2, e1]; exact hw, fun G3 e3 => ⟨i64s (by omega), by rw [e3, e2, e1]; exact hw, fun G4 e4 => ⟨by rw [e4, e3, e2, e1]; exact hw, fun G5 e5 => ⟨by rw [e5, e4, e3, e2, e1]; exact hw, fun G6 e6 => ?_⟩⟩⟩⟩⟩⟩
  subst e1 e2 e3 e4 e5 e6
  refine ⟨fun x => rfl, fun c k x hx => ?_, fun x => rfl, fun x i => rfl, fun k hk => ?_⟩
  · simp only [gfd_sfd]
    rw [if_neg (fun h9 => hx ⟨h9.1, h9.2.2⟩), if_neg (fun h9 => hx ⟨h9.1, h9.2.2⟩), if_neg (fun h9 => hx ⟨h9.1, h9.2.2⟩), if_neg (fun h9 => hx ⟨h9.1, h9.2.2⟩), if_neg (fun h9 => hx ⟨h9.1, h9.2.2⟩), if_neg (fun h9 => hx ⟨h9.1, h9.2.2⟩)]
  · simp only [gfd_sfd]
    match k, hk with
    | 0, _ => simp [begW, wv]
    | 1, _ => simp [begW]
    | 2, _ => simp [begW, wv]
    | 3, _ => simp [begW, wv]
    | 4, _ => simp [begW]
    | 5, _ => simp [begW]
    | 6, _ => simp [begW]
    | 7, _ => simp [begW]
    | 8, _ => simp [begW]
theorem ok_include {t v : Int} (hw : gcl G w = 10) (hb : WB (wv G w)) (hv : -1000000 ≤ v ∧ v ≤ 1000000) : Ok E M_X9_include [rv w, iv t, iv v] G 0 0 (fun _ G' => WU G G' w (incW (wv G w) t v)) (fun _ _ => False) := by
  have hfin : ∀ (W : Nat → Int) (G3 : Gt), WU G G3 w W → W 0 = wv G w 0 → gcl G3 w = 10 ∧ i32 (gfd G3 9 0 w + 1) ∧ gcl G3 w = 10 ∧ ∀ G9 : Gt, G9 = sfd G3 9 0 w (gfd G3 9 0 w + 1) → gcl G9 w = 10 ∧ ∀ G11 : Gt, G11 = sfd G9 9 2 w t → gcl G11 w = 10 ∧ ∀ G13 : Gt, G13 = sfd G11 9 3 w v → WU G G13 w (endW W t v) := by
    intro W G3 h h0
    have hw3 : gcl G3 w = 10 := by rw [h.1]; exact hw
    have e0 := h.2.2.2.2 0 (by omega)
    have hb1 := hb.1
    have hb2 := hb.2.1
    refine ⟨hw3, i32s (by omega), hw3, fun G4 e4 => ⟨by rw [e4]; exact hw3, fun G5 e5 => ⟨by rw [e5, e4]; exact hw3, fun G6 e6 => ?_⟩⟩⟩
    subst e4 e5 e6
    refine ⟨h.1, fun c k x hx => ?_, h.2.2.1, h.2.2.2.1, fun k hk => ?_⟩
    · simp only [gfd_sfd]
      rw [if_neg (fun h9 => hx ⟨h9.1, h9.2.2⟩), if_neg (fun h9 => hx ⟨h9.1, h9.2.2⟩), if_neg (fun h9 => hx ⟨h9.1, h9.2.2⟩)]
      exact h.2.1 c k x hx
    · have hk' := h.2.2.2.2 k hk
      simp only [gfd_sfd]
      match k, hk, hk' with
      | 0, _, hk' => simp [endW, e0]
      | 1, _, hk' => simp [endW, hk']
      | 2, _, hk' => simp [endW]
      | 3, _, hk' => simp [endW]
      | 4, _, hk' => simp [endW, hk']
      | 5, _, hk' => simp [endW, hk']
      | 6, _, hk' => simp [endW, hk']
      | 7, _, hk' => simp [endW, hk']
      | 8, _, hk' => simp [endW, hk']
  refine i_X9_include ⟨hw, fun J hJ => ⟨fun h9 => ?_, fun h9 => ⟨hw, Call.to (ok_begin hw hv) (Nat.le_refl _) (Nat.le_refl _) fun r G1 hq => hJ _ _ _ ?_⟩⟩⟩
  · have hp : 0 < wv G w 0 := by have h8 := hb.1; have h7 : wv G w 0 ≠ 0 := h9; omega
    obtain ⟨b1, b3, b4, b5, b6, b7, b8⟩ := hb.2.2 hp
    have b0 := hb.2.1
    have d7 := tdiv2 (x := 1000 * v - wv G w 7) (n := 1000000000) (by omega)
    refine ⟨hw, hw, fun G1 e1 => ?_⟩
    have q6 : gfd G1 9 6 w = wv G w 6 := by rw [e1]; rfl
    refine ⟨by rw [e1]; exact hw, by rw [e1]; exact hw, fun G2 e2 => ?_⟩
    have q7 : gfd G2 9 7 w = wv G w 7 := by rw [e2, e1]; rfl
    rw [q7]
    refine ⟨by rw [e2, e1]; exact hw, i64s (by omega), by rw [e2, e1]; exact hw, i64s (by omega), i64s (by omega), by rw [e2, e1]; exact hw, fun G3 e3 => ?_⟩
    have q3 : gfd G3 9 3 w = wv G w 3 := by rw [e3, e2, e1]; rfl
    have q8 : gfd G3 9 8 w = wv G w 8 := by rw [e3, e2, e1]; rfl
    have w3 : gcl G3 w = 10 := by rw [e3, e2, e1]; exact hw
    rw [q3, q8]
    have d8 : 0 ≤ (if wv G w 3 ≤ v then v - wv G w 3 else max v 0) ∧ (if wv G w 3 ≤ v then v - wv G w 3 else max v 0) ≤ 2000000 := by split <;> omega
    refine ⟨w3, w3, fun _ => w3, fun _ => i32s (by omega), i64s (by omega), w3, fun G4 e4 => ?_⟩
    have q4 : gfd G4 9 4 w = wv G w 4 := by rw [e4, e3, e2, e1]; rfl
    have w4 : gcl G4 w = 10 := by rw [e4]; exact w3
    rw [q4]
    refine ⟨w4, ⟨by omega, by omega⟩, w4, fun G5 e5 => hJ _ _ _ ?_⟩
    have hW : WU G G5 w (moreW (wv G w) v) := by
      rw [q6] at e2
      have q5 : gfd G 9 5 w = wv G w 5 := rfl
      rw [q5] at e1
      subst e1 e2 e3 e4 e5
      refine ⟨fun x => rfl, fun c k x hx => ?_, fun x => rfl, fun x i => rfl, fun k hk => ?_⟩
      · simp only [gfd_sfd]
        rw [if_neg (fun h9 => hx ⟨h9.1, h9.2.2⟩), if_neg (fun h9 => hx ⟨h9.1, h9.2.2⟩), if_neg (fun h9 => hx ⟨h9.1, h9.2.2⟩), if_neg (fun h9 => hx ⟨h9.1, h9.2.2⟩), if_neg (fun h9 => hx ⟨h9.1, h9.2.2⟩)]
      · simp only [gfd_sfd]
        match k, hk with
        | 0, _ => simp [moreW, wv]
        | 1, _ => simp [moreW, wv]
        | 2, _ => simp [moreW, wv]
        | 3, _ => simp [moreW, wv]
        | 4, _ => simp [moreW]
        | 5, _ => simp [moreW]
        | 6, _ => simp [moreW]
        | 7, _ => simp [moreW]
        | 8, _ => simp [moreW]
    have := hfin _ _ hW rfl
    unfold incW
    rw [if_neg (show ¬ wv G w 0 = 0 from h9)]
    exact this
  · have := hfin _ _ hq rfl
    unfold incW
    rw [if_pos (show wv G w 0 = 0 from h9)]
    exact this
theorem WU.trans {W1 W2 : Nat → Int} (h : WU G G' w W1) (h2 : WU G' G2 w W2) : WU G G2 w W2 :=
  ⟨fun x => (h2.1 x).trans (h.1 x), fun c k x hx => (h2.2.1 c k x hx).trans (h.2.1 c k x hx), fun x => (h2.2.2.1 x).trans (h.2.2.1 x), fun x i => (h2.2.2.2.1 x i).trans (h.2.2.2.1 x i), h2.2.2.2.2⟩
theorem WU.f {W : Nat → Int} (h : WU G G' w W) {c : Nat} (hc : c ≠ 9) (k : Nat) (x : Int) : gfd G' c k x = gfd G c k x := h.2.1 c k x (fun h9 => hc h9.1)
theorem WU.lw {W : Nat → Int} (h : WU G G' w W) (hL : LW E G) : LW E G' :=
  hL.congr (fun x hx _ => ⟨by rw [← h.1]; exact hx, h.f (by decide) 1 x, h.f (by decide) 2 x⟩) (fun x hx => ⟨by rw [h.1]; exact hx, h.2.2.1 x⟩)
theorem WU.lst {W : Nat → Int} (h : WU G G' w W) (x : Int) : lst G' x = lst G x :=
  lst_congr (h.f (by decide) 2 x) (h.f (by decide) 1 x) (fun i => h.2.2.2.1 _ i)
theorem WU.seen {W : Nat → Int} (h : WU G G' w W) (x : Int) : seenL G' x = seenL G x := by
  unfold seenL; rw [h.f (by decide) 1 x, h.lst]
theorem WU.sr {W : Nat → Int} (h : WU G G' w W) (hs : SR G a) : SR G' a := by
  have e1 : gfd G' 7 1 a = gfd G 7 1 a := h.f (by decide) 1 a
  have eT : ∀ x, sT G' x = sT G x := fun x => h.f (by decide) 1 x
  have eV : ∀ x, sV G' x = sV G x := fun x => h.f (by decide) 2 x
  refine ⟨by rw [h.1]; exact hs.1, by rw [e1, h.1]; exact hs.2.1, by rw [e1, h.f (by decide)]; exact hs.2.2.1, fun x hx => ?_, ?_, by rw [h.seen]; exact hs.2.2.2.2.2⟩
  · rw [h.seen] at hx
    rw [h.1, eT, eV]
    exact hs.2.2.2.1 x hx
  · rw [h.seen]
    exact hs.2.2.2.2.1.imp (fun {x y} h9 => by rw [eT, eT]; exact h9)
theorem incW_ok {W : Nat → Int} {t v : Int} (hb : WB W) (h100 : W 0 < 100) (ht : 0 ≤ t ∧ t ≤ 100000) (ht2 : 0 < W 0 → W 2 ≤ t) (hv : -1000000 ≤ v ∧ v ≤ 1000000) : WB (incW W t v) ∧ incW W t v 0 = W 0 + 1 ∧ incW W t v 2 = t := by
  unfold incW
  by_cases h0 : W 0 = 0
  · rw [if_pos h0]
    refine ⟨⟨?_, ?_, fun _ => ⟨?_, ?_, ?_, ?_, ?_, ?_, ?_⟩⟩, ?_, rfl⟩ <;> simp only [endW, begW] <;> omega
  · rw [if_neg h0]
    have hp : 0 < W 0 := by have := hb.1; omega
    obtain ⟨b1, b3, b4, b5, b6, b7, b8⟩ := hb.2.2 hp
    have ht3 := ht2 hp
    have d7 := tdiv2 (x := 1000 * v - W 7) (n := 1000000000) (by omega)
    have d7a : 1000 * v - W 7 ≥ 0 → Int.tdiv (1000 * v - W 7) 2 ≤ 1000 * v - W 7 ∧ 0 ≤ Int.tdiv (1000 * v - W 7) 2 := fun h9 => by rw [Int.tdiv_eq_ediv_of_nonneg h9]; omega
    have d7b : 1000 * v - W 7 < 0 → 1000 * v - W 7 ≤ Int.tdiv (1000 * v - W 7) 2 ∧ Int.tdiv (1000 * v - W 7) 2 ≤ 0 := fun h9 => by
      have e : Int.tdiv (1000 * v - W 7) 2 = -(Int.tdiv (-(1000 * v - W 7)) 2) := by rw [Int.neg_tdiv]; omega
      rw [e, Int.tdiv_eq_ediv_of_nonneg (by omega)]; omega
    have d8 : 0 ≤ (if W 3 ≤ v then v - W 3 else max v 0) ∧ (if W 3 ≤ v then v - W 3 else max v 0) ≤ 2000000 := by split <;> omega
    refine ⟨⟨?_, ?_, fun _ => ⟨?_, ?_, ?_, ?_, ?_, ?_, ?_⟩⟩, ?_, rfl⟩ <;> simp only [endW, moreW] <;> omega
def stW (G : Gt) (W : Nat → Int) (x : Int) : Nat → Int := if sV G x = -2147483648 then W else incW W (sT G x) (sV G x)
def gaW (G : Gt) (L : List Int) (W : Nat → Int) : Nat → Int := L.foldl (stW G) W
def zeW (W : Nat → Int) (k : Nat) : Int := match k with
  | 0 => 0
  | k => W k
theorem WU.wv {W : Nat → Int} (h : WU G G' w W) {k : Nat} (hk : k < 9) : wv G' w k = W k := h.2.2.2.2 k hk
theorem WB.congr {W W2 : Nat → Int} (h : ∀ k, k < 9 → W2 k = W k) (hb : WB W) : WB W2 := by
  unfold WB
  rw [h 0 (by omega), h 1 (by omega), h 2 (by omega), h 3 (by omega), h 4 (by omega), h 5 (by omega), h 6 (by omega), h 7 (by omega), h 8 (by omega)]
  exact hb
theorem incW_congr {W W2 : Nat → Int} {t v : Int} (h : ∀ k, k < 9 → W2 k = W k) : ∀ k, k < 9 → incW W2 t v k = incW W t v k := by
  intro k hk
  have h0 := h 0 (by omega)
  have h3 := h 3 (by omega)
  have h7 := h 7 (by omega)
  unfold incW
  by_cases e : W 0 = 0
  · rw [if_pos e, if_pos (h0.trans e)]
    match k, hk with
    | 0, _ => simp only [endW, begW, h0]
    | 1, _ => rfl
    | 2, _ => rfl
    | 3, _ => rfl
    | 4, _ => rfl
    | 5, _ => rfl
    | 6, _ => rfl
    | 7, _ => rfl
    | 8, _ => rfl
  · rw [if_neg e, if_neg (fun h9 => e (h0.symm.trans h9))]
    match k, hk with
    | 0, _ => simp only [endW, moreW, h0]
    | 1, _ => exact h 1 (by omega)
    | 2, _ => rfl
    | 3, _ => rfl
    | 4, _ => simp only [endW, moreW, h 4 (by omega)]
    | 5, _ => simp only [endW, moreW, h 5 (by omega)]
    | 6, _ => simp only [endW, moreW, h 6 (by omega)]
    | 7, _ => simp only [endW, moreW, h7]
    | 8, _ => simp only [endW, moreW, h3, h 8 (by omega)]
theorem v_gather {e : Nat} (hw : gcl G w = 10) (hL : LW E G) (h : SR G a) (he : e ≤ (seenL G a).length) : ∀ (j i : Nat) (G1 : Gt) (W : Nat → Int), e ≤ i + j → WU G G1 w W → WB W → W 0 ≤ i → (0 < W 0 → ∀ k, i ≤ k → k < (seenL G a).length → W 2 ≤ sT G ((seenL G a).getD k 0)) →
    V E M_X9_gather 21 [some (rv w), some (rv a), none, none, some (iv (e : Int)), some (iv (i : Int)), none] [] G1 c s (fun _ G' => WU G G' w (gaW G (((seenL G a).take e).drop i) W) ∧ WB (gaW G (((seenL G a).take e).drop i) W)) X := by
  intro j
  induction j with
  | zero =>
    intro i G1 W hi hU hb _ _
    refine b_X9_gather_21 ⟨fun _ => ?_, fun h9 => by omega⟩
    rw [List.drop_eq_nil_of_le (by rw [List.length_take]; omega)]
    exact ⟨hU, hb⟩
  | succ j ih =>
    intro i G1 W hi hU hb hn hm
    by_cases hie : e ≤ i
    · refine b_X9_gather_21 ⟨fun _ => ?_, fun h9 => by omega⟩
      rw [List.drop_eq_nil_of_le (by rw [List.length_take]; omega)]
      exact ⟨hU, hb⟩
    · have hs1 := hU.sr h
      have hL1 := hU.lw hL
      have h60 := h.2.2.2.2.2
      have e7 : gfd G1 7 1 a = gfd G 7 1 a := hU.f (by decide) 1 a
      obtain ⟨g1, g2, g3, -, -⟩ := hs1.get hL1 (i := (i : Int)) (by omega) (by rw [hU.seen]; omega)
      rw [Int.toNat_natCast, hU.seen] at g3
      have hx := h.2.2.2.1 _ (getD_mem (L := seenL G a) (i := i) (by omega))
      have ed : ((seenL G a).take e).drop i = (seenL G a).getD i 0 :: ((seenL G a).take e).drop (i + 1) := by
        rw [drop_getD (by rw [List.length_take]; omega)]
        congr 1
        rw [List.getD_eq_getElem?_getD, List.getD_eq_getElem?_getD, List.getElem?_take, if_pos (by omega)]
      have eT : gfd G1 5 1 ((seenL G a).getD i 0) = sT G ((seenL G a).getD i 0) := hU.f (by decide) 1 _
      have eV : gfd G1 5 2 ((seenL G a).getD i 0) = sV G ((seenL G a).getD i 0) := hU.f (by decide) 2 _
      rw [ed]
      show V E M_X9_gather 21 _ [] G1 c s (fun _ G' => WU G G' w (gaW G (((seenL G a).take e).drop (i + 1)) (stW G W ((seenL G a).getD i 0))) ∧ WB (gaW G (((seenL G a).take e).drop (i + 1)) (stW G W ((seenL G a).getD i 0)))) X
      refine b_X9_gather_21 ⟨fun h9 => by omega, fun _ => ?_⟩
      rw [g3] at g1 g2 ⊢
      rw [eT, eV]
      refine ⟨hs1.1, hs1.2.1, g1, Or.inr g2, g2, fun h9 => ⟨i32s (by omega), ?_⟩, fun h9 => ⟨g2, g2, by rw [hU.1]; exact hw, ?_⟩⟩
      · have e9 : stW G W ((seenL G a).getD i 0) = W := if_pos h9
        rw [e9]
        exact ih (i + 1) G1 W (by omega) hU hb (by omega) (fun h8 k hk => hm h8 k (by omega))
      · have e9 : stW G W ((seenL G a).getD i 0) = incW W (sT G ((seenL G a).getD i 0)) (sV G ((seenL G a).getD i 0)) := if_neg h9
        have hv : -1000000 ≤ sV G ((seenL G a).getD i 0) ∧ sV G ((seenL G a).getD i 0) ≤ 1000000 := by
          rcases hx.2.2.2 with h8 | h8
          · exact (h9 h8).elim
          · exact h8
        have hok := incW_ok (t := sT G ((seenL G a).getD i 0)) (v := sV G ((seenL G a).getD i 0)) hb (by omega) ⟨hx.2.1, hx.2.2.1⟩ (fun h8 => hm h8 i (by omega) (by omega)) hv
        refine Call.to (ok_include (G := G1) (t := sT G ((seenL G a).getD i 0)) (by rw [hU.1]; exact hw) (hb.congr fun k hk => hU.wv hk) hv) (Nat.zero_le _) (Nat.zero_le _) fun r G2 hq => ⟨i32s (by omega), ?_⟩
        rw [e9]
        have hU2 : WU G G2 w (incW W (sT G ((seenL G a).getD i 0)) (sV G ((seenL G a).getD i 0))) := by
          have h8 := hU.trans hq
          exact ⟨h8.1, h8.2.1, h8.2.2.1, h8.2.2.2.1, fun k hk => (h8.2.2.2.2 k hk).trans (incW_congr (fun k hk => hU.wv hk) k hk)⟩
        refine ih (i + 1) G2 _ (by omega) hU2 hok.1 (by rw [hok.2.1]; omega) (fun _ k hk hk2 => ?_)
        rw [hok.2.2]
        have := sort_lt (T := sT G) h.2.2.2.2.1 (i := i) (j := k) (by omega) hk2
        omega
/-- the samples of a series from a time to another one -/
def rngL (G : Gt) (a fr to : Int) : List Int := ((seenL G a).take (cAh G a (to + 1))).drop (cAh G a fr)
theorem WU.cAh {W : Nat → Int} (h : WU G G' w W) (a t : Int) : cAh G' a t = cAh G a t := by
  have e : ∀ x, sT G' x = sT G x := fun x => h.f (by decide) 1 x
  show (seenL G' a).countP (fun x => decide (sT G' x < t)) = (seenL G a).countP (fun x => decide (sT G x < t))
  rw [h.seen]
  simp only [e]
theorem ok_gather {fr to : Int} (hw : gcl G w = 10) (hL : LW E G) (h : SR G a) (hto : -100000 ≤ to ∧ to ≤ 10000000) :
    Ok E M_X9_gather [rv w, rv a, iv fr, iv to] G 0 0 (fun _ G' => WU G G' w (gaW G (rngL G a fr to) (zeW (wv G w))) ∧ WB (gaW G (rngL G a fr to) (zeW (wv G w)))) (fun _ _ => False) := by
  refine i_X9_gather ⟨hw, fun G1 e1 => ?_⟩
  have hU : WU G G1 w (zeW (wv G w)) := by
    subst e1
    refine ⟨fun x => rfl, fun c k x hx => ?_, fun x => rfl, fun x i => rfl, fun k hk => ?_⟩
    · rw [gfd_sfd, if_neg (fun h9 => hx ⟨h9.1, h9.2.2⟩)]
    · rw [gfd_sfd]
      match k, hk with
      | 0, _ => exact if_pos ⟨rfl, rfl, rfl⟩
      | k + 1, _ => rw [if_neg (fun h9 => by omega)]; rfl
  have hs := hU.sr h
  have hL1 := hU.lw hL
  have c1 := cAh_spec (to + 1) h
  have c2 := cAh_spec fr h
  refine ⟨i32s (by omega), hs.1, Call.pure (okp_countAhead hL1 hs) ⟨hs.1, Call.pure (okp_countAhead hL1 hs) ?_⟩⟩
  rw [hU.cAh, hU.cAh]
  refine v_gather hw hL h c1.1 (cAh G a (to + 1)) (cAh G a fr) G1 _ (by omega) hU ⟨Int.le_refl 0, by show (0 : Int) ≤ 100; omega, fun h9 => absurd h9 (Int.lt_irrefl 0)⟩ (by show (0 : Int) ≤ _; omega) (fun h9 => absurd h9 (Int.lt_irrefl 0))
theorem mulb {x y A B : Int} (hx : 0 ≤ x ∧ x ≤ A) (hy : 0 ≤ y ∧ y ≤ B) : 0 ≤ x * y ∧ x * y ≤ A * B :=
  ⟨Int.mul_nonneg hx.1 hy.1, Int.mul_le_mul hx.2 hy.2 hy.1 (by omega)⟩
theorem tdivb {x y A : Int} (hx : 0 ≤ x ∧ x ≤ A) (hy : 1 ≤ y) : 0 ≤ Int.tdiv x y ∧ Int.tdiv x y ≤ A := tdiv_in (lo := 0) (hi := A) hx ⟨Int.le_refl 0, by omega⟩ hy
def ctV (W : Nat → Int) (k : Int) : Int := if W 0 < (if k = 7 then (2 : Int) else 1) then 0 else 1
theorem okp_canTell {k : Int} (hw : gcl G w = 10) : OkP E M_X9_canTell [rv w, iv k] G (ctV (wv G w) k) := by
  refine i_X9_canTell ⟨hw, ?_, rfl, rfl⟩
  by_cases h : gfd G 9 0 w < (if k = 7 then (2 : Int) else 1)
  · rw [if_pos h]; exact Or.inl rfl
  · rw [if_neg h]; exact Or.inr rfl
def thV (W : Nat → Int) (k : Int) : Int := if W 0 = 0 then 0 else if k = 0 then W 0 else if k = 1 then W 4 else if k = 2 then W 5 else W 6
theorem okp_tellThinned {k : Int} (hw : gcl G w = 10) : OkP E M_X9_tellThinned [rv w, iv k] G (thV (wv G w) k) := by
  refine i_X9_tellThinned ⟨hw, fun h0 => ⟨fun h => ⟨hw, ?_, rfl⟩, fun h => ⟨hw, ?_, rfl⟩, fun h => ⟨hw, ?_, rfl⟩, fun h => ⟨hw, ?_, rfl⟩⟩, fun h0 => ⟨?_, rfl⟩⟩
  · unfold thV; rw [if_neg (show ¬ wv G w 0 = 0 from h0), if_pos h]; rfl
  · unfold thV; rw [if_neg (show ¬ wv G w 0 = 0 from h0), if_neg (by omega), if_pos h]; rfl
  · unfold thV; rw [if_neg (show ¬ wv G w 0 = 0 from h0), if_neg (by omega), if_neg (by omega), if_pos h]; rfl
  · unfold thV; rw [if_neg (show ¬ wv G w 0 = 0 from h0), if_neg (by omega), if_neg (by omega), if_neg (by omega)]; rfl
  · unfold thV; rw [if_pos (show wv G w 0 = 0 from h0)]
def rcV (W : Nat → Int) : Int := Int.tdiv (Int.tdiv (W 2 - W 1) (W 0 - 1)) 2
def rtV (W : Nat → Int) (len time : Int) : Int :=
  if W 0 < 2 ∨ W 2 - W 1 ≤ 0 ∨ len ≤ 0 then 0
  else Int.tdiv (1000 * W 8 * (W 2 - W 1 + min (W 1 - (time - len)) (rcV W) + min (time - W 2) (rcV W))) ((W 2 - W 1) * len)
theorem okp_rate {len time : Int} (hw : gcl G w = 10) (hb : WB (wv G w)) (hl : 1 ≤ len ∧ len ≤ 1000) (ht : 0 ≤ time ∧ time ≤ 100000) (h2 : 2 ≤ wv G w 0) (h1 : time - len ≤ wv G w 1 ∧ wv G w 2 ≤ time) : OkP E M_X9_rate [rv w, iv len, iv time] G (rtV (wv G w) len time) := by
  obtain ⟨b1, b3, b4, b5, b6, b7, b8⟩ := hb.2.2 (by omega)
  have b0 := hb.2.1
  have e0 : gfd G 9 0 w = wv G w 0 := rfl
  have e1 : gfd G 9 1 w = wv G w 1 := rfl
  have e2 : gfd G 9 2 w = wv G w 2 := rfl
  have e8 : gfd G 9 8 w = wv G w 8 := rfl
  refine i_X9_rate ?_
  rw [e0, e1, e2, e8]
  have r1 := tdivb (x := wv G w 2 - wv G w 1) (y := wv G w 0 - 1) (A := 100000) (by omega) (by omega)
  have r2 := tdivb (x := Int.tdiv (wv G w 2 - wv G w 1) (wv G w 0 - 1)) (y := 2) (A := 100000) r1 (by omega)
  have er : Int.tdiv (Int.tdiv (wv G w 2 - wv G w 1) (wv G w 0 - 1)) 2 = rcV (wv G w) := rfl
  rw [er] at r2 ⊢
  have r3 := mulb (x := 1000 * wv G w 8) (y := wv G w 2 - wv G w 1 + min (wv G w 1 - (time - len)) (rcV (wv G w)) + min (time - wv G w 2) (rcV (wv G w))) (A := 200000000000) (B := 300000) (by omega) (by omega)
  have r4 := mulb (x := wv G w 2 - wv G w 1) (y := len) (A := 100000) (B := 1000) (by omega) (by omega)
  refine ⟨hw, hw, i32s (by omega), hw, fun h => absurd h (by omega), fun _ => ⟨fun h => ⟨?_, rfl⟩, fun h => ⟨fun _ => ?_, fun h9 => absurd h9 (by omega)⟩⟩⟩
  · unfold rtV; rw [if_pos (Or.inr (Or.inl h))]
  · have r5 : 1 ≤ (wv G w 2 - wv G w 1) * len := by
      have := Int.mul_le_mul (a := 1) (b := 1) (c := wv G w 2 - wv G w 1) (d := len) (by omega) hl.1 (by omega) (by omega)
      omega
    have r6 := tdivb (x := 1000 * wv G w 8 * (wv G w 2 - wv G w 1 + min (wv G w 1 - (time - len)) (rcV (wv G w)) + min (time - wv G w 2) (rcV (wv G w)))) (y := (wv G w 2 - wv G w 1) * len) (A := 60000000000000000) (by omega) r5
    refine ⟨hw, i32s (by omega), by omega, i64s (by omega), hw, i32s (by omega), i32s (by omega), i64s (by omega), hw, i32s (by omega), i64s (by omega), hw, i64s (by omega), i64s (by omega), i64s (by omega), by omega, i64s (by omega), ?_, rfl⟩
    unfold rtV; rw [if_neg (by omega)]
def toV (W : Nat → Int) (k len time : Int) : Int := if k = 2 then 1000 * W 0 else if k = 3 then 1000 * W 4 else if k = 4 then 1000 * W 5 else if k = 5 then 1000 * W 6 else if k = 6 then W 7 else rtV W len time
theorem okp_tellOf {k len time : Int} (hw : gcl G w = 10) (hb : WB (wv G w)) (hk : 2 ≤ k ∧ k ≤ 7) (hl : 1 ≤ len ∧ len ≤ 1000) (ht : 0 ≤ time ∧ time ≤ 100000) (hc : ctV (wv G w) k = 1) (h1 : time - len ≤ wv G w 1 ∧ wv G w 2 ≤ time) : OkP E M_X9_tellOf [rv w, iv k, iv len, iv time] G (toV (wv G w) k len time) := by
  have hp : (if k = 7 then (2 : Int) else 1) ≤ wv G w 0 := by
    unfold ctV at hc
    by_cases h : wv G w 0 < (if k = 7 then (2 : Int) else 1)
    · rw [if_pos h] at hc; omega
    · omega
  have hp1 : 0 < wv G w 0 := by split at hp <;> omega
  obtain ⟨b1, b3, b4, b5, b6, b7, b8⟩ := hb.2.2 hp1
  have b0 := hb.2.1
  have e0 : gfd G 9 0 w = wv G w 0 := rfl
  have e4 : gfd G 9 4 w = wv G w 4 := rfl
  have e5 : gfd G 9 5 w = wv G w 5 := rfl
  have e6 : gfd G 9 6 w = wv G w 6 := rfl
  refine i_X9_tellOf ⟨fun h => ⟨hw, i64s (by omega), ?_, rfl⟩, fun h => ⟨hw, i64s (by omega), ?_, rfl⟩, fun h => ⟨hw, i64s (by omega), ?_, rfl⟩, fun h => ⟨hw, i64s (by omega), ?_, rfl⟩, fun h => ⟨hw, ?_, rfl⟩, fun h => ⟨hw, Call.pure (okp_rate hw hb hl ht ?_ h1) ⟨?_, rfl⟩⟩⟩
  · unfold toV; rw [if_pos h]; rfl
  · unfold toV; rw [if_neg (by omega), if_pos h]; rfl
  · unfold toV; rw [if_neg (by omega), if_neg (by omega), if_pos h]; rfl
  · unfold toV; rw [if_neg (by omega), if_neg (by omega), if_neg (by omega), if_pos h]; rfl
  · unfold toV; rw [if_neg (by omega), if_neg (by omega), if_neg (by omega), if_neg (by omega), if_pos h]; rfl
  · rw [if_pos (by omega)] at hp; exact hp
  · unfold toV; rw [if_neg (by omega), if_neg (by omega), if_neg (by omega), if_neg (by omega), if_neg (by omega)]
end S37
