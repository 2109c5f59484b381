/-! the store's log is torn off -/
section S56
variable {E : EE} {G G' G2 : Gt} {bc bs : Nat} {Q X : Int → Gt → Prop} {a st x q l t v f e r g : Int} {zs zs' : List Zt} {W : Nat → Nat → Int → Prop} {L A : Int → Prop}
variable {ser : List Int} {smp : List (Sm4 × Int)} {rs : List Int} {dn wr cr er : Int}
theorem unD_nil (r : Int) (zs : List Zt) : unD [] r zs = zs := by
  unfold unD
  conv => rhs; rw [← List.map_id zs]
  refine List.map_congr_left fun z _ => ?_
  rw [if_neg (List.not_mem_nil)]; rfl
theorem ok_back1 (hL : LW E G) (hO : OW G) (h : StC G st zs ser smp dn wr) (hr : r ≠ 0) (hi : SC ser ((zU r zs).map (·.2.1))) {ks : List Int} (hks : ks.Perm (zHid r zs)) (g2 : gcl G g = 2) (hg : gfd G 1 1 g = 1) (hch : chn G (gfd G 1 0 g) ks) :
    Ok E M_X8_takeBack [rv st, rv g] G (rkC G G st ks) (rkS G G st ks) (fun _ G' => bkQ E G G' st ks (zU r zs) ser dn wr ∧ PC G' st + rkC G G st ks ≤ PC G st ∧ PS G' st + rkS G G st ks ≤ PS G st) (fun _ _ => False) := by
  refine i_X8_takeBack ⟨g2, g2, fun _ => ?_, fun h9 => by omega⟩
  refine v_takeBack hO h hr hi hks ks [] G _ _ _ rfl hch hL (ONW.refl G) (FR.refl G) ?_ rfl (Nat.le_refl _) (Nat.le_refl _) (Nat.le_refl _) (Nat.le_refl _)
  rw [unD_nil, h.2.2.2.2.1]; exact h
/-- the core of the store is left -/
theorem StC.fr (h : StC G st zs ser smp dn wr) (hi : SC ser (smp.map (·.1))) (k : FR G G' W L A) (w7 : ∀ j y, ¬ W 7 j y) (w8 : ∀ j, ¬ W 8 j st) (w5 : ∀ j y, j ≠ 5 → ¬ W 5 j y) (l0 : ¬ L (gfd G 8 0 st)) (l1 : ∀ b ∈ numL G st, ¬ L (gfd G 7 1 b)) :
    StC G' st zs ser smp dn wr ∧ numL G' st = numL G st ∧ ∀ b ∈ numL G st, seenL G' b = seenL G b ∧ capOf G' (gfd G' 7 1 b) = capOf G (gfd G 7 1 b) := by
  have hst := h.1
  have n1 : gfd G' 8 0 st = gfd G 8 0 st := k.2.1 8 0 st (by decide) (by omega) (w8 0)
  have hnn := k.2.2.1 _ h.2.1.1 h.2.1.2
  have eN : numL G' st = numL G st := by unfold numL; rw [n1]; exact (hnn.2 l0).1
  have hB : ∀ b ∈ numL G st, SeH G' b zs ∧ seenL G' b = seenL G b ∧ sLab G' b = sLab G b ∧ capOf G' (gfd G' 7 1 b) = capOf G (gfd G 7 1 b) := fun b hb =>
    (h.2.2.2.1 b hb).fr k (fun j => w7 j b) (fun y _ => w5 1 y (by decide)) (fun y hy => by rw [((h.sr hi hb).2.2.2.1 y hy).1]; decide) (l1 b hb) (List.Perm.refl _)
  have eZ : ∀ z ∈ zs, ∀ j, j ≠ 5 → gfd G' 5 j z.1 = gfd G 5 j z.1 := fun z hz1 j hj => k.2.1 5 j z.1 (by decide) (by rw [(h.2.2.2.2.2.2.1 z hz1).1]; decide) (w5 j _ hj)
  refine ⟨⟨by rw [k.1 st (by omega)]; exact hst, by rw [n1]; exact ⟨by rw [k.1 _ (by rw [h.2.1.1]; decide)]; exact h.2.1.1, hnn.1⟩, ?_, ?_, h.2.2.2.2.1, h.2.2.2.2.2.1, ?_, ?_, ?_, ?_, ?_⟩, eN, fun b hb => ⟨(hB b hb).2.1, (hB b hb).2.2.2⟩⟩
  · rw [eN, ← h.2.2.1]; exact List.map_congr_left fun b hb => (hB b hb).2.2.1
  · intro b hb
    rw [eN] at hb; exact (hB b hb).1
  · intro z hz1
    have h8 := h.2.2.2.2.2.2.1 z hz1
    have e := eZ z hz1
    refine ⟨by rw [k.1 _ (by rw [h8.1]; decide)]; exact h8.1, (e 1 (by decide)).trans h8.2.1, (e 2 (by decide)).trans h8.2.2.1, (e 4 (by decide)).trans h8.2.2.2.1, ?_, ?_⟩
    · rw [eN, e 0 (by decide)]; exact h8.2.2.2.2.1
    · rw [e 0 (by decide), (hB _ h8.2.2.2.2.1).2.2.1]; exact h8.2.2.2.2.2
  · refine h.2.2.2.2.2.2.2.1.imp_of_mem fun {u w} hu hw h9 => ?_
    rw [eZ u hu 3 (by decide), eZ w hw 3 (by decide)]; exact h9
  · intro z hz1
    rw [eZ z hz1 3 (by decide)]; exact h.2.2.2.2.2.2.2.2.1 z hz1
  · rw [k.2.1 8 3 st (by decide) (by omega) (w8 3)]; exact h.2.2.2.2.2.2.2.2.2.1
  · rw [k.2.1 8 2 st (by decide) (by omega) (w8 2)]; exact h.2.2.2.2.2.2.2.2.2.2
def undoS (r : Int) (s : List (Sm4 × Int)) : List (Sm4 × Int) := if r = 0 then s.dropLast else s.map (fun q => (unh r q.1, q.2))
def crS : Nat → List Int → List (Sm4 × Int) → List Int × List (Sm4 × Int)
  | 0, rs, s => (rs, s)
  | _ + 1, [], s => ([], s)
  | n + 1, r :: rs, s => crS n rs (undoS r s)
theorem zU_map (r : Int) (zs : List Zt) : (zU r zs).map (·.2) = undoS r (zs.map (·.2)) := by
  unfold zU undoS
  split
  · rw [List.map_dropLast]
  · rw [List.map_map, List.map_map]; rfl
theorem undoS_map (r : Int) (s : List (Sm4 × Int)) : (undoS r s).map (·.1) = undo r (s.map (·.1)) := by
  unfold undoS undo
  split
  · rw [List.map_dropLast]
  · rw [List.map_map, List.map_map]; rfl
theorem undo_sub {r : Int} {s : List Sm4} {q : Sm4} (hq : q ∈ undo r s) : ∃ p ∈ s, qC q = qC p ∧ qT q = qT p ∧ qV q = qV p ∧ (qH q = qH p ∨ qH q = 0) := by
  unfold undo at hq
  split at hq
  · exact ⟨q, List.dropLast_subset _ hq, rfl, rfl, rfl, Or.inl rfl⟩
  · obtain ⟨p, hp, rfl⟩ := List.mem_map.mp hq
    refine ⟨p, hp, rfl, rfl, rfl, ?_⟩
    show (if qH p = r then 0 else qH p) = qH p ∨ (if qH p = r then 0 else qH p) = 0
    split
    · exact Or.inr rfl
    · exact Or.inl rfl
theorem SI.undo {sm : List Sm4} (h : SI ser sm (r :: rs) er) : SI ser (undo r sm) rs er := by
  refine ⟨h.1, h.2.1, h.2.2.1, fun q hq => ?_, h.2.2.2.2.1.2.2, fun r' hr' => h.2.2.2.2.2 r' (List.mem_cons_of_mem _ hr')⟩
  obtain ⟨p, hp, e1, e2, e3, e4⟩ := undo_sub hq
  have h9 := h.2.2.2.1 p hp
  rw [e1, e2, e3]
  refine ⟨h9.1, h9.2.1, h9.2.2.1, ?_⟩
  rcases e4 with e4 | e4 <;> rw [e4]
  · exact h9.2.2.2
  · exact ⟨Int.le_refl 0, Int.le_trans h9.2.2.2.1 h9.2.2.2.2⟩
theorem countP_two {α : Type} {p1 p2 p3 : α → Bool} : ∀ {l : List α}, (∀ z ∈ l, p1 z = true → p3 z = true ∧ ¬ p2 z = true) → (∀ z ∈ l, p2 z = true → p3 z = true) → l.countP p1 + l.countP p2 ≤ l.countP p3
  | [], _, _ => by simp
  | z :: l, h1, h2 => by
    have ih := countP_two (l := l) (fun y hy => h1 y (List.mem_cons_of_mem _ hy)) (fun y hy => h2 y (List.mem_cons_of_mem _ hy))
    rw [List.countP_cons, List.countP_cons, List.countP_cons]
    by_cases a1 : p1 z = true
    · have := h1 z List.mem_cons_self a1
      rw [if_pos a1, if_pos this.1, if_neg this.2]; omega
    · rw [if_neg a1]
      by_cases a2 : p2 z = true
      · rw [if_pos a2, if_pos (h2 z List.mem_cons_self a2)]; omega
      · rw [if_neg a2]; omega
theorem rk_le (h : StC G st zs ser smp dn wr) (hn : ser.Nodup) (hr : r ≠ 0) (hi : SC ser ((zU r zs).map (·.2.1))) {ks : List Int} (hks : ks.Perm (zHid r zs)) : rkC G G st ks ≤ PC G st ∧ rkS G G st ks ≤ PS G st := by
  have key : ∀ b ∈ numL G st, grC (ks.countP (fun y => decide (gfd G 5 0 y = b))) (capOf G (gfd G 7 1 b)) (seenL G b).length ≤ glC (capOf G (gfd G 7 1 b)) ∧ grS (ks.countP (fun y => decide (gfd G 5 0 y = b))) (capOf G (gfd G 7 1 b)) (seenL G b).length ≤ glS (capOf G (gfd G 7 1 b)) := fun b hb => by
    have hsb := h.2.2.2.1 b hb
    have e1 : ks.countP (fun y => decide (gfd G 5 0 y = b)) = zs.countP (fun z => decide (gfd G 5 0 z.1 = b) && decide (qH z.2.1 = r)) := by
      rw [hks.countP_eq]
      unfold zHid
      rw [List.countP_map, List.countP_filter]; rfl
    have e2 : (seenL G b).length = zs.countP (fun z => own (sLab G b) z.2.1) := by
      rw [hsb.2.2.1.length_eq, zO_len, List.countP_map]; rfl
    have e3 : zs.countP (fun z => own (sLab G b) (unh r z.2.1)) ≤ 60 := by
      have h1 := Nat.le_trans (own_like (sLab G b) _) (hi.2.2.2 (Int.tdiv (sLab G b) 100))
      unfold zU at h1
      rw [if_neg hr, List.map_map, List.countP_map] at h1
      exact h1
    have e4 := countP_two (l := zs) (p1 := fun z => own (sLab G b) z.2.1) (p2 := fun z => decide (gfd G 5 0 z.1 = b) && decide (qH z.2.1 = r)) (p3 := fun z => own (sLab G b) (unh r z.2.1)) (fun z hz a1 => by
      have a2 := own_iff.mp a1
      refine ⟨own_iff.mpr ⟨qH_unh.mpr (Or.inr a2.1), a2.2⟩, fun a3 => ?_⟩
      simp only [Bool.and_eq_true, decide_eq_true_eq] at a3
      exact hr (a3.2.symm.trans a2.1)) (fun z hz a3 => by
      simp only [Bool.and_eq_true, decide_eq_true_eq] at a3
      have h8 := (h.2.2.2.2.2.2.1 z hz).2.2.2.2.2
      rw [a3.1] at h8
      exact own_iff.mpr ⟨qH_unh.mpr (Or.inl a3.2), h8.symm⟩)
    have := gN_le (ks.countP (fun y => decide (gfd G 5 0 y = b))) (C := capOf G (gfd G 7 1 b)) (n := (seenL G b).length) hsb.2.2.2.2.2 (by rw [e1, e2]; omega)
    omega
  have mono : ∀ (N : List Int) (f g : Int → Nat), (∀ b ∈ N, f b ≤ g b) → (N.map f).sum ≤ (N.map g).sum := by
    intro N f g hfg
    induction N with
    | nil => exact Nat.le_refl _
    | cons b N ih =>
      rw [List.map_cons, List.sum_cons, List.map_cons, List.sum_cons]
      have := hfg b List.mem_cons_self
      have := ih (fun y hy => hfg y (List.mem_cons_of_mem _ hy))
      omega
  exact ⟨mono _ _ _ (fun b hb => (key b hb).1), mono _ _ _ (fun b hb => (key b hb).2)⟩
def trS (E : EE) (G G1 : Gt) (st : Int) (ser : List Int) (smp1 : List (Sm4 × Int)) (rs1 : List Int) (dn wr cr : Int) : Prop :=
  LW E G1 ∧ ONW G G1 ∧ FR G G1 (fun c k _ => c = 5 ∧ k = 5) (fun y => y = gfd G 8 1 st ∨ ∃ a ∈ numL G st, y = gfd G 7 1 a) noA ∧ numL G1 st = numL G st ∧ ∃ zs1, StH G1 st zs1 ser smp1 rs1 dn wr cr
theorem v_tearOff {m : Int} (hO : OW G) (h : StH G st zs ser smp rs dn wr cr) (hm : m ≤ 1000) : ∀ (j : Nat) (i : Int) (G1 : Gt) (rs1 : List Int) (smp1 : List (Sm4 × Int)) (c s : Nat), 0 ≤ i → i + j = m → SI ser (smp1.map (·.1)) rs1 er → rs1.length ≤ 1000000 → trS E G G1 st ser smp1 rs1 dn wr cr → PC G1 st ≤ c → PS G1 st ≤ s →
    V E M_X8_tearOff 2 [some (rv st), some (iv m), some (iv i)] [] G1 c s (fun rr G' => rr = (crS j rs1 smp1).1.length ∧ trS E G G' st ser (crS j rs1 smp1).2 (crS j rs1 smp1).1 dn wr cr) X := by
  have hst := h.1
  have hb8 : ∀ b ∈ numL G st, gcl G b = 8 ∧ gcl G (gfd G 7 1 b) = 14 ∧ gfd G 7 1 b ≠ -1 := fun b hb => by
    have := h.2.2.2.2.1 b hb
    exact ⟨this.1, this.2.1.1, hO.nn (by rw [this.2.1.1]; decide) (by rw [this.2.1.1]; decide)⟩
  have nR : ∀ b ∈ numL G st, gfd G 8 1 st ≠ gfd G 7 1 b := fun b hb => hO.ne 8 1 7 1 hst (hb8 b hb).1 (hO.nn (by rw [h.2.2.1.1]; decide) (by rw [h.2.2.1.1]; decide)) (by omega)
  have nRN : gfd G 8 0 st ≠ gfd G 8 1 st := hO.ne 8 0 8 1 hst hst (hO.nn (by rw [h.2.1.1]; decide) (by rw [h.2.1.1]; decide)) (by omega)
  intro j
  induction j with
  | zero =>
    intro i G1 rs1 smp1 c s h0 hij hi1 hlr ⟨hL, hO1, hF, hN, zs1, hS⟩ hc hs
    have e81 : gfd G1 8 1 st = gfd G 8 1 st := hF.2.1 8 1 st (by decide) (by omega) (fun h9 => by omega)
    have hlen := hS.2.2.2.2.2.2.2.2.2.2.2.2.2.len
    rw [List.length_reverse] at hlen
    have hsz : gfd G1 13 2 (gfd G1 8 1 st) = rs1.length := by rw [hL.size hS.2.2.1.1 hS.2.2.1.2, hlen]
    refine b_X8_tearOff_2 ⟨fun _ => ⟨hS.1, hS.2.2.1.1, okp_size hS.2.2.1.1, ?_, hL, hO1, hF, hN, zs1, hS⟩, fun h9 => by omega⟩
    rw [hsz]; rfl
  | succ j ih =>
    intro i G1 rs1 smp1 c s h0 hij hi1 hlr ⟨hL, hO1, hF, hN, zs1, hS⟩ hc hs
    have e81 : gfd G1 8 1 st = gfd G 8 1 st := hF.2.1 8 1 st (by decide) (by omega) (fun h9 => by omega)
    have hR := hS.2.2.2.2.2.2.2.2.2.2.2.2.2
    have hlen := hR.len
    rw [List.length_reverse] at hlen
    have hr14 := hS.2.2.1
    have hsz : gfd G1 13 2 (gfd G1 8 1 st) = rs1.length := by rw [hL.size hr14.1 hr14.2, hlen]
    have hos := okp_size (E := E) hr14.1
    rw [hsz] at hos
    refine b_X8_tearOff_2 ⟨fun h9 => by omega, fun _ => ⟨hS.1, hr14.1, okp_isEmpty hr14.1, ?_⟩⟩
    rw [hsz]
    cases rs1 with
    | nil =>
      refine ⟨fun _ => ⟨hS.1, hr14.1, hos, rfl, hL, hO1, hF, hN, zs1, hS⟩, fun h9 => ?_⟩
      have h8 : (if (0 : Int) = 0 then (1 : Int) else 0) = 0 := h9
      rw [if_pos rfl] at h8; exact absurd h8 (by decide)
    | cons r rs1 =>
      have hne : ((r :: rs1).length : Int) ≠ 0 := by rw [List.length_cons]; omega
      refine ⟨fun h9 => by rw [if_neg hne] at h9; exact (h9 rfl).elim, fun _ => ?_⟩
      have hOw1 := hO.go hO1
      have hsz2 : gfd G1 13 2 (gfd G1 8 1 st) = rs1.length + 1 := by rw [hsz, List.length_cons]; omega
      have hlr2 : rs1.length + 1 ≤ 1000000 := by rw [List.length_cons] at hlr; exact hlr
      -- the last record
      cases hrev : (lst G1 (gfd G1 8 1 st)).reverse with
      | nil => rw [hrev] at hR; exact hR.elim
      | cons g gs =>
      rw [hrev] at hR
      obtain ⟨g2, r0, r1, r2⟩ := hR
      have hl : lst G1 (gfd G1 8 1 st) = gs.reverse ++ [g] := by
        have := congrArg List.reverse hrev
        rw [List.reverse_reverse, List.reverse_cons] at this; exact this
      have hgl : gs.length = rs1.length := r2.len
      have hat : alAt G1 (gfd G1 8 1 st) (rs1.length : Int) = g := by
        rw [alAt_get hL hr14.1 hr14.2 (by rw [hl, List.length_append, List.length_reverse]; simp; omega), hl, List.getD_eq_getElem?_getD, List.getElem?_append_right (by rw [List.length_reverse]; omega), List.length_reverse, hgl, Nat.sub_self]; rfl
      have es : (((r :: rs1).length : Nat) : Int) - 1 = (rs1.length : Int) := by rw [List.length_cons]; omega
      rw [es]
      refine ⟨hS.1, hS.1, hr14.1, hos, i32s (by omega), hr14.1, ?_⟩
      refine Call.to (ok_remove hL hr14.1 hr14.2 (by omega) (by omega)) (Nat.zero_le _) (Nat.zero_le _) fun rv9 G19 h19 => ?_
      obtain ⟨hrv, h19⟩ := h19
      rw [hat] at hrv
      subst hrv
      have herase : (gs.reverse ++ [rv9]).eraseIdx rs1.length = gs.reverse := by
        rw [List.eraseIdx_append_of_length_le (by rw [List.length_reverse]; omega), List.length_reverse, hgl, Nat.sub_self]
        show gs.reverse ++ [] = _
        rw [List.append_nil]
      rw [hl, Int.toNat_natCast, herase] at h19
      have k19 : FR G1 G19 noW (fun y => y = gfd G1 8 1 st) noA := h19.fr
      have nw : ∀ b ∈ numL G1 st, gfd G1 7 1 b ≠ gfd G1 8 1 st := fun b hb => by
        rw [hN] at hb
        rw [e81, hF.2.1 7 1 b (by decide) (by rw [(hb8 b hb).1]; decide) (fun h9 => by omega)]
        exact fun h9 => nR b hb h9.symm
      have e80 : gfd G1 8 0 st = gfd G 8 0 st := hF.2.1 8 0 st (by decide) (by omega) (fun h9 => by omega)
      have hC1 := hS.core
      have hSI := hi1.undo
      have hC19 := hC1.fr hi1.sc k19 (fun _ _ => id) (fun _ => id) (fun _ _ _ => id) (by rw [e80, e81]; exact nRN) (fun b hb => nw b hb)
      have hOw19 := hOw1.go h19.onw
      have rec19 : lst G19 (gfd G19 8 1 st) = gs.reverse ∧ capOf G19 (gfd G19 8 1 st) = cr ∧ gcl G19 (gfd G19 8 1 st) = 14 ∧ gfd G19 13 1 (gfd G19 8 1 st) ≠ -1 ∧ gfd G19 8 1 st = gfd G1 8 1 st := by
        have e9 : gfd G19 8 1 st = gfd G1 8 1 st := h19.2.2.1 8 1 st (by decide)
        rw [e9]
        exact ⟨h19.2.2.2.2.2.1, h19.2.2.2.2.2.2.1.trans hS.2.2.2.2.2.2.2.2.2.2.2.2.1, by rw [k19.1 _ (by rw [hr14.1]; decide)]; exact hr14.1, h19.2.2.2.2.2.2.2, rfl⟩
      have g19 : gcl G19 rv9 = 2 := by rw [k19.1 _ (by rw [g2]; decide)]; exact g2
      have f19 : ∀ c k y, c ≠ 13 → gfd G19 c k y = gfd G1 c k y := fun c k y hc => h19.2.2.1 c k y hc
      have pc19 : PC G19 st = PC G1 st ∧ PS G19 st = PS G1 st := by
        unfold PC PS
        rw [hC19.2.1]
        constructor
        · exact congrArg List.sum (List.map_congr_left fun b hb => by rw [(hC19.2.2 b hb).2])
        · exact congrArg List.sum (List.map_congr_left fun b hb => by rw [(hC19.2.2 b hb).2])
      have hsm : smp1 = zs1.map (·.2) := hS.2.2.2.2.2.1.symm
      have hmm : (zU r zs1).map (·.2.1) = undo r (smp1.map (·.1)) := by
        rw [← undoS_map, hsm, ← zU_map, List.map_map]; rfl
      have hfin : ∀ (K : List Int) (G25 : Gt) (c' s' : Nat), bkQ E G19 G25 st K (zU r zs1) ser dn wr → (∀ y ∈ K, r ≠ 0 ∧ y ∈ zHid r zs1) → PC G25 st ≤ c' → PS G25 st ≤ s' →
          i32 (i + 1) ∧ V E M_X8_tearOff 2 [some (rv st), some (iv m), some (iv (i + 1))] [] G25 c' s' (fun rr G' => rr = (crS (j + 1) (r :: rs1) smp1).1.length ∧ trS E G G' st ser (crS (j + 1) (r :: rs1) smp1).2 (crS (j + 1) (r :: rs1) smp1).1 dn wr cr) X := by
        intro K G25 c' s' ⟨b1, b2, b3, b4, b5⟩ hK hc' hs'
        refine ⟨i32s (by omega), ih (i + 1) G25 rs1 (undoS r smp1) c' s' (by omega) (by omega) (by rw [undoS_map]; exact hSI) (by omega) ⟨b1, (hO1.trans h19.onw).trans b2, ?_, b5.trans (hC19.2.1.trans hN), zU r zs1, ?_⟩ hc' hs'⟩
        · refine (hF.andThen k19 (fun _ _ _ _ h9 => h9.elim) (fun y _ h9 => Or.inl (by rw [h9, e81])) (fun _ _ h9 => h9)).andThen b3 (fun c k y _ h9 => ⟨h9.1, h9.2.1⟩) (fun y _ h9 => ?_) (fun _ _ h9 => h9)
          obtain ⟨b, hb, h8⟩ := h9
          rw [hC19.2.1, hN] at hb
          exact Or.inr ⟨b, hb, by rw [h8, f19 7 1 b (by decide)]; exact hF.2.1 7 1 b (by decide) (by rw [(hb8 b hb).1]; decide) (fun h9 => by omega)⟩
        · have hnl : ¬ ∃ b ∈ numL G19 st, gfd G19 8 1 st = gfd G19 7 1 b := fun ⟨b, hb, h8⟩ => by
            rw [rec19.2.2.2.2, f19 7 1 b (by decide)] at h8
            rw [hC19.2.1] at hb
            exact nw b hb h8.symm
          have c19 := rec19.2.2.1
          have k25 := b3.2.2.1 _ rec19.2.2.1 rec19.2.2.2.1
          have e25 : gfd G25 8 1 st = gfd G19 8 1 st := b3.2.1 8 1 st (by decide) (by rw [hC19.1.1]; decide) (fun h9 => by omega)
          rw [zU_map, ← hsm] at b4
          refine b4.all (by rw [e25]; exact ⟨by rw [b3.1 _ (by omega)]; exact c19, k25.1⟩) (by rw [e25, (k25.2 hnl).2]; exact rec19.2.1) ?_
          rw [e25, (k25.2 hnl).1, rec19.1, List.reverse_reverse]
          refine r2.fr (fun g' hg' h2 => ?_) (fun z hz hq => ?_)
          · have h219 : gcl G19 g' = 2 := by rw [k19.1 g' (by omega)]; exact h2
            refine ⟨by rw [b3.1 _ (by omega)]; exact h219, ?_, ?_⟩
            · rw [b3.2.1 1 0 g' (by decide) (by omega) (fun h9 => by omega), f19 1 0 g' (by decide)]
            · rw [b3.2.1 1 1 g' (by decide) (by omega) (fun h9 => by omega), f19 1 1 g' (by decide)]
          · obtain ⟨y, hy, y1, y3⟩ := zU_hid hz hq
            have hy6 := (hS.2.2.2.2.2.2.2.1 y hy).1
            rw [← y1, b3.2.1 5 5 y.1 (by decide) (by rw [k19.1 _ (by rw [hy6]; decide), hy6]; decide) (fun h9 => ?_), f19 5 5 _ (by decide)]
            obtain ⟨hr0, h8⟩ := hK _ h9.2.2
            obtain ⟨w, w1, w2, w3⟩ := zHid_mem.mp h8
            have := zuniq hS.2.2.2.2.2.2.1 w1 hy w2
            subst this
            unfold zU at hz
            rw [if_neg hr0] at hz
            obtain ⟨u, hu, hue⟩ := List.mem_map.mp hz
            have hu1 := congrArg Prod.fst hue
            have hu1 : u.1 = z.1 := hu1
            have := zuniq hS.2.2.2.2.2.2.1 hu w1 (hu1.trans y1.symm)
            subst this
            refine hq ?_
            rw [← hue]
            exact qH_unh.mpr (Or.inl w3)
      refine ⟨Or.inr g19, by rw [k19.1 st (by rw [hS.1]; decide)]; exact hS.1, ?_⟩
      by_cases hr0 : r = 0
      · obtain ⟨q1, z0, z, q2, q3⟩ := r0 hr0
        have hq0 : qH z.2.1 = 0 := by
          obtain ⟨s0, q, h1, h2⟩ := hi1.2.2.2.2.1.2.1 hr0
          rw [← zs_map (zs := zs1) hsm.symm, q2, List.map_append] at h1
          have := (List.append_inj' h1 rfl).2
          have e5 : z.2.1 = q := List.head_eq_of_cons_eq (show [z.2.1] = [q] from this)
          rw [e5]; exact h2
        have hCz := hC19.1
        rw [q2] at hCz
        have hz0 : zU r zs1 = z0 := by unfold zU; rw [if_pos hr0, q2, List.dropLast_concat]
        refine Call.to (ok_back0 h19.1 hOw19 hCz hi1.sc g19 ⟨by rw [f19 1 1 _ (by decide)]; exact q1, by rw [f19 1 0 _ (by decide)]; exact q3⟩ hq0) (Nat.zero_le _) (Nat.zero_le _) fun _ G25 h25 => hfin [] G25 _ _ (by rw [hz0]; exact h25.1) (fun y hy => (List.not_mem_nil hy).elim) ?_ ?_
        · have : PC G25 st = PC G19 st := by
            unfold PC
            rw [h25.1.2.2.2.2]
            exact congrArg List.sum (List.map_congr_left fun b hb => by rw [h25.2 b hb])
          omega
        · have : PS G25 st = PS G19 st := by
            unfold PS
            rw [h25.1.2.2.2.2]
            exact congrArg List.sum (List.map_congr_left fun b hb => by rw [h25.2 b hb])
          omega
      · obtain ⟨q1, ks, q2, q3⟩ := r1 hr0
        have hch : chn G19 (gfd G19 1 0 rv9) ks := by
          rw [f19 1 0 _ (by decide)]
          exact q3.fr (fun k _ => f19 5 5 k (by decide))
        have hpre := rk_le hC19.1 hi1.sc.1 hr0 (by rw [hmm]; exact hSI.sc) q2
        refine Call.to (ok_back1 h19.1 hOw19 hC19.1 hr0 (by rw [hmm]; exact hSI.sc) q2 g19 (by rw [f19 1 1 _ (by decide)]; exact q1) hch) (by omega) (by omega) fun _ G25 h25 => hfin ks G25 _ _ h25.1 (fun y hy => ⟨hr0, q2.mem_iff.mp hy⟩) (by omega) (by omega)
theorem ok_tearOff {m : Int} (hL : LW E G) (hO : OW G) (h : StH G st zs ser smp rs dn wr cr) (hm : 0 ≤ m ∧ m ≤ 1000) (hi : SI ser (smp.map (·.1)) rs er) (hlr : rs.length ≤ 1000000) :
    Ok E M_X8_tearOff [rv st, iv m] G (PC G st) (PS G st) (fun rr G' => rr = (crS m.toNat rs smp).1.length ∧ trS E G G' st ser (crS m.toNat rs smp).2 (crS m.toNat rs smp).1 dn wr cr) (fun _ _ => False) :=
  i_X8_tearOff (v_tearOff hO h hm.2 m.toNat 0 G rs smp _ _ (Int.le_refl 0) (by omega) hi hlr ⟨hL, ONW.refl G, FR.refl G, rfl, zs, h⟩ (Nat.le_refl _) (Nat.le_refl _))
end S56
