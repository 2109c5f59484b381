/-! quantiles: the groups -/
section S68
variable {E : EE} {G G' G2 G0 : Gt} {c s : Nat} {Q X : Int → Gt → Prop} {a r q l u v n m p sp w k set fr wd g sh : Int} {W : Nat → Nat → Int → Prop} {L A : Int → Prop} {R T : List (Int × Int)}
def ten (y z : Int × Int) : Bool := decide (Int.tdiv z.1 10 = Int.tdiv y.1 10)
def not6 (y : Int × Int) : Bool := decide (Int.tmod y.1 10 ≠ 6)
def optL (l : Int) (o : Option Int) : List (Int × Int) := match o with
  | none => []
  | some w => [(l, w)]
def qtN (sh : Int) : Nat → List (Int × Int) → List (Int × Int)
  | 0, _ => []
  | _ + 1, [] => []
  | n + 1, y :: R => optL (Int.tdiv y.1 10 * 10 + 6) (qtV sh (((y :: R).takeWhile (ten y)).filter not6)) ++ qtN sh n ((y :: R).dropWhile (ten y))
theorem takeWhile_seg {P : Int × Int → Bool} : ∀ {R : List (Int × Int)} {k : Nat}, k ≤ R.length → (∀ i, i < k → P (R.getD i (0, 0)) = true) → (k < R.length → P (R.getD k (0, 0)) = false) → R.takeWhile P = R.take k ∧ R.dropWhile P = R.drop k
  | [], k, _, _, _ => by simp
  | y :: R, 0, _, _, h2 => by
    have := h2 (Nat.succ_pos _)
    have hy : P y = false := this
    rw [List.takeWhile_cons, List.dropWhile_cons, hy]
    exact ⟨rfl, rfl⟩
  | y :: R, k + 1, hk, h1, h2 => by
    have hy : P y = true := h1 0 (Nat.succ_pos k)
    rw [List.takeWhile_cons, List.dropWhile_cons, hy]
    have := takeWhile_seg (R := R) (k := k) (by simpa using hk) (fun i hi => h1 (i + 1) (by omega)) (fun h => h2 (by simpa using h))
    exact ⟨by rw [if_pos rfl, this.1]; rfl, by rw [if_pos rfl, this.2]; rfl⟩
theorem asc_lt2 (h : ascL R) {i j : Nat} (hij : i < j) (hj : j < R.length) : (R.getD i (0, 0)).1 < (R.getD j (0, 0)).1 := by
  rw [List.getD_eq_getElem?_getD, List.getD_eq_getElem?_getD, List.getElem?_eq_getElem (show i < R.length by omega), List.getElem?_eq_getElem hj]
  exact List.pairwise_iff_getElem.mp h i j (by omega) hj hij
theorem drop_getD2 {b i : Nat} : (R.drop b).getD i (0, 0) = R.getD (b + i) (0, 0) := by
  rw [List.getD_eq_getElem?_getD, List.getElem?_drop, ← List.getD_eq_getElem?_getD]
/-- a group without the one that has no label 2 -/
theorem group6 (hR : RV n R) {b e : Nat} (hbe : b < e) (he : e ≤ R.length) (hg : ∀ i, b ≤ i → i < e → Int.tdiv (R.getD i (0, 0)).1 10 = Int.tdiv (R.getD b (0, 0)).1 10) :
    ((R.drop b).take (e - b)).filter not6 = (R.drop b).take ((if Int.tmod (R.getD (e - 1) (0, 0)).1 10 = 6 then e - 1 else e) - b) := by
  have hlo : ∀ i, b ≤ i → i < e - 1 → not6 (R.getD i (0, 0)) = true := fun i h1 h2 => by
    have hl := asc_lt2 hR.2.1 (i := i) (j := e - 1) (by omega) (by omega)
    have g1 := hg i h1 (by omega)
    have g2 := hg (e - 1) (by omega) (by omega)
    have c1 := (hR.at (show i < R.length by omega)).1
    have c2 := (hR.at (show e - 1 < R.length by omega)).1
    unfold cOk at c1 c2
    refine decide_eq_true ?_
    rw [Int.tdiv_eq_ediv_of_nonneg c1.1] at g1
    rw [Int.tdiv_eq_ediv_of_nonneg c2.1] at g2
    have m1 := Int.tmod_eq_emod_of_nonneg (b := 10) c1.1
    have m2 := Int.tmod_eq_emod_of_nonneg (b := 10) c2.1
    rw [m1]
    have c2' := c2.2.2.2
    rw [m2] at c2'
    omega
  have hsplit : (R.drop b).take (e - b) = (R.drop b).take (e - 1 - b) ++ [R.getD (e - 1) (0, 0)] := by
    rw [show e - b = (e - 1 - b) + 1 by omega, takeS (d := ((0, 0) : Int × Int)) (by rw [List.length_drop]; omega), drop_getD2, show b + (e - 1 - b) = e - 1 by omega]
  have hall : ((R.drop b).take (e - 1 - b)).filter not6 = (R.drop b).take (e - 1 - b) := by
    refine List.filter_eq_self.mpr fun y hy => ?_
    obtain ⟨i, hi⟩ := List.getElem?_of_mem hy
    have h1 : i < e - 1 - b := by
      by_cases h9 : i < e - 1 - b
      · exact h9
      · rw [List.getElem?_take, if_neg h9] at hi; cases hi
    rw [List.getElem?_take, if_pos h1, List.getElem?_drop] at hi
    have : R.getD (b + i) (0, 0) = y := by rw [List.getD_eq_getElem?_getD, hi]; rfl
    rw [← this]
    exact hlo (b + i) (by omega) (by omega)
  rw [hsplit, List.filter_append, hall]
  by_cases h6 : Int.tmod (R.getD (e - 1) (0, 0)).1 10 = 6
  · rw [if_pos h6, List.filter_cons_of_neg (by unfold not6; simpa using h6)]
    exact List.append_nil _
  · rw [if_neg h6, List.filter_cons_of_pos (by unfold not6; exact decide_eq_true h6), hsplit]; rfl
theorem QtS.ru (h : QtS E G0 G p sp fr n R) (hO : OW G0) (h4 : gcl G0 sp = 4) (hs : RSh G sp) (hfr : fr ≠ sp) (hru : RU G G' sp) : QtS E G0 G' p sp fr n R := by
  obtain ⟨h1, h2, h3, h5⟩ := h
  have hO1 : OW G := hO.go h1.2.1
  have hf := spF.ru (spF.refl h1.1) hs (hs.1) hru
  exact ⟨h1.ru hs h4 hru, by rw [hru.1]; exact h2, by rw [hru.2.1 2 2 p (by omega)]; exact h3, hf.row hO1 hs.1 h5 hfr⟩
theorem v_quants (hO : OW G0) (h4 : gcl G0 sp = 4) (hfr : fr ≠ sp) (hR : RV n R) (hsh : 0 ≤ sh ∧ sh ≤ 1000) : ∀ (j b : Nat) (G : Gt) (T : List (Int × Int)), R.length ≤ b + j → b ≤ R.length → QtS E G0 G p sp fr n R → RowH G sp 0 T → ascL T → T.length ≤ b → (b < R.length → ∀ y ∈ T, y.1 < Int.tdiv (R.getD b (0, 0)).1 10 * 10 + 6) →
    V E M_X2_takeQuantiles 9 [some (rv p), some (rv fr), some (iv sh), some (iv (b : Int)), none, none] [] G c s (fun _ G' => spF E G0 G' sp ∧ RowH G' sp 0 (if n = 0 then T ++ qtN sh j (R.drop b) else T) ∧ ascL (if n = 0 then T ++ qtN sh j (R.drop b) else T)) X := by
  have h12 := hR.1
  intro j
  induction j with
  | zero =>
    intro b G T hbj hb hj hs hT hTl hTk
    obtain ⟨h1, h2, h3, h5⟩ := hj
    have hl := h5.len
    refine b_X2_takeQuantiles_9 ⟨h5.1.1, fun _ => ⟨h1, ?_⟩, fun h9 => by unfold rN at hl; omega⟩
    have e : (if n = 0 then T ++ qtN sh 0 (R.drop b) else T) = T := by
      split
      · exact List.append_nil T
      · rfl
    rw [e]; exact ⟨hs, hT⟩
  | succ j ih =>
    intro b G T hbj hb hj hs hT hTl hTk
    have hj0 := hj
    obtain ⟨h1, h2, h3, h5⟩ := hj
    have hl := h5.len
    have eR : gfd G 3 2 fr = R.length := hl.symm
    by_cases hbl : R.length ≤ b
    · refine b_X2_takeQuantiles_9 ⟨h5.1.1, fun _ => ⟨h1, ?_⟩, fun h9 => by omega⟩
      have e : (if n = 0 then T ++ qtN sh (j + 1) (R.drop b) else T) = T := by
        rw [List.drop_eq_nil_of_le hbl]
        split
        · exact List.append_nil T
        · rfl
      rw [e]; exact ⟨hs, hT⟩
    · have hblt : b < R.length := by omega
      have hcb := (hR.at hblt).1
      unfold cOk at hcb
      have hgb : Int.tdiv (R.getD b (0, 0)).1 10 = (R.getD b (0, 0)).1 / 10 := Int.tdiv_eq_ediv_of_nonneg hcb.1
      have inner : ∀ (j2 e : Nat), e + j2 = R.length → b < e → (∀ i, b ≤ i → i < e → Int.tdiv (R.getD i (0, 0)).1 10 = Int.tdiv (R.getD b (0, 0)).1 10) →
          V E M_X2_takeQuantiles 22 [some (rv p), some (rv fr), some (iv sh), some (iv (b : Int)), some (iv (e : Int)), none] [] G c s (fun _ G' => spF E G0 G' sp ∧ RowH G' sp 0 (if n = 0 then T ++ qtN sh (j + 1) (R.drop b) else T) ∧ ascL (if n = 0 then T ++ qtN sh (j + 1) (R.drop b) else T)) X := by
        have exitJ : ∀ e : Nat, e ≤ R.length → b < e → (∀ i, b ≤ i → i < e → Int.tdiv (R.getD i (0, 0)).1 10 = Int.tdiv (R.getD b (0, 0)).1 10) → (e < R.length → Int.tdiv (R.getD e (0, 0)).1 10 ≠ Int.tdiv (R.getD b (0, 0)).1 10) →
            (gcl G fr = 4 ∧ i32 ((e : Int) - 1) ∧ gcl G (gfd G 3 0 fr) = 15 ∧ 0 ≤ ((e : Int) - 1) ∧ ((e : Int) - 1) < gln G (gfd G 3 0 fr) ∧ ((Int.tmod (gel G (gfd G 3 0 fr) ((e : Int) - 1)) 10) = 6 → i32 ((e : Int) - 1)) ∧ gcl G fr = 4 ∧ (((gfd G 3 3 fr) ≠ 0 → V E M_X2_takeQuantiles 9 [some (rv p), some (rv fr), some (iv sh), some (iv (e : Int)), none, none] [] G c s (fun _ G' => spF E G0 G' sp ∧ RowH G' sp 0 (if n = 0 then T ++ qtN sh (j + 1) (R.drop b) else T) ∧ ascL (if n = 0 then T ++ qtN sh (j + 1) (R.drop b) else T)) X) ∧ ((gfd G 3 3 fr) = 0 → (gcl G p = 3 ∧ Call E M_X2_takeQuantile [rv p, rv fr, iv (b : Int), iv (if (Int.tmod (gel G (gfd G 3 0 fr) ((e : Int) - 1)) 10) = 6 then (((e : Int) - 1) : Int) else (e : Int)), iv sh] G c s X (fun _ G14 c15 s16 => V E M_X2_takeQuantiles 9 [some (rv p), some (rv fr), some (iv sh), some (iv (e : Int)), none, none] [] G14 c15 s16 (fun _ G' => spF E G0 G' sp ∧ RowH G' sp 0 (if n = 0 then T ++ qtN sh (j + 1) (R.drop b) else T) ∧ ascL (if n = 0 then T ++ qtN sh (j + 1) (R.drop b) else T)) X))))) := by
          intro e he hbe hg hgn
          obtain ⟨k1, k2, k3, k4, k5⟩ := h5.elt (show e - 1 < R.length by omega)
          have ek : ((e - 1 : Nat) : Int) = (e : Int) - 1 := by omega
          rw [ek] at k1 k4
          have hnext : ∀ T2 : List (Int × Int), (∀ y ∈ T2, y ∈ T ∨ y.1 = Int.tdiv (R.getD b (0, 0)).1 10 * 10 + 6) → e < R.length → ∀ y ∈ T2, y.1 < Int.tdiv (R.getD e (0, 0)).1 10 * 10 + 6 := fun T2 hT2 heR y hy => by
            have hlt := asc_lt2 hR.2.1 hbe heR
            have hce := (hR.at heR).1
            unfold cOk at hce
            have hge : Int.tdiv (R.getD e (0, 0)).1 10 = (R.getD e (0, 0)).1 / 10 := Int.tdiv_eq_ediv_of_nonneg hce.1
            have hne := hgn heR
            rw [hge, hgb] at hne
            rw [hge]
            rcases hT2 y hy with h9 | h9
            · have := hTk hblt y h9
              rw [hgb] at this
              omega
            · rw [h9, hgb]; omega
          refine ⟨h5.1.1, i32s (by omega), h5.1.2.1.1, by omega, k4, fun _ => i32s (by omega), h5.1.1, fun h0 => ?_, fun h0 => ⟨h2, ?_⟩⟩
          · rw [h5.2.1] at h0
            have := ih e G T (by omega) he hj0 hs hT (by omega) (hnext T (fun y hy => Or.inl hy))
            rw [if_neg h0] at this ⊢
            exact this
          · rw [h5.2.1] at h0
            rw [k1]
            have hsel : (if Int.tmod (R.getD (e - 1) (0, 0)).1 10 = 6 then (((e : Int) - 1) : Int) else (e : Int)) = ((if Int.tmod (R.getD (e - 1) (0, 0)).1 10 = 6 then e - 1 else e : Nat) : Int) := by split <;> omega
            rw [hsel]
            have hgrp := group6 hR hbe he hg
            generalize he2 : (if Int.tmod (R.getD (e - 1) (0, 0)).1 10 = 6 then e - 1 else e : Nat) = e2 at hgrp
            have he2' : b ≤ e2 ∧ e2 ≤ R.length := by rw [← he2]; split <;> omega
            refine Call.to (ok_takeQuantile h2 h3 hs hT (by omega) h5 hR he2'.1 he2'.2 hblt hsh) (Nat.zero_le _) (Nat.zero_le _) fun _ G3 hq => ?_
            rw [← hgrp] at hq
            have hTkb := hTk hblt
            have hput : putO (Int.tdiv (R.getD b (0, 0)).1 10 * 10 + 6) (qtV sh (((R.drop b).take (e - b)).filter not6)) T = T ++ optL (Int.tdiv (R.getD b (0, 0)).1 10 * 10 + 6) (qtV sh (((R.drop b).take (e - b)).filter not6)) := by
              cases qtV sh (((R.drop b).take (e - b)).filter not6) with
              | none => exact (List.append_nil T).symm
              | some w => exact putL_end hTkb
            rw [hput] at hq
            have hmem : ∀ y ∈ T ++ optL (Int.tdiv (R.getD b (0, 0)).1 10 * 10 + 6) (qtV sh (((R.drop b).take (e - b)).filter not6)), y ∈ T ∨ y.1 = Int.tdiv (R.getD b (0, 0)).1 10 * 10 + 6 := fun y hy => by
              rcases List.mem_append.mp hy with h9 | h9
              · exact Or.inl h9
              · cases ho : qtV sh (((R.drop b).take (e - b)).filter not6) with
                | none => rw [ho] at h9; exact (List.not_mem_nil h9).elim
                | some w => rw [ho] at h9; rw [List.mem_singleton.mp h9]; exact Or.inr rfl
            have hasc : ascL (T ++ optL (Int.tdiv (R.getD b (0, 0)).1 10 * 10 + 6) (qtV sh (((R.drop b).take (e - b)).filter not6))) := by
              cases ho : qtV sh (((R.drop b).take (e - b)).filter not6) with
              | none => show ascL (T ++ []); rw [List.append_nil]; exact hT
              | some w => exact List.pairwise_append.mpr ⟨hT, List.pairwise_singleton _ _, fun y hy z hz => by rw [List.mem_singleton.mp hz]; exact hTkb y hy⟩
            have hlen : (T ++ optL (Int.tdiv (R.getD b (0, 0)).1 10 * 10 + 6) (qtV sh (((R.drop b).take (e - b)).filter not6))).length ≤ e := by
              rw [List.length_append]
              cases ho : qtV sh (((R.drop b).take (e - b)).filter not6) with
              | none => show T.length + 0 ≤ e; omega
              | some w => show T.length + 1 ≤ e; omega
            have := ih e G3 _ (by omega) he (hj0.ru hO h4 hs.1 hfr hq.1) hq.2 hasc hlen (hnext _ hmem)
            rw [if_pos h0] at this ⊢
            have hdr : R.drop b = R.getD b (0, 0) :: R.drop (b + 1) := by
              rw [List.drop_eq_getElem_cons hblt, List.getD_eq_getElem?_getD, List.getElem?_eq_getElem hblt]; rfl
            have hws := takeWhile_seg (P := ten (R.getD b (0, 0))) (R := R.drop b) (k := e - b) (by rw [List.length_drop]; omega) (fun i hi => by
              rw [drop_getD2]; exact decide_eq_true (hg (b + i) (by omega) (by omega))) (fun hi => by
              rw [List.length_drop] at hi
              rw [drop_getD2, show b + (e - b) = e by omega]
              exact decide_eq_false (hgn (by omega)))
            have hqn : qtN sh (j + 1) (R.drop b) = optL (Int.tdiv (R.getD b (0, 0)).1 10 * 10 + 6) (qtV sh (((R.drop b).take (e - b)).filter not6)) ++ qtN sh j (R.drop e) := by
              conv => lhs; rw [hdr]
              show optL (Int.tdiv (R.getD b (0, 0)).1 10 * 10 + 6) (qtV sh (((R.getD b (0, 0) :: R.drop (b + 1)).takeWhile (ten (R.getD b (0, 0)))).filter not6)) ++ qtN sh j ((R.getD b (0, 0) :: R.drop (b + 1)).dropWhile (ten (R.getD b (0, 0)))) = _
              rw [← hdr, hws.1, hws.2, List.drop_drop, show b + (e - b) = e by omega]
            rw [hqn, ← List.append_assoc]
            exact this
        intro j2
        induction j2 with
        | zero =>
          intro e hej hbe hg
          refine b_X2_takeQuantiles_22 ⟨h5.1.1, fun J hJ => ⟨fun _ => hJ (exitJ e (by omega) hbe hg (fun h9 => by omega)), fun h9 => by omega⟩⟩
        | succ j2 ih2 =>
          intro e hej hbe hg
          obtain ⟨k1, k2, k3, k4, k5⟩ := h5.elt (show e < R.length by omega)
          obtain ⟨m1, m2, m3, m4, m5⟩ := h5.elt hblt
          refine b_X2_takeQuantiles_22 ⟨h5.1.1, fun J hJ => ⟨fun h9 => by omega, fun _ => ⟨h5.1.1, h5.1.2.1.1, by omega, k4, h5.1.1, h5.1.2.1.1, by omega, m4, ?_⟩⟩⟩
          rw [k1, m1]
          refine ⟨fun h9 => hJ (exitJ e (by omega) hbe hg (fun _ => h9)), fun h9 => ⟨i32s (by omega), ?_⟩⟩
          have := ih2 (e + 1) (by omega) (by omega) (fun i h7 h8 => by
            by_cases h6 : i = e
            · rw [h6]; exact h9
            · exact hg i h7 (by omega))
          rw [show ((e + 1 : Nat) : Int) = (e : Int) + 1 by omega] at this
          exact this
      refine b_X2_takeQuantiles_9 ⟨h5.1.1, fun h9 => by omega, fun _ => ⟨i32s (by omega), ?_⟩⟩
      have := inner (R.length - (b + 1)) (b + 1) (by omega) (by omega) (fun i h7 h8 => by rw [show i = b by omega])
      rw [show ((b + 1 : Nat) : Int) = (b : Int) + 1 by omega] at this
      exact this
theorem ok_takeQuantiles (hL : LW E G) (hO : OW G) (hp : gcl G p = 3) (hsp : gfd G 2 2 p = sp) (hs : ∃ n' R', RowH G sp n' R') (hfr : fr ≠ sp) (h5 : RowH G fr n R) (hR : RV n R) (hsh : 0 ≤ sh ∧ sh ≤ 1000) :
    Ok E M_X2_takeQuantiles [rv p, rv fr, iv sh] G 0 0 (fun _ G' => spF E G G' sp ∧ RowH G' sp 0 (if n = 0 then qtN sh R.length R else []) ∧ ascL (if n = 0 then qtN sh R.length R else [])) (fun _ _ => False) := by
  obtain ⟨n', R', hs⟩ := hs
  have h4 := hs.1.1
  refine i_X2_takeQuantiles ?_
  rw [hsp]
  refine ⟨hp, h4, Call.to (ok_vec hs) (Nat.le_refl _) (Nat.le_refl _) fun _ G1 hq => ?_⟩
  have hj : QtS E G G1 p sp fr n R := QtS.ru ⟨spF.refl hL, hp, hsp, h5⟩ hO h4 hs.1 hfr hq.1
  have := v_quants (E := E) (c := 0 - 0) (s := 0 - 0) (X := fun _ _ => False) hO h4 hfr hR hsh R.length 0 G1 [] (by omega) (Nat.zero_le _) hj hq.2 List.Pairwise.nil (Nat.le_refl _) (fun _ y hy => (List.not_mem_nil hy).elim)
  rw [List.drop_zero, List.nil_append] at this
  exact this
end S68
