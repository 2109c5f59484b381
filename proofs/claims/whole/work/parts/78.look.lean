/-! an alert looks: its contract; the rest of the rules -/
section S78
variable {E : EE} {G G' G2 G0 : Gt} {Q X : Int → Gt → Prop} {a r q l u v n m x fl ru now st kp wt9 : Int} {R : List (Int × Int)} {es es0 : List En} {c s : Nat} {o : Option Rw}
def lookA (now kp : Int) (o : Option Rw) (es : List En) : List En := es.filterMap (lkA1 now kp (fun c => anyR o && (labR o).any (fun y => decide (y.1 = c))))
/-- how many entries are new -/
def lookN (now kp : Int) (o : Option Rw) (es : List En) : Nat := if anyR o = true then (lkB now (lookA now kp o es) (labR o)).length - (lookA now kp o es).length else 0
theorem lookS_eq (h : anyR o = true) : lookS now wt9 kp o es = (lkB now (lookA now kp o es) (labR o)).map (fireE now wt9) := by
  unfold lookS lookA
  rw [if_pos h]
  congr 2
  congr 1
  funext e
  rw [h]; rfl
theorem lookS_eq0 (h : anyR o = false) : lookS now wt9 kp o es = (lookA now kp o es).map (fireE now wt9) := by
  unfold lookS lookA
  rw [if_neg (by rw [h]; decide)]
  congr 1
  congr 1
  funext e
  rw [h]; rfl
theorem ok_look (hL : LW E G) (hO : OW G) (h5 : gcl G ru = 5) (h44 : gfd G 4 4 ru = fl) (hF : FnH G fl es0) (hnow : 0 ≤ now ∧ now ≤ 100000) (hw : gfd G 4 2 ru = wt9) (hk : gfd G 4 3 ru = kp) (hkp : 0 ≤ kp) (hr : (r = -1 ∧ o = none) ∨ (r ≠ -1 ∧ ∃ n R, o = some (n, R) ∧ RowH G r n R ∧ RV n R)) (hok : ∀ e ∈ es0, enOk e) (hasc : ascE es0) (hlen : es0.length ≤ 400) :
    Ok E M_X4_look [rv ru, rv r, iv now] G (lookN now kp o es0 + grC (lookN now kp o es0) (capOf G fl) (lookA now kp o es0).length) (5 * lookN now kp o es0 + grS (lookN now kp o es0) (capOf G fl) (lookA now kp o es0).length)
      (fun _ G' => LkS E G G' ru fl (lookS now wt9 kp o es0) ∧ capOf G' fl = capN (lookN now kp o es0) (capOf G fl) (lookA now kp o es0).length) (fun _ _ => False) := by
  have hS : LkS E G G ru fl es0 := ⟨hL, ONW.refl G, FR.refl G, h5, h44, hF, fun y hy => Or.inl hy⟩
  have hsz : gfd G 13 2 fl = es0.length := by rw [hL.size hF.1 hF.2.1, hF.2.2.1]
  have go : ∀ (b : Int) (n : Int) (R : List (Int × Int)) (c s : Nat), (b = 0 ∧ anyR o = false) ∨ (b = 1 ∧ anyR o = true ∧ labR o = R ∧ RowH G r n R ∧ RV n R) → lookN now kp o es0 + grC (lookN now kp o es0) (capOf G fl) (lookA now kp o es0).length ≤ c → 5 * lookN now kp o es0 + grS (lookN now kp o es0) (capOf G fl) (lookA now kp o es0).length ≤ s →
      gcl G ru = 5 ∧ gcl G (gfd G 4 4 ru) = 14 ∧ OkP E M_A_size [rv (gfd G 4 4 ru)] G (gfd G 13 2 (gfd G 4 4 ru)) ∧ i32 ((gfd G 13 2 (gfd G 4 4 ru)) - 1) ∧ V E M_X4_look 37 [some (rv ru), some (rv r), some (iv now), some (iv b), some (iv ((gfd G 13 2 (gfd G 4 4 ru)) - 1)), none] [] G c s (fun _ G' => LkS E G G' ru fl (lookS now wt9 kp o es0) ∧ capOf G' fl = capN (lookN now kp o es0) (capOf G fl) (lookA now kp o es0).length) (fun _ _ => False) := by
    intro b n R c s hb hc hs
    rw [h44, hsz]
    refine ⟨h5, hF.1, by have := okp_size (E := E) hF.1; rw [hsz] at this; exact this, i32s (by omega), ?_⟩
    rcases hb with ⟨hb, ha⟩ | ⟨hb, ha, hl, hrow, hrv⟩
    · have := v_look (E := E) (X := fun _ _ => False) (c := c) (s := s) (n := n) (R := R) (r := r) (b := b) (P := fun c => anyR o && (labR o).any (fun y => decide (y.1 = c))) (esA := lookA now kp o es0) (kn := lookN now kp o es0) (C0 := capOf G fl) hO ⟨hF.1, hF.2.1⟩ hnow hw hk h5 hkp (Or.inl hb) (fun h9 => (h9 hb).elim) hok hasc hlen (fun _ c => by rw [ha]; rfl) (fun h9 => (h9 hb).elim) rfl (by unfold lookN; rw [if_neg (by rw [ha]; decide), if_pos hb]) hc hs es0.length G (Nat.le_refl _) (by rw [List.take_length, List.drop_length]; simpa using hS) (fun h9 => (h9 hb).elim) rfl
      rw [if_pos hb, ← lookS_eq0 ha] at this
      exact this
    · have hb0 : ¬ b = 0 := by omega
      have := v_look (E := E) (X := fun _ _ => False) (c := c) (s := s) (n := n) (R := R) (r := r) (b := b) (P := fun c => anyR o && (labR o).any (fun y => decide (y.1 = c))) (esA := lookA now kp o es0) (kn := lookN now kp o es0) (C0 := capOf G fl) hO ⟨hF.1, hF.2.1⟩ hnow hw hk h5 hkp (Or.inr hb) (fun _ => hrv) hok hasc hlen (fun h9 => (hb0 h9).elim) (fun _ c => by rw [ha, hl]; rfl) rfl (by unfold lookN; rw [if_pos ha, if_neg hb0, hl]) hc hs es0.length G (Nat.le_refl _) (by rw [List.take_length, List.drop_length]; simpa using hS) (fun _ => hrow) rfl
      rw [if_neg hb0, ← hl, ← lookS_eq ha] at this
      exact this
  refine i_X4_look ⟨fun hr1 => ?_, fun hr0 => ?_⟩
  · rcases hr with ⟨-, ho⟩ | ⟨h9, -⟩
    · exact go 0 0 [] _ _ (Or.inl ⟨rfl, by rw [ho]; rfl⟩) (Nat.le_refl _) (Nat.le_refl _)
    · exact (h9 hr1).elim
  · rcases hr with ⟨h9, -⟩ | ⟨-, n, R, ho, hrow, hrv⟩
    · omega
    · have hlab : labR o = R := by rw [ho]; rfl
      refine ⟨hrow.1.1, fun J hJ => ⟨fun hn => hJ _ _ _ ?_, fun hn => ⟨hrow.1.1, Call.pure (hrow.single hrv) ?_⟩⟩⟩
      · rw [hrow.2.1] at hn
        exact go 1 n R _ _ (Or.inr ⟨rfl, by rw [ho]; show (decide (n = 0) || decide (0 < (R.getD 0 (0, 0)).2)) = true; rw [decide_eq_true hn]; rfl, hlab, hrow, hrv⟩) (Nat.le_refl _) (Nat.le_refl _)
      · rw [hrow.2.1] at hn
        rw [if_neg hn]
        by_cases hv : (R.getD 0 (0, 0)).2 ≤ 0
        · rw [if_pos hv]
          exact go 0 n R _ _ (Or.inl ⟨rfl, by rw [ho]; show (decide (n = 0) || decide (0 < (R.getD 0 (0, 0)).2)) = false; rw [decide_eq_false hn, decide_eq_false (Int.not_lt.mpr hv)]; rfl⟩) (Nat.le_refl _) (Nat.le_refl _)
        · rw [if_neg hv]
          exact go 1 n R _ _ (Or.inr ⟨rfl, by rw [ho]; show (decide (n = 0) || decide (0 < (R.getD 0 (0, 0)).2)) = true; rw [decide_eq_true (show 0 < (R.getD 0 (0, 0)).2 by omega), Bool.or_true], hlab, hrow, hrv⟩) (Nat.le_refl _) (Nat.le_refl _)
end S78
