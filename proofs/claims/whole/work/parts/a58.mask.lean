/-! the model is asked -/
section Sa58
variable {E : EE} {G G' G2 G0 : Gt} {c s : Nat} {Q X : Int → Gt → Prop} {m ml mr n t : Int} {k j i : Nat} {d : DS} {R : List (Int × Int)} {S : List Rw} {p : Rw}
/-- a number's labels -/
theorem RV.lab (h : RV n R) (hj : j < R.length) : (if n = 0 then (R.getD j (0, 0)).1 else 666) = (R.getD j (0, 0)).1 := by
  rcases h.2.2.2 with h9 | ⟨h9, v, h8⟩
  · rw [if_pos h9]
  · rw [if_neg (by omega)]
    rw [h8] at hj ⊢
    have : j = 0 := by have h7 : j < 1 := hj; omega
    rw [this]; rfl
/-- the one result at the pile's foot -/
def Ft (G : Gt) (m n : Int) (R : List (Int × Int)) : Prop := gel G (gfd G 12 29 m) 0 = n ∧ gel G (gfd G 12 30 m) 0 = R.length ∧ ∀ j : Nat, j < R.length → gel G (gfd G 12 31 m) j = (R.getD j (0, 0)).1 ∧ gel G (gfd G 12 32 m) j = (R.getD j (0, 0)).2
theorem PiM.ft (h : PiM G m [p]) : Ft G m p.1 p.2 := by
  have h0 : RowM G m ((0 : Nat) : Int) p := h.2.2 0 (by show 0 < 1; decide)
  refine ⟨h0.1, h0.2.1, fun j hj => ?_⟩
  have := h0.2.2.2 j hj
  rw [show (12 * ((0 : Nat) : Int) + (j : Int)) = j by omega] at this
  exact this
theorem Ft.mt {T : Nat → Prop} (h : Ft G m n R) (k : MT G G' m T) (hT : ¬ T 29 ∧ ¬ T 30 ∧ ¬ T 31 ∧ ¬ T 32) : Ft G' m n R := by
  unfold Ft
  simp only [k.e 29 hT.1, k.e 30 hT.2.1, k.e 31 hT.2.2.1, k.e 32 hT.2.2.2]
  exact h
/-- what the model's run comes to -/
theorem RnQ.res {ws : List Wd} {time : Int} (h : RnQ E G0 G m time d ws) (hok : ∀ w ∈ ws, wOk w) (hr : rlV ws = 1) : (gfd G 12 34 m = 0 ∧ ∃ p : Rw, evA time (dSer d) (smS d) ws = some p ∧ Ft G m p.1 p.2 ∧ RV p.1 p.2) ∨ (gfd G 12 34 m ≠ 0 ∧ evA time (dSer d) (smS d) ws = none) := by
  rcases h.2 with ⟨a1, S, a2, a3, a4⟩ | ⟨a1, a2⟩
  · have hl := evL_len hok a2
    rw [hr] at hl
    have hl1 : S.length = 1 := by have h9 : (S.length : Int) = 0 + 1 := hl; omega
    obtain ⟨p, rfl⟩ := List.length_eq_one_iff.mp hl1
    refine Or.inl ⟨a1, p, ?_, a3.ft, a4 p List.mem_cons_self⟩
    have a2' : evL time (dSer d) (smS d) ws [] = some [p] := a2
    unfold evA
    rw [a2']
  · refine Or.inr ⟨a1, ?_⟩
    have a2' : evL time (dSer d) (smS d) ws [] = none := a2
    unfold evA
    rw [a2']
def akS (E : EE) (G0 G : Gt) (m n : Int) (R : List (Int × Int)) (i : Nat) : Prop :=
  MU E G0 G m (fun k => (29 ≤ k ∧ k ≤ 37) ∨ 49 ≤ k) ∧ gfd G 12 34 m = 0 ∧ gfd G 12 35 m = R.length ∧ Ft G m n R ∧ ∀ j : Nat, j < i → gel G (gfd G 12 36 m) j = (R.getD j (0, 0)).1 ∧ gel G (gfd G 12 37 m) j = (R.getD j (0, 0)).2
theorem v_mask (hV : RV n R) (hQ : ∀ G', akS E G0 G' m n R R.length → Q R.length G') : ∀ (k i : Nat) (G : Gt), i + k = R.length → akS E G0 G m n R i → V E M_X12_ask 70 [some (rv m), none, some (iv (i : Int))] [] G c s Q X := by
  intro k
  induction k with
  | zero =>
    intro i G hi hA
    obtain ⟨hU, h34, h35, hF, hS⟩ := hA
    have hg := hU.1.1
    refine b_X12_ask_70 ⟨hg, fun _ => ⟨hg, fun _ => hg, ?_⟩, fun h9 => by rw [h35] at h9; omega⟩
    rw [if_pos h34, h35]
    exact hQ G ⟨hU, h34, h35, hF, by rw [← hi]; exact hS⟩
  | succ k ih =>
    intro i G hi hA
    obtain ⟨hU, h34, h35, hF, hS⟩ := hA
    have hg := hU.1.1
    have h12 := hV.1
    have hlt : i < R.length := by omega
    have x32 := hU.1.fx 32 16 120
    have x37 := hU.1.fx 37 16 12
    have n1 : gfd G 12 37 m ≠ gfd G 12 29 m := hU.1.ne 37 29
    have n2 : gfd G 12 37 m ≠ gfd G 12 30 m := hU.1.ne 37 30
    have n3 : gfd G 12 37 m ≠ gfd G 12 31 m := hU.1.ne 37 31
    have n4 : gfd G 12 37 m ≠ gfd G 12 32 m := hU.1.ne 37 32
    have n5 : gfd G 12 37 m ≠ gfd G 12 36 m := hU.1.ne 37 36
    have n6 : gfd G 12 36 m ≠ gfd G 12 29 m := hU.1.ne 36 29
    have n7 : gfd G 12 36 m ≠ gfd G 12 30 m := hU.1.ne 36 30
    have n8 : gfd G 12 36 m ≠ gfd G 12 31 m := hU.1.ne 36 31
    have n9 : gfd G 12 36 m ≠ gfd G 12 32 m := hU.1.ne 36 32
    refine b_X12_ask_70 ⟨hg, fun h9 => by rw [h35] at h9; omega, fun _ => ⟨hg, hg, x32.1, by omega, by omega, x37.1, by omega, by omega, fun G14 e14 => ?_⟩⟩
    have k14 : MU E G0 G14 m (fun k => (29 ≤ k ∧ k ≤ 37) ∨ 49 ≤ k) := by rw [e14]; exact hU.mSel (by decide) (by omega)
    have f14 : ∀ k, gfd G14 12 k m = gfd G 12 k m := fun k => by rw [e14]; rfl
    have y29 := k14.1.fx 29 17 10
    have y31 := k14.1.fx 31 15 120
    have y36 := k14.1.fx 36 15 12
    refine ⟨k14.1.1, k14.1.1, y29.1, by omega, fun _ => k14.1.1, fun _ => y31.1, fun _ => by omega, fun _ => by omega, y36.1, by omega, by omega, fun G27 e27 => ⟨i32s' (by omega), ?_⟩⟩
    have k27 : MU E G0 G27 m (fun k => (29 ≤ k ∧ k ≤ 37) ∨ 49 ≤ k) := by rw [e27]; exact k14.mSel (by decide) (by omega)
    have f27 : ∀ k, gfd G27 12 k m = gfd G 12 k m := fun k => by rw [e27]; exact f14 k
    have v29 : gel G14 (gfd G14 12 29 m) 0 = n := by rw [f14, e14, gel_sel, if_neg (fun h9 => n1 h9.1.symm)]; exact hF.1
    have v31 : gel G14 (gfd G14 12 31 m) i = (R.getD i (0, 0)).1 := by rw [f14, e14, gel_sel, if_neg (fun h9 => n3 h9.1.symm)]; exact (hF.2.2 i hlt).1
    rw [v29, v31, hV.lab hlt, f14 36, e14, (hF.2.2 i hlt).2] at e27
    have el : ∀ y i', gel G27 y i' = if y = gfd G 12 36 m ∧ i' = i then (R.getD i (0, 0)).1 else if y = gfd G 12 37 m ∧ i' = i then (R.getD i (0, 0)).2 else gel G y i' := fun y i' => by rw [e27, gel_sel, gel_sel]
    refine ih (i + 1) G27 (by omega) ⟨k27, by rw [f27]; exact h34, by rw [f27]; exact h35, ⟨?_, ?_, fun j hj => ?_⟩, fun j hj => ?_⟩
    · rw [f27, el, if_neg (fun h9 => n6 h9.1.symm), if_neg (fun h9 => n1 h9.1.symm)]; exact hF.1
    · rw [f27, el, if_neg (fun h9 => n7 h9.1.symm), if_neg (fun h9 => n2 h9.1.symm)]; exact hF.2.1
    · rw [f27, f27, el, if_neg (fun h9 => n8 h9.1.symm), if_neg (fun h9 => n3 h9.1.symm), el, if_neg (fun h9 => n9 h9.1.symm), if_neg (fun h9 => n4 h9.1.symm)]; exact hF.2.2 j hj
    · rw [f27, f27, el, el]
      by_cases hji : j = i
      · rw [if_pos ⟨rfl, by omega⟩, if_neg (fun h9 => n5 h9.1), if_pos ⟨rfl, by omega⟩, hji]
        exact ⟨rfl, rfl⟩
      · rw [if_neg (by omega), if_neg (by omega), if_neg (by omega), if_neg (by omega)]
        exact hS j (by omega)
theorem om_ask (h : MH E G m d ml mr) (hi : DI d) (hF : FED d) : Ok E M_X12_ask [rv m, iv t] G c s (MqR E G m (cAsk d t) tA ml mr) (fun _ _ => False) := by
  refine i_X12_ask ⟨okp_in, fun J2 hJ2 => ?_⟩
  have bad : ∀ e : Int, e ≠ 0 → 0 < e → cAsk d t = no e d → J2 e G c s := fun e he hp hb => hJ2 _ _ _ _ ⟨h.k13, fun G8 e8 => by
    obtain ⟨k1, k2⟩ := h.thr e
    rw [← e8] at k1 k2
    refine ⟨k1.1.k13, fun h9 => by omega, fun _ => ?_⟩
    rw [hb]
    exact MqR.nok he k2 k1⟩
  refine ⟨fun h1 => ⟨h.k13, Call.pure (h.left0 hi) ⟨fun h2 => hJ2 _ _ _ _ ⟨h.k13, fun G8 e8 => ?_⟩, fun h2 => bad 2 (by decide) (by decide) (by rw [cAsk, if_pos (wInY h1), if_neg h2])⟩⟩, fun h1 => bad 1 (by decide) (by decide) (by rw [cAsk, if_neg (wIn0.mp h1)])⟩
  have h1' := wInY h1
  obtain ⟨k1, k2⟩ := h.thr 0
  rw [← e8] at k1 k2
  have hm := k1.1
  have hdr := hi.2.2.2.2.2.2.1
  refine ⟨hm.k13, fun _ => ⟨hm.k13, Call.to (om_run (b := 0) (c := 0) (s := 0) hm hi (Nat.zero_le _) hm.2.2.2.2.2.2.2.1 hdr.2 hF.1 h1') (Nat.zero_le _) (Nat.zero_le _) fun _ G13 hR => ?_⟩, fun h9 => by omega⟩
  have hs := hR.1.1
  have x30 := hs.fx 30 15 10
  have k13 : MU E G8 G13 m (fun k => (29 ≤ k ∧ k ≤ 37) ∨ 49 ≤ k) := hR.1.mono (fun k h9 => by unfold scJ at h9; omega)
  refine ⟨hs.1, fun _ => hs.1, fun _ => x30.1, fun _ => by omega, hs.1, fun G22 e22 => ?_⟩
  have k22 : MU E G8 G22 m (fun k => (29 ≤ k ∧ k ≤ 37) ∨ 49 ≤ k) := by rw [e22]; exact k13.mSfd (by decide) (by omega)
  have f22 : ∀ k, k ≠ 35 → gfd G22 12 k m = gfd G13 12 k m := fun k hk => by rw [e22, gfd_sfd, if_neg (fun h9 => hk h9.2.1)]
  have fin : ∀ G' R, MU E G8 G' m (fun k => (29 ≤ k ∧ k ≤ 37) ∨ 49 ≤ k) → MAn G' m R → gfd G' 12 0 m = 0 ∧ MF E G G' m (ansD d R) ml mr := fun G' R kU hA => by
    have kt := kU.2.2.2.2.2
    exact ⟨(kt.f 0 (by omega)).trans k2, ⟨⟨⟨kU.1, kU.2.1, kU.2.2.1.1⟩, hm.2.1.mt kt ⟨by omega, by omega, by omega, by omega, by omega⟩, hm.2.2.1.mt kt ⟨by omega, by omega, by omega, by omega⟩, hm.2.2.2.1.mt kt ⟨by omega, by omega, by omega, by omega, by omega, by omega⟩, hm.2.2.2.2.1.mt kt ⟨by omega, by omega⟩, hm.2.2.2.2.2.1.mt kt ⟨by omega, by omega, by omega, by omega⟩, hm.2.2.2.2.2.2.1.mt kt (by omega), hm.2.2.2.2.2.2.2.1.mt kt ⟨by omega, by omega⟩, hm.2.2.2.2.2.2.2.2.1.mt kt ⟨by omega, by omega, by omega, by omega, by omega, by omega, by omega, by omega⟩, hm.2.2.2.2.2.2.2.2.2.1.mt kt ⟨by omega, by omega, by omega, by omega, by omega, by omega⟩, hA, hm.2.2.2.2.2.2.2.2.2.2.2.1.mt kt ⟨by omega, by omega⟩, hm.2.2.2.2.2.2.2.2.2.2.2.2.mt kt (by omega)⟩, k1.2.trans (kU.mono (fun _ _ => trivial))⟩⟩
  rcases hR.res hdr.2 h2 with ⟨a1, p, a2, a3, a4⟩ | ⟨a1, a2⟩
  · have hsp : cAsk d t = yes p.2.length (ansD d p.2) := by rw [cAsk, if_pos h1', if_pos h2, a2]
    rw [if_pos a1] at e22
    have g35 : gfd G22 12 35 m = p.2.length := by rw [e22, gfd_sfd, if_pos ⟨rfl, rfl, rfl⟩]; exact a3.2.1
    refine v_mask (G0 := G8) (n := p.1) (R := p.2) a4 (fun G' h9 => ?_) p.2.length 0 G22 (Nat.zero_add _) ⟨k22, by rw [f22 34 (by decide)]; exact a1, g35, ?_, fun j h9 => absurd h9 (Nat.not_lt_zero j)⟩
    rotate_left
    · have el : ∀ y i, gel G22 y i = gel G13 y i := fun y i => by rw [e22]; rfl
      unfold Ft
      simp only [el, f22 29 (by decide), f22 30 (by decide), f22 31 (by decide), f22 32 (by decide)]
      exact a3
    · obtain ⟨hU, h34, h35, hF9, hS⟩ := h9
      obtain ⟨b1, b2⟩ := fin G' p.2 hU ⟨h35, a4.1, hS⟩
      rw [hsp]
      exact MqR.ok b1 rfl rfl b2
  · have hsp : cAsk d t = yes (-1) (ansD d []) := by rw [cAsk, if_pos h1', if_pos h2, a2]
    rw [if_neg a1] at e22
    have g35 : gfd G22 12 35 m = 0 := by rw [e22, gfd_sfd, if_pos ⟨rfl, rfl, rfl⟩]
    have g34 : gfd G22 12 34 m ≠ 0 := by rw [f22 34 (by decide)]; exact a1
    refine b_X12_ask_70 ⟨k22.1.1, fun _ => ⟨k22.1.1, fun _ => k22.1.1, ?_⟩, fun h9 => by rw [g35] at h9; omega⟩
    obtain ⟨b1, b2⟩ := fin G22 [] k22 ⟨g35, Nat.zero_le _, fun i h9 => absurd h9 (Nat.not_lt_zero i)⟩
    rw [hsp, if_neg g34]
    exact MqR.ok b1 rfl rfl b2
end Sa58
