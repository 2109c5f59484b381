/-! ask -/
section S96
variable {E : EE} {G G' G2 : Gt} {c s bc bs : Nat} {Q X : Int → Gt → Prop} {a x i j l u t v z o w m q r n wl time : Int} {d d' d2 : DS} {W : Nat → Nat → Int → Prop} {L A : Int → Prop} {R : List (Int × Int)} {ws : List Wd}
/-- what a reckoning comes to -/
def ResH (G : Gt) (x r : Int) (o : Option Rw) : Prop := (r = -1 ∧ o = none) ∨ (r ≠ -1 ∧ r ≠ gfd G 11 2 x ∧ ∃ n R, o = some (n, R) ∧ RowH G r n R ∧ RV n R)
/-- the frame of a reckoning -/
def F95 (G G' : Gt) : Prop := ∃ W L A, W95 W ∧ L95 G L ∧ A95 G A ∧ FR G G' W L A
theorem ok_reckonF (h : CH E G x d) (hi : DI d) (hW : WlH G wl ws) (hwl : wl ≠ gfd G 2 0 (gfd G 11 1 x)) (hok : ∀ w ∈ ws, wOk w) (hlw : ws.length ≤ 10) (htm : 0 ≤ time ∧ time ≤ 100000) :
    Ok E M_X2_reckon [rv (gfd G 11 1 x), rv wl, rv (gfd G 8 0 (gfd G 11 0 x)), iv time] G 0 0 (fun r G' => (CF E G G' x d ∧ ResH G' x r (evA time (dSer d) (smS d) ws)) ∧ F95 G G') (fun _ _ => False) := by
  have h0 := h
  obtain ⟨hx, hL, hO, ⟨zs, hS⟩, hB, ⟨rows, sp, K, wn, hP, hK⟩, ⟨n, hA⟩, -⟩ := h
  refine (ok_reckon hL hO hP hW hwl hok hlw hS.core hi.1.sc hi.1.2.2.1 hi.1.2.1 rfl htm).mono (fun r G1 ⟨hE, ⟨rows', sp', hP'⟩, hr⟩ => ?_) (fun _ _ h9 => h9)
  have hK4 : ∀ b ∈ K, gcl G b = 4 ∧ (gcl G (gfd G 3 0 b) = 15 ∧ gcl G (gfd G 3 1 b) = 16) := fun b hb => by
    obtain ⟨n', R', h9⟩ := hP.2.2.2.2.2.2.2.2.2.1 b hb
    exact ⟨h9.1.1, h9.1.2.1.1, h9.1.2.2.1.1⟩
  have na : ∀ y, gcl G y = 15 ∨ gcl G y = 16 → y ≠ -1 := fun y hy => hO.nn (by omega) (by omega)
  have hA4 := hA.1.1
  have hA1 : RowH G1 (gfd G 11 2 x) n (dAns d) := hA.fr hE.2.2 (fun j h9 => by
    rcases h9 with h9 | h9 | h9
    · exact hK h9.2.2
    · exact absurd h9.1 (by decide)
    · exact absurd h9.1 (by decide)) (fun h9 => by
      obtain ⟨b, hb, h8 | h8⟩ := h9
      · exact absurd h8 (hO.ne 3 0 3 0 hA4 (hK4 b hb).1 (na _ (Or.inl hA.1.2.1.1)) (fun h7 => hK (h7.2.2 ▸ hb)))
      · exact absurd h8 (hO.ne 3 0 3 1 hA4 (hK4 b hb).1 (na _ (Or.inl hA.1.2.1.1)) (fun h7 => absurd h7.2.1 (by decide)))) (fun h9 => by
      obtain ⟨b, hb, h8 | h8⟩ := h9
      · exact absurd h8 (hO.ne 3 1 3 0 hA4 (hK4 b hb).1 (na _ (Or.inr hA.1.2.2.1.1)) (fun h7 => absurd h7.2.1 (by decide)))
      · exact absurd h8 (hO.ne 3 1 3 1 hA4 (hK4 b hb).1 (na _ (Or.inr hA.1.2.2.1.1)) (fun h7 => hK (h7.2.2 ▸ hb))))
  have hA95 : A95 G (fun y => ∃ r ∈ K, y = gfd G 3 0 r ∨ y = gfd G 3 1 r) := fun y h9 => by
    obtain ⟨b, hb, h8⟩ := h9
    refine ⟨?_, b, (hK4 b hb).1, h8⟩
    rcases h8 with h8 | h8
    · rw [h8]; exact na _ (Or.inl (hK4 b hb).2.1)
    · rw [h8]; exact na _ (Or.inr (hK4 b hb).2.2)
  have hW95 : W95 (fun c k y => (c = 3 ∧ 2 ≤ k ∧ y ∈ K) ∨ (c = 9 ∧ y = wn) ∨ (c = 2 ∧ 2 ≤ k ∧ y = gfd G 11 1 x)) := fun c j y h9 => by omega
  have hL95 : L95 G (fun y => y = gfd G 2 0 (gfd G 11 1 x)) := fun y h9 => ⟨_, hP.1, h9⟩
  have hCF : CF E G G1 x d := h0.pile hi hE.1 (hE.2.1.owg hO) hE.2.2 hW95 hL95 hA95 ⟨rows', sp', K, wn, hP', hK⟩ ⟨n, hA1⟩
  refine ⟨⟨hCF, ?_⟩, _, _, _, hW95, hL95, hA95, hE.2.2⟩
  have e2 : gfd G1 11 2 x = gfd G 11 2 x := hE.2.2.2.1 11 2 x (by decide) (by omega) (fun h9 => by omega)
  rcases hr with hr | ⟨hrK, n', R', hr⟩
  · exact Or.inl hr
  · refine Or.inr ⟨fun h9 => ?_, fun h9 => ?_, n', R', hr⟩
    · have := (hK4 r hrK).1
      rw [h9] at this
      rcases hO.2.2 with h8 | h8 <;> omega
    · rw [e2] at h9
      exact hK (h9 ▸ hrK)
theorem ok_reckonD (h : CH E G x d) (hi : DI d) (hW : WlH G wl ws) (hwl : wl ≠ gfd G 2 0 (gfd G 11 1 x)) (hok : ∀ w ∈ ws, wOk w) (hlw : ws.length ≤ 10) (htm : 0 ≤ time ∧ time ≤ 100000) :
    Ok E M_X2_reckon [rv (gfd G 11 1 x), rv wl, rv (gfd G 8 0 (gfd G 11 0 x)), iv time] G 0 0 (fun r G' => CF E G G' x d ∧ ResH G' x r (evA time (dSer d) (smS d) ws)) (fun _ _ => False) :=
  (ok_reckonF h hi hW hwl hok hlw htm).mono (fun _ _ h9 => h9.1) (fun _ _ h9 => h9)
theorem CH.asked_ru (h : CH E G x d) (hi : DI d) (k : RU G G' (gfd G 11 2 x)) (hA' : ∃ n, RowH G' (gfd G 11 2 x) n R) : CF E G G' x (ansD d R) := by
  have h0 := h
  obtain ⟨hx, hL, hO, hS, hB, ⟨rows, sp, K, wn, hP, hK⟩, ⟨n, hA⟩, -⟩ := h
  have na : ∀ y, gcl G y = 15 ∨ gcl G y = 16 → y ≠ -1 := fun y hy => hO.nn (by omega) (by omega)
  have hA4 := hA.1.1
  have c0 := hA.1.2.1.1
  have c1 := hA.1.2.2.1.1
  have kf := RU.fr hL k (by omega) (by omega)
  have nl := hO.nn (y := gfd G 2 0 (gfd G 11 1 x)) (by have := hP.2.1.1; omega) (by have := hP.2.1.1; omega)
  refine h0.pile hi (RU.lw hL k) (k.onw.owg hO) kf (fun c j y h9 => by omega) (fun y h9 => h9.elim) (fun y h9 => ⟨?_, gfd G 11 2 x, hA4, h9⟩) ⟨rows, sp, K, wn, hP.fr kf (fun j h9 => absurd h9.1 (by decide)) (fun r hr j h9 => hK (h9.2.2 ▸ hr)) (fun h9 => h9) (fun r hr => ?_), hK⟩ hA'
  · rcases h9 with h9 | h9
    · rw [h9]; exact na _ (Or.inl c0)
    · rw [h9]; exact na _ (Or.inr c1)
  · obtain ⟨n', R', h9⟩ := hP.2.2.2.2.2.2.2.2.2.1 r hr
    have hr4 := h9.1.1
    have hne : r ≠ gfd G 11 2 x := fun h8 => hK (h8 ▸ hr)
    refine ⟨fun h8 => ?_, fun h8 => ?_⟩
    · rcases h8 with h8 | h8
      · exact absurd h8 (hO.ne 3 0 3 0 hr4 hA4 (na _ (Or.inl h9.1.2.1.1)) (fun h7 => hne h7.2.2))
      · exact absurd h8 (hO.ne 3 0 3 1 hr4 hA4 (na _ (Or.inl h9.1.2.1.1)) (fun h7 => absurd h7.2.1 (by decide)))
    · rcases h8 with h8 | h8
      · exact absurd h8 (hO.ne 3 1 3 0 hr4 hA4 (na _ (Or.inr h9.1.2.2.1.1)) (fun h7 => absurd h7.2.1 (by decide)))
      · exact absurd h8 (hO.ne 3 1 3 1 hr4 hA4 (na _ (Or.inr h9.1.2.2.1.1)) (fun h7 => hne h7.2.2))
end S96
