/-! thinned, down -/
section Sa07
variable {E : EE} {G G' G2 : Gt} {c s bc bs : Nat} {Q X : Int → Gt → Prop} {a x i j l u t v z w m q r st dn wr cr k : Int} {d d' d2 : DS} {zs : List Zt} {ser : List Int} {smp : List (Sm4 × Int)} {rs : List Int}
def thinW (d : DS) (i l u : Int) : Nat → Int := gaP ((seeT (serC d i) (smS d)).filter (inT (u * l) (u * l + l - 1))) (fun _ => 0)
def cThinned (d : DS) (i l u k : Int) : Sp := if inS d i then (if (l = 10 ∨ l = 100) ∧ (0 ≤ u ∧ u ≤ 10000) ∧ (0 ≤ k ∧ k ≤ 3) then yes (thV (thinW d i l u) k) d else no 1 d) else no 3 d
theorem CH.win (h : CH E G x d) (hi : DI d) {V : Nat → Int} (k : WU G G' w V) : CF E G G' x d := by
  have hO' : OWG G G' := k.onw.owg h.2.2.1
  have hf := k.fr
  have w9 : ∀ c' (k' : Nat) y, c' ≠ 9 → ¬ (c' = 9 ∧ y = w) := fun c' k' y h8 h9 => h8 h9.1
  have hx := h.1
  have e11 : ∀ j, gfd G' 11 j x = gfd G 11 j x := fun j => hf.2.1 11 j x (by decide) (by omega) (w9 11 j x (by decide))
  exact h.mine hi (k.lw h.2.1) hO'.1 hO'.now hf (fun c' k' y h9 => Or.inl h9.1) (fun y h9 => h9.elim) (fun y h9 => h9.elim) ⟨rfl, rfl, rfl⟩
    (h.k5 hf (fun j y => w9 6 j y (by decide)) (w9 11 5 x (by decide)) (fun h9 => h9)) (h.k6 hf (fun c j y hc => w9 c j y (by omega)) (w9 11 6 x (by decide)) (fun h9 => h9) (fun _ _ _ h9 => h9) (fun _ _ _ h9 => h9))
    (h.k7 hf (fun j y => w9 6 j y (by decide)) ⟨w9 11 7 x (by decide), w9 11 8 x (by decide)⟩ (fun h9 => h9) (fun h9 => h9)) (h.k9 hf (w9 11 9 x (by decide)) (fun h9 => h9))
    (h.k10 hf (fun c j y hc => w9 c j y (by omega)) (w9 11 10 x (by decide)) (fun h9 => h9) hO') (by rw [e11, e11, e11]; exact h.nums)
theorem thV_eq {W W' : Nat → Int} (h : wEq W W') (k : Int) : thV W k = thV W' k := by
  unfold thV
  rcases h with ⟨h1, h2⟩ | h
  · rw [if_pos h1, if_pos h2]
  · rw [h 0 (by decide), h 4 (by decide), h 5 (by decide), h 6 (by decide)]
theorem ok_thinned (h : CH E G x d) (hi : DI d) (hc : 1 ≤ c) (hs : 6 ≤ s) : Ok E M_X11_thinned [rv x, iv i, iv l, iv u, iv k] G c s (RQ E G x (cThinned d i l u k)) (RX G (cThinned d i l u k)) := by
  refine i_X11_thinned ⟨h.1, ?_⟩
  by_cases hr : inS d i
  · refine Call.to (mc' := 0) (ms' := 0) (ok_seriesOf (Q := fun r G1 => r = (numL G (gfd G 11 0 x)).getD i.toNat 0 ∧ G1 = G) h hi (fun _ => ⟨rfl, rfl⟩) (fun h8 => absurd hr h8)) (Nat.zero_le _) (Nat.zero_le _) fun r G1 ⟨e1, e2⟩ => ?_
    rw [e1, e2]
    have no1 : ¬ ((l = 10 ∨ l = 100) ∧ (0 ≤ u ∧ u ≤ 10000) ∧ (0 ≤ k ∧ k ≤ 3)) → 1 ≤ c - 0 ∧ 6 ≤ s - 0 ∧ RX G (cThinned d i l u k) 1 G := fun h9 => ⟨hc, hs, by rw [cThinned, if_pos hr, if_neg h9]; exact RX.n⟩
    have hlev : ∀ y : Int, wLevel y = if y = 10 ∨ y = 100 then 1 else 0 := fun y => rfl
    refine ⟨okp_isLevel, fun h1 => no1 fun h9 => ?_, fun h1 => ⟨okp_isWithin, fun h2 => no1 fun h9 => wIn0.mp h2 h9.2.1, fun h2 => ⟨okp_isWithin, fun h3 => ?_, fun h3 => no1 fun h9 => wIn0.mp h3 h9.2.2⟩⟩⟩
    · rw [hlev, if_pos h9.1] at h1
      exact absurd h1 (by decide)
    have h1' : l = 10 ∨ l = 100 := by
      by_cases h9 : l = 10 ∨ l = 100
      · exact h9
      · rw [hlev, if_neg h9] at h1
        exact absurd rfl h1
    have h2' := wInY h2
    have h3' := wInY h3
    obtain ⟨q1, q2, q3, q4, q5, q6⟩ := h.num hi
    have hlt : i.toNat < (dSer d).length := by have := hr.1; have := hr.2; omega
    obtain ⟨q7, q8⟩ := q4 i.toNat hlt
    obtain ⟨zs, hS⟩ := h.2.2.2.1
    have hsr := hS.sr hi.1 q7
    have etv := hS.core.tvs q7
    rw [q8] at etv
    have h10 : gcl G (gfd G 11 3 x) = 10 := by
      obtain ⟨_, _, _, _, _, _, _, h9, -⟩ := h
      exact h9
    have hul : 0 ≤ u * l ∧ u * l ≤ 1000000 := by
      rcases h1' with rfl | rfl <;> omega
    have hl100 : 10 ≤ l ∧ l ≤ 100 := by omega
    refine ⟨h.1, i32s (by omega), i32s (by omega), i32s (by omega), i32s (by omega), h10, Call.to (ok_gather (fr := u * l) (to := u * l + l - 1) h10 h.2.1 hsr (by omega)) (Nat.zero_le _) (Nat.zero_le _) fun _ G23 ⟨hU, hB⟩ => ?_⟩
    have hCF := h.win hi hU
    have e3 : gfd G23 11 3 x = gfd G 11 3 x := hU.f (by decide) 3 x
    rw [e3]
    have eW : ∀ kk, kk < 9 → wv G23 (gfd G 11 3 x) kk = gaW G (rngL G ((numL G (gfd G 11 0 x)).getD i.toNat 0) (u * l) (u * l + l - 1)) (zeW (wv G (gfd G 11 3 x))) kk := fun kk hkk => hU.wv hkk
    have hrng : (rngL G ((numL G (gfd G 11 0 x)).getD i.toNat 0) (u * l) (u * l + l - 1)).map (tv G) = (seeT (serC d i) (smS d)).filter (inT (u * l) (u * l + l - 1)) := by
      have etv' : (seenL G ((numL G (gfd G 11 0 x)).getD i.toNat 0)).map (tv G) = seeT (serC d i) (smS d) := etv
      rw [← etv', List.filter_map]
      unfold rngL
      rw [(cut_filter hsr (show u * l ≤ u * l + l - 1 by omega)).2.2]; rfl
    have hwe : wEq (wv G23 (gfd G 11 3 x)) (thinW d i l u) := by
      have h0 : wEq (gaP ((seeT (serC d i) (smS d)).filter (inT (u * l) (u * l + l - 1))) (zeW (wv G (gfd G 11 3 x)))) (thinW d i l u) := gaP_eq _ (Or.inl ⟨rfl, rfl⟩)
      rw [gaW_P, hrng] at eW
      rcases h0 with ⟨q1, q2⟩ | q
      · exact Or.inl ⟨(eW 0 (by decide)).trans q1, q2⟩
      · exact Or.inr fun kk hkk => (eW kk hkk).trans (q kk hkk)
    refine ⟨hCF.1.1, by rw [hU.1]; exact h10, Call.pure (okp_tellThinned (by rw [hU.1]; exact h10)) ?_⟩
    rw [thV_eq hwe, cThinned, if_pos hr, if_pos ⟨h1', h2', h3'⟩]
    exact RQ.y hCF
  · refine Call.of (mc' := 1) (ms' := 6) (Q' := fun _ _ => False) (X' := fun e G1 => e = 3 ∧ G1 = G) (ok_seriesOf h hi (fun h8 => absurd h8 hr) (fun _ => ⟨Nat.le_refl _, Nat.le_refl _, rfl, rfl⟩)) (by omega) (by omega) (fun e G1 ⟨e1, e2⟩ => ?_) (fun _ _ h8 => h8.elim)
    rw [e1, e2, cThinned, if_neg hr]
    exact RX.n
theorem StH.setDn (h : StH G st zs ser smp rs dn wr cr) (hi : SI ser (smp.map (·.1)) rs u) : StH (sfd G 8 2 st v) st zs ser smp rs v wr cr := by
  have F : FR G (sfd G 8 2 st v) (fun c k y => c = 8 ∧ k = 2 ∧ y = st) noA noA := FR.mSfd (by decide)
  have e5 : ∀ (c k : Nat) (y : Int), ¬ (c = 8 ∧ k = 2) → gfd (sfd G 8 2 st v) c k y = gfd G c k y := fun c k y hn => by rw [gfd_sfd, if_neg (fun h9 => hn ⟨h9.1, h9.2.1⟩)]
  have eN : numL (sfd G 8 2 st v) st = numL G st := by unfold numL; rw [e5 8 0 st (by decide), lst_sfd (by decide)]
  refine ⟨h.1, ⟨by rw [e5 8 0 st (by decide)]; exact h.2.1.1, by rw [e5 8 0 st (by decide), e5 13 1 _ (by decide)]; exact h.2.1.2⟩, ⟨by rw [e5 8 1 st (by decide)]; exact h.2.2.1.1, by rw [e5 8 1 st (by decide), e5 13 1 _ (by decide)]; exact h.2.2.1.2⟩, ?_, ?_, h.2.2.2.2.2.1, h.2.2.2.2.2.2.1, ?_, ?_, ?_, ?_, ?_, ?_, ?_⟩
  · rw [eN]; exact h.2.2.2.1
  · intro b hb
    rw [eN] at hb
    have hsb := h.2.2.2.2.1 b hb
    exact (hsb.fr F (fun j h9 => by omega) (fun y _ h9 => by omega) (fun y hy => by rw [((h.sr hi hb).2.2.2.1 y hy).1]; decide) id (List.Perm.refl _)).1
  · intro y hy
    have h8 := h.2.2.2.2.2.2.2.1 y hy
    exact ⟨h8.1, h8.2.1, h8.2.2.1, h8.2.2.2.1, by rw [eN, e5 5 0 _ (by decide)]; exact h8.2.2.2.2.1, by rw [e5 5 0 _ (by decide)]; exact h8.2.2.2.2.2⟩
  · exact h.2.2.2.2.2.2.2.2.1
  · exact h.2.2.2.2.2.2.2.2.2.1
  · exact h.2.2.2.2.2.2.2.2.2.2.1
  · rw [gfd_sfd, if_pos ⟨rfl, rfl, rfl⟩]
  · rw [e5 8 1 st (by decide), capOf_sfd (by decide)]; exact h.2.2.2.2.2.2.2.2.2.2.2.2.1
  · rw [e5 8 1 st (by decide), lst_sfd (by decide)]
    exact RecR.fr h.2.2.2.2.2.2.2.2.2.2.2.2.2 (fun g _ h2 => ⟨h2, e5 1 0 g (by decide), e5 1 1 g (by decide)⟩) (fun z _ _ => e5 5 5 z.1 (by decide))
def downD (d : DS) (v : Int) : DS := stD d (fun j => if j = 4 then v else dN d j) (dSer d) (dSmp d) (dRec d) (dBk d)
def cDown (d : DS) (v : Int) : Sp := yes (dN d 4) (downD d v)
theorem ok_down (h : CH E G x d) (hi : DI d) (hv : v = 0 ∨ v = 1) : Ok E M_X11_down [rv x, iv v] G c s (RQ E G x (cDown d v)) (RX G (cDown d v)) := by
  have h9 := h.cls.1
  obtain ⟨zs, hS⟩ := h.2.2.2.1
  have e2 : gfd G 8 2 (gfd G 11 0 x) = dN d 4 := hS.2.2.2.2.2.2.2.2.2.2.2.1
  refine i_X11_down ⟨h.1, h9, h.1, h9, hv, fun G6 e6 => ?_⟩
  rw [e2]
  refine ⟨hi.2.1, RQ.y ?_⟩
  have F : FR G G6 (fun c k y => c = 8 ∧ k = 2 ∧ y = gfd G 11 0 x) noA noA := by rw [e6]; exact FR.mSfd (by decide)
  have hn : numL G6 (gfd G 11 0 x) = numL G (gfd G 11 0 x) := by
    unfold numL
    rw [e6, gfd_sfd, if_neg (by omega), lst_sfd (by decide)]
  refine h.store (by rw [e6]; exact h.2.1.sfd (by decide)) (by rw [e6]; exact (ONW.mSfd (by decide)).owg h.2.2.1) (F.mono (fun c j y h8 => Or.inr (Or.inr (Or.inr h8.1))) (fun y h8 => h8.elim) (fun y h8 => h8.elim)) ⟨rfl, rfl, rfl⟩ ⟨zs, by rw [e6]; exact hS.setDn hi.1⟩ ?_
  exact BkH.fr h.2.2.2.2.1 hS F (fun j y h8 => absurd h8.1 (by decide)) hn (fun b hb => ⟨fun h8 => h8, fun h8 => h8⟩)
theorem DI.down (hi : DI d) (hv : v = 0 ∨ v = 1) : DI (downD d v) := by
  have hb := hi.2.2.2.2.2.2.2.2.2.2.2.2
  exact hi.store hi.1 ⟨rfl, rfl, rfl⟩ hv hi.2.2.2.2.1 hb.1 hb.2
end Sa07
