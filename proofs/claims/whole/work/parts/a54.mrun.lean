/-! the model runs an expression -/
section Sa54
variable {E : EE} {G G' G2 G0 : Gt} {c s : Nat} {Q X : Int → Gt → Prop} {m ml mr time : Int} {k j n b : Nat} {d : DS} {R L U : List (Int × Int)} {S S' : List Rw} {w : Wd} {ws : List Wd}
def RnQ (E : EE) (G0 G' : Gt) (m time : Int) (d : DS) (ws : List Wd) : Prop :=
  MU E G0 G' m scJ ∧ ((gfd G' 12 34 m = 0 ∧ ∃ S, evL time (dSer d) ((dSmp d).map (·.1)) ws [] = some S ∧ PiM G' m S ∧ ∀ x ∈ S, RV x.1 x.2) ∨ (gfd G' 12 34 m ≠ 0 ∧ evL time (dSer d) ((dSmp d).map (·.1)) ws [] = none))
theorem top1 (h : 1 ≤ S.length) : S.take (S.length - 1) ++ [S.getD (S.length - 1) (0, [])] = S := by
  rw [← takeS (R := S) (d := ((0, []) : Rw)) (by omega), show S.length - 1 + 1 = S.length by omega, List.take_length]
theorem top2 (h : 2 ≤ S.length) : S.take (S.length - 2) ++ [S.getD (S.length - 2) (0, [])] ++ [S.getD (S.length - 1) (0, [])] = S := by
  rw [← takeS (R := S) (d := ((0, []) : Rw)) (by omega), show S.length - 2 + 1 = S.length - 1 by omega]
  exact top1 (by omega)
/-- where the loop stands -/
def RnS (E : EE) (G0 G : Gt) (m time : Int) (d : DS) (ws : List Wd) (k : Nat) : Prop :=
  MU E G0 G m scJ ∧ ((gfd G 12 34 m = 0 ∧ ∃ S, PiM G m S ∧ (∀ x ∈ S, RV x.1 x.2) ∧ fedL (ws.drop k) S.length ∧ S.length ≤ k ∧ evL time (dSer d) ((dSmp d).map (·.1)) ws [] = evL time (dSer d) ((dSmp d).map (·.1)) (ws.drop k) S) ∨ (gfd G 12 34 m ≠ 0 ∧ evL time (dSer d) ((dSmp d).map (·.1)) ws [] = none))
theorem RnS.next (hi : DI d) (hS : RnS E G0 G m time d ws k) (hU : MU E G0 G2 m scJ) (hw : ws.drop k = w :: ws.drop (k + 1)) (hok : wOk w) (hr : ∀ x ∈ S, RV x.1 x.2) (hf : fedL (ws.drop k) S.length) (hl : S.length ≤ k) (he : evL time (dSer d) ((dSmp d).map (·.1)) ws [] = evL time (dSer d) ((dSmp d).map (·.1)) (ws.drop k) S)
    (h2 : (gfd G2 12 34 m = 0 ∧ ∃ S', evW time (dSer d) ((dSmp d).map (·.1)) w S = some S' ∧ PiM G2 m S') ∨ (gfd G2 12 34 m ≠ 0 ∧ evW time (dSer d) ((dSmp d).map (·.1)) w S = none)) : RnS E G0 G2 m time d ws (k + 1) := by
  refine ⟨hU, ?_⟩
  rw [hw] at he hf
  rcases h2 with ⟨a1, S', a2, a3⟩ | ⟨a1, a2⟩
  · have hlen := evW_len hok a2
    refine Or.inl ⟨a1, S', a3, evW_rv hok hi.1.1 hi.1.2.1 hi.1.2.2.1 hr a2, ?_, by have := hf.1; omega, ?_⟩
    · have h9 := hf.2
      rw [show S'.length = S.length + 1 - wNd w by omega]
      exact h9
    · rw [he, evL, a2]
  · refine Or.inr ⟨a1, ?_⟩
    rw [he, evL, a2]
theorem v_run12 (hm0 : MH E G0 m d ml mr) (hi : DI d) (hb : b ≤ 8) (hW : MWl G0 m b ws) (hok : ∀ w ∈ ws, wOk w) (ht : 0 ≤ time ∧ time ≤ 100000) :
    ∀ (j k : Nat) (G : Gt), k + j = ws.length → RnS E G0 G m time d ws k → V E M_X12_run 12 [some (rv m), some (iv (b : Int)), some (iv time), some (iv (k : Int)), none, none, none] [] G c s (fun _ G' => RnQ E G0 G' m time d ws) X := by
  obtain ⟨hWl, hW10, hWk⟩ := hW
  intro j
  induction j with
  | zero =>
    intro k G hk hS
    have hs := hS.1.1
    have x22 := hs.fx 22 15 9
    have e22 : gel G (gfd G 12 22 m) (b : Int) = ws.length := by rw [hS.1.2.2.2.2.2.e 22 (by unfold scJ; omega)]; exact hWl
    refine b_X12_run_12 ?_
    rw [e22]
    refine ⟨hs.1, x22.1, by omega, by omega, fun _ => ⟨hS.1, ?_⟩, fun h9 => by omega⟩
    rcases hS.2 with ⟨a1, S, a2, a3, a4, a5, a6⟩ | h9
    · refine Or.inl ⟨a1, S, ?_, a2, a3⟩
      rw [a6, show k = ws.length by omega, List.drop_length]; rfl
    · exact Or.inr h9
  | succ j ih =>
    intro k G hk hS
    have hs := hS.1.1
    have x22 := hs.fx 22 15 9
    have x21 := hs.fx 21 15 540
    have e22 : gel G (gfd G 12 22 m) (b : Int) = ws.length := by rw [hS.1.2.2.2.2.2.e 22 (by unfold scJ; omega)]; exact hWl
    have hkl : k < ws.length := by omega
    have hdr : ws.drop k = ws.getD k w0 :: ws.drop (k + 1) := by rw [List.drop_eq_getElem_cons hkl, List.getD_eq_getElem?_getD, List.getElem?_eq_getElem hkl]; rfl
    have hwok := hok _ (getD_mem' (v := w0) hkl)
    have hWd := hWk k hkl
    generalize hw : ws.getD k w0 = w at hdr hwok hWd
    have hWG : WdM G m (60 * b + 6 * k) w := by
      unfold WdM at hWd ⊢
      simp only [hS.1.2.2.2.2.2.e 21 (by unfold scJ; omega)]
      exact hWd
    have ic : ((k + 1 : Nat) : Int) = (k : Int) + 1 := rfl
    refine b_X12_run_12 ?_
    rw [e22, hWG.1, hWG.2.1]
    refine ⟨hs.1, x22.1, by omega, by omega, fun h9 => by omega, fun _ => ⟨hs.1, fun h34 => ⟨hS.1, ?_⟩, fun h34 => ?_⟩⟩
    · rcases hS.2 with ⟨a1, -⟩ | h9
      · exact (h34 a1).elim
      · exact Or.inr h9
    rcases hS.2 with ⟨-, S, hP, hr, hf, hl, he⟩ | ⟨h9, -⟩
    case inr => exact (h9 h34).elim
    have hrU : MU E G G m scP := MU.refl hs hS.1.2.1 hS.1.2.2.1.1
    have hf2 := hf
    rw [hdr] at hf2
    have hnd := hf2.1
    have hk15 := hwok.1
    have go : ∀ G2, MU E G G2 m scJ → ((gfd G2 12 34 m = 0 ∧ ∃ S', evW time (dSer d) ((dSmp d).map (·.1)) w S = some S' ∧ PiM G2 m S') ∨ (gfd G2 12 34 m ≠ 0 ∧ evW time (dSer d) ((dSmp d).map (·.1)) w S = none)) → V E M_X12_run 12 [some (rv m), some (iv (b : Int)), some (iv time), some (iv ((k : Int) + 1)), none, none, none] [] G2 c s (fun _ G' => RnQ E G0 G' m time d ws) X := fun G2 h1 h2 => by
      have := ih (k + 1) G2 (by omega) (hS.next hi (hS.1.trans h1) hdr hwok hr hf hl he h2)
      rw [ic] at this
      exact this
    refine ⟨i32s' (by omega), i32s' (by omega), i32s' (by omega), hs.1, x21.1, by omega, by omega, fun h8 => ⟨fun h9 => ⟨fun h15 => ?_, fun h15 => ?_⟩, fun h9 => ?_⟩, fun h8 => ?_⟩
    · -- a join
      have hk10 : 10 ≤ w.1 ∧ w.1 ≤ 14 := by omega
      have hn2 : wNd w = 2 := by unfold wNd; rw [if_neg (by omega), if_pos hk10]
      have hS2 := top2 (S := S) (by omega)
      have hP2 := hP
      rw [← hS2] at hP2
      have hl1 := hr _ (top_mem (S := S) (i := S.length - 2) (by omega))
      have hu1 := hr _ (top_mem (S := S) (i := S.length - 1) (by omega))
      refine ⟨hs.1, i32s' (by omega), x21.1, by omega, by omega, hs.1, Call.to (om_joins (S := S.take (S.length - 2)) (nl := (S.getD (S.length - 2) (0, [])).1) (L := (S.getD (S.length - 2) (0, [])).2) (nu := (S.getD (S.length - 1) (0, [])).1) (U := (S.getD (S.length - 1) (0, [])).2) (hrU.mono fun k h9 => scP_J h9) hP2 hl1 hu1 h34 hk10 (hwok.2.2.2.1 (by omega) (by omega))) (Nat.zero_le _) (Nat.zero_le _) fun _ G25 hq => ⟨i32s' (by omega), go G25 hq.1 ?_⟩⟩
      have ev : evW time (dSer d) ((dSmp d).map (·.1)) w S = (joinR w.1 w.2.1 (S.getD (S.length - 2) (0, [])).1 (S.getD (S.length - 2) (0, [])).2 (S.getD (S.length - 1) (0, [])).1 (S.getD (S.length - 1) (0, [])).2).map fun x => S.take (S.length - 2) ++ [(x.1, bdL x.2)] := by
        unfold evW
        rw [if_neg (by omega), if_neg (by omega), if_neg h15, if_neg (by omega), if_neg (by omega)]
      rw [ev]
      rcases hq.2 with ⟨a1, x, a2, a3⟩ | ⟨a1, a2⟩
      · rw [a2]; exact Or.inl ⟨a1, _, rfl, a3⟩
      · rw [a2]; exact Or.inr ⟨a1, rfl⟩
    · -- quantiles
      have hn1 : wNd w = 1 := by unfold wNd; rw [if_neg (by omega), if_neg (by omega)]
      have hS1 := top1 (S := S) (by omega)
      have hP1 := hP
      rw [← hS1] at hP1
      have hu1 := hr _ (top_mem (S := S) (i := S.length - 1) (by omega))
      refine ⟨hs.1, i32s' (by omega), x21.1, by omega, by omega, hs.1, Call.to (om_quantile (S := S.take (S.length - 1)) (nn := (S.getD (S.length - 1) (0, [])).1) (R := (S.getD (S.length - 1) (0, [])).2) hrU hP1 hu1 (hwok.2.2.2.2 h15)) (Nat.zero_le _) (Nat.zero_le _) fun _ G36 hq => ⟨i32s' (by omega), go G36 hq.1 (Or.inl ⟨by rw [hq.2.1]; exact h34, _, ?_, hq.2.2⟩)⟩⟩
      unfold evW
      rw [if_neg (by omega), if_neg (by omega), if_pos h15, if_neg (by omega)]
    · -- groups
      have hn1 : wNd w = 1 := by unfold wNd; rw [if_neg (by omega), if_neg (by omega)]
      have hS1 := top1 (S := S) (by omega)
      have hP1 := hP
      rw [← hS1] at hP1
      have hu1 := hr _ (top_mem (S := S) (i := S.length - 1) (by omega))
      refine ⟨hs.1, i32s' (by omega), x21.1, by omega, by omega, hs.1, Call.to (om_groups (S := S.take (S.length - 1)) (nn := (S.getD (S.length - 1) (0, [])).1) (R := (S.getD (S.length - 1) (0, [])).2) hrU hP1 hu1 (hwok.2.2.2.1 (by omega) (by omega))) (Nat.zero_le _) (Nat.zero_le _) fun _ G47 hq => ⟨i32s' (by omega), go G47 (hq.1.mono fun k h9 => scP_J h9) (Or.inl ⟨by rw [hq.1.2.2.2.2.2.f 34 (by unfold scP; omega)]; exact h34, _, ?_, hq.2⟩)⟩⟩
      unfold evW
      rw [if_neg (by omega), if_neg (by omega), if_neg (by omega), if_pos h9, if_neg (by omega)]
    · -- a number, or a word that reads
      have h10 : S.length < 10 := by omega
      have hmG := hm0.keep hS.1 (fun j h9 => by unfold scJ at h9; unfold scr; omega)
      refine ⟨hs.1, Call.to (om_open hrU hP h10 (by split <;> simp)) (Nat.zero_le _) (Nat.zero_le _) fun _ G54 hq => fun J57 hJ57 => ⟨fun h0 => hJ57 _ _ _ ⟨fun _ => ?_, fun h9 => (h0 h9).elim⟩, fun h0 => ?_⟩⟩
      · have k54 := hq.1
        have hm54 := hmG.keep k54 (fun j h9 => by unfold scP at h9; unfold scr; omega)
        have hw54 : WdM G54 m (60 * b + 6 * k) w := by
          unfold WdM at hWG ⊢
          simp only [k54.2.2.2.2.2.e 21 (by unfold scP; omega)]
          exact hWG
        have hP54 := hq.2
        rw [if_neg h0] at hP54
        have hRR := (readR_ok (k := w.1) (two := w.2.2.1) (time := time) (P := wSl w) (sm := (dSmp d).map (fun z : Sm4 × Int => z.1)) hi.1.1 hi.1.2.2.1).2
        have e0 : bdL (upL (-1) (readR (wSl w) w.1 w.2.2.1 time (dSer d) ((dSmp d).map (fun z : Sm4 × Int => z.1)))) = [] := by
          generalize readR (wSl w) w.1 w.2.2.1 time (dSer d) ((dSmp d).map (fun z : Sm4 × Int => z.1)) = RR at hRR ⊢
          have e9 : upL (-1) RR = [] := by
            cases h9 : upL (-1) RR with
            | nil => rfl
            | cons y W =>
              have h8 := upL_mem.mp (show y ∈ upL (-1) RR by rw [h9]; exact List.mem_cons_self)
              have h7 := (hRR y h8.1).1
              omega
          rw [e9]; rfl
        refine ⟨hm54.k13, Call.pure (okp_nextSeries hm54.1.1 hm54.lb.1 ⟨by omega, by omega⟩) ?_⟩
        refine v_mread hm54 hi hw54 hwok ⟨by omega, by omega⟩ ⟨by omega, by omega⟩ ht h10 (fun G' kG hPG => go G' ((k54.trans (kG.mono fun k h9 => h9)).mono fun k h9 => scP_J h9) (Or.inl ⟨?_, _, ?_, hPG⟩)) (i32s' (by omega)) 668 (-1) G54 (by decide) (Int.le_refl _) (MU.refl hm54.1.1 hm54.1.2.1 hm54.1.2.2) (by rw [e0]; exact hP54)
        · rw [kG.2.2.2.2.2.f 34 (by unfold scP; omega), k54.2.2.2.2.2.f 34 (by unfold scP; omega)]; exact h34
        · unfold evW
          rw [if_neg h0, if_pos (by omega)]
      · have k54 := hq.1
        have hw54 : WdM G54 m (60 * b + 6 * k) w := by
          unfold WdM at hWG ⊢
          simp only [k54.2.2.2.2.2.e 21 (by unfold scP; omega)]
          exact hWG
        have y21 := k54.1.fx 21 15 540
        have hP54 := hq.2
        rw [if_pos h0] at hP54
        refine ⟨k54.1.1, i32s' (by omega), y21.1, by omega, by omega, k54.1.1, ?_⟩
        rw [hw54.2.1]
        refine Call.to (om_add k54 hP54 (by decide)) (Nat.zero_le _) (Nat.zero_le _) fun _ G75 hq2 => hJ57 _ _ _ ⟨fun h9 => (h9 h0).elim, fun _ => b_X12_run_110 ⟨fun _ => ⟨i32s' (by omega), go G75 (hq2.1.mono fun k h9 => scP_J h9) (Or.inl ⟨?_, _, ?_, hq2.2⟩)⟩, fun h9 => (h9 rfl).elim⟩⟩
        · rw [hq2.1.2.2.2.2.2.f 34 (by unfold scP; omega)]; exact h34
        · unfold evW
          rw [if_pos h0]; rfl
end Sa54
