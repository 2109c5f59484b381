/-! the pile reckons an expression -/
section S73
variable {E : EE} {G G' G2 G0 : Gt} {c s : Nat} {Q X : Int → Gt → Prop} {a r q l u v n m p sp wn k set wd g st t one two time sel nl wl : Int} {R T : List (Int × Int)} {zs : List Zt} {ser : List Int} {smp : List (Sm4 × Int)} {sm : List Sm4} {dn wr : Int} {rows K : List Int} {S S' : List Rw} {w : Wd} {ws : List Wd}
def w0 : Wd := (0, 0, 0, 0, 0, 0)
def WlH (G : Gt) (wl : Int) (ws : List Wd) : Prop := gcl G wl = 14 ∧ gfd G 13 1 wl ≠ -1 ∧ (lst G wl).length = ws.length ∧ ∀ i, i < ws.length → WdH G ((lst G wl).getD i 0) (ws.getD i w0)
def evL (time : Int) (ser : List Int) (sm : List Sm4) : List Wd → List Rw → Option (List Rw)
  | [], S => some S
  | w :: ws, S => match evW time ser sm w S with
    | none => none
    | some S' => evL time ser sm ws S'
/-- the result of an expression, none where it fails -/
def evA (time : Int) (ser : List Int) (sm : List Sm4) (ws : List Wd) : Option Rw := match evL time ser sm ws [] with
  | some [x] => some x
  | _ => none
theorem evW_len (hok : wOk w) (h : evW time ser sm w S = some S') : S'.length + wNd w = S.length + 1 := by
  have hk := hok.1
  unfold evW at h
  split at h
  · have e := Option.some.inj h
    rw [← e, List.length_append]
    unfold wNd
    rw [if_pos (by omega)]; rfl
  · split at h
    · rename_i h7
      have e := Option.some.inj h
      rw [← e, List.length_append]
      unfold wNd
      rw [if_pos h7]; rfl
    · split at h
      · split at h
        · cases h
        · have e := Option.some.inj h
          rw [← e, List.length_append, List.length_take]
          unfold wNd
          rw [if_neg (show ¬ w.1 ≤ 7 by omega), if_neg (show ¬ (10 ≤ w.1 ∧ w.1 ≤ 14) by omega)]
          show min (S.length - 1) S.length + 1 + 1 = _
          omega
      · split at h
        · split at h
          · cases h
          · have e := Option.some.inj h
            rw [← e, List.length_append, List.length_take]
            unfold wNd
            rw [if_neg (show ¬ w.1 ≤ 7 by omega), if_neg (show ¬ (10 ≤ w.1 ∧ w.1 ≤ 14) by omega)]
            show min (S.length - 1) S.length + 1 + 1 = _
            omega
        · split at h
          · cases h
          · obtain ⟨x, hx, e⟩ := Option.map_eq_some_iff.mp h
            rw [← e, List.length_append, List.length_take]
            unfold wNd
            rw [if_neg (show ¬ w.1 ≤ 7 by omega), if_pos (show 10 ≤ w.1 ∧ w.1 ≤ 14 by omega)]
            show min (S.length - 2) S.length + 1 + 2 = _
            omega
theorem evW_few (hok : wOk w) (h : S.length < wNd w) : evW time ser sm w S = none := by
  have hk := hok.1
  unfold wNd at h
  split at h
  · omega
  · unfold evW
    rw [if_neg (by omega), if_neg (by omega)]
    split at h
    · rw [if_neg (by omega), if_neg (by omega), if_pos h]
    · by_cases h15 : w.1 = 15
      · rw [if_pos h15, if_pos h]
      · rw [if_neg h15, if_pos (by omega), if_pos h]
theorem wNd_eq (hok : wOk w) : wNeeds w.1 = (wNd w : Int) := by
  have hk := hok.1
  unfold wNeeds wNd
  by_cases h1 : w.1 ≤ 7
  · rw [if_pos ⟨hk.1, h1⟩, if_pos h1]; rfl
  · rw [if_neg (fun h9 => h1 h9.2), if_neg h1]
    split <;> rfl
theorem WdH.fr {W : Nat → Nat → Int → Prop} {L A : Int → Prop} (h : WdH G wd w) (k : FR G G' W L A) (w10 : ∀ j y, ¬ W 10 j y) (w6 : ∀ j y, ¬ W 6 j y) : WdH G' wd w := by
  obtain ⟨h1, h2, h3, h4, h5, h6⟩ := h
  have e : ∀ j, gfd G' 10 j wd = gfd G 10 j wd := fun j => k.2.1 10 j wd (by decide) (by omega) (w10 j wd)
  have e6 : ∀ j, gfd G' 6 j (gfd G 10 3 wd) = gfd G 6 j (gfd G 10 3 wd) := fun j => k.2.1 6 j _ (by decide) (by omega) (w6 j _)
  exact ⟨by rw [k.1 wd (by omega)]; exact h1, by rw [e]; exact h2, by rw [e]; exact h3, by rw [e]; exact h4, by rw [e, k.1 _ (by omega)]; exact h5, fun a1 a2 => by rw [e, e6, e6, e6]; exact h6 a1 a2⟩
theorem WlH.fr {W : Nat → Nat → Int → Prop} {L A : Int → Prop} (h : WlH G wl ws) (k : FR G G' W L A) (w10 : ∀ j y, ¬ W 10 j y) (w6 : ∀ j y, ¬ W 6 j y) (hl : ¬ L wl) : WlH G' wl ws ∧ lst G' wl = lst G wl := by
  obtain ⟨h1, h2, h3, h4⟩ := h
  have hh := k.2.2.1 wl h1 h2
  have e := (hh.2 hl).1
  refine ⟨⟨by rw [k.1 wl (by omega)]; exact h1, hh.1, by rw [e]; exact h3, fun i hi => ?_⟩, e⟩
  rw [e]; exact (h4 i hi).fr k w10 w6
theorem evF.fr (h : evF E G0 G p wn K) (h3 : gcl G0 p = 3) (k : evF E G G' p wn K) (h4 : ∀ r ∈ K, gcl G0 r = 4) : evF E G0 G' p wn K := by
  have e : ∀ r ∈ K, ∀ j, j < 2 → gfd G 3 j r = gfd G0 3 j r := fun r hr j hj => h.2.2.2.1 3 j r (by decide) (by rw [h4 r hr]; decide) (fun h9 => by omega)
  have e2 : gfd G 2 0 p = gfd G0 2 0 p := h.2.2.2.1 2 0 p (by decide) (by omega) (fun h9 => by omega)
  refine ⟨k.1, h.2.1.trans k.2.1, h.2.2.andThen k.2.2 (fun _ _ _ _ h9 => h9) (fun y _ h9 => by rw [h9, e2]) (fun y _ h9 => ?_)⟩
  obtain ⟨r, hr, h9⟩ := h9
  rw [e r hr 0 (by decide), e r hr 1 (by decide)] at h9
  exact ⟨r, hr, h9⟩
/-- the height is written -/
theorem PlS.ht {x : Int} (h : PlS G p wn rows sp K S) (hL : LW E G) : PlS (sfd G 2 3 p x) p wn rows sp K S ∧ evF E G (sfd G 2 3 p x) p wn K := by
  have k : FR G (sfd G 2 3 p x) (fun c j y => c = 2 ∧ j = 3 ∧ y = p) noA noA := FR.mSfd (by decide)
  obtain ⟨h1, h2, h3, h4, h5, h6, h7, h8, h9, h10, h11, h12⟩ := h
  have e : ∀ c j y, ¬ (c = 2 ∧ j = 3) → gfd (sfd G 2 3 p x) c j y = gfd G c j y := fun c j y hn => by rw [gfd_sfd, if_neg (fun h9 => hn ⟨h9.1, h9.2.1⟩)]
  refine ⟨⟨h1, by rw [e 2 0 p (by decide), e 13 1 _ (by decide)]; exact h2, by rw [e 2 0 p (by decide), lst_sfd (by decide)]; exact h3, h4, by rw [e 2 2 p (by decide)]; exact h5, by rw [e 2 1 p (by decide)]; exact h6, h7, h8, h9, fun r hr => ?_, h11, fun i hi => ?_⟩, hL.sfd (by decide), ONW.mSfd (by decide), k.mono (fun c j y h9 => Or.inr (Or.inr ⟨h9.1, by omega, h9.2.2⟩)) (fun _ h9 => h9.elim) (fun _ h9 => h9.elim)⟩
  · obtain ⟨n, R, hr9⟩ := h10 r hr
    exact ⟨n, R, hr9.fr k (fun j h9 => by omega) id id⟩
  · exact ⟨(h12 i hi).1.fr k (fun j h9 => by omega) id id, (h12 i hi).2⟩
def rkQ (E : EE) (G G' : Gt) (p wn : Int) (K : List Int) (time : Int) (ser : List Int) (sm : List Sm4) (ws : List Wd) (x : Int) : Prop :=
  evF E G G' p wn K ∧ (∃ rows' sp', PlS G' p wn rows' sp' K []) ∧ ((x = -1 ∧ evA time ser sm ws = none) ∨ (x ∈ K ∧ ∃ n R, evA time ser sm ws = some (n, R) ∧ RowH G' x n R ∧ RV n R))
theorem PlS.nil (h : PlS G p wn rows sp K S) : PlS G p wn rows sp K [] := by
  obtain ⟨h1, h2, h3, h4, h5, h6, h7, h8, h9, h10, -, -⟩ := h
  exact ⟨h1, h2, h3, h4, h5, h6, h7, h8, h9, h10, Nat.zero_le _, fun i hi => absurd hi (Nat.not_lt_zero i)⟩
theorem v_reckon (hO0 : OW G0) (hp3 : gcl G0 p = 3) (hK4 : ∀ r ∈ K, gcl G0 r = 4) (hrl : gcl G0 (gfd G0 2 0 p) = 14) (hW : WlH G0 wl ws) (hwl : wl ≠ gfd G0 2 0 p) (hok : ∀ w ∈ ws, wOk w) (hlw : ws.length ≤ 10) (hC : StC G0 st zs ser smp dn wr) (hi : SC ser (smp.map (·.1))) (hcs : ∀ c ∈ ser, cOk c) (h12 : ser.length ≤ 12) (hnl : nl = gfd G0 8 0 st) (htm : 0 ≤ time ∧ time ≤ 100000) :
    ∀ (j i : Nat) (G : Gt) (rows : List Int) (sp : Int) (S : List Rw), i + j = ws.length → evF E G0 G p wn K → PlS G p wn rows sp K S → gfd G 2 3 p = (S.length : Int) → S.length ≤ i → evL time ser (smp.map (·.1)) ws [] = evL time ser (smp.map (·.1)) (ws.drop i) S →
      V E M_X2_reckon 8 [some (rv p), some (rv wl), some (rv nl), some (iv time), some (iv (i : Int)), none, none] [] G c s (fun x G' => rkQ E G0 G' p wn K time ser (smp.map (·.1)) ws x) X := by
  have hst := hC.1
  have rl1 := hO0.nn (y := gfd G0 2 0 p) (by omega) (by omega)
  have nn1 := hO0.nn (y := gfd G0 8 0 st) (by rw [hC.2.1.1]; decide) (by rw [hC.2.1.1]; decide)
  have hn1 : gfd G0 8 0 st ≠ gfd G0 2 0 p := hO0.ne 8 0 2 0 hst hp3 nn1 (by omega)
  have hn2 : ∀ b ∈ numL G0 st, gfd G0 7 1 b ≠ gfd G0 2 0 p := fun b hb => by
    have hsb := hC.2.2.2.1 b hb
    exact hO0.ne 7 1 2 0 hsb.1 hp3 (hO0.nn (by rw [hsb.2.1.1]; decide) (by rw [hsb.2.1.1]; decide)) (by omega)
  intro j
  induction j with
  | zero =>
    intro i G rows sp S hij hE hP hh hSi hev
    have hF := hE.2.2
    obtain ⟨wl1, wl2⟩ := hW.fr hF (fun _ _ h9 => by omega) (fun _ _ h9 => by omega) hwl
    have hsz : gfd G 13 2 wl = ws.length := by rw [hE.1.size wl1.1 wl1.2.1, wl1.2.2.1]
    have hnil := hP.nil
    have hP0 := hP
    obtain ⟨h1, h2, h3, h4, h5, h6, h7, h8, h9, h10, h11, h13⟩ := hP
    have hrsz : gfd G 13 2 (gfd G 2 0 p) = 10 := by rw [hE.1.size h2.1 h2.2, h3, h4]; rfl
    have e10 : (if gfd G 13 2 (gfd G 2 0 p) = 0 then (1 : Int) else 0) = 0 := by rw [hrsz]; rfl
    have hat := alAt_get hE.1 h2.1 h2.2 (i := 0) (by rw [h3, h4]; decide)
    rw [h3] at hat
    have hat' : alAt G (gfd G 2 0 p) 0 = rows.getD 0 0 := hat
    have hget := okp_get (E := E) hE.1 h2.1 h2.2 (i := 0) (by omega) (by omega)
    have hr0 := hP0.row (i := 0) (by omega)
    obtain ⟨n1, R1, hrow⟩ := h10 _ hr0.1
    rw [List.drop_eq_nil_of_le (by omega)] at hev
    have hev2 : evL time ser (smp.map (·.1)) ws [] = some S := hev
    refine b_X2_reckon_8 ⟨wl1.1, okp_size wl1.1, fun _ => ⟨h1, fun _ => h1, fun _ => h2.1, fun _ => okp_isEmpty h2.1, fun _ _ => h1, fun _ _ => h2.1, fun _ _ => hget, fun _ _ => Or.inr (by rw [hat']; exact hrow.1.1), ?_⟩, fun h9 => by omega⟩
    rw [e10, hat', if_pos rfl, hh]
    by_cases h1S : S.length = 1
    · rw [if_pos (by omega)]
      have hS0 := h13 0 (by omega)
      obtain ⟨x, hx⟩ := List.length_eq_one_iff.mp h1S
      have e0 : S.getD 0 (0, []) = x := by rw [hx]; rfl
      rw [e0] at hS0
      refine ⟨hE, ⟨rows, sp, hnil⟩, Or.inr ⟨hr0.1, x.1, x.2, ?_, hS0⟩⟩
      unfold evA
      rw [hev2, hx]
    · rw [if_neg (by omega)]
      refine ⟨hE, ⟨rows, sp, hnil⟩, Or.inl ⟨rfl, ?_⟩⟩
      unfold evA
      rw [hev2]
      match S, h1S with
      | [], _ => rfl
      | [x], h => exact (h rfl).elim
      | x :: y :: r, _ => rfl
  | succ j ih =>
    intro i G rows sp S hij hE hP hh hSi hev
    have hF := hE.2.2
    have hiw : i < ws.length := by omega
    obtain ⟨wl1, wl2⟩ := hW.fr hF (fun _ _ h9 => by omega) (fun _ _ h9 => by omega) hwl
    have hsz : gfd G 13 2 wl = ws.length := by rw [hE.1.size wl1.1 wl1.2.1, wl1.2.2.1]
    have hP0 := hP
    have h1 := hP.1
    have h2 := hP.2.1
    have hrsz : gfd G 13 2 (gfd G 2 0 p) = 10 := by rw [hE.1.size h2.1 h2.2, hP.2.2.1, hP.2.2.2.1]; rfl
    have hat : alAt G wl (i : Int) = (lst G wl).getD i 0 := alAt_get hE.1 wl1.1 wl1.2.1 (by rw [wl1.2.2.1]; exact hiw)
    have hget := okp_get (E := E) hE.1 wl1.1 wl1.2.1 (i := (i : Int)) (by omega) (by omega)
    rw [hat] at hget
    have hwd := wl1.2.2.2 i hiw
    have hwm : ws.getD i w0 ∈ ws := by rw [List.getD_eq_getElem?_getD, List.getElem?_eq_getElem hiw]; exact List.getElem_mem hiw
    have hokw := hok _ hwm
    have hdr : ws.drop i = ws.getD i w0 :: ws.drop (i + 1) := by
      rw [List.drop_eq_getElem_cons hiw, List.getD_eq_getElem?_getD, List.getElem?_eq_getElem hiw]; rfl
    rw [hdr] at hev
    generalize ws.getD i w0 = w at hwd hokw hev
    generalize (lst G wl).getD i 0 = wd at hat hget hwd
    have hev2 : evL time ser (smp.map (·.1)) ws [] = match evW time ser (smp.map (·.1)) w S with | none => none | some S' => evL time ser (smp.map (·.1)) (ws.drop (i + 1)) S' := hev
    have hnone : evW time ser (smp.map (·.1)) w S = none → evA time ser (smp.map (·.1)) ws = none := fun h9 => by
      unfold evA
      rw [hev2, h9]
    have hnd := wNd_eq hokw
    refine b_X2_reckon_8 ⟨wl1.1, okp_size wl1.1, fun h9 => by omega, fun _ => ?_⟩
    rw [hat, hwd.2.1, hnd, hh, hrsz]
    have hne := okp_needs (E := E) (G := G) (x := w.1)
    rw [hnd] at hne
    refine ⟨wl1.1, hget, Or.inr hwd.1, hwd.1, hne, h1, fun h9 => ⟨hE, ⟨rows, sp, hP0.nil⟩, Or.inl ⟨rfl, hnone (evW_few hokw (by omega))⟩⟩, fun h9 => ⟨h1, i32s (by omega), h1, h2.1, ?_, fun h8 => ⟨h1, i32s (by unfold wNd; split; omega; split <;> omega), i32s (by omega), h1, fun G3 e3 => ?_⟩, fun h8 => by omega⟩⟩
    · have := okp_size (E := E) h2.1
      rw [hrsz] at this; exact this
    · obtain ⟨hP3, hE3⟩ := hP0.ht (E := E) (x := (S.length : Int) + (1 - (wNd w : Int))) hE.1
      rw [← e3] at hP3 hE3
      have hE03 := hE.fr hp3 hE3 hK4
      have hh3 : gfd G3 2 3 p = (S.length : Int) + 1 - (wNd w : Nat) := by rw [e3, gfd_sfd, if_pos ⟨rfl, rfl, rfl⟩]; omega
      have hwd3 : WdH G3 wd w := hwd.fr hE3.2.2 (fun _ _ h9 => by omega) (fun _ _ h9 => by omega)
      have hC3 := hC.fr hi hE03.2.2 (fun _ _ h9 => by omega) (fun _ h9 => by omega) (fun _ _ _ h9 => by omega) hn1 (fun b hb => hn2 b hb)
      have hnl3 : nl = gfd G3 8 0 st := by rw [hnl]; exact (hE03.2.2.2.1 8 0 st (by decide) (by omega) (fun h9 => by omega)).symm
      refine ⟨hP3.1, Call.to (ok_goThrough hE3.1 (hO0.go hE03.2.1) hP3 hwd3 hokw hC3.1 hi hcs h12 hnl3 htm hh3 (by omega) (by omega)) (Nat.zero_le _) (Nat.zero_le _) fun x G4 hq => ?_⟩
      obtain ⟨q1, q2, q3⟩ := hq
      have hE4 := hE03.fr hp3 q1 hK4
      rcases q3 with ⟨q3, S', rows', sp', q4, q5⟩ | ⟨q3, q4, rows', sp', S', q5⟩
      · refine ⟨fun _ => ⟨i32s (by omega), ?_⟩, fun h9 => by omega⟩
        have hlen := evW_len hokw q4
        have := ih (i + 1) G4 rows' sp' S' (by omega) hE4 q5 (by rw [q2, hh3]; omega) (by omega) (by rw [hev2, q4])
        rw [show ((i + 1 : Nat) : Int) = (i : Int) + 1 by omega] at this
        exact this
      · refine ⟨fun h9 => (h9 q3).elim, fun _ => ⟨hE4, ⟨rows', sp', q5.nil⟩, Or.inl ⟨rfl, hnone q4⟩⟩⟩
theorem ok_reckon (hL : LW E G) (hO : OW G) (hP : PlS G p wn rows sp K []) (hW : WlH G wl ws) (hwl : wl ≠ gfd G 2 0 p) (hok : ∀ w ∈ ws, wOk w) (hlw : ws.length ≤ 10) (hC : StC G st zs ser smp dn wr) (hi : SC ser (smp.map (·.1))) (hcs : ∀ c ∈ ser, cOk c) (h12 : ser.length ≤ 12) (hnl : nl = gfd G 8 0 st) (htm : 0 ≤ time ∧ time ≤ 100000) :
    Ok E M_X2_reckon [rv p, rv wl, rv nl, iv time] G 0 0 (fun x G' => rkQ E G G' p wn K time ser (smp.map (·.1)) ws x) (fun _ _ => False) := by
  have hK4 : ∀ r ∈ K, gcl G r = 4 := fun r hr => by
    obtain ⟨n, R, h⟩ := hP.2.2.2.2.2.2.2.2.2.1 r hr
    exact h.1.1
  refine i_X2_reckon ⟨hP.1, fun G2 e2 => ?_⟩
  obtain ⟨hP2, hE2⟩ := hP.ht (E := E) (x := 0) hL
  rw [← e2] at hP2 hE2
  exact v_reckon hO hP.1 hK4 hP.2.1.1 hW hwl hok hlw hC hi hcs h12 hnl htm ws.length 0 G2 rows sp [] (by omega) hE2 hP2 (by rw [e2, gfd_sfd, if_pos ⟨rfl, rfl, rfl⟩]; rfl) (Nat.le_refl _) (by rw [List.drop_zero])
end S73
