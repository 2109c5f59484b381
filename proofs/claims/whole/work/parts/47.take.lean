/-! the store takes a sample: all of it -/
section S47
variable {E : EE} {G G' G2 : Gt} {bc bs : Nat} {Q X : Int → Gt → Prop} {a st x q l t v : Int} {zs zs' : List Zt} {W : Nat → Nat → Int → Prop} {L A : Int → Prop}
variable {ser : List Int} {smp : List (Sm4 × Int)} {rs : List Int} {dn wr cr er : Int}
/-- how often, and by how much, a series' list may still grow -/
def glC (C : Int) : Nat := if C < 10 then 6 else if C < 15 then 5 else if C < 22 then 4 else if C < 33 then 3 else if C < 49 then 2 else if C < 73 then 1 else 0
def glS (C : Int) : Nat := if C < 10 then 202 else if C < 15 then 192 else if C < 22 then 177 else if C < 33 then 155 else if C < 49 then 122 else if C < 73 then 73 else 0
def PC (G : Gt) (st : Int) : Nat := ((numL G st).map fun a => glC (capOf G (gfd G 7 1 a))).sum
def PS (G : Gt) (st : Int) : Nat := ((numL G st).map fun a => glS (capOf G (gfd G 7 1 a))).sum
theorem gl_step {C n : Int} (h : capK C) (hn : n < 60) : (if n = C then 1 else 0) + glC (if n = C then ncap C else C) ≤ glC C ∧ (if n = C then (ncap C).toNat else 0) + glS (if n = C then ncap C else C) ≤ glS C := by
  by_cases e : n = C
  · rw [if_pos e, if_pos e, if_pos e]
    unfold capK at h
    rcases h with rfl | rfl | rfl | rfl | rfl | rfl | rfl
    · decide
    · decide
    · decide
    · decide
    · decide
    · decide
    · omega
  · rw [if_neg e, if_neg e, if_neg e]; omega
theorem sum_one {L : List Int} {f g : Int → Nat} {a : Int} (ha : a ∈ L) (hn : L.Nodup) (hf : ∀ b ∈ L, b ≠ a → f b = g b) : (L.map f).sum + g a = (L.map g).sum + f a := by
  induction L with
  | nil => cases ha
  | cons b L ih =>
    have hn' := List.nodup_cons.mp hn
    rw [List.map_cons, List.sum_cons, List.map_cons, List.sum_cons]
    by_cases e : b = a
    · subst e
      have : L.map f = L.map g := List.map_congr_left fun y hy => hf y (List.mem_cons_of_mem _ hy) (fun h9 => hn'.1 (by rw [← h9]; exact hy))
      rw [this]; omega
    · have := ih (by rcases List.mem_cons.mp ha with h9 | h9; exact (e h9.symm).elim; exact h9) hn'.2 (fun y hy => hf y (List.mem_cons_of_mem _ hy))
      have := hf b List.mem_cons_self e
      omega
theorem StH.nodup (h : StH G st zs ser smp rs dn wr cr) (hi : SI ser (smp.map (·.1)) rs er) : (numL G st).Nodup := by
  have : ((numL G st).map (sLab G)).Nodup := by rw [h.2.2.2.1]; exact hi.1
  exact List.Pairwise.of_map (sLab G) (fun {x y} h9 h8 => h9 (by rw [h8])) this
def tkC (G : Gt) (st l : Int) : Nat := (if fsV G (numL G st) l = -1 then 8 else 2 + gC G (gfd G 7 1 (fsV G (numL G st) l))) + gC G (gfd G 8 1 st)
def tkS (G : Gt) (st l : Int) : Nat := (if fsV G (numL G st) l = -1 then 162 else 8 + gS G (gfd G 7 1 (fsV G (numL G st) l))) + gS G (gfd G 8 1 st)
def serW (ser : List Int) (l : Int) : List Int := if l ∈ ser then ser else ser ++ [l]
/-- what the store is behind a taken sample -/
def tkG (E : EE) (G G' : Gt) (st l t v : Int) (ser : List Int) (smp : List (Sm4 × Int)) (rs : List Int) (dn wr : Int) : Prop :=
  LW E G' ∧ OWG G G' ∧ FR G G' (wT st) (fun y => y = gfd G 8 0 st ∨ y = gfd G 8 1 st ∨ ∃ a ∈ numL G st, y = gfd G 7 1 a) noA ∧
  (∃ zs', StH G' st zs' (serW ser l) (smp ++ [((l, t, v, 0), if dn = 0 then 1 else 0)]) (0 :: rs) dn (wr + 1) (addCap G (gfd G 8 1 st))) ∧
  tkC G st l + PC G' st ≤ PC G st + 2 + gC G (gfd G 8 1 st) + (if l ∈ ser then 0 else 11) ∧ tkS G st l + PS G' st ≤ PS G st + 8 + gS G (gfd G 8 1 st) + (if l ∈ ser then 0 else 346) ∧
  (∃ L1, numL G' st = numL G st ++ L1 ∧ ∀ b ∈ L1, gcl G b = 0 ∧ gfd G' 7 4 b = 0)
theorem ok_take (hL : LW E G) (hO : OW G) (h : StH G st zs ser smp rs dn wr cr) (hi : SI ser (smp.map (·.1)) rs er) (hl : cOk l) (ht : 0 ≤ t ∧ t ≤ 100000)
    (hd : dn = 0 ∨ dn = 1) (hw : 0 ≤ wr ∧ wr ≤ 1000000) (hrs : rs.length ≤ 1000000) (hroom : tkA ser (smp.map (·.1)) l t v = 0 → tkC G st l ≤ bc ∧ tkS G st l ≤ bs) :
    Ok E M_X8_take [rv st, iv l, iv t, iv v] G bc bs (fun r G' => r = tkA ser (smp.map (·.1)) l t v ∧ (r ≠ 0 → G' = G) ∧ (r = 0 → tkG E G G' st l t v ser smp rs dn wr)) (fun _ _ => False) := by
  have hnr := h.nr hi
  have hnum : (numL G st).length = ser.length := by
    have := congrArg List.length h.2.2.2.1
    rw [List.length_map] at this; exact this
  have hsz : gfd G 13 2 (gfd G 8 0 st) = ser.length := by rw [hnr.size hL, hnum]
  have hlk := h.like hi (Int.tdiv l 100)
  have hgn : gC G (gfd G 8 0 st) ≤ 1 ∧ (ser.length < 12 → gS G (gfd G 8 0 st) ≤ 16) := by
    unfold gC gS
    constructor
    · split <;> omega
    · intro h9
      split
      · rename_i e
        rw [hsz] at e
        rw [← e]
        unfold ncap
        split <;> omega
      · omega
  refine i_X8_take ⟨h.1, Call.pure (okp_sfind hL hnr) fun J6 hJ6 => ?_⟩
  have body : ¬ (l ∉ ser ∧ 12 ≤ ser.length) → J6 := fun hfull => hJ6 (by
    have hA : tkA ser (smp.map (·.1)) l t v = if jdg (smp.map (·.1)) l t v ≠ 0 then jdg (smp.map (·.1)) l t v else if 60 ≤ likeN (Int.tdiv l 100) (smp.map (·.1)) then 5 else 0 := by
      unfold tkA; rw [if_neg hfull]
    intro J7 hJ7
    have inner : ∀ x8 : Int, x8 = jdg (smp.map (·.1)) l t v → J7 x8 G bc bs := fun x8 ex => hJ7 _ _ _ _ (by
      refine ⟨fun h0 => ⟨h.1, Call.pure (okp_countSeen hL hnr) ⟨fun h60 => ?_, fun h60 => ?_⟩⟩, fun h0 => ?_⟩
      · rw [hlk] at h60
        have hj : jdg (smp.map (·.1)) l t v = 0 := by rw [← ex]; exact h0
        have hA0 : tkA ser (smp.map (·.1)) l t v = 0 := by
          rw [hA, if_neg (fun h9 => h9 hj), if_neg (by omega)]
        have hb : Basic (smp.map (·.1) ++ [(l, t, v, 0)]) := hi.2.2.2.2.1.basic.write hj (by omega)
        obtain ⟨r1, r2⟩ := hroom hA0
        unfold tkC at r1
        unfold tkS at r2
        intro J19 hJ19
        rcases h.find l with ⟨k1, k2⟩ | ⟨k1, k2, k3⟩
        · have hlen : ser.length < 12 := by
            by_cases h9 : ser.length < 12
            · exact h9
            · exact (hfull ⟨k2, by omega⟩).elim
          rw [if_pos k1] at r1 r2
          have hgn2 := hgn.2 hlen
          refine ⟨fun h9 => by omega, fun _ => ?_⟩
          refine take_new hL hO h hi k2 hlen (by omega) (by omega) fun q G1 c1 s1 htn hc1 hs1 => hJ19 _ _ _ _ ?_
          obtain ⟨n1, n2, n3, n4, n5, n6, n7, n8, n9, n10, n11, n12, n13, n14, n15, n16⟩ := htn
          have hqm : q ∈ numL G1 st := by rw [n6]; exact List.mem_append_right _ (List.mem_singleton.mpr rfl)
          have gq : gC G1 (gfd G1 7 1 q) ≤ 1 ∧ gS G1 (gfd G1 7 1 q) ≤ 10 := by
            unfold gC gS
            rw [n10]
            refine ⟨by split <;> omega, by split; exact Nat.le_refl _; omega⟩
          have hSI := hi.more k2 hlen hl
          refine take_make n1 n2.1 n5 hSI hqm (by rw [n7]; exact hb) hd hw hrs (by rw [n12]; omega) (by rw [n13]; omega) fun q2 G2 hm => ?_
          obtain ⟨m1, m2, m3, m4, m5, m6, m7, m8⟩ := hm
          have hq8 : gcl G1 q = 8 := (n5.2.2.2.2.1 q hqm).1
          have hq14 := (n5.2.2.2.2.1 q hqm).2.1
          have hcap : addCap G1 (gfd G1 7 1 q) = 10 := by
            unfold addCap
            have e9 : gfd G1 13 2 (gfd G1 7 1 q) = 0 := by
              rw [n1.size hq14.1 hq14.2]
              show ((seenL G1 q).length : Int) = 0
              rw [n9]; rfl
            rw [n10, e9]; rfl
          rw [hcap] at m6
          have hqn : q ∉ numL G st := fun h9 => by have := (h.2.2.2.2.1 q h9).1; omega
          have hsum : ∀ f : Int → Nat, ((numL G2 st).map fun a => f (capOf G2 (gfd G2 7 1 a))).sum = ((numL G st).map fun a => f (capOf G (gfd G 7 1 a))).sum + f 10 := fun f => by
            rw [m7, n6, List.map_append, List.sum_append]
            congr 1
            · refine congrArg List.sum (List.map_congr_left fun b hb9 => ?_)
              rw [m8 b (by rw [n6]; exact List.mem_append_left _ hb9) (fun h9 => hqn (by rw [← h9]; exact hb9)), n16 b hb9]
            · show f (capOf G2 (gfd G2 7 1 q)) + 0 = _
              rw [m6]; rfl
          have hpc : PC G2 st = PC G st + 5 := hsum glC
          have hps : PS G2 st = PS G st + 192 := hsum glS
          refine ⟨hA0.symm, fun h9 => (h9 rfl).elim, fun _ => ⟨m1, n2.trans m2 (fun y hy => by rw [n3.1 y hy]; exact hy), ?_, ?_, ?_, ?_, ?_⟩⟩
          · refine (n3.mono (fun _ _ _ h9 => h9.elim) (fun y h9 => Or.inl h9) (fun _ h9 => h9)).andThen m3 (fun c k y hy h9 => h9) (fun y hy h9 => ?_) (fun _ _ h9 => h9)
            rcases h9 with h9 | h9
            · exact (hy (by rw [h9]; exact n8)).elim
            · exact Or.inr (Or.inl (by rw [h9, n11]))
          · have e9 : serW ser l = ser ++ [l] := by unfold serW; rw [if_neg k2]
            rw [n7, n15] at m5
            rw [e9]; exact ⟨_, m5⟩
          · unfold tkC; rw [if_pos k1, if_neg k2]; omega
          · unfold tkS; rw [if_pos k1, if_neg k2]; omega
          · refine ⟨[q], by rw [m7, n6], fun b hb9 => ?_⟩
            rw [List.mem_singleton.mp hb9]
            exact ⟨n4, (m3.2.1 7 4 q (by decide) (by omega) (fun h9 => by unfold wT at h9; omega)).trans n14⟩
        · have hnn := hO.nn (y := fsV G (numL G st) l) (by rw [(h.2.2.2.2.1 _ k1).1]; decide) (by rw [(h.2.2.2.2.1 _ k1).1]; decide)
          rw [if_neg hnn] at r1 r2
          refine ⟨fun _ => hJ19 _ _ _ _ ?_, fun h9 => (hnn h9).elim⟩
          refine take_make hL hO h hi k1 (by rw [k2]; exact hb) hd hw hrs (by omega) (by omega) fun q2 G2 hm => ?_
          obtain ⟨m1, m2, m3, m4, m5, m6, m7, m8⟩ := hm
          have hsa := h.2.2.2.2.1 _ k1
          have hln : gfd G 13 2 (gfd G 7 1 (fsV G (numL G st) l)) < 60 := by
            rw [hL.size hsa.2.1.1 hsa.2.1.2]
            have h1 := hb.2 (Int.tdiv l 100)
            have h0 : likeP (Int.tdiv l 100) (l, t, v, 0) = true := decide_eq_true (show (0 : Int) = 0 ∧ Int.tdiv l 100 = Int.tdiv l 100 from ⟨rfl, rfl⟩)
            rw [likeN_app, if_pos h0] at h1
            have h2 := own_like l (smp.map (·.1))
            have h3 := hsa.2.2.1.length_eq
            rw [k2, zO_len, zs_map h.2.2.2.2.2.1] at h3
            show ((seenL G _).length : Int) < 60
            omega
          have hgl := gl_step hsa.2.2.2.2.2 hln
          have hsum : ∀ f : Int → Nat, ((numL G2 st).map fun a => f (capOf G2 (gfd G2 7 1 a))).sum + f (capOf G (gfd G 7 1 (fsV G (numL G st) l))) = ((numL G st).map fun a => f (capOf G (gfd G 7 1 a))).sum + f (addCap G (gfd G 7 1 (fsV G (numL G st) l))) := fun f => by
            rw [m7, ← m6]
            exact sum_one (f := fun a => f (capOf G2 (gfd G2 7 1 a))) (g := fun a => f (capOf G (gfd G 7 1 a))) k1 (h.nodup hi) (fun b hb9 hba => by rw [m8 b hb9 hba])
          have hpc : PC G2 st + _ = PC G st + _ := hsum glC
          have hps : PS G2 st + _ = PS G st + _ := hsum glS
          unfold addCap at hpc hps
          refine ⟨hA0.symm, fun h9 => (h9 rfl).elim, fun _ => ⟨m1, m2, m3.mono (fun _ _ _ h9 => h9) (fun y h9 => ?_) (fun _ h9 => h9), ?_, ?_, ?_, ?_⟩⟩
          · rcases h9 with h9 | h9
            · exact Or.inr (Or.inr ⟨_, k1, h9⟩)
            · exact Or.inr (Or.inl h9)
          · have e9 : serW ser l = ser := by unfold serW; rw [if_pos k3]
            rw [k2] at m5
            rw [e9]; exact ⟨_, m5⟩
          · unfold tkC
            rw [if_neg hnn, if_pos k3]
            unfold gC
            omega
          · unfold tkS
            rw [if_neg hnn, if_pos k3]
            unfold gS
            omega
          · exact ⟨[], by rw [m7, List.append_nil], fun b hb9 => by cases hb9⟩
      · rw [hlk] at h60
        have hj : jdg (smp.map (·.1)) l t v = 0 := by rw [← ex]; exact h0
        have hA0 : tkA ser (smp.map (·.1)) l t v = 5 := by
          rw [hA, if_neg (fun h9 => h9 hj), if_pos (by omega)]
        exact ⟨hA0.symm, fun _ => rfl, fun h9 => absurd h9 (by decide)⟩
      · refine ⟨?_, fun _ => rfl, fun h9 => (h0 h9).elim⟩
        rw [hA, if_pos (by rw [← ex]; exact h0), ex])
    rcases h.find l with ⟨k1, k2⟩ | ⟨k1, k2, k3⟩
    · refine ⟨fun h9 => by omega, fun _ => inner 0 ?_⟩
      refine (jdg_cases.mpr ⟨fun p hp _ h9 => ?_, fun p hp _ h9 => ?_⟩).symm
      · exact (k2 (by rw [← h9]; exact (hi.2.2.2.1 p hp).1)).elim
      · exact (k2 (by rw [← h9]; exact (hi.2.2.2.1 p hp).1)).elim
    · refine ⟨fun _ => ⟨(h.2.2.2.2.1 _ k1).1, Call.pure (okp_judge hL (h.sr hi k1) ht) (inner _ ?_)⟩, fun h9 => ?_⟩
      · rw [h.judge hi k1, k2]
      · exact absurd h9 (hO.nn (by rw [(h.2.2.2.2.1 _ k1).1]; decide) (by rw [(h.2.2.2.2.1 _ k1).1]; decide)))
  rcases h.find l with ⟨k1, k2⟩ | ⟨k1, k2, k3⟩
  · refine ⟨fun h9 => by omega, fun _ => ⟨h.1, h.2.1.1, okp_size h.2.1.1, fun h9 => body (by omega), fun h9 => ?_⟩⟩
    have : tkA ser (smp.map (·.1)) l t v = 1 := by unfold tkA; rw [if_pos ⟨k2, by omega⟩]
    exact ⟨this.symm, fun _ => rfl, fun h9 => absurd h9 (by decide)⟩
  · exact ⟨fun _ => body (fun h9 => h9.1 k3), fun h9 => absurd h9 (hO.nn (by rw [(h.2.2.2.2.1 _ k1).1]; decide) (by rw [(h.2.2.2.2.1 _ k1).1]; decide))⟩
end S47
