/-! the store takes a sample: a new series, and all of it -/
section S46
variable {E : EE} {G G' G2 : Gt} {c s bc bs : Nat} {Q X : Int → Gt → Prop} {a st x q l : Int} {zs zs' : List Zt} {W : Nat → Nat → Int → Prop} {L A : Int → Prop}
variable {ser : List Int} {smp : List (Sm4 × Int)} {rs : List Int} {dn wr cr er : Int}
theorem SI.more (h : SI ser (smp.map (·.1)) rs er) (hl : l ∉ ser) (hn : ser.length < 12) (hc : cOk l) : SI (ser ++ [l]) (smp.map (·.1)) rs er := by
  refine ⟨?_, by rw [List.length_append]; show ser.length + 1 ≤ 12; omega, fun c hc1 => ?_, fun q hq => ⟨List.mem_append_left _ (h.2.2.2.1 q hq).1, (h.2.2.2.1 q hq).2⟩, h.2.2.2.2⟩
  · rw [List.nodup_append]
    refine ⟨h.1, List.nodup_cons.mpr ⟨by simp, List.nodup_nil⟩, fun y hy z hz h9 => ?_⟩
    have : z = l := by simpa using hz
    rw [h9, this] at hy; exact hl hy
  · rcases List.mem_append.mp hc1 with h9 | h9
    · exact h.2.2.1 c h9
    · rw [List.mem_singleton.mp h9]; exact hc
def tnQ (E : EE) (G G' : Gt) (st q l : Int) (zs : List Zt) (ser : List Int) (smp : List (Sm4 × Int)) (rs : List Int) (dn wr cr : Int) : Prop :=
  LW E G' ∧ OWG G G' ∧ FR G G' noW (fun y => y = gfd G 8 0 st) noA ∧ gcl G q = 0 ∧ StH G' st zs (ser ++ [l]) smp rs dn wr cr ∧ numL G' st = numL G st ++ [q] ∧ sLab G' q = l ∧ gcl G (gfd G' 7 1 q) = 0 ∧ seenL G' q = [] ∧ capOf G' (gfd G' 7 1 q) = 0 ∧ gfd G' 8 1 st = gfd G 8 1 st ∧ gC G' (gfd G' 8 1 st) = gC G (gfd G 8 1 st) ∧ gS G' (gfd G' 8 1 st) = gS G (gfd G 8 1 st) ∧ gfd G' 7 4 q = 0 ∧ addCap G' (gfd G' 8 1 st) = addCap G (gfd G 8 1 st) ∧ ∀ b ∈ numL G st, capOf G' (gfd G' 7 1 b) = capOf G (gfd G 7 1 b)
theorem take_new {c16 s17 : Nat} {P : Int → Gt → Nat → Nat → Prop} (hL : LW E G) (hO : OW G) (h : StH G st zs ser smp rs dn wr cr) (hi : SI ser (smp.map (·.1)) rs er) (hl : l ∉ ser) (hn : ser.length < 12)
    (hc : 4 + gC G (gfd G 8 0 st) ≤ c16) (hs : 128 + gS G (gfd G 8 0 st) ≤ s17) (hP : ∀ q G' c74 s75, tnQ E G G' st q l zs ser smp rs dn wr cr → c16 ≤ c74 + 4 + gC G (gfd G 8 0 st) → s17 ≤ s75 + 128 + gS G (gfd G 8 0 st) → P q G' c74 s75) :
    (1 ≤ c16 ∧ 5 ≤ s17 ∧ ∀ q63 : Int, gcl G q63 = 0 → (eb E : Int) ≤ q63 → ∀ G64 : Gt, G64 = (newo G q63 7) → 0 ≤ q63 ∧ Call E M_X7_init [rv q63, iv l] G64 (c16 - 1) (s17 - 5) X (fun _ G67 c68 s69 => gcl G67 st = 9 ∧ gcl G67 (gfd G67 8 0 st) = 14 ∧ Call E M_A_add [rv (gfd G67 8 0 st), rv q63] G67 c68 s69 X (fun _ G73 c74 s75 => P q63 G73 c74 s75))) := by
  have hst := h.1
  refine ⟨by omega, by omega, fun q hq hqb G64 e64 => ⟨by omega, ?_⟩⟩
  have q64 : gcl G64 q = 8 := by rw [e64, gcl_newo, if_pos rfl]
  have f64 : FR G G64 noW (fun y => y = gfd G 8 0 st) noA := by rw [e64]; exact (FR.refl G).newoIn hq
  have l64 : LW E G64 := by rw [e64]; exact hL.newo hq
  have o64 : ONW G G64 := by rw [e64]; exact (ONW.refl G).newoT hq
  refine Call.to (mc' := 3) (ms' := 123) (ok_seriesInit (l := l) (by omega) l64 (hO.go o64) q64 (Nat.le_refl _) (Nat.le_refl _)) (by omega) (by omega) fun _ G67 h67 => ?_
  obtain ⟨l67, w67, f67, a0, a1, a2, a3, a4, a5, a6, a7⟩ := h67
  have F67 : FR G G67 noW (fun y => y = gfd G 8 0 st) noA := f64.andThen f67 (fun c k y hy h9 => (hy (by rw [h9.2]; exact hq)).elim) (fun _ _ h9 => h9.elim) (fun _ _ h9 => h9.elim)
  have W67 : OWG G G67 := ((OWG.refl hO).onw o64).trans w67 (fun y hy => by rw [f64.1 y hy]; exact hy)
  have s67 : gcl G67 st = 9 := by rw [F67.1 st (by omega)]; exact hst
  have n67 : gfd G67 8 0 st = gfd G 8 0 st := F67.2.1 8 0 st (by decide) (by omega) id
  have hnl := h.2.1
  have hrc := h.2.2.1
  have hn1 : gcl G67 (gfd G 8 0 st) = 14 := by rw [F67.1 _ (by omega)]; exact hnl.1
  have hn2 : gfd G67 13 1 (gfd G 8 0 st) ≠ -1 := (F67.2.2.1 _ hnl.1 hnl.2).1
  -- the lists of G, at G67 (none of them is the new one)
  have x67 : ∀ y, gcl G y = 14 → gfd G 13 1 y ≠ -1 → lst G67 y = lst G y ∧ capOf G67 y = capOf G y := fun y hy hr => by
    have c64 : gcl G64 y = 14 := by rw [f64.1 y (by omega)]; exact hy
    have r1 : lst G64 y = lst G y ∧ capOf G64 y = capOf G y ∧ gfd G64 13 1 y ≠ -1 := by
      have k := (FR.mNewo (G := G) (c := 7) hq)
      rw [← e64] at k
      have := k.2.2.1 y hy hr
      exact ⟨(this.2 id).1, (this.2 id).2, this.1⟩
    have r2 := f67.2.2.1 y c64 r1.2.2
    exact ⟨(r2.2 id).1.trans r1.1, (r2.2 id).2.trans r1.2.1⟩
  have e67 : ∀ y, gcl G y = 14 → gfd G 13 1 y ≠ -1 → gfd G67 13 2 y = gfd G 13 2 y := fun y hy hr => by
    rw [l67.size (by rw [F67.1 y (by omega)]; exact hy) (F67.2.2.1 y hy hr).1, hL.size hy hr, (x67 y hy hr).1]
  have g67 : ∀ y, gcl G y = 14 → gfd G 13 1 y ≠ -1 → gC G67 y = gC G y ∧ gS G67 y = gS G y := fun y hy hr => by
    unfold gC gS
    rw [(x67 y hy hr).2, e67 y hy hr]; exact ⟨rfl, rfl⟩
  have q67 : gcl G67 q = 8 := by rw [f67.1 q (by omega)]; exact q64
  have hnum : (numL G st).length < 12 := by
    have := congrArg List.length h.2.2.2.1
    rw [List.length_map] at this; omega
  rw [n67]
  refine ⟨s67, hn1, Call.to (mc' := gC G (gfd G 8 0 st)) (ms' := gS G (gfd G 8 0 st)) (ok_add l67 hn1 hn2 (Or.inr (by unfold okE; omega)) ?_ (gRoom (by rw [(g67 _ hnl.1 hnl.2).1]; exact Nat.le_refl _) (by rw [(g67 _ hnl.1 hnl.2).2]; exact Nat.le_refl _))) (by omega) (by omega) fun _ G73 h73 => hP q G73 _ _ ?_ (by omega) (by omega)⟩
  · rw [e67 _ hnl.1 hnl.2, hL.size hnl.1 hnl.2]
    show ((numL G st).length : Int) < _
    omega
  obtain ⟨-, h73⟩ := h73
  rw [(x67 _ hnl.1 hnl.2).1] at h73
  have F73 : FR G G73 noW (fun y => y = gfd G 8 0 st) noA := F67.luIn h73 rfl
  have k67 : FR G67 G73 noW (fun y => y = gfd G 8 0 st) noA := (FR.refl G67).luIn h73 rfl
  have n73 : gfd G73 8 0 st = gfd G 8 0 st := F73.2.1 8 0 st (by decide) (by omega) id
  have r73 : gfd G73 8 1 st = gfd G 8 1 st := F73.2.1 8 1 st (by decide) (by omega) id
  have eN : numL G73 st = numL G st ++ [q] := by unfold numL; rw [n73]; exact h73.2.2.2.2.2.1
  have sq73 : sLab G73 q = l := (k67.2.1 7 0 q (by decide) (by omega) id).trans a0
  have b73 : gfd G73 7 1 q = gfd G67 7 1 q := k67.2.1 7 1 q (by decide) (by omega) id
  have hneq : gfd G67 7 1 q ≠ gfd G 8 0 st := fun h9 => by rw [h9, f64.1 _ (by omega)] at a1; omega
  have aq1 : gcl G (gfd G67 7 1 q) = 0 := f64.old a1
  have kseen := k67.2.2.1 (gfd G67 7 1 q) a2 a3
  have hrn : gfd G 8 1 st ≠ gfd G 8 0 st := hO.ne 8 1 8 0 hst hst (hO.nn (by rw [hrc.1]; decide) (by rw [hrc.1]; decide)) (by omega)
  have hnb : ∀ b ∈ numL G st, gcl G b = 8 := fun b hb9 => (h.2.2.2.2.1 b hb9).1
  have eL : ∀ b ∈ numL G st, sLab G73 b = sLab G b := fun b hb9 => F73.2.1 7 0 b (by decide) (by rw [hnb b hb9]; decide) id
  have hz6 : ∀ z ∈ zs, gcl G z.1 = 6 := fun z hz => (h.2.2.2.2.2.2.2.1 z hz).1
  have eZ : ∀ z ∈ zs, ∀ k, gfd G73 5 k z.1 = gfd G 5 k z.1 := fun z hz k => F73.2.1 5 k z.1 (by decide) (by rw [hz6 z hz]; decide) id
  have krc := (F73.2.2.1 _ hrc.1 hrc.2)
  have hsz : gfd G73 13 2 (gfd G 8 1 st) = gfd G 13 2 (gfd G 8 1 st) := by
    rw [h73.1.size (by rw [F73.1 _ (by omega)]; exact hrc.1) krc.1, hL.size hrc.1 hrc.2, (krc.2 hrn).1]
  have hSb : ∀ b ∈ numL G st, SeH G73 b zs ∧ capOf G73 (gfd G73 7 1 b) = capOf G (gfd G 7 1 b) := fun b hb9 => by
    have hsb := h.2.2.2.2.1 b hb9
    have hb1 := hO.nn (y := gfd G 7 1 b) (by rw [hsb.2.1.1]; decide) (by rw [hsb.2.1.1]; decide)
    have := hsb.fr F73 (fun j => id) (fun y _ => id) (fun y hy => by rw [((h.sr hi hb9).2.2.2.1 y hy).1]; decide) (hO.ne 7 1 8 0 hsb.1 hst (by omega) (by omega)) (List.Perm.refl _)
    exact ⟨this.1, this.2.2.2⟩
  refine ⟨h73.1, W67.onw h73.onw, F73, hq, ?_, eN, sq73, by rw [b73]; exact aq1, by unfold seenL; rw [b73, (kseen.2 hneq).1]; exact a4, by rw [b73, (kseen.2 hneq).2]; exact a5, r73, by rw [r73]; unfold gC; rw [(krc.2 hrn).2, hsz], by rw [r73]; unfold gS; rw [(krc.2 hrn).2, hsz], (k67.2.1 7 4 q (by decide) (by omega) id).trans a7, by rw [r73]; unfold addCap; rw [(krc.2 hrn).2, hsz], fun b hb9 => (hSb b hb9).2⟩
  refine ⟨by rw [F73.1 st (by omega)]; exact hst, by rw [n73]; exact ⟨by rw [F73.1 _ (by omega)]; exact hnl.1, h73.2.2.2.2.2.2.2⟩, by rw [r73]; exact ⟨by rw [F73.1 _ (by omega)]; exact hrc.1, krc.1⟩, ?_, ?_, h.2.2.2.2.2.1, h.2.2.2.2.2.2.1, ?_, ?_, ?_, ?_, ?_, ?_, ?_⟩
  · rw [eN, List.map_append, ← h.2.2.2.1]
    congr 1
    · exact List.map_congr_left eL
    · show [sLab G73 q] = [l]
      rw [sq73]
  · intro b hb9
    rw [eN] at hb9
    rcases List.mem_append.mp hb9 with hb9 | hb9
    · exact (hSb b hb9).1
    · rw [List.mem_singleton.mp hb9]
      have hz0 : zO l zs = [] := by
        rw [List.eq_nil_iff_forall_not_mem]
        intro y hy
        obtain ⟨z, z1, -, -, z3⟩ := zO_mem.mp hy
        exact hl (by rw [← z3]; exact (hi.2.2.2.1 _ (h.mem z1)).1)
      have es : seenL G73 q = [] := by unfold seenL; rw [b73, (kseen.2 hneq).1]; exact a4
      refine ⟨by rw [k67.1 q (by omega)]; exact q67, by rw [b73]; exact ⟨by rw [k67.1 _ (by omega)]; exact a2, kseen.1⟩, by rw [es, sq73, hz0], by rw [es]; exact List.Pairwise.nil, a6.fr k67 (fun j => id), ?_⟩
      rw [b73, (kseen.2 hneq).2, a5]
      exact Or.inl rfl
  · intro z hz
    have hz8 := h.2.2.2.2.2.2.2.1 z hz
    refine ⟨by rw [F73.1 _ (by rw [hz8.1]; decide)]; exact hz8.1, (eZ z hz 1).trans hz8.2.1, (eZ z hz 2).trans hz8.2.2.1, (eZ z hz 4).trans hz8.2.2.2.1, ?_, ?_⟩
    · rw [eN, eZ z hz 0]; exact List.mem_append_left _ hz8.2.2.2.2.1
    · rw [eZ z hz 0, eL _ hz8.2.2.2.2.1]; exact hz8.2.2.2.2.2
  · exact h.2.2.2.2.2.2.2.2.1.imp_of_mem (fun {y z} hy hz h9 => by rw [eZ y hy, eZ z hz]; exact h9)
  · intro z hz
    rw [eZ z hz]; exact h.2.2.2.2.2.2.2.2.2.1 z hz
  · rw [F73.2.1 8 3 st (by decide) (by omega) id]; exact h.2.2.2.2.2.2.2.2.2.2.1
  · rw [F73.2.1 8 2 st (by decide) (by omega) id]; exact h.2.2.2.2.2.2.2.2.2.2.2.1
  · rw [r73, (krc.2 hrn).2]; exact h.2.2.2.2.2.2.2.2.2.2.2.2.1
  · rw [r73, (krc.2 hrn).1]
    exact h.2.2.2.2.2.2.2.2.2.2.2.2.2.fr (fun g _ h2 => ⟨by rw [F73.1 g (by omega)]; exact h2, F73.2.1 1 0 g (by decide) (by omega) id, F73.2.1 1 1 g (by decide) (by omega) id⟩) (fun z hz _ => eZ z hz 5)
end S46
