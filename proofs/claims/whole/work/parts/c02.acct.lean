/-! what is spent, reckoned against what stands: takes -/
section Sc02
variable {d d' : DS} {z : Mz} {l t v : Int} {n k : Nat} {kk : Int} {R : List (Int × Int)} {two time : Int} {ser : List Int} {sm : List Sm4} {ws : List Wd} {S S' : List Rw}
theorem evL_rv (hn : ser.Nodup) (h12 : ser.length ≤ 12) (hcs : ∀ c ∈ ser, cOk c) : ∀ (ws : List Wd) (S S' : List Rw), (∀ w ∈ ws, wOk w) → (∀ x ∈ S, RV x.1 x.2) → evL time ser sm ws S = some S' → ∀ x ∈ S', RV x.1 x.2
  | [], S, S', _, hS, h => by
    rw [← Option.some.inj h]; exact hS
  | w :: ws, S, S', hok, hS, h => by
    unfold evL at h
    split at h
    · cases h
    · rename_i S9 h9
      exact evL_rv hn h12 hcs ws S9 S' (fun w hw => hok w (List.mem_cons_of_mem _ hw)) (evW_rv (hok w List.mem_cons_self) hn h12 hcs hS h9) h
theorem evA_rv (hn : ser.Nodup) (h12 : ser.length ≤ 12) (hcs : ∀ c ∈ ser, cOk c) (hok : ∀ w ∈ ws, wOk w) : RvO (evA time ser sm ws) := by
  intro p hp
  unfold evA at hp
  split at hp
  · rename_i x hx
    rw [← Option.some.inj hp]
    exact evL_rv hn h12 hcs ws [] [x] hok (fun _ h9 => (List.not_mem_nil h9).elim) hx x List.mem_cons_self
  · cases hp
theorem DI.ruRv (hi : DI d) (hn : n < (dRl d).length) : RvO (ruO d n) :=
  evA_rv hi.1.1 hi.1.2.1 hi.1.2.2.1 (hi.2.2.2.2.2.2.2.1.2 _ (getD_mem' hn)).2.1.2
def vis (d : DS) : Nat := visN (smS d)
theorem DI.v420 (hi : DI d) : vis d ≤ 420 := vis420 hi.1.2.2.2.2.1.basic hi.1.2.2.1 (fun q hq => (hi.1.2.2.2.1 q hq).1)
def gg (n : Nat) : Nat := (if 1 ≤ n then 1 else 0) + (if 11 ≤ n then 1 else 0) + (if 16 ≤ n then 1 else 0) + (if 23 ≤ n then 1 else 0) + (if 34 ≤ n then 1 else 0) + (if 50 ≤ n then 1 else 0)
def gh (n : Nat) : Nat := (if 1 ≤ n then 10 else 0) + (if 11 ≤ n then 15 else 0) + (if 16 ≤ n then 22 else 0) + (if 23 ≤ n then 33 else 0) + (if 34 ≤ n then 49 else 0) + (if 50 ≤ n then 73 else 0)
theorem gg_le (n : Nat) : gg n ≤ 6 := by
  unfold gg
  have a : ∀ (p : Prop) [Decidable p] (m : Nat), (if p then m else 0) ≤ m := fun p _ m => by split <;> omega
  have := a (1 ≤ n) 1; have := a (11 ≤ n) 1; have := a (16 ≤ n) 1; have := a (23 ≤ n) 1; have := a (34 ≤ n) 1; have := a (50 ≤ n) 1
  omega
theorem gh_le (n : Nat) : gh n ≤ 202 := by
  unfold gh
  have a : ∀ (p : Prop) [Decidable p] (m : Nat), (if p then m else 0) ≤ m := fun p _ m => by split <;> omega
  have := a (1 ≤ n) 10; have := a (11 ≤ n) 15; have := a (16 ≤ n) 22; have := a (23 ≤ n) 33; have := a (34 ≤ n) 49; have := a (50 ≤ n) 73
  omega
theorem gg_up (n : Nat) : gg (n + 1) = gg n + gwC n := by
  by_cases h0 : n = 0
  · rw [h0]; rfl
  by_cases h1 : n = 10
  · rw [h1]; rfl
  by_cases h2 : n = 15
  · rw [h2]; rfl
  by_cases h3 : n = 22
  · rw [h3]; rfl
  by_cases h4 : n = 33
  · rw [h4]; rfl
  by_cases h5 : n = 49
  · rw [h5]; rfl
  unfold gg gwC
  have e : ∀ a : Nat, n ≠ a → (if a + 1 ≤ n + 1 then (1 : Nat) else 0) = if a + 1 ≤ n then 1 else 0 := fun a ha => by
    by_cases h : a + 1 ≤ n
    · rw [if_pos h, if_pos (by omega)]
    · rw [if_neg h, if_neg (by omega)]
  rw [e 0 h0, e 10 h1, e 15 h2, e 22 h3, e 33 h4, e 49 h5, if_neg (show ¬ (n = 0 ∨ n = 10 ∨ n = 15 ∨ n = 22 ∨ n = 33 ∨ n = 49) by omega)]
  rfl
theorem gh_up (n : Nat) : gh (n + 1) = gh n + gwS n := by
  by_cases h0 : n = 0
  · rw [h0]; rfl
  by_cases h1 : n = 10
  · rw [h1]; rfl
  by_cases h2 : n = 15
  · rw [h2]; rfl
  by_cases h3 : n = 22
  · rw [h3]; rfl
  by_cases h4 : n = 33
  · rw [h4]; rfl
  by_cases h5 : n = 49
  · rw [h5]; rfl
  unfold gh gwS
  have e : ∀ a m : Nat, n ≠ a → (if a + 1 ≤ n + 1 then m else 0) = if a + 1 ≤ n then m else 0 := fun a m ha => by
    by_cases h : a + 1 ≤ n
    · rw [if_pos h, if_pos (by omega)]
    · rw [if_neg h, if_neg (by omega)]
  rw [e 0 _ h0, e 10 _ h1, e 15 _ h2, e 22 _ h3, e 33 _ h4, e 49 _ h5, if_neg h0, if_neg h1, if_neg h2, if_neg h3, if_neg h4, if_neg h5]
  rfl
theorem sum_bump {f g : Int → Nat} {l : Int} (hg : ∀ c, c ≠ l → g c = f c) : ∀ L : List Int, L.Nodup → l ∈ L → (L.map g).sum + f l = (L.map f).sum + g l
  | [], _, h => (List.not_mem_nil h).elim
  | c :: L, hn, h => by
    rw [List.map_cons, List.map_cons, List.sum_cons, List.sum_cons]
    have hn2 := List.nodup_cons.mp hn
    by_cases hc : c = l
    · subst hc
      have : L.map g = L.map f := List.map_congr_left fun y hy => hg y (fun h9 => hn2.1 (h9 ▸ hy))
      rw [this]; omega
    · rw [hg c hc]
      have := sum_bump hg L hn2.2 ((List.mem_cons.mp h).resolve_left (fun h9 => hc h9.symm))
      omega
theorem sum_le9 {α : Type} {f : α → Nat} {m : Nat} (h : ∀ c, f c ≤ m) : ∀ L : List α, (L.map f).sum ≤ m * L.length
  | [] => Nat.zero_le _
  | c :: L => by
    rw [List.map_cons, List.sum_cons, List.length_cons, Nat.mul_succ]
    have := h c; have := sum_le9 h L; omega
def gC9 (d : DS) : Nat := ((dSer d).map fun c => gg (cnt d c)).sum
def gS9 (d : DS) : Nat := ((dSer d).map fun c => gh (cnt d c)).sum
def RCn (cr : Int) : Int := (if cr < 1000 then (1000 - cr) / 5 + 1 else 0) + (170000 - cr) / 500
def E9 (d : DS) : Nat := ((dRl d).map fun q => q.2.2.length).sum
def WCl (d : DS) (z : Mz) : Int := 2 * (984 - (2 * (vis d : Int) + gC9 d + 6 * (dSer d).length)) + 2 * RCn (dN d 6) + (96 - E9 d) + 2 * ((160000 - z.1) / 8000 + (160000 - z.2) / 8000)
def WSl (d : DS) (z : Mz) : Int := 2 * (7632 - (8 * (vis d : Int) + gS9 d + 154 * (dSer d).length)) + 8 * (170000 - dN d 6) + 5 * (96 - E9 d) + 2 * (10 * (160000 - z.1) + 2 * (160000 - z.2))
def zz (x : Int) : Prop := x = 40000 ∨ x = 80000 ∨ x = 160000
/-- the counts, k calls done -/
def Nm (kk : Int) (d : DS) (z : Mz) : Prop := dN d 5 ≤ 210 * kk + vis d ∧ ((dRec d).length : Int) ≤ dN d 5 + kk ∧ (dN d 6 = 0 ∨ 10 ≤ dN d 6) ∧ dN d 6 ≤ 170000 ∧ ((dRec d).length : Int) ≤ dN d 6 ∧ zz z.1 ∧ zz z.2 ∧ SL d
theorem rc_acct {cr : Int} {n : Nat} (h0 : cr = 0 ∨ 10 ≤ cr) (h1 : cr ≤ 170000) (hn : (n : Int) ≤ cr) (hn2 : n ≤ 112000) :
    ∀ cr', cr' = (if (n : Int) = cr then ncap cr else cr) → (cr' = 0 ∨ 10 ≤ cr') ∧ cr' ≤ 170000 ∧ (n : Int) + 1 ≤ cr' ∧ (((if (n : Int) = cr then 1 else 0 : Nat) : Nat) : Int) + RCn cr' ≤ RCn cr ∧ (((if (n : Int) = cr then (ncap cr).toNat else 0 : Nat) : Nat) : Int) + 4 * (170000 - cr') ≤ 4 * (170000 - cr) := by
  intro cr' e
  by_cases h : (n : Int) = cr
  · rw [if_pos h] at e ⊢
    rw [if_pos h]
    have hnc : ncap cr = if cr = 0 then 10 else cr + cr / 2 := rfl
    by_cases hc : cr = 0
    · rw [if_pos hc] at hnc
      rw [hnc] at e ⊢
      rw [e, hc]
      exact ⟨by omega, by omega, by omega, by decide, by decide⟩
    · rw [if_neg hc] at hnc
      rw [hnc] at e ⊢
      have h10 := h0.resolve_left hc
      refine ⟨by omega, by omega, by omega, ?_, ?_⟩
      · have q2 : (170000 - (cr + cr / 2)) / 500 ≤ (170000 - cr) / 500 := by omega
        have q3 : 1000 ≤ cr → (170000 - (cr + cr / 2)) / 500 + 1 ≤ (170000 - cr) / 500 := fun _ => by omega
        have q1 : (1000 - (cr + cr / 2)) / 5 + 1 ≤ (1000 - cr) / 5 := by omega
        unfold RCn
        rw [e]
        by_cases h8 : cr + cr / 2 < 1000
        · rw [if_pos h8, if_pos (show cr < 1000 by omega)]
          omega
        · rw [if_neg h8]
          by_cases h7 : cr < 1000
          · rw [if_pos h7]
            omega
          · rw [if_neg h7]
            have := q3 (by omega)
            omega
      · rw [e]
        have : (((cr + cr / 2).toNat : Nat) : Int) = cr + cr / 2 := Int.toNat_of_nonneg (by omega)
        omega
  · rw [if_neg h] at e ⊢
    rw [if_neg h, e]
    exact ⟨h0, h1, by omega, by omega, by omega⟩
theorem zz_acct {x : Int} {n : Nat} (h : zz x) (hn : n < 160000) : zz (mlN n x) ∧ ((mgC n x 5 : Nat) : Int) + (160000 - mlN n x) / 8000 ≤ (160000 - x) / 8000 ∧ ((mgC n x 1 : Nat) : Int) + (160000 - mlN n x) / 8000 ≤ (160000 - x) / 8000 ∧ ((mgS n x 5 : Nat) : Int) + 10 * (160000 - mlN n x) ≤ 10 * (160000 - x) ∧ ((mgS n x 1 : Nat) : Int) + 2 * (160000 - mlN n x) ≤ 2 * (160000 - x) := by
  unfold mlN mgC mgS zz
  by_cases hx : (n : Int) = x
  · simp only [if_pos hx]
    rcases h with h | h | h
    · subst h
      exact ⟨by omega, by omega, by omega, by omega, by omega⟩
    · subst h
      exact ⟨by omega, by omega, by omega, by omega, by omega⟩
    · omega
  · simp only [if_neg hx]
    exact ⟨h, by omega, by omega, by omega, by omega⟩
theorem cnt_no (hi : DI d) (hl : l ∉ dSer d) : cnt d l = 0 := by
  unfold cnt
  rw [List.countP_eq_zero]
  intro q hq h9
  exact hl ((own_iff.mp h9).2 ▸ (hi.1.2.2.2.1 q hq).1)
theorem tk_acct (hi : DI d) (hk : 0 ≤ kk ∧ kk ≤ 512) (h : Nm kk d z) : Nm kk (tkD d l t v) (tZ d l t v z) ∧ 2 * (((takC d l t v + tMC d l t v z.1 z.2 : Nat) : Nat) : Int) + WCl (tkD d l t v) (tZ d l t v z) ≤ WCl d z ∧ 2 * (((takS d l t v + tMS d l t v z.1 z.2 : Nat) : Nat) : Int) + WSl (tkD d l t v) (tZ d l t v z) ≤ WSl d z := by
  obtain ⟨h5, hr, h6, h17, hrc, hz1, hz2, hS⟩ := h
  have hv := hi.v420
  by_cases ha : tkA (dSer d) (smS d) l t v = 0
  · have e : tkD d l t v = stD d (fun j => if j = 5 then dN d 5 + 1 else if j = 6 then recN d else dN d j) (serW (dSer d) l) (dSmp d ++ [((l, t, v, 0), if dN d 4 = 0 then 1 else 0)]) (0 :: dRec d) (dBk d) := by unfold tkD; rw [if_pos ha]
    have e5 : dN (tkD d l t v) 5 = dN d 5 + 1 := by rw [e]; rfl
    have e6 : dN (tkD d l t v) 6 = recN d := by rw [e]; rfl
    have eS : dSer (tkD d l t v) = serW (dSer d) l := by rw [e]; rfl
    have eM : smS (tkD d l t v) = smS d ++ [(l, t, v, 0)] := by
      rw [e]
      show (dSmp d ++ [((l, t, v, 0), if dN d 4 = 0 then 1 else 0)]).map Prod.fst = _
      rw [List.map_append]; rfl
    have eR : (dRec (tkD d l t v)).length = (dRec d).length + 1 := by rw [e]; rfl
    have eE : E9 (tkD d l t v) = E9 d := by rw [e]; rfl
    have eV : vis (tkD d l t v) = vis d + 1 := by
      unfold vis visN
      rw [eM, List.countP_append]; rfl
    have eN : ∀ c, cnt (tkD d l t v) c = cnt d c + if c = l then 1 else 0 := fun c => by
      unfold cnt
      rw [eM, List.countP_append, List.countP_singleton]
      congr 1
      by_cases hc : c = l
      · rw [if_pos hc, if_pos (show own c (l, t, v, 0) = true from own_iff.mpr ⟨rfl, hc.symm⟩)]
      · rw [if_neg hc, if_neg (show ¬ own c (l, t, v, 0) = true from fun h9 => hc ((own_iff.mp h9).2).symm)]
    have eZ1 : (tZ d l t v z).1 = mlN (dSmp d).length z.1 := by
      show tML d l t v z.1 = _
      unfold tML; rw [if_pos ha]
    have eZ2 : (tZ d l t v z).2 = mlN (dRec d).length z.2 := by
      show tMR d l t v z.2 = _
      unfold tMR; rw [if_pos ha]
    have c1 : takC d l t v = (if l ∈ dSer d then 2 + gwC (cnt d l) else 8) + recC d := by unfold takC; rw [if_pos ha]
    have c2 : takS d l t v = (if l ∈ dSer d then 8 + gwS (cnt d l) else 162) + recS d := by unfold takS; rw [if_pos ha]
    have c3 : tMC d l t v z.1 z.2 = mgC (dSmp d).length z.1 5 + mgC (dRec d).length z.2 1 := by unfold tMC; rw [if_pos ha]
    have c4 : tMS d l t v z.1 z.2 = mgS (dSmp d).length z.1 5 + mgS (dRec d).length z.2 1 := by unfold tMS; rw [if_pos ha]
    have hsl : ((dSmp d).length : Int) ≤ dN d 5 := hS
    obtain ⟨a1, a2, -, a4, -⟩ := zz_acct (n := (dSmp d).length) hz1 (by omega)
    obtain ⟨b1, -, b3, -, b5⟩ := zz_acct (n := (dRec d).length) hz2 (by omega)
    obtain ⟨r1, r2, r3, r4, r5⟩ := rc_acct (n := (dRec d).length) h6 h17 hrc (by omega) (recN d) rfl
    have r4' : (recC d : Int) + RCn (recN d) ≤ RCn (dN d 6) := r4
    have r5' : (recS d : Int) + 4 * (170000 - recN d) ≤ 4 * (170000 - dN d 6) := r5
    have hG : (((if l ∈ dSer d then 2 + gwC (cnt d l) else 8 : Nat) : Nat) : Int) ≤ (2 + gC9 (tkD d l t v) + 6 * (dSer (tkD d l t v)).length : Int) - (gC9 d + 6 * (dSer d).length) ∧ (((if l ∈ dSer d then 8 + gwS (cnt d l) else 162 : Nat) : Nat) : Int) ≤ (8 + gS9 (tkD d l t v) + 154 * (dSer (tkD d l t v)).length : Int) - (gS9 d + 154 * (dSer d).length) := by
      have hsC : ∀ (F : Nat → Nat), ((dSer d).map fun c => F (cnt (tkD d l t v) c)) = (dSer d).map fun c => F (cnt d c + if c = l then 1 else 0) := fun F => List.map_congr_left fun c _ => by rw [eN]
      unfold gC9 gS9
      rw [eS]
      by_cases hl : l ∈ dSer d
      · rw [if_pos hl, if_pos hl]
        unfold serW
        rw [if_pos hl, hsC gg, hsC gh]
        have s1 := sum_bump (l := l) (f := fun c => gg (cnt d c)) (g := fun c => gg (cnt d c + if c = l then 1 else 0)) (fun c hc => by rw [if_neg hc]; rfl) (dSer d) hi.1.1 hl
        have s2 := sum_bump (l := l) (f := fun c => gh (cnt d c)) (g := fun c => gh (cnt d c + if c = l then 1 else 0)) (fun c hc => by rw [if_neg hc]; rfl) (dSer d) hi.1.1 hl
        simp only [if_pos, gg_up, gh_up] at s1 s2
        omega
      · rw [if_neg hl, if_neg hl]
        unfold serW
        rw [if_neg hl, List.map_append, List.map_append, hsC gg, hsC gh, List.sum_append, List.sum_append, List.length_append]
        have m1 : ∀ (F : Nat → Nat), ((dSer d).map fun c => F (cnt d c + if c = l then 1 else 0)) = (dSer d).map fun c => F (cnt d c) := fun F => List.map_congr_left fun c hc => by rw [if_neg (show ¬ c = l from fun h9 => hl (h9 ▸ hc))]; rfl
        rw [m1 gg, m1 gh]
        have x1 : ([l].map fun c => gg (cnt (tkD d l t v) c)).sum = 1 := by
          show gg (cnt (tkD d l t v) l) + 0 = 1
          rw [eN, cnt_no hi hl, if_pos rfl]; rfl
        have x2 : ([l].map fun c => gh (cnt (tkD d l t v) c)).sum = 10 := by
          show gh (cnt (tkD d l t v) l) + 0 = 10
          rw [eN, cnt_no hi hl, if_pos rfl]; rfl
        rw [x1, x2]
        have x3 : [l].length = 1 := rfl
        omega
    obtain ⟨g1, g2⟩ := hG
    refine ⟨⟨?_, ?_, by rw [e6]; exact r1, by rw [e6]; exact r2, by rw [e6, eR]; omega, by rw [eZ1]; exact a1, by rw [eZ2]; exact b1, hS.take⟩, ?_, ?_⟩
    · rw [e5, eV]; omega
    · rw [e5, eR]; omega
    · unfold WCl
      rw [eV, e6, eE, eZ1, eZ2, c1, c3]
      omega
    · unfold WSl
      rw [eV, e6, eE, eZ1, eZ2, c2, c4]
      omega
  · have e : tkD d l t v = d := by unfold tkD; rw [if_neg ha]
    have e2 : tZ d l t v z = z := by
      unfold tZ tML tMR
      rw [if_neg ha, if_neg ha]
    have c1 : takC d l t v = 0 := by unfold takC; rw [if_neg ha]
    have c2 : takS d l t v = 0 := by unfold takS; rw [if_neg ha]
    have c3 : tMC d l t v z.1 z.2 = 0 := by unfold tMC; rw [if_neg ha]
    have c4 : tMS d l t v z.1 z.2 = 0 := by unfold tMS; rw [if_neg ha]
    rw [e, e2, c1, c2, c3, c4]
    exact ⟨⟨h5, hr, h6, h17, hrc, hz1, hz2, hS⟩, by omega, by omega⟩
end Sc02
