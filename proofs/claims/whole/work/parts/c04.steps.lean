/-! what a call leaves of what is reckoned -/
section Sc04
variable {d d' : DS} {z z' : Mz} {l t v u a1 a2 a3 a4 a5 : Int} {n k i c s C1 C2 S1 S2 : Nat} {kk : Int} {two time : Int}
theorem pk_pw : ∀ (r : List (Int × Int)) (t v d b : Int), 0 ≤ t → (∀ y ∈ r, t ≤ y.1) → r.Pairwise (fun p q => p.1 ≤ q.1) → (pk t v d (Int.tdiv t 100) b r).Pairwise (fun p q => p.1 < q.1) ∧ ∀ p ∈ pk t v d (Int.tdiv t 100) b r, Int.tdiv t 100 ≤ p.1
  | [], t, v, d, b, _, _, _ => ⟨List.pairwise_singleton _ _, fun p hp => by rw [List.mem_singleton.mp hp]; exact Int.le_refl _⟩
  | y :: r, t, v, d, b, h0, hy, hp => by
    have hp2 := List.pairwise_cons.mp hp
    have hty := hy y List.mem_cons_self
    have ed : Int.tdiv t 100 = t / 100 := Int.tdiv_eq_ediv_of_nonneg h0
    have ey : Int.tdiv y.1 100 = y.1 / 100 := Int.tdiv_eq_ediv_of_nonneg (by omega)
    unfold pk
    by_cases h9 : Int.tdiv y.1 100 = Int.tdiv t 100
    · rw [if_pos h9, ← h9]
      exact pk_pw r y.1 y.2 _ _ (by omega) hp2.1 hp2.2
    · rw [if_neg h9]
      obtain ⟨a1, a2⟩ := pk_pw r y.1 y.2 0 64 (by omega) hp2.1 hp2.2
      have hlt : Int.tdiv t 100 < Int.tdiv y.1 100 := by omega
      refine ⟨List.pairwise_cons.mpr ⟨fun p hp => ?_, a1⟩, fun p hp => ?_⟩
      · have := a2 p hp
        show Int.tdiv t 100 < p.1
        omega
      · rcases List.mem_cons.mp hp with h8 | h8
        · rw [h8]; exact Int.le_refl _
        · have := a2 p h8
          omega
theorem pack_pw {L : List (Int × Int)} (h0 : ∀ y ∈ L, 0 ≤ y.1) (hs : L.Pairwise (fun p q => p.1 ≤ q.1)) : (pack L).Pairwise (fun p q => p.1 ≠ q.1) := by
  cases L with
  | nil => exact List.Pairwise.nil
  | cons y r =>
    have hs2 := List.pairwise_cons.mp hs
    exact (pk_pw r y.1 y.2 0 64 (h0 y List.mem_cons_self) hs2.1 hs2.2).1.imp (fun h9 => Int.ne_of_lt h9)
/-- the counts behind a call -/
def Np (kk : Int) (d : DS) (z : Mz) : Prop := 2 * dN d 5 ≤ 420 * kk + vis d ∧ ((dRec d).length : Int) ≤ dN d 5 + kk ∧ (dN d 6 = 0 ∨ 10 ≤ dN d 6) ∧ dN d 6 ≤ 170000 ∧ ((dRec d).length : Int) ≤ dN d 6 ∧ zz z.1 ∧ zz z.2 ∧ SL d
def PJ (kk : Int) (d : DS) (z : Mz) : Prop := (DI d ∧ LB d ∧ I4 d) ∧ Np kk d z ∧ dN d 3 ≤ 9600 * kk ∧ dN d 2 ≤ kk
/-- what holds at the head of the law's loop, kk calls done -/
def PK (kk : Int) (d : DS) (z : Mz) (c s : Nat) : Prop := (0 ≤ kk ∧ kk ≤ 512) ∧ PJ kk d z ∧ 2100 * (512 - kk) + WCl d z ≤ 2 * c ∧ 17000 * (512 - kk) + WSl d z ≤ 2 * s
theorem Np.nm (h : Np kk d z) : Nm kk d z := ⟨by have := h.1; omega, h.2⟩
theorem Nm.np (h : Nm kk d z) (hi : DI d) : Np (kk + 1) d z := by
  have := hi.v420
  exact ⟨by have := h.1; omega, by have := h.2.1; omega, h.2.2⟩
theorem sum_leM {α : Type} {f : α → Nat} {m : Nat} : ∀ L : List α, (∀ c ∈ L, f c ≤ m) → (L.map f).sum ≤ m * L.length
  | [], _ => Nat.zero_le _
  | c :: L, h => by
    rw [List.map_cons, List.sum_cons, List.length_cons, Nat.mul_succ]
    have := h c List.mem_cons_self; have := sum_leM L (fun y hy => h y (List.mem_cons_of_mem _ hy)); omega
theorem DI.e96 (hi : DI d) : E9 d ≤ 96 := by
  have h := sum_leM (f := fun q : Rl => q.2.2.length) (m := 12) (dRl d) (fun q hq => (hi.2.2.2.2.2.2.2.1.2 q hq).2.2.2.2)
  have h8 := hi.2.2.2.2.2.2.2.1.1
  show ((dRl d).map fun q : Rl => q.2.2.length).sum ≤ 96
  omega
theorem DI.g9 (hi : DI d) : (dSer d).length ≤ 12 ∧ gC9 d ≤ 72 ∧ gS9 d ≤ 2424 := by
  have h1 := hi.1.2.1
  have h2 := sum_leM (f := fun c => gg (cnt d c)) (m := 6) (dSer d) (fun c _ => gg_le _)
  have h3 := sum_leM (f := fun c => gh (cnt d c)) (m := 202) (dSer d) (fun c _ => gh_le _)
  refine ⟨h1, ?_, ?_⟩
  · show ((dSer d).map fun c => gg (cnt d c)).sum ≤ 72
    omega
  · show ((dSer d).map fun c => gh (cnt d c)).sum ≤ 2424
    omega
theorem W_pos (hi : DI d) (h : Np kk d z) : 0 ≤ WCl d z ∧ 0 ≤ WSl d z := by
  have h1 := hi.v420
  have h2 := hi.e96
  obtain ⟨h3, h4, h5⟩ := hi.g9
  obtain ⟨-, -, n3, n4, -, n6, n7, -⟩ := h
  have hr : 0 ≤ RCn (dN d 6) := by
    unfold RCn
    split <;> omega
  unfold WCl WSl
  unfold zz at n6 n7
  omega
theorem PK.step (h : PK kk d z c s) (hk : kk < 512) (hj : PJ (kk + 1) d' z') (hC : 2 * (((C1 + C2 : Nat) : Nat) : Int) + WCl d' z' ≤ WCl d z + 2100) (hS : 2 * (((S1 + S2 : Nat) : Nat) : Int) + WSl d' z' ≤ WSl d z + 17000) :
    C1 + C2 ≤ c ∧ S1 + S2 ≤ s ∧ PK (kk + 1) d' z' (c - C1 - C2) (s - S1 - S2) := by
  obtain ⟨h1, h2, h3, h4⟩ := h
  obtain ⟨w1, w2⟩ := W_pos hj.1.1 hj.2.1
  refine ⟨by omega, by omega, by omega, hj, by omega, by omega⟩
/-- a call that leaves what is reckoned -/
def MD9 (d d' : DS) : Prop := (DI d' ∧ LB d' ∧ I4 d') ∧ dN d' 5 = dN d 5 ∧ dRec d' = dRec d ∧ dN d' 6 = dN d 6 ∧ smS d' = smS d ∧ dSer d' = dSer d ∧ E9 d' = E9 d ∧ dN d' 3 = dN d 3 ∧ dN d' 2 = dN d 2
theorem MD9.refl (h : DI d ∧ LB d ∧ I4 d) : MD9 d d := ⟨h, rfl, rfl, rfl, rfl, rfl, rfl, rfl, rfl⟩
theorem PK.mild (h : PK kk d z c s) (hk : kk < 512) (hm : MD9 d d') (hC : C1 + C2 ≤ 1000) (hS : S1 + S2 ≤ 8000) : C1 + C2 ≤ c ∧ S1 + S2 ≤ s ∧ PK (kk + 1) d' z (c - C1 - C2) (s - S1 - S2) := by
  obtain ⟨m1, e5, eR, e6, eM, eS, eE, e3, e2⟩ := hm
  have h2 := h.2.1
  have hw := W_same (z := z) eS e6 eM
  refine h.step hk ⟨m1, ((h2.2.1.nm).same e5 eR e6 eM).np m1.1, ?_, ?_⟩ (by omega) (by omega)
  · have := h2.2.2.1; omega
  · have := h2.2.2.2; omega
/-- a call that leaves the series and the expressions -/
theorem PK.drop (h : PK kk d z c s) (hk : kk < 512) (m1 : DI d' ∧ LB d' ∧ I4 d') (eS : dSer d' = dSer d) (e5 : dN d' 5 = dN d 5) (hr : ((dRec d').length : Int) ≤ dN d 5 + kk + 1) (h6 : (dN d' 6 = 0 ∨ 10 ≤ dN d' 6) ∧ dN d' 6 ≤ 170000 ∧ ((dRec d').length : Int) ≤ dN d' 6) (hz : zz z'.1 ∧ zz z'.2) (eE : E9 d' = E9 d) (e3 : dN d' 3 = dN d 3) (e2 : dN d' 2 ≤ dN d 2 + 1)
    (hC : 2 * (((C1 + C2 : Nat) : Nat) : Int) + 2 * RCn (dN d' 6) + 2 * ((160000 - z'.1) / 8000 + (160000 - z'.2) / 8000) ≤ 2 * RCn (dN d 6) + 2 * ((160000 - z.1) / 8000 + (160000 - z.2) / 8000) + 200)
    (hS : 2 * (((S1 + S2 : Nat) : Nat) : Int) + 8 * (170000 - dN d' 6) + 2 * (10 * (160000 - z'.1) + 2 * (160000 - z'.2)) ≤ 8 * (170000 - dN d 6) + 2 * (10 * (160000 - z.1) + 2 * (160000 - z.2)) + 5200) :
    C1 + C2 ≤ c ∧ S1 + S2 ≤ s ∧ PK (kk + 1) d' z' (c - C1 - C2) (s - S1 - S2) := by
  have h2 := h.2.1
  have v1 := h2.1.1.v420
  obtain ⟨g1, g2, g3⟩ := h2.1.1.g9
  have n1 := h2.2.1.1
  refine h.step hk ⟨m1, ⟨by rw [e5]; omega, by rw [e5]; omega, h6.1, h6.2.1, h6.2.2, hz.1, hz.2, m1.2.2.2.2.1⟩, ?_, ?_⟩ ?_ ?_
  · have := h2.2.2.1; omega
  · have := h2.2.2.2; omega
  · unfold WCl
    rw [eS, eE]
    omega
  · unfold WSl
    rw [eS, eE]
    omega
end Sc04
