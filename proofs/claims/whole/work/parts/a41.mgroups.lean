/-! the model folds a result by its labels -/
section Sa41
variable {E : EE} {G G' G2 G0 Gs : Gt} {c s : Nat} {Q X : Int → Gt → Prop} {m v b l r u x i nn set g kk : Int} {k j n : Nat} {R A B F T : List (Int × Int)} {S : List Rw}
theorem upL_len (hR : ascL F) (hbc : b < l) (hm : (l, v) ∈ F) (h : ∀ y ∈ F, b < y.1 → y.1 ≤ l → y.1 = l) : (upL b F).length + 1 ≤ F.length := by
  have h1 := upL_some hR hbc hm h
  have h2 : (upL l F).length ≤ F.length := List.length_filter_le _ _
  rw [h1, List.length_append] at h2
  exact h2
theorem kyL_len : ∀ R : List (Int × Int), (kyL set R).length ≤ R.length
  | [] => Nat.le_refl _
  | y :: R => by
    have := kyL_len R
    unfold kyL
    rw [List.length_cons]
    split
    · omega
    · rw [List.length_cons]; omega
theorem foldR_len : (foldR kk set R).length ≤ R.length := by
  unfold foldR
  rw [(srt_perm _).length_eq, List.length_map]
  exact kyL_len R
theorem foldR_mem {y : Int × Int} : y ∈ foldR kk set R ↔ (∃ z ∈ R, wMask z.1 set = y.1) ∧ y.2 = grV kk set y.1 R := by
  unfold foldR
  rw [(srt_perm _).mem_iff, List.mem_map]
  constructor
  · rintro ⟨g, hg, rfl⟩
    exact ⟨kyL_mem.mp hg, rfl⟩
  · rintro ⟨h1, h2⟩
    exact ⟨y.1, kyL_mem.mpr h1, by rw [← h2]⟩
theorem foldR_asc : ascL (foldR kk set R) := srt_asc (List.pairwise_map.mpr kyL_nodup)
def LsM (b set : Int) (A : List (Int × Int)) (g : Int) : Prop := (g = -1 ∧ ∀ y ∈ A, wMask y.1 set ≤ b) ∨ (b < g ∧ (∃ y ∈ A, wMask y.1 set = g) ∧ ∀ y ∈ A, b < wMask y.1 set → g ≤ wMask y.1 set)
theorem LsM.snoc {y : Int × Int} (h : LsM b set A g) (hb : -1 ≤ b) : LsM b set (A ++ [y]) (if wMask y.1 set ≤ b then g else if g = -1 then wMask y.1 set else if g ≤ wMask y.1 set then g else wMask y.1 set) := by
  have mem : ∀ z, z ∈ A ++ [y] ↔ z ∈ A ∨ z = y := fun z => by rw [List.mem_append, List.mem_singleton]
  by_cases h1 : wMask y.1 set ≤ b
  · rw [if_pos h1]
    rcases h with ⟨a1, a2⟩ | ⟨a1, ⟨z, a2, a3⟩, a4⟩
    · exact Or.inl ⟨a1, fun z hz => by
        rcases (mem z).mp hz with h9 | h9
        · exact a2 z h9
        · rw [h9]; exact h1⟩
    · exact Or.inr ⟨a1, ⟨z, (mem z).mpr (Or.inl a2), a3⟩, fun z hz h8 => by
        rcases (mem z).mp hz with h9 | h9
        · exact a4 z h9 h8
        · rw [h9] at h8; omega⟩
  · rw [if_neg h1]
    rcases h with ⟨a1, a2⟩ | ⟨a1, ⟨z, a2, a3⟩, a4⟩
    · rw [if_pos a1]
      exact Or.inr ⟨by omega, ⟨y, (mem y).mpr (Or.inr rfl), rfl⟩, fun z hz h8 => by
        rcases (mem z).mp hz with h9 | h9
        · have := a2 z h9; omega
        · rw [h9]; exact Int.le_refl _⟩
    · rw [if_neg (by omega)]
      by_cases h2 : g ≤ wMask y.1 set
      · rw [if_pos h2]
        exact Or.inr ⟨a1, ⟨z, (mem z).mpr (Or.inl a2), a3⟩, fun z hz h8 => by
          rcases (mem z).mp hz with h9 | h9
          · exact a4 z h9 h8
          · rw [h9]; exact h2⟩
      · rw [if_neg h2]
        exact Or.inr ⟨by omega, ⟨y, (mem y).mpr (Or.inr rfl), rfl⟩, fun z hz h8 => by
          rcases (mem z).mp hz with h9 | h9
          · have := a4 z h9 h8; omega
          · rw [h9]; exact Int.le_refl _⟩
/-- the row that is folded, where it lies -/
def RoX (G : Gt) (m : Int) (n : Nat) (R : List (Int × Int)) : Prop := n < 10 ∧ R.length ≤ 12 ∧ ∀ j : Nat, j < R.length → gel G (gfd G 12 31 m) (12 * n + j) = (R.getD j (0, 0)).1 ∧ gel G (gfd G 12 32 m) (12 * n + j) = (R.getD j (0, 0)).2
theorem getD_mid {A B : List (Int × Int)} {y : Int × Int} : (A ++ y :: B).getD A.length (0, 0) = y := by
  rw [List.getD_eq_getElem?_getD, List.getElem?_append_right (Nat.le_refl _), Nat.sub_self]; rfl
theorem v_g58 (hs : MSh E G m) (hx : RoX G m n R) (hc : ∀ y ∈ R, cOk y.1) (hset : 0 ≤ set ∧ set ≤ 7) (hb : -1 ≤ b)
    (hQ : ∀ g, LsM b set R g → V E M_X12_groups 137 [some (rv m), some (iv kk), some (iv set), some (iv (12 * n)), some (iv (R.length : Int)), some (iv x), some (iv b), some (iv (if g = -1 then (0 : Int) else 1)), some (iv g), some (jv 0), none, some (iv 1), some (iv 0)] [] G c s Q X) :
    ∀ (B A : List (Int × Int)) (g : Int), R = A ++ B → LsM b set A g → V E M_X12_groups 58 [some (rv m), some (iv kk), some (iv set), some (iv (12 * n)), some (iv (R.length : Int)), some (iv x), some (iv b), none, some (iv g), some (iv (A.length : Int)), none, none, none] [] G c s Q X := by
  have x31 := hs.fx 31 15 120
  intro B
  induction B with
  | nil =>
    intro A g hR hg
    rw [List.append_nil] at hR
    refine b_X12_groups_58 ⟨fun _ => hQ g (by rw [hR]; exact hg), fun h9 => by rw [hR] at h9; omega⟩
  | cons y B ih =>
    intro A g hR hg
    have hl : A.length < R.length := by rw [hR, List.length_append, List.length_cons]; omega
    have h12 := hx.2.1
    have hn := hx.1
    have he := (hx.2.2 A.length hl).1
    have hgy : R.getD A.length (0, 0) = y := by rw [hR]; exact getD_mid
    rw [hgy] at he
    have hcy := hc y (by rw [hR]; exact List.mem_append_right _ List.mem_cons_self)
    refine b_X12_groups_58 ⟨fun h9 => by omega, fun _ => ⟨hs.1, i32s' (by omega), x31.1, by omega, by omega, ?_⟩⟩
    rw [he]
    refine ⟨okp_masked ⟨hcy.1, by have := hcy.2.1; omega⟩ hset, i32s' (by omega), ?_⟩
    have := ih (A ++ [y]) _ (by rw [hR, List.append_assoc]; rfl) (hg.snoc (y := y) hb)
    rw [List.length_append] at this
    have e : ((A.length + [y].length : Nat) : Int) = (A.length : Int) + 1 := rfl
    rw [e] at this
    exact this
def vlF (set g : Int) (A : List (Int × Int)) : List Int := (A.filter (sml set g)).map (·.2)
theorem vlF_snoc {y : Int × Int} : vlF set g (A ++ [y]) = if wMask y.1 set = g then vlF set g A ++ [y.2] else vlF set g A := by
  unfold vlF
  rw [List.filter_append, List.map_append]
  by_cases h9 : wMask y.1 set = g
  · rw [if_pos h9, List.filter_cons_of_pos (sml_true.mpr h9)]; rfl
  · rw [if_neg h9, List.filter_cons_of_neg (fun h8 => h9 (sml_true.mp h8)), List.filter_nil, List.map_nil, List.append_nil]
theorem v_g137 (hs : MSh E G m) (hx : RoX G m n R) (hc : ∀ y ∈ R, cOk y.1 ∧ bnd y.2) (hset : 0 ≤ set ∧ set ≤ 7) (hx9 : 0 ≤ x ∧ x < 12)
    (hQ : ∀ G8, G8 = sel G (gfd G 12 49 m) x (wBd (grV kk set g R)) → ∀ G13, G13 = sel G8 (gfd G8 12 50 m) x g → V E M_X12_groups 47 [some (rv m), some (iv kk), some (iv set), some (iv (12 * n)), some (iv (R.length : Int)), some (iv (x + 1)), some (iv g), some (iv 1), none, none, none, none, none] [] G13 c s Q X) :
    ∀ (B A : List (Int × Int)), R = A ++ B → -(100000000000000 * (A.length : Int)) ≤ agg kk (vlF set g A) ∧ agg kk (vlF set g A) ≤ 100000000000000 * (A.length : Int) → V E M_X12_groups 137 [some (rv m), some (iv kk), some (iv set), some (iv (12 * n)), some (iv (R.length : Int)), some (iv x), some (iv b), some (iv 1), some (iv g), some (jv (agg kk (vlF set g A))), none, some (iv (if vlF set g A = [] then 1 else 0)), some (iv (A.length : Int))] [] G c s Q X := by
  have x31 := hs.fx 31 15 120
  have x32 := hs.fx 32 16 120
  have x49 := hs.fx 49 16 12
  have x50 := hs.fx 50 15 12
  intro B
  induction B with
  | nil =>
    intro A hR _
    rw [List.append_nil] at hR
    refine b_X12_groups_137 fun J1 hJ1 => ⟨fun _ => hJ1 ⟨fun h9 => absurd h9 (by decide), fun _ => ⟨hs.1, okp_bounded, x49.1, hx9.1, by omega, fun G8 e8 => ?_⟩⟩, fun h9 => by rw [hR] at h9; omega⟩
    have g8 : MSh E G8 m := by rw [e8]; exact hs
    have y50 := g8.fx 50 15 12
    refine ⟨g8.1, y50.1, hx9.1, by omega, fun G13 e13 => ⟨i32s' (by omega), hQ G8 ?_ G13 e13⟩⟩
    rw [e8, hR]; rfl
  | cons y B ih =>
    intro A hR hbd
    have hl : A.length < R.length := by rw [hR, List.length_append, List.length_cons]; omega
    have h12 := hx.2.1
    have hn := hx.1
    have he := hx.2.2 A.length hl
    have hgy : R.getD A.length (0, 0) = y := by rw [hR]; exact getD_mid
    rw [hgy] at he
    have hcy := hc y (by rw [hR]; exact List.mem_append_right _ List.mem_cons_self)
    have hby := hcy.2
    unfold bnd at hby
    have eL : ((A ++ [y]).length : Int) = (A.length : Int) + 1 := by rw [List.length_append]; rfl
    have hstep : agg kk (vlF set g (A ++ [y])) = if wMask y.1 set = g then (if (if vlF set g A = [] then (1 : Int) else 0) = 0 then (if kk = 8 then agg kk (vlF set g A) + y.2 else if agg kk (vlF set g A) ≤ y.2 then y.2 else agg kk (vlF set g A)) else y.2) else agg kk (vlF set g A) := by
      rw [vlF_snoc]
      by_cases h9 : wMask y.1 set = g
      · rw [if_pos h9, if_pos h9]
        by_cases h8 : vlF set g A = []
        · rw [if_pos h8, if_neg (by decide), h8]; rfl
        · rw [if_neg h8, if_pos rfl, agg_snoc _ _ h8]
          unfold aggS
          by_cases h7 : kk = 8
          · rw [if_pos h7, if_pos h7]
          · rw [if_neg h7, if_neg h7]
            by_cases h6 : agg kk (vlF set g A) ≤ y.2
            · rw [if_pos h6, Int.max_eq_right h6]
            · rw [if_neg h6, Int.max_eq_left (by omega)]
      · rw [if_neg h9, if_neg h9]
    have hfl : (if vlF set g (A ++ [y]) = [] then (1 : Int) else 0) = if wMask y.1 set = g then 0 else if vlF set g A = [] then 1 else 0 := by
      rw [vlF_snoc]
      by_cases h9 : wMask y.1 set = g
      · rw [if_pos h9, if_pos h9, if_neg (fun h8 => by
          have := congrArg List.length h8
          rw [List.length_append] at this
          exact absurd this (Nat.succ_ne_zero _))]
      · rw [if_neg h9, if_neg h9]
    have hbd2 : -(100000000000000 * (((A ++ [y]).length : Nat) : Int)) ≤ agg kk (vlF set g (A ++ [y])) ∧ agg kk (vlF set g (A ++ [y])) ≤ 100000000000000 * (((A ++ [y]).length : Nat) : Int) := by
      rw [hstep, eL]
      repeat' split
      all_goals omega
    have hih := ih (A ++ [y]) (by rw [hR, List.append_assoc]; rfl) hbd2
    rw [hstep, hfl, eL] at hih
    refine b_X12_groups_137 fun J1 hJ1 => ⟨fun h9 => by omega, fun _ => ⟨fun h9 => absurd h9 (by decide), fun _ => ⟨hs.1, i32s' (by omega), x31.1, by omega, by omega, ?_⟩⟩⟩
    rw [he.1, he.2]
    generalize agg kk (vlF set g A) = ac at hih hbd ⊢
    generalize (if vlF set g A = [] then (1 : Int) else 0) = fl at hih ⊢
    have i1 : i32 (12 * (n : Int) + A.length) := i32s' (by omega)
    have p0 : 0 ≤ 12 * (n : Int) + A.length := by omega
    have p1 : 12 * (n : Int) + A.length < gln G (gfd G 12 32 m) := by omega
    exact ⟨okp_masked ⟨hcy.1.1, by have := hcy.1.2.1; omega⟩ hset, fun _ _ _ => hs.1, fun _ _ _ => i1, fun _ _ _ => x32.1, fun _ _ _ => p0, fun _ _ _ => p1, fun _ _ _ _ => hs.1, fun _ _ _ _ => i1, fun _ _ _ _ => x32.1, fun _ _ _ _ => p0, fun _ _ _ _ => p1, fun _ _ _ => hs.1, fun _ _ _ => i1, fun _ _ _ => x32.1, fun _ _ _ => p0, fun _ _ _ => p1, fun _ _ _ => i64s (by omega), fun _ _ => hs.1, fun _ _ => i1, fun _ _ => x32.1, fun _ _ => p0, fun _ _ => p1, i32s' (by omega), hih⟩
/-- while the groups are gathered -/
def St47 (E : EE) (Gs G : Gt) (m : Int) (T : List (Int × Int)) : Prop := MU E Gs G m (fun k => k = 49 ∨ k = 50) ∧ (∀ k, gfd G 12 k m = gfd Gs 12 k m) ∧ ∀ j : Nat, j < T.length → gel G (gfd Gs 12 49 m) j = wBd (T.getD j (0, 0)).2 ∧ gel G (gfd Gs 12 50 m) j = (T.getD j (0, 0)).1
theorem v_g47 (hx : RoX Gs m n R) (hc : ∀ y ∈ R, cOk y.1 ∧ bnd y.2) (hset : 0 ≤ set ∧ set ≤ 7) (h33 : gfd Gs 12 33 m = (n : Int) + 1)
    (hQ : ∀ G' G8, St47 E Gs G' m (foldR kk set R) → G8 = sel G' (gfd Gs 12 30 m) (n : Int) ((foldR kk set R).length : Int) → V E M_X12_groups 297 [some (rv m), none, none, some (iv (12 * n)), none, some (iv ((foldR kk set R).length : Int)), none, none, some (iv 0), none, none, none, none] [] G8 c s Q X) :
    ∀ (j : Nat) (b : Int) (G : Gt), 667 ≤ b + j + 1 → -1 ≤ b → St47 E Gs G m (upL b (foldR kk set R)) →
      V E M_X12_groups 47 [some (rv m), some (iv kk), some (iv set), some (iv (12 * n)), some (iv (R.length : Int)), some (iv ((upL b (foldR kk set R)).length : Int)), some (iv b), some (iv 1), none, none, none, none, none] [] G c s Q X := by
  have hn := hx.1
  have h12 := hx.2.1
  have hmk : ∀ y ∈ R, 0 ≤ wMask y.1 set ∧ wMask y.1 set ≤ 666 := fun y hy => by
    have := cOk_mask (hc y hy).1 hset
    exact ⟨this.1, this.2.1⟩
  have hFl : (foldR kk set R).length ≤ R.length := foldR_len
  have done : ∀ (b : Int) (G : Gt), St47 E Gs G m (upL b (foldR kk set R)) → (∀ y ∈ R, wMask y.1 set ≤ b) → V E M_X12_groups 137 [some (rv m), some (iv kk), some (iv set), some (iv (12 * n)), some (iv (R.length : Int)), some (iv ((upL b (foldR kk set R)).length : Int)), some (iv b), some (iv 0), some (iv (-1)), some (jv 0), none, some (iv 1), some (iv 0)] [] G c s Q X := fun b G hS hall => by
    have e : upL b (foldR kk set R) = foldR kk set R := List.filter_eq_self.mpr fun y hy => by
      obtain ⟨⟨z, hz, e⟩, -⟩ := foldR_mem.mp hy
      rw [← e]
      exact decide_eq_true (hall z hz)
    rw [e] at hS ⊢
    have hs := hS.1.1
    have hf := hS.2.1
    have x30 := hs.fx 30 15 10
    have t47 : V E M_X12_groups 47 [some (rv m), some (iv kk), some (iv set), some (iv (12 * n)), some (iv (R.length : Int)), some (iv ((foldR kk set R).length : Int)), some (iv b), some (iv 0), none, none, none, none, none] [] G c s Q X := by
      refine b_X12_groups_47 ⟨fun _ => ⟨hs.1, hs.1, ?_⟩, fun h9 => (h9 rfl).elim⟩
      rw [hf 33, h33]
      have e1 : (n : Int) + 1 - 1 = n := by omega
      rw [e1]
      refine ⟨i32s' (by omega), x30.1, by omega, by omega, fun G8 e8 => hQ G G8 hS ?_⟩
      rw [e8, hf 30]
    exact b_X12_groups_137 fun J1 hJ1 => by
      have j1 : J1 := hJ1 ⟨fun _ => t47, fun h9 => (h9 rfl).elim⟩
      exact ⟨fun _ => j1, fun _ => ⟨fun _ => j1, fun h9 => (h9 rfl).elim⟩⟩
  intro j
  induction j with
  | zero =>
    intro b G hb hb1 hS
    have hs := hS.1.1
    have hxG : RoX G m n R := ⟨hn, h12, fun j hj => by
      rw [hS.1.2.2.2.2.2.e 31 (by omega), hS.1.2.2.2.2.2.e 32 (by omega)]
      exact hx.2.2 j hj⟩
    refine b_X12_groups_47 ⟨fun h9 => absurd h9 (by decide), fun _ => v_g58 hs hxG (fun y hy => (hc y hy).1) hset hb1 (fun g hg => ?_) R [] (-1) rfl (Or.inl ⟨rfl, fun y hy => (List.not_mem_nil hy).elim⟩)⟩
    rcases hg with ⟨a1, a2⟩ | ⟨a1, ⟨z, a2, a3⟩, a4⟩
    · rw [a1, if_pos rfl]
      exact done b G hS a2
    · have := (hmk z a2).2
      omega
  | succ j ih =>
    intro b G hb hb1 hS
    have hs := hS.1.1
    have hf := hS.2.1
    have hxG : RoX G m n R := ⟨hn, h12, fun j hj => by
      rw [hS.1.2.2.2.2.2.e 31 (by omega), hS.1.2.2.2.2.2.e 32 (by omega)]
      exact hx.2.2 j hj⟩
    refine b_X12_groups_47 ⟨fun h9 => absurd h9 (by decide), fun _ => v_g58 hs hxG (fun y hy => (hc y hy).1) hset hb1 (fun g hg => ?_) R [] (-1) rfl (Or.inl ⟨rfl, fun y hy => (List.not_mem_nil hy).elim⟩)⟩
    rcases hg with ⟨a1, a2⟩ | ⟨a1, ⟨z, a2, a3⟩, a4⟩
    · rw [a1, if_pos rfl]
      exact done b G hS a2
    · rw [if_neg (by omega)]
      have hm : ((g, grV kk set g R) : Int × Int) ∈ foldR kk set R := foldR_mem.mpr ⟨⟨z, a2, a3⟩, rfl⟩
      have hbt : ∀ y ∈ foldR kk set R, b < y.1 → y.1 ≤ g → y.1 = g := fun y hy h8 h9 => by
        obtain ⟨⟨z2, hz2, e⟩, -⟩ := foldR_mem.mp hy
        rw [← e] at h8 h9 ⊢
        have := a4 z2 hz2 h8
        omega
      have hup := upL_some foldR_asc a1 hm hbt
      have hln := upL_len foldR_asc a1 hm hbt
      have hup2 : (upL g (foldR kk set R)).length = (upL b (foldR kk set R)).length + 1 := by rw [hup, List.length_append]; rfl
      refine v_g137 hs hxG hc hset ⟨by omega, by omega⟩ (fun G8 e8 G13 e13 => ?_) R [] rfl ⟨Int.le_refl 0, Int.le_refl 0⟩
      rw [hf 49] at e8
      have k8 : MU E Gs G8 m (fun k => k = 49 ∨ k = 50) := by
        rw [e8, ← hf 49]; exact hS.1.mSel (by decide) (Or.inl rfl)
      have f8 : ∀ k, gfd G8 12 k m = gfd Gs 12 k m := fun k => by rw [e8]; exact hf k
      have k13 : MU E Gs G13 m (fun k => k = 49 ∨ k = 50) := by
        rw [e13]; exact k8.mSel (by decide) (Or.inr rfl)
      have f13 : ∀ k, gfd G13 12 k m = gfd Gs 12 k m := fun k => by rw [e13]; exact f8 k
      rw [f8 50] at e13
      have n1 : gfd Gs 12 49 m ≠ gfd Gs 12 50 m := by
        rw [← hf 49, ← hf 50]; exact hs.ne 49 50
      have hS2 : St47 E Gs G13 m (upL g (foldR kk set R)) := by
        refine ⟨k13, f13, fun i hi => ?_⟩
        rw [hup2] at hi
        rw [hup, appD hi, e13, gel_sel, gel_sel, e8, gel_sel, gel_sel]
        by_cases h9 : i < (upL b (foldR kk set R)).length
        · have hne : ¬ ((i : Int) = ((upL b (foldR kk set R)).length : Int)) := by omega
          rw [if_pos h9, if_neg (fun h8 => hne h8.2), if_neg (fun h8 => hne h8.2), if_neg (fun h8 => hne h8.2), if_neg (fun h8 => hne h8.2)]
          exact hS.2.2 i h9
        · have he : (i : Int) = ((upL b (foldR kk set R)).length : Int) := by omega
          rw [if_neg h9, if_neg (fun h8 => n1 h8.1), if_pos ⟨rfl, he⟩, if_pos ⟨rfl, he⟩]
          exact ⟨rfl, rfl⟩
      have := ih g G13 (by omega) (by omega) hS2
      rw [hup2] at this
      have e2 : (((upL b (foldR kk set R)).length + 1 : Nat) : Int) = ((upL b (foldR kk set R)).length : Int) + 1 := rfl
      rw [e2] at this
      exact this
end Sa41
