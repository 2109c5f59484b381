/-! the model's loops over its samples -/
section M34
variable {E : EE} {G G' G2 : Gt} {c s : Nat} {Q X : Int → Gt → Prop} {a m : Int}
/-- a loop from 0 up -/
def ups (f : Int → Int → Int) (x : Int) (n : Nat) : Int := (List.range n).foldl (fun a (k : Nat) => f a (k : Int)) x
theorem ups_zero (f : Int → Int → Int) (x : Int) : ups f x 0 = x := rfl
theorem ups_succ (f : Int → Int → Int) (x : Int) (n : Nat) : ups f x (n + 1) = f (ups f x n) n := by
  unfold ups; rw [List.range_succ, List.foldl_append]; rfl
theorem ups_next {f : Int → Int → Int} {x i : Int} (h : 0 ≤ i) : ups f x (i + 1).toNat = f (ups f x i.toNat) i := by
  rw [show (i + 1).toNat = i.toNat + 1 by omega, ups_succ, show ((i.toNat : Nat) : Int) = i by omega]
/-- the model's samples -/
def MSa (G : Gt) (m : Int) : Prop := 0 ≤ gfd G 12 12 m ∧ gfd G 12 12 m ≤ gln G (gfd G 12 8 m) ∧ gln G (gfd G 12 8 m) ≤ 20000000 ∧ gln G (gfd G 12 7 m) = gln G (gfd G 12 8 m) ∧ gln G (gfd G 12 9 m) = gln G (gfd G 12 8 m) ∧ gln G (gfd G 12 10 m) = gln G (gfd G 12 8 m) ∧ gln G (gfd G 12 11 m) = gln G (gfd G 12 8 m)
def mN (G : Gt) (m : Int) : Int := gfd G 12 12 m
def mS (G : Gt) (m k : Int) : Int := gel G (gfd G 12 7 m) k
def mT (G : Gt) (m k : Int) : Int := gel G (gfd G 12 8 m) k
def mV (G : Gt) (m k : Int) : Int := gel G (gfd G 12 9 m) k
def mH (G : Gt) (m k : Int) : Int := gel G (gfd G 12 10 m) k
def mC (G : Gt) (m k : Int) : Int := gel G (gfd G 12 11 m) k
/-- the least time of a seen sample of a series behind another time -/
def nxS (G : Gt) (m s b f k : Int) : Int := if mH G m k = 0 ∧ mS G m k = s ∧ b < mT G m k ∧ (f = -1 ∨ mT G m k < f) then mT G m k else f
def mNext (G : Gt) (m s b : Int) : Int := ups (nxS G m s b) (-1) (mN G m).toNat
def vaS (G : Gt) (m s t f k : Int) : Int := if mH G m k = 0 ∧ mS G m k = s ∧ mT G m k = t then mV G m k else f
def mVal (G : Gt) (m s t : Int) : Int := ups (vaS G m s t) 0 (mN G m).toNat
theorem mSeen_if {α : Type} (G : Gt) (m k : Int) (x y : α) : (if mSeen G m k = 0 then x else y) = if mH G m k = 0 then y else x := by
  unfold mSeen mH
  by_cases h : gel G (gfd G 12 10 m) k = 0
  · rw [if_pos h, if_pos h, if_neg (by decide)]
  · rw [if_neg h, if_neg h, if_pos rfl]
theorem v_nextTime {s1 b : Int} (h : MSh E G m) (hs : MSa G m) : ∀ (j : Nat) (i : Int), 0 ≤ i → i + j = mN G m → V E M_X12_nextTime 5 [some (rv m), some (iv s1), some (iv b), some (iv (ups (nxS G m s1 b) (-1) i.toNat)), some (iv i), none] [] G c s (fun r G' => r = mNext G m s1 b ∧ G' = G) X := by
  obtain ⟨n0, n1, n2, n3, n4, n5, n6⟩ := hs
  have h1 := h.1
  have g7 := (h.gw 7 15).1
  have g8 := (h.gw 8 15).1
  intro j
  induction j with
  | zero =>
    intro i h0 hi
    have hi' : i = gfd G 12 12 m := by unfold mN at hi; omega
    refine b_X12_nextTime_5 ⟨h1, fun _ => ⟨?_, rfl⟩, fun h9 => by omega⟩
    unfold mNext mN; rw [hi']
  | succ j ih =>
    intro i h0 hi
    have hi' : i < gfd G 12 12 m := by unfold mN at hi; omega
    refine b_X12_nextTime_5 ⟨h1, fun h9 => by omega, fun _ => ?_⟩
    refine ⟨h1, okp_isSeen h h0 (by omega), ?_⟩
    have l7 : i < gln G (gfd G 12 7 m) := by omega
    have l8 : i < gln G (gfd G 12 8 m) := by omega
    have i3 : i32 (i + 1) := i32s (by omega)
    have ih' := ih (i + 1) (by omega) (by omega)
    rw [ups_next h0] at ih'
    and_intros
    all_goals first | (intros; assumption) | (intros; omega) | skip
    refine Eq.mp (congrArg (fun z => V E M_X12_nextTime 5 [some (rv m), some (iv s1), some (iv b), some (iv z), some (iv (i + 1)), none] [] G c s (fun r G' => r = mNext G m s1 b ∧ G' = G) X) ?_) ih'
    rw [mSeen_if]
    unfold nxS mS mT mH
    repeat' split
    all_goals first | rfl | omega
theorem okp_nextTime {s1 b : Int} (h : MSh E G m) (hs : MSa G m) : OkP E M_X12_nextTime [rv m, iv s1, iv b] G (mNext G m s1 b) :=
  i_X12_nextTime (v_nextTime h hs (mN G m).toNat 0 (Int.le_refl 0) (by have := hs.1; unfold mN; omega))
theorem v_valueAt {s1 b : Int} (h : MSh E G m) (hs : MSa G m) : ∀ (j : Nat) (i : Int), 0 ≤ i → i + j = mN G m → V E M_X12_valueAt 5 [some (rv m), some (iv s1), some (iv b), some (iv (ups (vaS G m s1 b) 0 i.toNat)), some (iv i)] [] G c s (fun r G' => r = mVal G m s1 b ∧ G' = G) X := by
  obtain ⟨n0, n1, n2, n3, n4, n5, n6⟩ := hs
  have h1 := h.1
  have g7 := (h.gw 7 15).1
  have g8 := (h.gw 8 15).1
  have g9 := (h.gw 9 15).1
  intro j
  induction j with
  | zero =>
    intro i h0 hi
    have hi' : i = gfd G 12 12 m := by unfold mN at hi; omega
    refine b_X12_valueAt_5 ⟨h1, fun _ => ⟨?_, rfl⟩, fun h9 => by omega⟩
    unfold mVal mN; rw [hi']
  | succ j ih =>
    intro i h0 hi
    have hi' : i < gfd G 12 12 m := by unfold mN at hi; omega
    refine b_X12_valueAt_5 ⟨h1, fun h9 => by omega, fun _ => ?_⟩
    refine ⟨h1, okp_isSeen h h0 (by omega), ?_⟩
    have l7 : i < gln G (gfd G 12 7 m) := by omega
    have l8 : i < gln G (gfd G 12 8 m) := by omega
    have l9 : i < gln G (gfd G 12 9 m) := by omega
    have i3 : i32 (i + 1) := i32s (by omega)
    have ih' := ih (i + 1) (by omega) (by omega)
    rw [ups_next h0] at ih'
    and_intros
    all_goals first | (intros; assumption) | (intros; omega) | skip
    refine Eq.mp (congrArg (fun z => V E M_X12_valueAt 5 [some (rv m), some (iv s1), some (iv b), some (iv z), some (iv (i + 1))] [] G c s (fun r G' => r = mVal G m s1 b ∧ G' = G) X) ?_) ih'
    rw [mSeen_if]
    unfold vaS mS mT mH mV
    repeat' split
    all_goals first | rfl | omega
theorem okp_valueAt {s1 b : Int} (h : MSh E G m) (hs : MSa G m) : OkP E M_X12_valueAt [rv m, iv s1, iv b] G (mVal G m s1 b) :=
  i_X12_valueAt (v_valueAt h hs (mN G m).toNat 0 (Int.le_refl 0) (by have := hs.1; unfold mN; omega))
end M34
