/-! the model's loops over its samples -/
section M34
variable {E : EE} {G G' G2 : Gt} {c s : Nat} {Q X : Int → Gt → Prop} {a m : Int}
/-- a loop from 0 up -/
def ups (f : Int → Int → Int) (x : Int) (n : Nat) : Int := (List.range n).foldl (fun a (k : Nat) => f a (k : Int)) x
theorem ups_zero (f : Int → Int → Int) (x : Int) : ups f x 0 = x := rfl
theorem ups_succ (f : Int → Int → Int) (x : Int) (n : Nat) : ups f x (n + 1) = f (ups f x n) n := by
  unfold ups; rw [List.range_succ, List.foldl_append]; rfl
theorem ups_next {f : Int → Int → Int} {x i : Int} (h : 0 ≤ i) : ups f x (i + 1).toNat = f (ups f x i.toNat) i := by
  rw [show (i + 1).toNat = i.toNat + 1 by omega, ups_succ, show ((i.toNat : Nat) : Int) = i by omega]
/-- the model's samples -/
def MSa (G : Gt) (m : Int) : Prop := 0 ≤ gfd G 12 12 m ∧ gfd G 12 12 m ≤ gln G (gfd G 12 8 m) ∧ gln G (gfd G 12 8 m) ≤ 20000000 ∧ gln G (gfd G 12 7 m) = gln G (gfd G 12 8 m) ∧ gln G (gfd G 12 9 m) = gln G (gfd G 12 8 m) ∧ gln G (gfd G 12 10 m) = gln G (gfd G 12 8 m) ∧ gln G (gfd G 12 11 m) = gln G (gfd G 12 8 m)
def mN (G : Gt) (m : Int) : Int := gfd G 12 12 m
def mS (G : Gt) (m k : Int) : Int := gel G (gfd G 12 7 m) k
def mT (G : Gt) (m k : Int) : Int := gel G (gfd G 12 8 m) k
def mV (G : Gt) (m k : Int) : Int := gel G (gfd G 12 9 m) k
def mH (G : Gt) (m k : Int) : Int := gel G (gfd G 12 10 m) k
def mC (G : Gt) (m k : Int) : Int := gel G (gfd G 12 11 m) k
/-- the least time of a seen sample of a series behind another time -/
def nxS (G : Gt) (m s b f k : Int) : Int := if mH G m k = 0 ∧ mS G m k = s ∧ b < mT G m k ∧ (f = -1 ∨ mT G m k < f) then mT G m k else f
def mNext (G : Gt) (m s b : Int) : Int := ups (nxS G m s b) (-1) (mN G m).toNat
def vaS (G : Gt) (m s t f k : Int) : Int := if mH G m k = 0 ∧ mS G m k = s ∧ mT G m k = t then mV G m k else f
def mVal (G : Gt) (m s t : Int) : Int := ups (vaS G m s t) 0 (mN G m).toNat
theorem mSeen_if {α : Type} (G : Gt) (m k : Int) (x y : α) : (if mSeen G m k = 0 then x else y) = if mH G m k = 0 then y else x := by
  unfold mSeen mH
  by_cases h : gel G (gfd G 12 10 m) k = 0
  · rw [if_pos h, if_pos h, if_neg (by decide)]
  · rw [if_neg h, if_neg h, if_pos rfl]
theorem v_nextTime {s1 b : Int} (h : MSh E G m) (hs : MSa G m) : ∀ (j : Nat) (i : Int), 0 ≤ i → i + j = mN G m → V E M_X12_nextTime 5 [some (rv m), some (iv s1), some (iv b), some (iv (ups (nxS G m s1 b) (-1) i.toNat)), some (iv i), none] [] G c s (fun r G' => r = mNext G m s1 b ∧ G' = G) X := by
  obtain ⟨n0, n1, n2, n3, n4, n5, n6⟩ := hs
  have h1 := h.1
  have g7 := (h.gw 7 15).1
  have g8 := (h.gw 8 15).1
  intro j
  induction j with
  | zero =>
    intro i h0 hi
    have hi' : i = gfd G 12 12 m := by unfold mN at hi; omega
    refine b_X12_nextTime_5 ⟨h1, fun _ => ⟨?_, rfl⟩, fun h9 => by omega⟩
    unfold mNext mN; rw [hi']
  | succ j ih =>
    intro i h0 hi
    have hi' : i < gfd G 12 12 m := by unfold mN at hi; omega
    refine b_X12_nextTime_5 ⟨h1, fun h9 => by omega, fun _ => ?_⟩
    refine ⟨h1, okp_isSeen h h0 (by omega), ?_⟩
    have l7 : i < gln G (gfd G 12 7 m) := by omega
    have l8 : i < gln G (gfd G 12 8 m) := by omega
    have i3 : i32 (i + 1) := i32s (by omega)
    have ih' := ih (i + 1) (by omega) (by omega)
    rw [ups_next h0] at ih'
    and_intros
    all_goals first | (intros; assumption) | (intros; omega) | (intros; exact i32s (by omega)) | skip
    refine Eq.mp (congrArg (fun z => V E M_X12_nextTime 5 [some (rv m), some (iv s1), some (iv b), some (iv z), some (iv (i + 1)), none] [] G c s (fun r G' => r = mNext G m s1 b ∧ G' = G) X) ?_) ih'
    rw [mSeen_if]
    unfold nxS mS mT mH
    repeat' split
    all_goals first | rfl | omega
theorem okp_nextTime {s1 b : Int} (h : MSh E G m) (hs : MSa G m) : OkP E M_X12_nextTime [rv m, iv s1, iv b] G (mNext G m s1 b) :=
  i_X12_nextTime (v_nextTime h hs (mN G m).toNat 0 (Int.le_refl 0) (by have := hs.1; unfold mN; omega))
theorem v_valueAt {s1 b : Int} (h : MSh E G m) (hs : MSa G m) : ∀ (j : Nat) (i : Int), 0 ≤ i → i + j = mN G m → V E M_X12_valueAt 5 [some (rv m), some (iv s1), some (iv b), some (iv (ups (vaS G m s1 b) 0 i.toNat)), some (iv i)] [] G c s (fun r G' => r = mVal G m s1 b ∧ G' = G) X := by
  obtain ⟨n0, n1, n2, n3, n4, n5, n6⟩ := hs
  have h1 := h.1
  have g7 := (h.gw 7 15).1
  have g8 := (h.gw 8 15).1
  have g9 := (h.gw 9 15).1
  intro j
  induction j with
  | zero =>
    intro i h0 hi
    have hi' : i = gfd G 12 12 m := by unfold mN at hi; omega
    refine b_X12_valueAt_5 ⟨h1, fun _ => ⟨?_, rfl⟩, fun h9 => by omega⟩
    unfold mVal mN; rw [hi']
  | succ j ih =>
    intro i h0 hi
    have hi' : i < gfd G 12 12 m := by unfold mN at hi; omega
    refine b_X12_valueAt_5 ⟨h1, fun h9 => by omega, fun _ => ?_⟩
    refine ⟨h1, okp_isSeen h h0 (by omega), ?_⟩
    have l7 : i < gln G (gfd G 12 7 m) := by omega
    have l8 : i < gln G (gfd G 12 8 m) := by omega
    have l9 : i < gln G (gfd G 12 9 m) := by omega
    have i3 : i32 (i + 1) := i32s (by omega)
    have ih' := ih (i + 1) (by omega) (by omega)
    rw [ups_next h0] at ih'
    and_intros
    all_goals first | (intros; assumption) | (intros; omega) | (intros; exact i32s (by omega)) | skip
    refine Eq.mp (congrArg (fun z => V E M_X12_valueAt 5 [some (rv m), some (iv s1), some (iv b), some (iv z), some (iv (i + 1))] [] G c s (fun r G' => r = mVal G m s1 b ∧ G' = G) X) ?_) ih'
    rw [mSeen_if]
    unfold vaS mS mT mH mV
    repeat' split
    all_goals first | rfl | omega
theorem okp_valueAt {s1 b : Int} (h : MSh E G m) (hs : MSa G m) : OkP E M_X12_valueAt [rv m, iv s1, iv b] G (mVal G m s1 b) :=
  i_X12_valueAt (v_valueAt h hs (mN G m).toNat 0 (Int.le_refl 0) (by have := hs.1; unfold mN; omega))
/-- the series of three labels -/
def fdS (G : Gt) (m z o t f k : Int) : Int := if gel G (gfd G 12 3 m) k = z ∧ gel G (gfd G 12 4 m) k = o ∧ gel G (gfd G 12 5 m) k = t then k else f
def mFind (G : Gt) (m z o t : Int) : Int := ups (fdS G m z o t) (-1) (gfd G 12 6 m).toNat
theorem v_find {z o t : Int} (h : MSh E G m) (hl : MLb G m) : ∀ (j : Nat) (i : Int), 0 ≤ i → i + j = gfd G 12 6 m → V E M_X12_find 6 [some (rv m), some (iv z), some (iv o), some (iv t), some (iv (ups (fdS G m z o t) (-1) i.toNat)), some (iv i)] [] G c s (fun r G' => r = mFind G m z o t ∧ G' = G) X := by
  have h1 := h.1
  have n2 := hl.2.1
  obtain ⟨g3, k3, -⟩ := h.fx 3 15 12
  obtain ⟨g4, k4, -⟩ := h.fx 4 15 12
  obtain ⟨g5, k5, -⟩ := h.fx 5 15 12
  intro j
  induction j with
  | zero =>
    intro i h0 hi
    have hi' : i = gfd G 12 6 m := by omega
    refine b_X12_find_6 ⟨h1, fun _ => ⟨?_, rfl⟩, fun h9 => by omega⟩
    unfold mFind; rw [hi']
  | succ j ih =>
    intro i h0 hi
    refine b_X12_find_6 ⟨h1, fun h9 => by omega, fun _ => ?_⟩
    have ih' := ih (i + 1) (by omega) (by omega)
    rw [ups_next h0] at ih'
    and_intros
    all_goals first | (intros; assumption) | (intros; omega) | (intros; exact i32s (by omega)) | skip
    refine Eq.mp (congrArg (fun w => V E M_X12_find 6 [some (rv m), some (iv z), some (iv o), some (iv t), some (iv w), some (iv (i + 1))] [] G c s (fun r G' => r = mFind G m z o t ∧ G' = G) X) ?_) ih'
    unfold fdS
    repeat' split
    all_goals first | rfl | omega
theorem okp_find {z o t : Int} (h : MSh E G m) (hl : MLb G m) : OkP E M_X12_find [rv m, iv z, iv o, iv t] G (mFind G m z o t) :=
  i_X12_find (v_find h hl (gfd G 12 6 m).toNat 0 (Int.le_refl 0) (by have := hl.1; omega))
/-- the next series by labels that the word's sets select -/
def wSel (G : Gt) (m at_ k : Int) : Int := mIn (gel G (gfd G 12 21 m) (at_ + 3)) (gel G (gfd G 12 21 m) (at_ + 4)) (gel G (gfd G 12 21 m) (at_ + 5)) (mCode G m k)
def nsS (G : Gt) (m at_ b f k : Int) : Int := if b < mCode G m k ∧ wSel G m at_ k ≠ 0 ∧ (f = -1 ∨ mCode G m k < mCode G m f) then k else f
def mNxs (G : Gt) (m at_ b : Int) : Int := ups (nsS G m at_ b) (-1) (gfd G 12 6 m).toNat
theorem nsS_in (G : Gt) (m at_ b : Int) (n : Nat) : -1 ≤ ups (nsS G m at_ b) (-1) n ∧ ups (nsS G m at_ b) (-1) n < n := by
  induction n with
  | zero => rw [ups_zero]; omega
  | succ n ih =>
    rw [ups_succ]
    unfold nsS at *
    split <;> omega
theorem v_nextSeries {w b : Int} (h : MSh E G m) (hl : MLb G m) (hw : 0 ≤ w ∧ w + 6 ≤ 540) : ∀ (j : Nat) (i : Int), 0 ≤ i → i + j = gfd G 12 6 m → V E M_X12_nextSeries 5 [some (rv m), some (iv w), some (iv b), some (iv (ups (nsS G m w b) (-1) i.toNat)), some (iv i), none] [] G c s (fun r G' => r = mNxs G m w b ∧ G' = G) X := by
  have h1 := h.1
  have n2 := hl.2.1
  obtain ⟨g3, k3, -⟩ := h.fx 21 15 540
  intro j
  induction j with
  | zero =>
    intro i h0 hi
    have hi' : i = gfd G 12 6 m := by omega
    refine b_X12_nextSeries_5 ⟨h1, fun _ => ⟨?_, rfl⟩, fun h9 => by omega⟩
    unfold mNxs; rw [hi']
  | succ j ih =>
    intro i h0 hi
    refine b_X12_nextSeries_5 ⟨h1, fun h9 => by omega, fun _ => ?_⟩
    have ih' := ih (i + 1) (by omega) (by omega)
    rw [ups_next h0] at ih'
    have hf := nsS_in G m w b i.toNat
    have oi := okp_codeOfSeries (s := i) h hl h0 (by omega)
    have oin : ∀ z o t l, OkP E M_X12_isIn [iv z, iv o, iv t, iv l] G (mIn z o t l) := fun z o t l => okp_isIn
    have of : ups (nsS G m w b) (-1) i.toNat ≠ -1 → OkP E M_X12_codeOfSeries [rv m, iv (ups (nsS G m w b) (-1) i.toNat)] G (mCode G m (ups (nsS G m w b) (-1) i.toNat)) := fun h9 => okp_codeOfSeries h hl (by omega) (by omega)
    generalize ups (nsS G m w b) (-1) i.toNat = f at *
    and_intros
    all_goals first | (intros; assumption) | (intros; omega) | (intros; exact i32s (by omega)) | (intros; exact oin _ _ _ _) | (intro _ h9; exact of h9) | skip
    refine Eq.mp (congrArg (fun z => V E M_X12_nextSeries 5 [some (rv m), some (iv w), some (iv b), some (iv z), some (iv (i + 1)), none] [] G c s (fun r G' => r = mNxs G m w b ∧ G' = G) X) ?_) ih'
    unfold nsS wSel
    repeat' split
    all_goals first | rfl | omega
theorem okp_nextSeries {w b : Int} (h : MSh E G m) (hl : MLb G m) (hw : 0 ≤ w ∧ w + 6 ≤ 540) : OkP E M_X12_nextSeries [rv m, iv w, iv b] G (mNxs G m w b) :=
  i_X12_nextSeries (v_nextSeries h hl hw (gfd G 12 6 m).toNat 0 (Int.le_refl 0) (by have := hl.1; omega))
/-- how many results an expression leaves -/
def wLeft (w : Int) : Int := if w < 8 then 1 else if 10 ≤ w ∧ w ≤ 14 then -1 else 0
def mWhat (G : Gt) (m w k : Int) : Int := gel G (gfd G 12 21 m) (60 * w + 6 * k)
def lfS (G : Gt) (m w n k : Int) : Int := n + wLeft (mWhat G m w k)
def mMany (G : Gt) (m w : Int) : Int := gel G (gfd G 12 22 m) w
def mLeft (G : Gt) (m w : Int) : Int := ups (lfS G m w) 0 (mMany G m w).toNat
theorem lfS_in (G : Gt) (m w : Int) (n : Nat) : -(n : Int) ≤ ups (lfS G m w) 0 n ∧ ups (lfS G m w) 0 n ≤ n := by
  induction n with
  | zero => rw [ups_zero]; omega
  | succ n ih =>
    rw [ups_succ]
    unfold lfS wLeft at *
    split
    · omega
    · split <;> omega
theorem v_left {w : Int} (h : MSh E G m) (hw : 0 ≤ w ∧ w ≤ 8) (hm : mMany G m w ≤ 10) : ∀ (j : Nat) (i : Int), 0 ≤ i → i + j = max 0 (mMany G m w) → V E M_X12_left 4 [some (rv m), some (iv w), some (iv (ups (lfS G m w) 0 i.toNat)), some (iv i), none] [] G c s (fun r G' => r = mLeft G m w ∧ G' = G) X := by
  have h1 := h.1
  obtain ⟨g3, k3, -⟩ := h.fx 21 15 540
  obtain ⟨g4, k4, -⟩ := h.fx 22 15 9
  have e0 : gel G (gfd G 12 22 m) w = mMany G m w := rfl
  intro j
  induction j with
  | zero =>
    intro i h0 hi
    refine b_X12_left_4 ⟨h1, g4, hw.1, by omega, fun _ => ⟨?_, rfl⟩, fun h9 => by omega⟩
    unfold mLeft
    congr 1
    omega
  | succ j ih =>
    intro i h0 hi
    refine b_X12_left_4 ⟨h1, g4, hw.1, by omega, fun h9 => by omega, fun _ => ?_⟩
    have ih' := ih (i + 1) (by omega) (by omega)
    rw [ups_next h0] at ih'
    have hf := lfS_in G m w i.toNat
    have oin : ∀ x l u, OkP E M_X12_in [iv x, iv l, iv u] G (wIn x l u) := fun x l u => okp_in
    have e : (if 8 ≤ (gel G (gfd G 12 21 m) ((60 * w) + (6 * i))) then ((if (wIn (gel G (gfd G 12 21 m) ((60 * w) + (6 * i))) 10 14) = 0 then (0 : Int) else (-1)) : Int) else 1) = wLeft (mWhat G m w i) := by
      unfold wLeft wIn mWhat
      repeat' split
      all_goals first | rfl | omega
    rw [e]
    have hwl : -1 ≤ wLeft (mWhat G m w i) ∧ wLeft (mWhat G m w i) ≤ 1 := by
      unfold wLeft
      split
      · omega
      · split <;> omega
    have ih2 := ih'
    rw [show lfS G m w (ups (lfS G m w) 0 i.toNat) i = ups (lfS G m w) 0 i.toNat + wLeft (mWhat G m w i) from rfl] at ih2
    and_intros
    all_goals first | (intros; assumption) | (intros; omega) | (intros; exact i32s (by omega)) | (intros; exact oin _ _ _) | skip
theorem okp_left {w : Int} (h : MSh E G m) (hw : 0 ≤ w ∧ w ≤ 8) (hm : mMany G m w ≤ 10) : OkP E M_X12_left [rv m, iv w] G (mLeft G m w) :=
  i_X12_left (v_left h hw hm (mMany G m w).toNat 0 (Int.le_refl 0) (by omega))
end M34
