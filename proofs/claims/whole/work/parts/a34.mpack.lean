/-! the model packs a block -/
section Sa34
variable {E : EE} {G G' G2 G0 : Gt} {c s : Nat} {Q X : Int → Gt → Prop} {m ml t v b l n r u s9 : Int} {k j : Nat} {ser : List Int} {smp : List (Sm4 × Int)} {sm : List Sm4} {S A B : List (Int × Int)}
theorem bits_ex (hu : i32 u) (h : u ≠ 0) : ∃ k : Nat, k ≤ 31 ∧ bitU u k ≠ 0 := by
  refine Classical.byContradiction fun hno => h ?_
  have hz : ∀ k : Nat, k < 32 → bitU u k = 0 := fun k hk => Classical.byContradiction fun h9 => hno ⟨k, by omega, h9⟩
  have hb : ∀ k : Nat, k < 32 → (Int32.ofInt u).toBitVec.getLsbD k = false := fun k hk => by
    have h1 := hz k hk
    have s2 := shamtU k hk
    have s3 : (((Int32.ofInt (k : Int)).toUInt32 &&& Int32.toUInt32 31).toBitVec % 32).toNat = k := by
      rw [BitVec.toNat_umod]
      exact s2
    unfold bitU and32 ushr32 at h1
    rw [Int32.ofInt_toInt] at h1
    have h2 : ((Int32.ofInt u).toUInt32 >>> ((Int32.ofInt (k : Int)).toUInt32 &&& Int32.toUInt32 31)).toInt32 &&& Int32.ofInt 1 = 0 := Int32.toInt_inj.mp h1
    have h3 := congrArg (fun x : Int32 => x.toBitVec.getLsbD 0) h2
    have h4 : (((Int32.ofInt u).toUInt32 >>> ((Int32.ofInt (k : Int)).toUInt32 &&& Int32.toUInt32 31)).toInt32 &&& Int32.ofInt 1).toBitVec.getLsbD 0 = (Int32.ofInt u).toBitVec.getLsbD k := by
      rw [Int32.toBitVec_and, BitVec.getLsbD_and]
      show (((Int32.ofInt u).toUInt32.toBitVec >>> (((Int32.ofInt (k : Int)).toUInt32 &&& Int32.toUInt32 31).toBitVec % 32)).getLsbD 0 && true) = _
      rw [BitVec.ushiftRight_eq', BitVec.getLsbD_ushiftRight, s3, Bool.and_true]; rfl
    rw [← h4]
    exact h3
  have h5 : (Int32.ofInt u).toBitVec = 0#32 := BitVec.eq_of_getLsbD_eq fun i hi => by rw [hb i hi]; exact (BitVec.getLsbD_zero).symm
  have h6 : Int32.ofInt u = 0 := Int32.toBitVec_inj.mp h5
  have h7 := i32_toInt hu
  rw [h6] at h7
  exact h7.symm
theorem hiB_set (u : Int) : ∀ n : Nat, (hiB u n = 0 ∧ ∀ k : Nat, 0 < k → k ≤ n → bitU u k = 0) ∨ (0 < hiB u n ∧ bitU u (hiB u n) ≠ 0 ∧ ∀ k : Nat, hiB u n < k → k ≤ n → bitU u k = 0) := by
  intro n
  induction n with
  | zero => exact Or.inl ⟨rfl, fun k h1 h2 => by omega⟩
  | succ n ih =>
    have e : hiB u (n + 1) = if bitU u ((n + 1 : Nat) : Int) = 0 then hiB u n else ((n + 1 : Nat) : Int) := rfl
    rw [e]
    by_cases h9 : bitU u ((n + 1 : Nat) : Int) = 0
    · rw [if_pos h9]
      rcases ih with ⟨a1, a2⟩ | ⟨a1, a2, a3⟩
      · refine Or.inl ⟨a1, fun k h1 h2 => ?_⟩
        by_cases hk : k = n + 1
        · rw [hk]; exact h9
        · exact a2 k h1 (by omega)
      · refine Or.inr ⟨a1, a2, fun k h1 h2 => ?_⟩
        by_cases hk : k = n + 1
        · rw [hk]; exact h9
        · exact a3 k h1 (by omega)
    · rw [if_neg h9]
      exact Or.inr ⟨by omega, h9, fun k h1 h2 => by omega⟩
theorem v_spread2 (hex : ∃ k : Nat, k ≤ 31 ∧ bitU u k ≠ 0) (hset : bitU u (hiB u 31) ≠ 0) : ∀ (n k : Nat), (k : Int) + n = hiB u 31 → Q (hiB u 31 - loB u n k + 1) G → V E M_X12_spread 2 [some (iv u), some (iv (k : Int)), none] [] G c s Q X := by
  have h31 := hiB_in u 31
  intro n
  induction n with
  | zero =>
    intro k hk hq
    have hk' : (k : Int) = hiB u 31 := by omega
    refine b_X12_spread_2 ⟨fun _ => v_spread19 ⟨by omega, by omega⟩ hex 31 (Nat.le_refl _) (fun k h1 h2 => by omega) hq, fun h9 => ?_⟩
    rw [bit_shr ⟨by omega, by omega⟩, hk'] at h9
    exact (hset h9).elim
  | succ n ih =>
    intro k hk hq
    have e : loB u (n + 1) k = if bitU u k = 0 then loB u n ((k : Int) + 1) else (k : Int) := rfl
    rw [e] at hq
    refine b_X12_spread_2 ⟨fun h9 => ?_, fun h9 => ⟨i32s' (by omega), ?_⟩⟩
    · rw [bit_shr ⟨by omega, by omega⟩] at h9
      rw [if_neg h9] at hq
      exact v_spread19 ⟨by omega, by omega⟩ hex 31 (Nat.le_refl _) (fun k h1 h2 => by omega) hq
    · rw [bit_shr ⟨by omega, by omega⟩] at h9
      rw [if_pos h9] at hq
      exact ih (k + 1) (by omega) hq
theorem okp_spread (hu : i32 u) (h : u ≠ 0) : OkP E M_X12_spread [iv u] G (bvV u - 12) := by
  have hex := bits_ex hu h
  have h31 := hiB_in u 31
  have hset : bitU u (hiB u 31) ≠ 0 := by
    rcases hiB_set u 31 with ⟨a1, a2⟩ | ⟨-, a2, -⟩
    · rw [a1]
      obtain ⟨k, hk, hb⟩ := hex
      by_cases hk0 : k = 0
      · rw [hk0] at hb; exact hb
      · exact (hb (a2 k (by omega) hk)).elim
    · exact a2
  refine i_X12_spread (v_spread2 hex hset (hiB u 31).toNat 0 (by omega) ⟨?_, rfl⟩)
  unfold bvV
  rw [if_neg h]
  show hiB u 31 - loB u (hiB u 31).toNat 0 + 1 = _
  omega
/-- one series' samples in the model -/
def SX (E : EE) (G : Gt) (m s9 l : Int) (smp : List (Sm4 × Int)) : Prop := MSh E G m ∧ MSa G m ∧ mN G m = smp.length ∧ OwnX G m s9 l smp ∧ (∀ q ∈ smp.map (·.1), 0 ≤ qT q ∧ qT q ≤ 100000 ∧ vOk (qV q)) ∧ Basic (smp.map (·.1))
theorem SX.nx (h : SX E G m s9 l smp) (b : Int) : OkP E M_X12_nextTime [rv m, iv s9, iv b] G (nxL b (seeT l (smp.map (·.1)))) := by
  rw [← mNext_nxL h.2.2.1 h.2.2.2.1 (fun q hq => (h.2.2.2.2.1 q hq).1) h.2.2.2.2.2]
  exact okp_nextTime h.1 h.2.1
theorem SX.va (h : SX E G m s9 l smp) (ht : (t, v) ∈ seeT l (smp.map (·.1))) : OkP E M_X12_valueAt [rv m, iv s9, iv t] G v := by
  rw [← mVal_vaL h.2.2.1 h.2.2.2.1 h.2.2.2.2.2 ht]
  exact okp_valueAt h.1 h.2.1
theorem SX.at (h : SX E G m s9 l smp) {y : Int × Int} (hy : y ∈ seeT l (smp.map (·.1))) : 0 ≤ y.1 ∧ y.1 ≤ 100000 ∧ vOk y.2 := by
  obtain ⟨q, hq, ho, rfl⟩ := seeT_mem.mp hy
  exact h.2.2.2.2.1 q hq
/-- the bits of the block that is open -/
def pkB : Int → Int → Int → Int → List (Int × Int) → Int
  | _, _, _, b, [] => b
  | t, v, d, b, y :: r => if Int.tdiv y.1 100 = Int.tdiv t 100 then pkB y.1 y.2 (y.1 - t) (b + (btV (y.1 - t - d) + bvV (xor32 y.2 v))) r else b
def sm100 (t : Int) (y : Int × Int) : Bool := decide (Int.tdiv y.1 100 = Int.tdiv t 100)
theorem pkB_eq : ∀ (L : List (Int × Int)) (t v d h b : Int), pk t v d h b L = (h, pkB t v d b L) :: pack (L.dropWhile (sm100 t))
  | [], _, _, _, _, _ => rfl
  | y :: r, t, v, d, h, b => by
    show (if Int.tdiv y.1 100 = Int.tdiv t 100 then pk y.1 y.2 (y.1 - t) h (b + (btV (y.1 - t - d) + bvV (xor32 y.2 v))) r else (h, b) :: pk y.1 y.2 0 (Int.tdiv y.1 100) 64 r) = (h, if Int.tdiv y.1 100 = Int.tdiv t 100 then pkB y.1 y.2 (y.1 - t) (b + (btV (y.1 - t - d) + bvV (xor32 y.2 v))) r else b) :: pack ((y :: r).dropWhile (sm100 t))
    by_cases hh : Int.tdiv y.1 100 = Int.tdiv t 100
    · rw [if_pos hh, if_pos hh, pkB_eq r, List.dropWhile_cons_of_pos (show sm100 t y = true from decide_eq_true hh)]
      have : sm100 y.1 = sm100 t := by
        funext z
        unfold sm100
        rw [hh]
      rw [this]
    · rw [if_neg hh, if_neg hh, List.dropWhile_cons_of_neg (show ¬ sm100 t y = true from fun h9 => hh (of_decide_eq_true h9))]
      rfl
theorem xor32_in (x y : Int) : i32 (xor32 x y) := by
  unfold xor32
  have h1 := (Int32.ofInt x ^^^ Int32.ofInt y).minValue_le_toInt
  have h2 := (Int32.ofInt x ^^^ Int32.ofInt y).toInt_le
  exact ⟨h1, h2⟩
theorem v_packed (h : SX E G m s9 l smp) {fst : Int} : ∀ (B A : List (Int × Int)) (t v d b : Int), seeT l (smp.map (·.1)) = A ++ (t, v) :: B → Int.tdiv t 100 = Int.tdiv fst 100 → 0 ≤ fst → -100000 ≤ d ∧ d ≤ 100000 → 0 ≤ b ∧ b + 80 * B.length ≤ 100000 → Q (pkB t v d b B) G →
    V E M_X12_packed 29 [some (rv m), some (iv s9), none, some (iv b), some (iv (((Int.tdiv fst 100) * 100) + 99)), some (iv t), some (iv d), some (iv (nxL t (seeT l (smp.map (·.1))))), none, none] [] G c s Q X := by
  have hasc := seeT_asc (l := l) h.2.2.2.2.2
  intro B
  induction B with
  | nil =>
    intro A t v d b hS hh hf hd hb hq
    have hall : ∀ z ∈ A ++ [(t, v)], z.1 ≤ t := fun z hz => by
      rw [hS] at hasc
      rcases List.mem_append.mp hz with h9 | h9
      · have := (List.pairwise_append.mp hasc).2.2 z h9 (t, v) (List.mem_singleton.mpr rfl)
        exact Int.le_of_lt this
      · rw [List.mem_singleton.mp h9]; exact Int.le_refl _
    rw [hS, nxL_end hall]
    exact b_X12_packed_29 ⟨fun _ => hq, fun h9 => (h9 rfl).elim⟩
  | cons y B ih =>
    intro A t v d b hS hh hf hd hb hq
    have hS2 : seeT l (smp.map (·.1)) = (A ++ [(t, v)]) ++ y :: B := by rw [hS, List.append_assoc]; rfl
    have hasc2 := hasc
    rw [hS2] at hasc2
    have hty : t < y.1 := (List.pairwise_append.mp hasc2).2.2 (t, v) (List.mem_append_right _ (List.mem_singleton.mpr rfl)) y List.mem_cons_self
    have hall : ∀ z ∈ A ++ [(t, v)], z.1 ≤ t := fun z hz => by
      rw [hS] at hasc
      rcases List.mem_append.mp hz with h9 | h9
      · exact Int.le_of_lt ((List.pairwise_append.mp hasc).2.2 z h9 (t, v) List.mem_cons_self)
      · rw [List.mem_singleton.mp h9]; exact Int.le_refl _
    have hnx : nxL t (seeT l (smp.map (·.1))) = y.1 := by rw [hS2]; exact nxL_app hasc2 hall hty
    have ym : y ∈ seeT l (smp.map (·.1)) := by rw [hS2]; exact List.mem_append_right _ List.mem_cons_self
    have tm : (t, v) ∈ seeT l (smp.map (·.1)) := by rw [hS]; exact List.mem_append_right _ List.mem_cons_self
    have hy := h.at ym
    have ht := h.at tm
    have ht0 : 0 ≤ t := ht.1
    have d1 : Int.tdiv y.1 100 = y.1 / 100 := Int.tdiv_eq_ediv_of_nonneg hy.1
    have d2 : Int.tdiv t 100 = t / 100 := Int.tdiv_eq_ediv_of_nonneg ht0
    have d3 : Int.tdiv fst 100 = fst / 100 := Int.tdiv_eq_ediv_of_nonneg hf
    have hbt := btV_in (y.1 - t - d)
    have hbv := bvV_in (xor32 y.2 v)
    rw [List.length_cons] at hb
    have hq2 : Q (if Int.tdiv y.1 100 = Int.tdiv t 100 then pkB y.1 y.2 (y.1 - t) (b + (btV (y.1 - t - d) + bvV (xor32 y.2 v))) B else b) G := hq
    have hmem2 : ((y.1, y.2) : Int × Int) ∈ seeT l (smp.map (·.1)) := ym
    rw [hnx]
    refine b_X12_packed_29 ⟨fun h9 => by omega, fun _ => ⟨fun h9 => ?_, fun h9 => ⟨i32s' (by omega), i32s' (by omega), fun _ => okp_in, fun _ _ => okp_in, ?_⟩⟩⟩
    · rw [if_neg (by omega)] at hq2
      exact hq2
    · rw [if_pos (by omega)] at hq2
      have eb : (if y.1 - t - d = 0 then (1 : Int) else if wIn (y.1 - t - d) (-63) 64 = 0 then (if wIn (y.1 - t - d) (-255) 256 = 0 then 36 else 12) else 9) = btV (y.1 - t - d) := by
        unfold btV
        by_cases e0 : y.1 - t - d = 0
        · rw [if_pos e0, if_pos e0]
        · rw [if_neg e0, if_neg e0]
          by_cases e1 : -63 ≤ y.1 - t - d ∧ y.1 - t - d ≤ 64
          · rw [if_neg (fun h8 => wIn0.mp h8 e1), if_pos e1]
          · rw [if_pos (wIn0.mpr e1), if_neg e1]
            by_cases e2 : -255 ≤ y.1 - t - d ∧ y.1 - t - d ≤ 256
            · rw [if_neg (fun h8 => wIn0.mp h8 e2), if_pos e2]
            · rw [if_pos (wIn0.mpr e2), if_neg e2]
      rw [eb]
      refine ⟨i32s' (by omega), h.1.1, Call.pure (h.va hmem2) ⟨h.1.1, Call.pure (h.va tm) fun J21 hJ21 => ?_⟩⟩
      have go : J21 (bvV (xor32 y.2 v)) G c s := hJ21 _ _ _ _ ⟨i32s' (by omega), i32s' (by omega), h.1.1, Call.pure (h.nx y.1) (by
        have e3 : b + btV (y.1 - t - d) + bvV (xor32 y.2 v) = b + (btV (y.1 - t - d) + bvV (xor32 y.2 v)) := by omega
        rw [e3]
        exact ih (A ++ [(t, v)]) y.1 y.2 (y.1 - t) _ hS2 (by omega) hf ⟨by omega, by omega⟩ ⟨by omega, by omega⟩ hq2)⟩
      refine ⟨fun hx => Call.pure (okp_spread (xor32_in _ _) hx) ?_, fun hx => ?_⟩
      · rw [show 12 + (bvV (xor32 y.2 v) - 12) = bvV (xor32 y.2 v) by omega]
        exact ⟨i32s' (by omega), go⟩
      · have e4 : bvV (xor32 y.2 v) = 1 := by rw [hx]; rfl
        rw [e4] at go
        exact go
theorem okp_packed (h : SX E G m s9 l smp) {fst v0 : Int} (hS : seeT l (smp.map (·.1)) = A ++ (fst, v0) :: B) (hlen : B.length ≤ 1000) : OkP E M_X12_packed [rv m, iv s9, iv fst] G (pkB fst v0 0 64 B) := by
  have hf := h.at (y := (fst, v0)) (by rw [hS]; exact List.mem_append_right _ List.mem_cons_self)
  have hf0 : 0 ≤ fst := hf.1
  have hf1 : fst ≤ 100000 := hf.2.1
  have d3 : Int.tdiv fst 100 = fst / 100 := Int.tdiv_eq_ediv_of_nonneg hf0
  refine i_X12_packed ⟨i32s' (by omega), i32s' (by omega), h.1.1, Call.pure (h.nx fst) ?_⟩
  exact v_packed h B A fst v0 0 64 hS rfl hf0 (by decide) ⟨by decide, by omega⟩ ⟨rfl, rfl⟩
end Sa34
