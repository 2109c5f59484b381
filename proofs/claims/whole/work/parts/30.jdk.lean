/-! the JDK's own methods -/
section J30
variable {E : EE} {M : MD} {pc : Nat} {ls : List (Option SV)} {stk : List SV} {G : Gt} {bc bs : Nat} {Q X : Int → Gt → Prop}
theorem V.wt (h : wt E G → V E M pc ls stk G bc bs Q X) : V E M pc ls stk G bc bs Q X :=
  fun _ _ _ _ _ _ _ _ _ _ _ _ _ _ _ _ F B P O hl => h P.2.1.1 F B P O hl
theorem Ok.wt {svs : List SV} (h : (wt E G ∧ ∀ v ∈ svs, sok v) → Ok E M svs G bc bs Q X) : Ok E M svs G bc bs Q X := by
  intro p e h1 h2 h3 s m args below h4 h5 h6 h7
  exact h ⟨h6.2.2.1.1, h6.2.2.2.1⟩ p e h1 h2 h3 s m args below h4 h5 h6 h7
theorem shamt : ∀ n : Nat, n < 32 → ((Int32.ofInt (n : Int) &&& 31).toBitVec.smod 32).toNat = n := by decide
theorem shamtU : ∀ n : Nat, n < 32 → ((Int32.ofInt (n : Int)).toUInt32 &&& Int32.toUInt32 31).toNat % 32 = n := by decide
/-- an arithmetic shift -/
theorem shr_eq {x k : Int} (hx : i32 x) (h0 : 0 ≤ k) (h1 : k < 32) : shr32 x k = x / 2 ^ k.toNat := by
  obtain ⟨n, rfl⟩ := Int.eq_ofNat_of_zero_le h0
  have hn := shamt n (by omega)
  unfold shr32
  show (Int32.ofInt x >>> (Int32.ofInt n &&& 31)).toBitVec.toInt = _
  rw [Int32.toBitVec_shiftRight, BitVec.toInt_sshiftRight', hn]
  show (Int32.ofInt x).toInt >>> n = _
  rw [Int32.toInt_ofInt_of_le (by have := hx.1; omega) (by have := hx.2; omega), Int.shiftRight_eq_div_pow]
  simp
theorem shr1 {x : Int} (h0 : 0 ≤ x) (h1 : x ≤ 2147483647) : shr32 x 1 = x / 2 := by
  rw [shr_eq ⟨by omega, h1⟩ (by omega) (by omega)]; rfl
/-- the lowest bit -/
theorem and1 {x : Int} (hx : i32 x) : and32 x 1 = x % 2 := by
  unfold and32
  have h1 := hx.1
  have h2 := hx.2
  have e : (Int32.ofInt x &&& Int32.ofInt 1).toBitVec.toNat = (x % 4294967296).toNat % 2 := by
    rw [Int32.toBitVec_and, BitVec.toNat_and]
    have : (Int32.ofInt 1).toBitVec.toNat = 1 := rfl
    rw [this, Nat.and_one_is_mod]
    congr 1
  show (Int32.ofInt x &&& Int32.ofInt 1).toBitVec.toInt = _
  rw [BitVec.toInt_eq_toNat_of_lt (by rw [e]; omega), e]
  omega
theorem okp_P_checkIndex {i n x : Int} (h0 : 0 ≤ i) (h1 : i < n) : OkP E M_P_checkIndex [iv i, iv n, rv x] G i := by
  refine i_P_checkIndex ⟨fun h => ?_, fun _ => ⟨fun _ => ⟨rfl, rfl⟩, fun h => ?_⟩⟩ <;> omega
theorem okp_O_checkIndex {i n : Int} (h0 : 0 ≤ i) (h1 : i < n) : OkP E M_O_checkIndex [iv i, iv n] G i := by
  exact i_O_checkIndex ⟨okp_P_checkIndex h0 h1, rfl, rfl⟩
end J30
