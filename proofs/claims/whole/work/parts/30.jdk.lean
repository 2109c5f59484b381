/-! the JDK's own methods -/
section J30
variable {E : EE} {G : Gt} {bc bs : Nat} {Q X : Int → Gt → Prop}
theorem okp_P_checkIndex {i n x : Int} (h0 : 0 ≤ i) (h1 : i < n) : OkP E M_P_checkIndex [iv i, iv n, rv x] G i := by
  refine i_P_checkIndex ⟨fun h => ?_, fun _ => ⟨fun _ => ⟨rfl, rfl⟩, fun h => ?_⟩⟩ <;> omega
theorem okp_O_checkIndex {i n : Int} (h0 : 0 ≤ i) (h1 : i < n) : OkP E M_O_checkIndex [iv i, iv n] G i := by
  exact i_O_checkIndex ⟨okp_P_checkIndex h0 h1, rfl, rfl⟩
end J30
