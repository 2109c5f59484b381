/-! no expression of a state lacks a result -/
section Sa57
variable {d : DS} {o t two : Int} {k : Int} {w : Wd}
def FED (d : DS) : Prop := fedL (dDr d) 0 ∧ ∀ q ∈ dRl d, fedL q.2.1 0 ∧ rlV q.2.1 = 1
theorem FED.same {d' : DS} (h : FED d) (h1 : dDr d' = dDr d) (h2 : ∀ q ∈ dRl d', ∃ q0 ∈ dRl d, q.2.1 = q0.2.1) : FED d' := by
  refine ⟨by rw [h1]; exact h.1, fun q hq => ?_⟩
  obtain ⟨q0, a1, a2⟩ := h2 q hq
  rw [a2]
  exact h.2 q0 a1
theorem FED.clear (h : FED d) : FED (drD d []) := ⟨trivial, h.2⟩
theorem FED.word (h : FED d) (hi : DI d) (hw : wOk w) (hn : wNeeds w.1 ≤ rlV (dDr d)) : FED (drD d (dDr d ++ [w])) :=
  ⟨fedL_snoc hi.2.2.2.2.2.2.1.2 hw h.1 (by omega), h.2⟩
theorem FED.add {wt9 kp : Int} (h : FED d) (hr : rlV (dDr d) = 1) : FED (addD d two wt9 kp) := by
  refine ⟨trivial, fun q hq => ?_⟩
  rcases List.mem_append.mp (show q ∈ dRl d ++ [((two, wt9, kp, -1), dDr d, [])] from hq) with h9 | h9
  · exact h.2 q h9
  · rw [List.mem_singleton.mp h9]
    exact ⟨h.1, hr⟩
end Sa57
