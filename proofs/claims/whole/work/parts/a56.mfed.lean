/-! no expression lacks a result -/
section Sa56
variable {time : Int} {k n : Nat} {ser : List Int} {sm : List Sm4} {S S' : List Rw} {w : Wd} {ws : List Wd}
theorem fedL_snoc : ∀ {ws : List Wd} {n : Nat}, (∀ w ∈ ws, wOk w) → wOk w → fedL ws n → wNeeds w.1 ≤ (n : Int) + rlV ws → fedL (ws ++ [w]) n
  | [], n, _, hw, _, h => by
    have e := wNd_eq hw
    have hr : rlV [] = 0 := rfl
    rw [hr] at h
    exact ⟨by omega, trivial⟩
  | y :: ws, n, ho, hw, hf, h => by
    have hy := wNd_eq (ho y List.mem_cons_self)
    have hr : rlV (y :: ws) = 1 - wNeeds y.1 + rlV ws := by unfold rlV; rw [List.map_cons, List.sum_cons]
    rw [hr] at h
    have h1 := hf.1
    exact ⟨h1, fedL_snoc (fun z hz => ho z (List.mem_cons_of_mem _ hz)) hw hf.2 (by omega)⟩
/-- the results that an expression leaves -/
theorem evL_len : ∀ {ws : List Wd} {S S' : List Rw}, (∀ w ∈ ws, wOk w) → evL time ser sm ws S = some S' → (S'.length : Int) = S.length + rlV ws
  | [], S, S', _, h => by
    have e : S = S' := Option.some.inj h
    have hr : rlV [] = 0 := rfl
    rw [e, hr]; omega
  | y :: ws, S, S', ho, h => by
    have hy := wNd_eq (ho y List.mem_cons_self)
    have hr : rlV (y :: ws) = 1 - wNeeds y.1 + rlV ws := by unfold rlV; rw [List.map_cons, List.sum_cons]
    rw [evL] at h
    cases e : evW time ser sm y S with
    | none => rw [e] at h; cases h
    | some T =>
      rw [e] at h
      have h1 := evW_len (ho y List.mem_cons_self) e
      have h2 := evL_len (fun z hz => ho z (List.mem_cons_of_mem _ hz)) h
      rw [hr]
      omega
end Sa56
