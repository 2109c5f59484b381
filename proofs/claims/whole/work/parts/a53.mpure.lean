/-! what words make: rows stay in order; whether an expression ever lacks a result -/
section Sa53
variable {sh time : Int} {k : Nat} {ser : List Int} {sm : List Sm4} {R L : List (Int × Int)} {S S' : List Rw} {w : Wd} {ws : List Wd} {y : Int × Int}
theorem dw_gt (hy : 0 ≤ y.1) : ∀ {L : List (Int × Int)}, ascL L → (∀ z ∈ L, y.1 ≤ z.1) → ∀ z ∈ L.dropWhile (ten y), Int.tdiv y.1 10 < Int.tdiv z.1 10
  | [], _, _, z, hz => (List.not_mem_nil hz).elim
  | x :: L, h, h0, z, hz => by
    have hp := List.pairwise_cons.mp h
    have hx := h0 x List.mem_cons_self
    rw [List.dropWhile_cons] at hz
    have dv : ∀ v : Int, 0 ≤ v → Int.tdiv v 10 = v / 10 := fun v hv => Int.tdiv_eq_ediv_of_nonneg hv
    cases ht : ten y x with
    | true =>
      rw [ht, if_pos rfl] at hz
      exact dw_gt hy hp.2 (fun u hu => h0 u (List.mem_cons_of_mem _ hu)) z hz
    | false =>
      rw [ht, if_neg (by decide)] at hz
      have hne := of_decide_eq_false ht
      rw [dv _ hy, dv _ (show 0 ≤ x.1 by omega)] at hne
      have hz0 := h0 z hz
      rw [dv _ hy, dv _ (show 0 ≤ z.1 by omega)]
      rcases List.mem_cons.mp hz with h9 | h9
      · rw [h9]; omega
      · have := hp.1 z h9
        omega
theorem qtN_asc : ∀ (k : Nat) {R : List (Int × Int)}, ascL R → (∀ z ∈ R, 0 ≤ z.1) → ascL (qtN sh k R)
  | 0, _, _, _ => List.Pairwise.nil
  | _ + 1, [], _, _ => List.Pairwise.nil
  | k + 1, y :: R, h, h0 => by
    have hp := List.pairwise_cons.mp h
    have hsub := (List.dropWhile_sublist (ten y) : ((y :: R).dropWhile (ten y)).Sublist (y :: R))
    show ascL (optL (Int.tdiv y.1 10 * 10 + 6) (qtV sh (((y :: R).takeWhile (ten y)).filter not6)) ++ qtN sh k ((y :: R).dropWhile (ten y)))
    refine List.pairwise_append.mpr ⟨?_, qtN_asc k (h.sublist hsub) (fun z hz => h0 z (hsub.subset hz)), fun x hx z hz => ?_⟩
    · cases qtV sh (((y :: R).takeWhile (ten y)).filter not6) with
      | none => exact List.Pairwise.nil
      | some v => exact List.pairwise_singleton _ _
    · obtain ⟨u, hu, e⟩ := qtN_key _ _ z hz
      have hg := dw_gt (h0 y List.mem_cons_self) h (fun t ht => by
        rcases List.mem_cons.mp ht with h9 | h9
        · rw [h9]; exact Int.le_refl _
        · exact Int.le_of_lt (hp.1 t h9)) u hu
      have ex : x.1 = Int.tdiv y.1 10 * 10 + 6 := by
        cases ho : qtV sh (((y :: R).takeWhile (ten y)).filter not6) with
        | none => rw [ho] at hx; exact (List.not_mem_nil hx).elim
        | some v => rw [ho] at hx; rw [List.mem_singleton.mp hx]
      rw [ex, e]
      omega
theorem top_mem {i : Nat} (h : i < S.length) : S.getD i (0, []) ∈ S := getD_mem' (v := ((0, []) : Rw)) h
theorem joinR_len {kk set nl nu : Int} {U : List (Int × Int)} {x : Rw} (hR : RV nl R) (hU : RV nu U) (h : joinR kk set nl R nu U = some x) : x.2.length ≤ 12 := by
  unfold joinR at h
  split at h
  · split at h
    · cases h
    · rw [← Option.some.inj h]; exact Nat.succ_le_succ (Nat.zero_le _)
  · split at h
    · rw [← Option.some.inj h]; exact Nat.le_trans fmJ_len hU.1
    · split at h
      · rw [← Option.some.inj h]; exact Nat.le_trans fmJ_len hR.1
      · split at h
        · cases h
        · rw [← Option.some.inj h]; exact Nat.le_trans fmJ_len hR.1
theorem evW_rv (hok : wOk w) (hn : ser.Nodup) (h12 : ser.length ≤ 12) (hcs : ∀ c ∈ ser, cOk c) (hS : ∀ x ∈ S, RV x.1 x.2) (h : evW time ser sm w S = some S') : ∀ x ∈ S', RV x.1 x.2 := by
  obtain ⟨k1, k2, k3, k4, k5⟩ := hok
  unfold evW at h
  split at h
  · rw [← Option.some.inj h]
    intro x hx
    rcases List.mem_append.mp hx with h9 | h9
    · exact hS x h9
    · rw [List.mem_singleton.mp h9]
      exact RV.bd (R := [(666, w.2.1)]) (Nat.succ_le_succ (Nat.zero_le _)) (List.pairwise_singleton _ _) (fun y hy => by rw [List.mem_singleton.mp hy]; exact cOk666) (Or.inr ⟨rfl, _, rfl⟩)
  · split at h
    · rw [← Option.some.inj h]
      intro x hx
      rcases List.mem_append.mp hx with h9 | h9
      · exact hS x h9
      · rw [List.mem_singleton.mp h9]
        have hr := readR_ok (k := w.1) (two := w.2.2.1) (time := time) (P := wSl w) (sm := sm) hn hcs
        refine RV.bd ?_ hr.1 hr.2 (Or.inl rfl)
        unfold readR
        rw [(srt_perm _).length_eq]
        exact Nat.le_trans (List.length_filterMap_le _ _) h12
    · split at h
      · split at h
        · cases h
        · rename_i hl
          rw [← Option.some.inj h]
          intro x hx
          rcases List.mem_append.mp hx with h9 | h9
          · exact hS x (List.mem_of_mem_take h9)
          · rw [List.mem_singleton.mp h9]
            have ht := hS _ (top_mem (S := S) (i := S.length - 1) (by omega))
            refine RV.bd ?_ ?_ ?_ (Or.inl rfl)
            · split
              · exact Nat.le_trans (qtN_len _ _) ht.1
              · exact Nat.zero_le _
            · split
              · exact qtN_asc _ ht.2.1 (fun z hz => (ht.2.2.1 z hz).1.1)
              · exact List.Pairwise.nil
            · intro y hy
              split at hy
              · obtain ⟨z, hz, e⟩ := qtN_key _ _ y hy
                rw [e]; exact cOk_six (ht.2.2.1 z hz).1
              · exact (List.not_mem_nil hy).elim
      · split at h
        · split at h
          · cases h
          · rename_i h15 h9k hl
            rw [← Option.some.inj h]
            intro x hx
            rcases List.mem_append.mp hx with h9 | h9
            · exact hS x (List.mem_of_mem_take h9)
            · rw [List.mem_singleton.mp h9]
              have ht := hS _ (top_mem (S := S) (i := S.length - 1) (by omega))
              by_cases h0 : (S.getD (S.length - 1) (0, [])).1 = 0
              · rw [if_pos h0]
                have hf := foldR_ok (k := w.1) ht (k4 (by omega) (by omega))
                exact RV.bd (Nat.le_trans foldR_len ht.1) hf.1 hf.2 (Or.inl h0)
              · rw [if_neg h0]
                exact RV.bd ht.1 ht.2.1 (fun y hy => (ht.2.2.1 y hy).1) ht.2.2.2
        · split at h
          · cases h
          · rename_i hl
            cases hj : joinR w.1 w.2.1 (S.getD (S.length - 2) (0, [])).1 (S.getD (S.length - 2) (0, [])).2 (S.getD (S.length - 1) (0, [])).1 (S.getD (S.length - 1) (0, [])).2 with
            | none => rw [hj] at h; cases h
            | some z =>
              rw [hj] at h
              have e : S.take (S.length - 2) ++ [(z.1, bdL z.2)] = S' := Option.some.inj h
              rw [← e]
              intro x hx
              rcases List.mem_append.mp hx with h9 | h9
              · exact hS x (List.mem_of_mem_take h9)
              · rw [List.mem_singleton.mp h9]
                have hl1 := hS _ (top_mem (S := S) (i := S.length - 2) (by omega))
                have hu1 := hS _ (top_mem (S := S) (i := S.length - 1) (by omega))
                have hr := joinR_ok hl1 hu1 hj
                exact RV.bd (joinR_len hl1 hu1 hj) hr.1 hr.2.1 hr.2.2
/-- no word ever lacks a result -/
def fedL : List Wd → Nat → Prop
  | [], _ => True
  | w :: ws, n => wNd w ≤ n ∧ fedL ws (n + 1 - wNd w)
end Sa53
