/-! what labels an expression may leave -/
section Sa02
variable {d d' d2 : DS} {R : List (Int × Int)} {ws : List Wd} {w : Wd} {S S' : List Rw} {time l : Int} {ser ser' : List Int} {sm : List Sm4}
abbrev Lf : Type := Option (Int → Int)
/-- a number: labels 666; a vector: images of the series' labels -/
def lfS2 (ser : List Int) : Lf → List Int
  | none => [666]
  | some f => ser.map f
def lfRel (ser : List Int) (f : Lf) (x : Rw) : Prop := (match f with | none => x.1 = 1 | some _ => x.1 = 0) ∧ ∀ y ∈ x.2, y.1 ∈ lfS2 ser f
def lf6 : Lf → Lf
  | none => some (fun c => c)
  | some f => some (fun c => Int.tdiv (f c) 10 * 10 + 6)
def lfM (set : Int) : Lf → Lf
  | none => none
  | some f => some (fun c => wMask (f c) set)
def lfJ : Lf → Lf → Lf
  | none, g => g
  | some f, _ => some f
def stW2 (w : Wd) (T : List Lf) : List Lf :=
  if w.1 = 0 then T ++ [none]
  else if w.1 ≤ 7 then T ++ [some (fun c => c)]
  else if w.1 = 15 then T.take (T.length - 1) ++ [lf6 (T.getD (T.length - 1) none)]
  else if w.1 ≤ 9 then T.take (T.length - 1) ++ [lfM w.2.1 (T.getD (T.length - 1) none)]
  else T.take (T.length - 2) ++ [lfJ (T.getD (T.length - 2) none) (T.getD (T.length - 1) none)]
def stL2 : List Wd → List Lf → List Lf
  | [], T => T
  | w :: ws, T => stL2 ws (stW2 w T)
def lbS (ws : List Wd) (ser : List Int) : List Int := lfS2 ser ((stL2 ws []).getD 0 none)
def relL (ser : List Int) (T : List Lf) (S : List Rw) : Prop := T.length = S.length ∧ ∀ i, i < S.length → lfRel ser (T.getD i none) (S.getD i (0, []))
theorem relL.snoc {T : List Lf} {f : Lf} {x : Rw} (h : relL ser T S) (hx : lfRel ser f x) : relL ser (T ++ [f]) (S ++ [x]) := by
  refine ⟨by rw [List.length_append, List.length_append, h.1]; rfl, fun i hi => ?_⟩
  rw [List.length_append] at hi
  have hi' : i < S.length + 1 := hi
  rw [appD (by rw [h.1]; exact hi'), appD hi', h.1]
  by_cases h9 : i < S.length
  · rw [if_pos h9, if_pos h9]; exact h.2 i h9
  · rw [if_neg h9, if_neg h9]; exact hx
theorem relL.take {T : List Lf} {k : Nat} (h : relL ser T S) : relL ser (T.take k) (S.take k) := by
  refine ⟨by rw [List.length_take, List.length_take, h.1], fun i hi => ?_⟩
  have e := take_getD hi
  rw [e.2]
  have e2 : (T.take k).getD i none = T.getD i none := by
    rw [List.length_take] at hi
    rw [List.getD_eq_getElem?_getD, List.getD_eq_getElem?_getD, List.getElem?_take, if_pos (by omega)]
  rw [e2]
  exact h.2 i e.1
theorem lf_bd {f : Lf} {n : Int} (h : lfRel ser f (n, R)) : lfRel ser f (n, bdL R) := by
  refine ⟨h.1, fun y hy => ?_⟩
  obtain ⟨z, hz, rfl⟩ := List.mem_map.mp hy
  exact h.2 z hz
theorem readR_key {P : Int → Bool} {k two : Int} {y : Int × Int} (hy : y ∈ readR P k two time ser sm) : y.1 ∈ ser := by
  unfold readR at hy
  have h9 := (srt_perm _).mem_iff.mp hy
  obtain ⟨c, hc, e⟩ := List.mem_filterMap.mp h9
  rw [rdF_key e]
  exact hc
theorem foldR_key {k set : Int} {y : Int × Int} (hy : y ∈ foldR k set R) : ∃ z ∈ R, wMask z.1 set = y.1 := by
  unfold foldR at hy
  have h9 := (srt_perm _).mem_iff.mp hy
  obtain ⟨g, hg, rfl⟩ := List.mem_map.mp h9
  exact kyL_mem.mp hg
theorem joinR_key {k set nl nu : Int} {A B : List (Int × Int)} {f g : Lf} {x : Rw} (ha : lfRel ser f (nl, A)) (hb : lfRel ser g (nu, B)) (h : joinR k set nl A nu B = some x) : lfRel ser (lfJ f g) x := by
  unfold joinR at h
  cases f with
  | none =>
    have h1 : nl = 1 := ha.1
    cases g with
    | none =>
      have h2 : nu = 1 := hb.1
      rw [if_pos ⟨by omega, by omega⟩] at h
      split at h
      · cases h
      · rw [← Option.some.inj h]
        exact ⟨rfl, fun y hy => by rw [List.mem_singleton.mp hy]; exact List.mem_singleton.mpr rfl⟩
    | some g =>
      have h2 : nu = 0 := hb.1
      rw [if_neg (fun h9 => h9.2 h2), if_pos (by omega)] at h
      rw [← Option.some.inj h]
      refine ⟨rfl, fun y hy => ?_⟩
      obtain ⟨z, hz, e⟩ := fmJ_key hy
      rw [← e]
      exact hb.2 z hz
  | some f =>
    have h1 : nl = 0 := ha.1
    rw [if_neg (fun h9 => h9.1 h1), if_neg (fun h9 => h9 h1)] at h
    have key : ∀ F : Int × Int → Option Int, x = (0, fmJ F A) → lfRel ser (lfJ (some f) g) x := fun F e => by
      rw [e]
      refine ⟨rfl, fun y hy => ?_⟩
      obtain ⟨z, hz, e⟩ := fmJ_key hy
      rw [← e]
      exact ha.2 z hz
    split at h
    · exact key _ (Option.some.inj h).symm
    · split at h
      · cases h
      · exact key _ (Option.some.inj h).symm
theorem evW_rel {T : List Lf} (hT : relL ser T S) (h : evW time ser sm w S = some S') : relL ser (stW2 w T) S' := by
  unfold evW at h
  unfold stW2
  by_cases h0 : w.1 = 0
  · rw [if_pos h0] at h ⊢
    rw [← Option.some.inj h]
    exact hT.snoc (lf_bd ⟨rfl, fun y hy => by rw [List.mem_singleton.mp hy]; exact List.mem_singleton.mpr rfl⟩)
  rw [if_neg h0] at h ⊢
  by_cases h7 : w.1 ≤ 7
  · rw [if_pos h7] at h ⊢
    rw [← Option.some.inj h]
    refine hT.snoc (lf_bd ⟨rfl, fun y hy => ?_⟩)
    show y.1 ∈ ser.map (fun c => c)
    rw [List.map_id']
    exact readR_key hy
  rw [if_neg h7] at h ⊢
  by_cases h15 : w.1 = 15
  · rw [if_pos h15] at h ⊢
    split at h
    · cases h
    · rename_i hl
      rw [← Option.some.inj h, hT.1]
      refine hT.take.snoc (lf_bd ?_)
      have hr := hT.2 (S.length - 1) (by omega)
      generalize T.getD (S.length - 1) none = f at hr
      generalize S.getD (S.length - 1) (0, []) = x9 at hr
      cases f with
      | none =>
        have h1 : x9.1 = 1 := hr.1
        rw [if_neg (by omega)]
        exact ⟨rfl, fun y hy => (List.not_mem_nil hy).elim⟩
      | some f =>
        have h1 : x9.1 = 0 := hr.1
        rw [if_pos h1]
        refine ⟨rfl, fun y hy => ?_⟩
        obtain ⟨z, hz, e⟩ := qtN_key _ _ y hy
        obtain ⟨c, hc, e2⟩ := List.mem_map.mp (hr.2 z hz)
        show y.1 ∈ ser.map _
        rw [e, ← e2]
        exact List.mem_map.mpr ⟨c, hc, rfl⟩
  rw [if_neg h15] at h ⊢
  by_cases h9 : w.1 ≤ 9
  · rw [if_pos h9] at h ⊢
    split at h
    · cases h
    · rename_i hl
      rw [← Option.some.inj h, hT.1]
      refine hT.take.snoc (lf_bd ?_)
      have hr := hT.2 (S.length - 1) (by omega)
      generalize T.getD (S.length - 1) none = f at hr
      generalize S.getD (S.length - 1) (0, []) = x9 at hr
      cases f with
      | none =>
        have h1 : x9.1 = 1 := hr.1
        rw [if_neg (by omega)]
        exact ⟨h1, hr.2⟩
      | some f =>
        have h1 : x9.1 = 0 := hr.1
        rw [if_pos h1]
        refine ⟨h1, fun y hy => ?_⟩
        obtain ⟨z, hz, e⟩ := foldR_key hy
        obtain ⟨c, hc, e2⟩ := List.mem_map.mp (hr.2 z hz)
        show y.1 ∈ ser.map _
        rw [← e, ← e2]
        exact List.mem_map.mpr ⟨c, hc, rfl⟩
  rw [if_neg h9] at h ⊢
  split at h
  · cases h
  · rename_i hl
    obtain ⟨x9, e1, e2⟩ := Option.map_eq_some_iff.mp h
    rw [← e2, hT.1]
    exact hT.take.snoc (lf_bd (joinR_key (hT.2 (S.length - 2) (by omega)) (hT.2 (S.length - 1) (by omega)) e1))
theorem evL_rel : ∀ (ws : List Wd) (T : List Lf) (S S' : List Rw), relL ser T S → evL time ser sm ws S = some S' → relL ser (stL2 ws T) S'
  | [], T, S, S', hT, h => by
    have : S = S' := Option.some.inj h
    rw [← this]; exact hT
  | w :: ws, T, S, S', hT, h => by
    have h1 : (match evW time ser sm w S with | none => none | some S' => evL time ser sm ws S') = some S' := h
    cases e : evW time ser sm w S with
    | none => rw [e] at h1; cases h1
    | some S1 =>
      rw [e] at h1
      exact evL_rel ws _ S1 S' (evW_rel hT e) h1
theorem evA_lab {x : Rw} (h : evA time ser sm ws = some x) : ∀ y ∈ x.2, y.1 ∈ lbS ws ser := by
  unfold evA at h
  split at h
  · rename_i x9 e
    rw [← Option.some.inj h]
    have := evL_rel ws [] [] _ ⟨rfl, fun i hi => absurd hi (Nat.not_lt_zero i)⟩ e
    exact (this.2 0 (Nat.zero_lt_one)).2
  · cases h
theorem lbS_len (h : ser.length ≤ 12) : (lbS ws ser).length ≤ 12 := by
  unfold lbS
  cases (stL2 ws []).getD 0 none with
  | none => exact (by decide : (1 : Nat) ≤ 12)
  | some f =>
    show (ser.map f).length ≤ 12
    rw [List.length_map]; exact h
theorem lbS_app : ∀ y ∈ lbS ws ser, y ∈ lbS ws (ser ++ ser') := by
  unfold lbS
  cases (stL2 ws []).getD 0 none with
  | none => exact fun y hy => hy
  | some f =>
    intro y hy
    show y ∈ (ser ++ ser').map f
    rw [List.map_append]
    exact List.mem_append_left _ hy
/-- the entries of the alerts have such labels -/
def LB (d : DS) : Prop := ∀ q ∈ dRl d, ∀ e ∈ q.2.2, e.1 ∈ lbS q.2.1 (dSer d)
theorem asc_short {es : List En} {L : List Int} (ha : ascE es) (hm : ∀ e ∈ es, e.1 ∈ L) : es.length ≤ L.length := by
  have : (es.map (·.1)).Nodup := by
    have hp : (es.map (·.1)).Pairwise (· < ·) := List.pairwise_map.mpr ha
    exact hp.imp (fun {a b} h9 => Int.ne_of_lt h9)
  have h2 := this.length_le_of_subset (l₂ := L) (fun y hy => by
    obtain ⟨e, he, rfl⟩ := List.mem_map.mp hy
    exact hm e he)
  rw [List.length_map] at h2
  exact h2
end Sa02
