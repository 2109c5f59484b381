section VR
variable {E : EE} {M : MD} {pc : Nat} {ls : List (Option SV)} {stk : List SV} {G : Gt} {bc bs : Nat} {Q X : Int → Gt → Prop}
theorem oks {ls : List (Option SV)} {v : SV} {stk : List SV} (O : (∀ v, some v ∈ ls → sok v) ∧ ∀ v ∈ stk, sok v) (h : sok v) : (∀ v, some v ∈ ls → sok v) ∧ ∀ w ∈ v :: stk, sok w := ⟨O.1, List.forall_mem_cons.mpr ⟨h, O.2⟩⟩
theorem okp {ls : List (Option SV)} {v : SV} {stk : List SV} (O : (∀ v, some v ∈ ls → sok v) ∧ ∀ w ∈ v :: stk, sok w) : sok v ∧ ((∀ v, some v ∈ ls → sok v) ∧ ∀ w ∈ stk, sok w) := ⟨(List.forall_mem_cons.mp O.2).1, O.1, (List.forall_mem_cons.mp O.2).2⟩

theorem v_iconst {n : Int} (d : decode (mb M) pc = .ok (.iconst n, 1)) (hn : i32 n) (k : V E M (pc + 1) ls (iv n :: stk) G bc bs Q X) : V E M pc ls (stk) G bc bs Q X := by
  intro p e s m args below meth c R mc ms H locs cells slots lsA F B P O hl
  exact lv_iconst F.1 F.2.1 d rfl (k F B P (oks O hn) hl)
theorem v_bipush {n : Int} (d : decode (mb M) pc = .ok (.bipush n, 2)) (hv : (Int8.ofInt n).toInt32 = Int32.ofInt n) (hn : i32 n) (k : V E M (pc + 2) ls (iv n :: stk) G bc bs Q X) : V E M pc ls (stk) G bc bs Q X := by
  intro p e s m args below meth c R mc ms H locs cells slots lsA F B P O hl
  exact lv_bipush F.1 F.2.1 d hv (k F B P (oks O hn) hl)
theorem v_sipush {n : Int} (d : decode (mb M) pc = .ok (.sipush n, 3)) (hv : (Int16.ofInt n).toInt32 = Int32.ofInt n) (hn : i32 n) (k : V E M (pc + 3) ls (iv n :: stk) G bc bs Q X) : V E M pc ls (stk) G bc bs Q X := by
  intro p e s m args below meth c R mc ms H locs cells slots lsA F B P O hl
  exact lv_sipush F.1 F.2.1 d hv (k F B P (oks O hn) hl)
theorem v_lconst {n : Fin 2} {x : Int} (d : decode (mb M) pc = .ok (.lconst n, 1)) (hv : Int64.ofNat (n : Nat) = Int64.ofInt x) (hn : i64 x) (k : V E M (pc + 1) ls (jv x :: stk) G bc bs Q X) : V E M pc ls (stk) G bc bs Q X := by
  intro p e s m args below meth c R mc ms H locs cells slots lsA F B P O hl
  exact lv_lconst F.1 F.2.1 d hv (k F B P (oks O hn) hl)
theorem v_null (d : decode (mb M) pc = .ok (.aconst_null, 1)) (k : V E M (pc + 1) ls (rv (-1) :: stk) G bc bs Q X) : V E M pc ls (stk) G bc bs Q X := by
  intro p e s m args below meth c R mc ms H locs cells slots lsA F B P O hl
  exact lv_null F.1 F.2.1 d (k F B P (oks O (Int.le_refl (-1))) hl)
theorem v_ldc {n : Nat} {x : Int} (d : decode (mb M) pc = .ok (.ldc n, 2)) (hw : Cond.constant (mo M) n (Int32.ofInt x) ∈ WS) (hn : i32 x) (k : V E M (pc + 2) ls (iv x :: stk) G bc bs Q X) : V E M pc ls (stk) G bc bs Q X := by
  intro p e s m args below meth c R mc ms H locs cells slots lsA F B P O hl
  exact lv_ldc F.1 F.2.1 F.2.2.2.1 (F.2.2.2.2.1 _ hw) d (k F B P (oks O hn) hl)
theorem v_ldcw {n : Nat} {x : Int} (d : decode (mb M) pc = .ok (.ldc_w n, 3)) (hw : Cond.constant (mo M) n (Int32.ofInt x) ∈ WS) (hn : i32 x) (k : V E M (pc + 3) ls (iv x :: stk) G bc bs Q X) : V E M pc ls (stk) G bc bs Q X := by
  intro p e s m args below meth c R mc ms H locs cells slots lsA F B P O hl
  exact lv_ldcw F.1 F.2.1 F.2.2.2.1 (F.2.2.2.2.1 _ hw) d (k F B P (oks O hn) hl)
theorem v_ldc2 {n : Nat} {x : Int} (d : decode (mb M) pc = .ok (.ldc2_w n, 3)) (hw : Cond.constantLong (mo M) n (Int64.ofInt x) ∈ WS) (hn : i64 x) (k : V E M (pc + 3) ls (jv x :: stk) G bc bs Q X) : V E M pc ls (stk) G bc bs Q X := by
  intro p e s m args below meth c R mc ms H locs cells slots lsA F B P O hl
  exact lv_ldc2 F.1 F.2.1 F.2.2.2.1 (F.2.2.2.2.1 _ hw) d (k F B P (oks O hn) hl)
theorem lvh.at {lsA : Array Slot} {n : Nat} {ls : List (Option SV)} (h : lvh lsA n ls) {i : Nat} {w : SV} (hi : ls[i]? = some (some w)) : lsA[i]? = some (.val (enc w)) := h.2.2 i w hi
theorem sok_at {ls : List (Option SV)} {stk : List SV} (O : (∀ v, some v ∈ ls → sok v) ∧ ∀ v ∈ stk, sok v) {i : Nat} {w : SV} (hi : ls[i]? = some (some w)) : sok w := O.1 w (List.mem_of_getElem? hi)
theorem v_iload_n {q : Fin 4} {i : Nat} {x : Int} (d : decode (mb M) pc = .ok (.iload_n q, 1)) (hi : (q : Nat) = i) (hv : ls[i]? = some (some (iv x))) (k : V E M (pc + 1) ls (iv x :: stk) G bc bs Q X) : V E M pc ls (stk) G bc bs Q X := by
  intro p e s m args below meth c R mc ms H locs cells slots lsA F B P O hl
  exact lv_iload_n F.1 F.2.1 d hi (hl.at hv) (k F B P (oks O (sok_at O hv)) hl)
theorem v_iload {i : Nat} {x : Int} (d : decode (mb M) pc = .ok (.iload i, 2)) (hv : ls[i]? = some (some (iv x))) (k : V E M (pc + 2) ls (iv x :: stk) G bc bs Q X) : V E M pc ls (stk) G bc bs Q X := by
  intro p e s m args below meth c R mc ms H locs cells slots lsA F B P O hl
  exact lv_iload F.1 F.2.1 d (hl.at hv) (k F B P (oks O (sok_at O hv)) hl)
theorem v_lload_n {q : Fin 4} {i : Nat} {x : Int} (d : decode (mb M) pc = .ok (.lload_n q, 1)) (hi : (q : Nat) = i) (hv : ls[i]? = some (some (jv x))) (k : V E M (pc + 1) ls (jv x :: stk) G bc bs Q X) : V E M pc ls (stk) G bc bs Q X := by
  intro p e s m args below meth c R mc ms H locs cells slots lsA F B P O hl
  exact lv_lload_n F.1 F.2.1 d hi (hl.at hv) (k F B P (oks O (sok_at O hv)) hl)
theorem v_lload {i : Nat} {x : Int} (d : decode (mb M) pc = .ok (.lload i, 2)) (hv : ls[i]? = some (some (jv x))) (k : V E M (pc + 2) ls (jv x :: stk) G bc bs Q X) : V E M pc ls (stk) G bc bs Q X := by
  intro p e s m args below meth c R mc ms H locs cells slots lsA F B P O hl
  exact lv_lload F.1 F.2.1 d (hl.at hv) (k F B P (oks O (sok_at O hv)) hl)
theorem enc_r {x : Int} : (∃ a : Nat, enc (rv x) = .ref a) ∨ enc (rv x) = .null := by
  rw [enc_rv]
  unfold o2
  by_cases h : x < 0
  · rw [if_pos h]; exact Or.inr rfl
  · rw [if_neg h]; exact Or.inl ⟨_, rfl⟩
theorem v_aload_n {q : Fin 4} {i : Nat} {x : Int} (d : decode (mb M) pc = .ok (.aload_n q, 1)) (hi : (q : Nat) = i) (hv : ls[i]? = some (some (rv x))) (k : V E M (pc + 1) ls (rv x :: stk) G bc bs Q X) : V E M pc ls (stk) G bc bs Q X := by
  intro p e s m args below meth c R mc ms H locs cells slots lsA F B P O hl
  have ha := hl.at hv
  have hk := k (e := e) (below := below) F B P (oks O (sok_at O hv)) hl
  rw [List.map_cons] at hk
  rcases enc_r (x := x) with ⟨a, h⟩ | h
  · rw [h] at ha hk
    exact lv_aload_n F.1 F.2.1 d hi ha hk
  · rw [h] at ha hk
    exact lv_aload_nN F.1 F.2.1 d hi ha hk
theorem v_aload {i : Nat} {x : Int} (d : decode (mb M) pc = .ok (.aload i, 2)) (hv : ls[i]? = some (some (rv x))) (k : V E M (pc + 2) ls (rv x :: stk) G bc bs Q X) : V E M pc ls (stk) G bc bs Q X := by
  intro p e s m args below meth c R mc ms H locs cells slots lsA F B P O hl
  have ha := hl.at hv
  have hk := k (e := e) (below := below) F B P (oks O (sok_at O hv)) hl
  rw [List.map_cons] at hk
  rcases enc_r (x := x) with ⟨a, h⟩ | h
  · rw [h] at ha hk
    exact lv_aload F.1 F.2.1 d ha hk
  · rw [h] at ha hk
    exact lv_aloadN F.1 F.2.1 d ha hk
/-- a local is set: what overlaps is gone -/
def sto : List (Option SV) → Nat → SV → List (Option SV)
  | [], _, _ => []
  | _ :: t, 0, v => some v :: (if v.1 = 1 then none :: t.tail else t)
  | o :: t, 1, v => (match o with | some w => if w.1 = 1 then none else some w | none => none) :: sto t 0 v
  | o :: t, i + 2, v => o :: sto t (i + 1) v
theorem sto_get {v : SV} {j : Nat} {w : SV} : ∀ {ls : List (Option SV)} {i : Nat}, (sto ls i v)[j]? = some (some w) → (j = i ∧ w = v) ∨ (j ≠ i ∧ ls[j]? = some (some w) ∧ ¬ (j + 1 = i ∧ w.1 = 1) ∧ ¬ (j = i + 1 ∧ v.1 = 1)) := by
  induction j with
  | zero =>
    intro ls i h
    match ls, i with
    | [], _ => simp [sto] at h
    | o :: t, 0 =>
      simp [sto] at h
      exact Or.inl ⟨rfl, h.symm⟩
    | o :: t, 1 =>
      simp [sto] at h
      cases o with
      | none => simp at h
      | some z =>
        by_cases hz : z.1 = 1
        · simp [hz] at h
        · simp [hz] at h
          subst h
          exact Or.inr ⟨by omega, by simp, fun q => hz q.2, by omega⟩
    | o :: t, i + 2 =>
      simp [sto] at h
      exact Or.inr ⟨by omega, by simp [h], by omega, by omega⟩
  | succ j ih =>
    intro ls i h
    match ls, i with
    | [], _ => simp [sto] at h
    | o :: t, 0 =>
      by_cases hv : v.1 = 1
      · simp [sto, hv] at h
        cases j with
        | zero => simp at h
        | succ j =>
          simp at h
          refine Or.inr ⟨by omega, ?_, by omega, by omega⟩
          cases t with
          | nil => simp at h
          | cons b t => simpa using h
      · simp [sto, hv] at h
        exact Or.inr ⟨by omega, by simpa using h, by omega, fun q => hv q.2⟩
    | o :: t, 1 =>
      simp [sto] at h
      rcases ih h with ⟨a, b⟩ | ⟨a, b, c1, c2⟩
      · exact Or.inl ⟨by omega, b⟩
      · exact Or.inr ⟨by omega, by simpa using b, fun q => c1 ⟨by omega, q.2⟩, fun q => c2 ⟨by omega, q.2⟩⟩
    | o :: t, i + 2 =>
      simp [sto] at h
      rcases ih h with ⟨a, b⟩ | ⟨a, b, c1, c2⟩
      · exact Or.inl ⟨by omega, b⟩
      · exact Or.inr ⟨by omega, by simpa using b, fun q => c1 ⟨by omega, q.2⟩, fun q => c2 ⟨by omega, q.2⟩⟩
def mkl (ls : List (Option SV)) : List (Nat × Value) := ls.zipIdx.filterMap fun q => q.1.map fun w => (q.2, enc w)
theorem mkl_of {ls : List (Option SV)} {j : Nat} {w : SV} (h : ls[j]? = some (some w)) : (j, enc w) ∈ mkl ls := by
  refine List.mem_filterMap.mpr ⟨(some w, j), ?_, rfl⟩
  refine List.mem_of_getElem? (i := j) ?_
  simp [List.getElem?_zipIdx, h]
theorem of_mkl {ls : List (Option SV)} {q : Nat × Value} (h : q ∈ mkl ls) : ∃ w : SV, ls[q.1]? = some (some w) ∧ q.2 = enc w := by
  obtain ⟨z, h1, h2⟩ := List.mem_filterMap.mp h
  obtain ⟨k, hk⟩ := List.getElem?_of_mem h1
  simp only [List.getElem?_zipIdx] at hk
  cases ho : ls[k]? with
  | none => rw [ho] at hk; cases hk
  | some o =>
    rw [ho] at hk
    simp at hk
    subst hk
    cases o with
    | none => cases h2
    | some w =>
      cases h2
      exact ⟨w, by simpa using ho, rfl⟩
theorem lvh.has {lsA : Array Slot} {n : Nat} {ls : List (Option SV)} (h : lvh lsA n ls) : lv_has lsA n (mkl ls) := ⟨h.1, h.2.1, fun q hq => by
  obtain ⟨w, h1, h2⟩ := of_mkl hq
  rw [h2]
  exact h.2.2 _ _ h1⟩
theorem enc_cat (v : SV) : (enc v).category = if v.1 = 1 then 2 else 1 := by
  obtain ⟨t, x⟩ := v
  show (encT t x).category = if t = 1 then 2 else 1
  unfold encT
  split
  · rfl
  · unfold o2
    by_cases h : x < 0
    · rw [if_pos h]; rfl
    · rw [if_neg h]; rfl
  · rename_i h1 h2
    rw [if_neg h1]
    rfl
theorem lvh.sto1 {lsA ls' : Array Slot} {n i : Nat} {ls : List (Option SV)} {v : SV} (h1 : ¬ v.1 = 1) (h : lv_has ls' n ((i, enc v) :: (mkl ls).filter (fun q => !(q.1 == i) && !(q.1 + 1 == i && q.2.category == 2)))) : lvh ls' n (sto ls i v) := by
  refine ⟨h.1, h.2.1, fun j w hj => ?_⟩
  refine h.2.2 (j, enc w) ?_
  rcases sto_get hj with ⟨rfl, rfl⟩ | ⟨a, b, c1, -⟩
  · exact List.mem_cons_self
  · refine List.mem_cons_of_mem _ (List.mem_filter.mpr ⟨mkl_of b, ?_⟩)
    simp only [Bool.and_eq_true, Bool.not_eq_true', beq_eq_false_iff_ne, ne_eq, Bool.and_eq_false_iff]
    refine ⟨a, ?_⟩
    rw [enc_cat]
    by_cases hj : j + 1 = i
    · right
      rw [if_neg (fun q => c1 ⟨hj, q⟩)]
      decide
    · exact Or.inl hj
theorem lvh.sto2 {lsA ls' : Array Slot} {n i : Nat} {ls : List (Option SV)} {v : SV} (h1 : v.1 = 1) (h : lv_has ls' n ((i, enc v) :: (mkl ls).filter (fun q => !(q.1 == i) && (!(q.1 == i + 1) && !(q.1 + 1 == i && q.2.category == 2))))) : lvh ls' n (sto ls i v) := by
  refine ⟨h.1, h.2.1, fun j w hj => ?_⟩
  refine h.2.2 (j, enc w) ?_
  rcases sto_get hj with ⟨rfl, rfl⟩ | ⟨a, b, c1, c2⟩
  · exact List.mem_cons_self
  · refine List.mem_cons_of_mem _ (List.mem_filter.mpr ⟨mkl_of b, ?_⟩)
    simp only [Bool.and_eq_true, Bool.not_eq_true', beq_eq_false_iff_ne, ne_eq, Bool.and_eq_false_iff]
    refine ⟨a, fun q => c2 ⟨q, h1⟩, ?_⟩
    rw [enc_cat]
    by_cases hj : j + 1 = i
    · right
      rw [if_neg (fun q => c1 ⟨hj, q⟩)]
      decide
    · exact Or.inl hj
theorem sto_ok {ls ls' : List (Option SV)} {stk : List SV} {i : Nat} {v : SV} (hs : sto ls i v = ls') (O : (∀ v, some v ∈ ls → sok v) ∧ ∀ v ∈ stk, sok v) (hv : sok v) : (∀ v, some v ∈ ls' → sok v) ∧ ∀ v ∈ stk, sok v := by
  refine ⟨fun w hw => ?_, O.2⟩
  subst hs
  obtain ⟨j, hj⟩ := List.getElem?_of_mem hw
  rcases sto_get hj with ⟨-, rfl⟩ | ⟨-, b, -, -⟩
  · exact hv
  · exact O.1 w (List.mem_of_getElem? b)
theorem v_istore_n {q : Fin 4} {i : Nat} {x : Int} {ls' : List (Option SV)} (d : decode (mb M) pc = .ok (.istore_n q, 1)) (hi : (q : Nat) = i) (hn : i < mL M) (hs : sto ls i (iv x) = ls') (k : V E M (pc + 1) ls' stk G bc bs Q X) : V E M pc ls (iv x :: stk) G bc bs Q X := by
  intro p e s m args below meth c R mc ms H locs cells slots lsA F B P O hl
  have O1 := okp O
  exact lv_istore_n F.1 F.2.1 d hi hl.has hn rfl (fun lsB hB => k F B P (sto_ok hs O1.2 O1.1) (hs ▸ lvh.sto1 (lsA := lsA) (v := iv x) (by show ¬ (0 : Nat) = 1; decide) hB))
theorem v_istore {i : Nat} {x : Int} {ls' : List (Option SV)} (d : decode (mb M) pc = .ok (.istore i, 2)) (hn : i < mL M) (hs : sto ls i (iv x) = ls') (k : V E M (pc + 2) ls' stk G bc bs Q X) : V E M pc ls (iv x :: stk) G bc bs Q X := by
  intro p e s m args below meth c R mc ms H locs cells slots lsA F B P O hl
  have O1 := okp O
  exact lv_istore F.1 F.2.1 d hl.has hn rfl (fun lsB hB => k F B P (sto_ok hs O1.2 O1.1) (hs ▸ lvh.sto1 (lsA := lsA) (v := iv x) (by show ¬ (0 : Nat) = 1; decide) hB))
theorem v_lstore_n {q : Fin 4} {i : Nat} {x : Int} {ls' : List (Option SV)} (d : decode (mb M) pc = .ok (.lstore_n q, 1)) (hi : (q : Nat) = i) (hn : i + 1 < mL M) (hs : sto ls i (jv x) = ls') (k : V E M (pc + 1) ls' stk G bc bs Q X) : V E M pc ls (jv x :: stk) G bc bs Q X := by
  intro p e s m args below meth c R mc ms H locs cells slots lsA F B P O hl
  have O1 := okp O
  exact lv_lstore_n F.1 F.2.1 d hi hl.has hn rfl (fun lsB hB => k F B P (sto_ok hs O1.2 O1.1) (hs ▸ lvh.sto2 (lsA := lsA) (v := jv x) (by show (1 : Nat) = 1; decide) hB))
theorem v_lstore {i : Nat} {x : Int} {ls' : List (Option SV)} (d : decode (mb M) pc = .ok (.lstore i, 2)) (hn : i + 1 < mL M) (hs : sto ls i (jv x) = ls') (k : V E M (pc + 2) ls' stk G bc bs Q X) : V E M pc ls (jv x :: stk) G bc bs Q X := by
  intro p e s m args below meth c R mc ms H locs cells slots lsA F B P O hl
  have O1 := okp O
  exact lv_lstore F.1 F.2.1 d hl.has hn rfl (fun lsB hB => k F B P (sto_ok hs O1.2 O1.1) (hs ▸ lvh.sto2 (lsA := lsA) (v := jv x) (by show (1 : Nat) = 1; decide) hB))
theorem v_astore_n {q : Fin 4} {i : Nat} {x : Int} {ls' : List (Option SV)} (d : decode (mb M) pc = .ok (.astore_n q, 1)) (hi : (q : Nat) = i) (hn : i < mL M) (hs : sto ls i (rv x) = ls') (k : V E M (pc + 1) ls' stk G bc bs Q X) : V E M pc ls (rv x :: stk) G bc bs Q X := by
  intro p e s m args below meth c R mc ms H locs cells slots lsA F B P O hl
  have O1 := okp O
  have hk : ∀ lsB, lv_has lsB (mL M) ((i, enc (rv x)) :: (mkl ls).filter (fun q => !(q.1 == i) && !(q.1 + 1 == i && q.2.category == 2))) → _ := fun lsB hB => k (e := e) (below := below) F B P (sto_ok hs O1.2 O1.1) (hs ▸ lvh.sto1 (lsA := lsA) (v := rv x) (by decide : ¬ (2 : Nat) = 1) hB)
  rw [List.map_cons]
  rcases enc_r (x := x) with ⟨a, h⟩ | h
  · rw [h] at hk ⊢
    exact lv_astore_n F.1 F.2.1 d hi hl.has hn rfl hk
  · rw [h] at hk ⊢
    exact lv_astore_nN F.1 F.2.1 d hi hl.has hn rfl hk
theorem v_astore {i : Nat} {x : Int} {ls' : List (Option SV)} (d : decode (mb M) pc = .ok (.astore i, 2)) (hn : i < mL M) (hs : sto ls i (rv x) = ls') (k : V E M (pc + 2) ls' stk G bc bs Q X) : V E M pc ls (rv x :: stk) G bc bs Q X := by
  intro p e s m args below meth c R mc ms H locs cells slots lsA F B P O hl
  have O1 := okp O
  have hk : ∀ lsB, lv_has lsB (mL M) ((i, enc (rv x)) :: (mkl ls).filter (fun q => !(q.1 == i) && !(q.1 + 1 == i && q.2.category == 2))) → _ := fun lsB hB => k (e := e) (below := below) F B P (sto_ok hs O1.2 O1.1) (hs ▸ lvh.sto1 (lsA := lsA) (v := rv x) (by decide : ¬ (2 : Nat) = 1) hB)
  rw [List.map_cons]
  rcases enc_r (x := x) with ⟨a, h⟩ | h
  · rw [h] at hk ⊢
    exact lv_astore F.1 F.2.1 d hl.has hn rfl hk
  · rw [h] at hk ⊢
    exact lv_astoreN F.1 F.2.1 d hl.has hn rfl hk
theorem v_iinc {i : Nat} {n x : Int} {ls' : List (Option SV)} (d : decode (mb M) pc = .ok (.iinc i n, 3)) (hn : i < mL M) (hv : ls[i]? = some (some (iv x))) (hr : i32 (x + n)) (hs : sto ls i (iv (x + n)) = ls') (k : V E M (pc + 3) ls' stk G bc bs Q X) : V E M pc ls stk G bc bs Q X := by
  intro p e s m args below meth c R mc ms H locs cells slots lsA F B P O hl
  obtain ⟨j, hj⟩ := List.getElem?_of_mem (mkl_of hv)
  exact lv_iinc F.1 F.2.1 d hl.has hj (show Int32.ofInt x + Int32.ofInt n = Int32.ofInt (x + n) from (Int32.ofInt_add ..).symm) hn rfl (fun lsB hB => k F B P (sto_ok hs O hr) (hs ▸ lvh.sto1 (lsA := lsA) (v := iv (x + n)) (by show ¬ (0 : Nat) = 1; decide) hB))
end VR
