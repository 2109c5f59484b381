/-! values that methods answer -/
def alAt (G : Gt) (a i : Int) : Int := gel G (gfd G 13 1 a) i
def wIn (x lo hi : Int) : Int := if lo ≤ x ∧ x ≤ hi then 1 else 0
def wLevel (x : Int) : Int := if x = 10 ∨ x = 100 then 1 else 0
def wNeeds (w : Int) : Int := if 0 ≤ w ∧ w ≤ 7 then 0 else if 10 ≤ w ∧ w ≤ 14 then 2 else 1
def slV (z o t l : Int) : Int := if and32 (and32 (and32 (ushr32 z (Int.tdiv l 100)) (ushr32 o (Int.tmod (Int.tdiv l 10) 10))) (ushr32 t (Int.tmod l 10))) 1 = 1 then 1 else 0
def slS (G : Gt) (a l : Int) : Int := slV (gfd G 6 0 a) (gfd G 6 1 a) (gfd G 6 2 a) l
def wCode (a b c : Int) : Int := 100 * a + 10 * b + c
def mIn (z o t l : Int) : Int := if and32 (shr32 z (Int.tdiv l 100)) 1 = 1 ∧ and32 (shr32 o (Int.tmod (Int.tdiv l 10) 10)) 1 = 1 ∧ and32 (shr32 t (Int.tmod l 10)) 1 = 1 then 1 else 0
def mCode (G : Gt) (a s : Int) : Int := wCode (gel G (gfd G 12 3 a) s) (gel G (gfd G 12 4 a) s) (gel G (gfd G 12 5 a) s)
def mSel (G : Gt) (a q s : Int) : Int := mIn (gel G (gfd G 12 20 a) (3 * q)) (gel G (gfd G 12 20 a) (3 * q + 1)) (gel G (gfd G 12 20 a) (3 * q + 2)) (mCode G a s)
def mSeen (G : Gt) (a k : Int) : Int := if gel G (gfd G 12 10 a) k = 0 then 1 else 0
def wBd (v : Int) : Int := if 100000000000000 < v then 100000000000000 else if v < -100000000000000 then -100000000000000 else v
/-- the labels of a set alone -/
def wMask (l set : Int) : Int := wCode (if Int.emod set 2 = 1 then Int.tdiv l 100 else 6) (if Int.emod (set / 2) 2 = 1 then Int.tmod (Int.tdiv l 10) 10 else 6) (if Int.emod (set / 4) 2 = 1 then Int.tmod l 10 else 6)
def wBound (t : Int) : Int := if t = 0 then 1000 else if t = 1 then 2000 else if t = 2 then 5000 else if t = 3 then 10000 else if t = 4 then 20000 else 0
def mBound (t : Int) : Int := if t = 0 then 1000 else if t = 1 then 2000 else if t = 2 then 5000 else if t = 3 then 10000 else 20000
theorem ne_m1 {x : Int} (h : 0 ≤ x) : ¬ x = -1 := by omega
section VV
variable {E : EE} {M : MD} {pc : Nat} {ls : List (Option SV)} {stk : List SV} {G : Gt} {bc bs : Nat} {Q X : Int → Gt → Prop}
def lsb : List (Option SV) → List (Option SV) → Prop
  | [], _ => True
  | none :: t, _ :: u => lsb t u
  | none :: t, [] => lsb t []
  | some v :: t, o :: u => o = some v ∧ lsb t u
  | some _ :: _, [] => False
theorem lsb_get : ∀ {l1 l2 : List (Option SV)}, lsb l1 l2 → ∀ (j : Nat) (w : SV), l1[j]? = some (some w) → l2[j]? = some (some w)
  | [], _, _, j, w, h => by simp at h
  | none :: t, o :: u, hl, 0, w, h => by simp at h
  | none :: t, o :: u, hl, j + 1, w, h => by
    have := lsb_get (l1 := t) (l2 := u) hl j w (by simpa using h)
    simpa using this
  | none :: t, [], hl, 0, w, h => by simp at h
  | none :: t, [], hl, j + 1, w, h => by
    have := lsb_get (l1 := t) (l2 := []) hl j w (by simpa using h)
    simp at this
  | some v :: t, o :: u, hl, 0, w, h => by
    have h1 := hl.1
    simp at h
    rw [h1, h]; rfl
  | some v :: t, o :: u, hl, j + 1, w, h => by
    have := lsb_get (l1 := t) (l2 := u) hl.2 j w (by simpa using h)
    simpa using this
  | some _ :: _, [], hl, _, _, _ => hl.elim
theorem v_less2 {ls' : List (Option SV)} (h : lsb ls' ls) (k : V E M pc ls' stk G bc bs Q X) : V E M pc ls stk G bc bs Q X := v_less (lsb_get h) k
theorem v_iaddW {a b : Int} (d : decode (mb M) pc = .ok (.iadd, 1)) (k : ∀ r : Int, i32 r → V E M (pc + 1) ls (iv r :: stk) G bc bs Q X) : V E M pc ls (iv b :: iv a :: stk) G bc bs Q X := by
  intro p e s m args below meth c R mc ms H locs cells slots lsA F B P O hl
  have O2 := okp (okp O).2
  have hk := k (Int32.ofInt a + Int32.ofInt b).toInt (i32_of _) (e := e) (below := below) F B P (oks O2.2 (i32_of _)) hl
  rw [List.map_cons, enc_iv, ofI32] at hk
  exact lv_iadd F.1 F.2.1 d hk
theorem tdiv_in {a b : Int} {lo hi : Int} (h1 : lo ≤ a ∧ a ≤ hi) (h0 : lo ≤ 0 ∧ 0 ≤ hi) (hb : 1 ≤ b) : lo ≤ a.tdiv b ∧ a.tdiv b ≤ hi := by
  rcases Int.le_total 0 a with h | h
  · rw [Int.tdiv_eq_ediv_of_nonneg h]
    have g1 : 0 ≤ a / b := Int.ediv_nonneg h (by omega)
    have g2 : a / b ≤ a := Int.ediv_le_self b h
    omega
  · obtain ⟨n, rfl⟩ : ∃ n, a = -n := ⟨-a, by omega⟩
    rw [Int.neg_tdiv, Int.tdiv_eq_ediv_of_nonneg (by omega)]
    have g1 : 0 ≤ n / b := Int.ediv_nonneg (by omega) (by omega)
    have g2 : n / b ≤ n := Int.ediv_le_self b (by omega)
    omega
theorem tmod_in {a b : Int} {lo hi : Int} (h1 : lo ≤ a ∧ a ≤ hi) (h0 : lo ≤ 0 ∧ 0 ≤ hi) (hb : 1 ≤ b) : lo ≤ a.tmod b ∧ a.tmod b ≤ hi := by
  rcases Int.le_total 0 a with h | h
  · rw [Int.tmod_eq_emod_of_nonneg h]
    have g1 : 0 ≤ a % b := Int.emod_nonneg _ (by omega)
    have g2 : a % b ≤ a := by
      have e1 := Int.emod_def a b
      have e2 := Int.mul_nonneg (show 0 ≤ b by omega) (Int.ediv_nonneg h (show 0 ≤ b by omega))
      omega
    omega
  · obtain ⟨n, rfl⟩ : ∃ n, a = -n := ⟨-a, by omega⟩
    rw [Int.neg_tmod, Int.tmod_eq_emod_of_nonneg (by omega)]
    have g1 : 0 ≤ n % b := Int.emod_nonneg _ (by omega)
    have g2 : n % b ≤ n := by
      have e1 := Int.emod_def n b
      have e2 := Int.mul_nonneg (show 0 ≤ b by omega) (Int.ediv_nonneg (show 0 ≤ n by omega) (show 0 ≤ b by omega))
      omega
    omega
theorem v_idivP {a b : Int} (d : decode (mb M) pc = .ok (.idiv, 1)) (hb : 1 ≤ b) (k : V E M (pc + 1) ls (iv (a.tdiv b) :: stk) G bc bs Q X) : V E M pc ls (iv b :: iv a :: stk) G bc bs Q X := by
  intro p e s m args below meth c R mc ms H locs cells slots lsA F B P O hl
  have ha : i32 a := (okp (okp O).2).1
  exact v_idiv d (by omega) (tdiv_in ha ⟨by decide, by decide⟩ hb) k F B P O hl
theorem v_iremP {a b : Int} (d : decode (mb M) pc = .ok (.irem, 1)) (hb : 1 ≤ b) (k : V E M (pc + 1) ls (iv (a.tmod b) :: stk) G bc bs Q X) : V E M pc ls (iv b :: iv a :: stk) G bc bs Q X := by
  intro p e s m args below meth c R mc ms H locs cells slots lsA F B P O hl
  have ha : i32 a := (okp (okp O).2).1
  exact v_irem d (by omega) (tdiv_in ha ⟨by decide, by decide⟩ hb) (tmod_in ha ⟨by decide, by decide⟩ hb) k F B P O hl
theorem v_ldivP {a b : Int} (d : decode (mb M) pc = .ok (.ldiv, 1)) (hb : 1 ≤ b) (k : V E M (pc + 1) ls (jv (a.tdiv b) :: stk) G bc bs Q X) : V E M pc ls (jv b :: jv a :: stk) G bc bs Q X := by
  intro p e s m args below meth c R mc ms H locs cells slots lsA F B P O hl
  have ha : i64 a := (okp (okp O).2).1
  exact v_ldiv d (by omega) (tdiv_in ha ⟨by decide, by decide⟩ hb) k F B P O hl
theorem v_lremP {a b : Int} (d : decode (mb M) pc = .ok (.lrem, 1)) (hb : 1 ≤ b) (k : V E M (pc + 1) ls (jv (a.tmod b) :: stk) G bc bs Q X) : V E M pc ls (jv b :: jv a :: stk) G bc bs Q X := by
  intro p e s m args below meth c R mc ms H locs cells slots lsA F B P O hl
  have ha : i64 a := (okp (okp O).2).1
  exact v_lrem d (by omega) (tdiv_in ha ⟨by decide, by decide⟩ hb) (tmod_in ha ⟨by decide, by decide⟩ hb) k F B P O hl
end VV
