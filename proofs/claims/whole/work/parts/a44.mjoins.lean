/-! the model joins two results: one value -/
section Sa44
variable {E : EE} {G G' G2 G0 Gs : Gt} {c s : Nat} {Q X : Int → Gt → Prop} {m v b l r u x i nn set g kk l5 l6 l9 p cn y14 yk yv fl l7 : Int} {k j n a : Nat} {R A B F T L U : List (Int × Int)} {S : List Rw} {res : Option Int}
def scJ (k : Nat) : Prop := (29 ≤ k ∧ k ≤ 34) ∨ 49 ≤ k
theorem scP_J {k : Nat} (h : scP k) : scJ k := by unfold scP at h; unfold scJ; omega
def St93 (E : EE) (Gs G : Gt) (m : Int) (T : List (Int × Int)) (fl : Int) : Prop := MU E Gs G m (fun k => k = 34 ∨ 49 ≤ k) ∧ (∀ k, k ≠ 34 → k ≠ 51 → gfd G 12 k m = gfd Gs 12 k m) ∧ gfd G 12 34 m = fl ∧ ∀ j : Nat, j < T.length → gel G (gfd Gs 12 49 m) j = wBd (T.getD j (0, 0)).2 ∧ gel G (gfd Gs 12 50 m) j = (T.getD j (0, 0)).1
theorem St93.el (h : St93 E Gs G m T fl) (k : Nat) (hk : k ≠ 34 ∧ k < 49) (hm : k ∈ mArr := by decide) (i : Int) : gel G (gfd G 12 k m) i = gel Gs (gfd Gs 12 k m) i := h.1.2.2.2.2.2.e k (by omega) hm i
theorem St93.fl1 (h : St93 E Gs G m T fl) : St93 E Gs (sfd G 12 34 m x) m T x := by
  obtain ⟨h1, h2, h3, h4⟩ := h
  exact ⟨h1.mSfd (by decide) (Or.inl rfl), fun k k1 k2 => by rw [gfd_sfd, if_neg (fun h9 => k1 h9.2.1)]; exact h2 k k1 k2, by rw [gfd_sfd, if_pos ⟨rfl, rfl, rfl⟩], h4⟩
theorem St93.mu (h : St93 E Gs G m T fl) (kk : MU E G G' m (fun j => j = 51)) : St93 E Gs G' m T fl := by
  obtain ⟨h1, h2, h3, h4⟩ := h
  have t := kk.2.2.2.2.2
  refine ⟨h1.trans (kk.mono fun k h9 => Or.inr (by omega)), fun k k1 k2 => by rw [t.f k k2]; exact h2 k k1 k2, by rw [t.f 34 (by decide)]; exact h3, fun j hj => ?_⟩
  have e1 := t.e 49 (by decide) (by decide) j
  have e2 := t.e 50 (by decide) (by decide) j
  rw [t.f 49 (by decide), h2 49 (by decide) (by decide)] at e1
  rw [t.f 50 (by decide), h2 50 (by decide) (by decide)] at e2
  rw [e1, e2]
  exact h4 j hj
theorem St93.put (h : St93 E Gs G m T fl) {G44 G49 : Gt} (e44 : G44 = sel G (gfd G 12 49 m) (T.length : Int) (wBd v)) (e49 : G49 = sel G44 (gfd G44 12 50 m) (T.length : Int) l) : St93 E Gs G49 m (T ++ [(l, v)]) fl := by
  obtain ⟨h1, h2, h3, h4⟩ := h
  have k44 : MU E Gs G44 m (fun k => k = 34 ∨ 49 ≤ k) := by rw [e44]; exact h1.mSel (by decide) (Or.inr (by decide))
  have f44 : ∀ k, gfd G44 12 k m = gfd G 12 k m := fun k => by rw [e44]; rfl
  have k49 : MU E Gs G49 m (fun k => k = 34 ∨ 49 ≤ k) := by rw [e49]; exact k44.mSel (by decide) (Or.inr (by decide))
  have f49 : ∀ k, gfd G49 12 k m = gfd G 12 k m := fun k => by rw [e49]; exact f44 k
  have n1 : gfd Gs 12 49 m ≠ gfd Gs 12 50 m := by
    rw [← h2 49 (by decide) (by decide), ← h2 50 (by decide) (by decide)]; exact h1.1.ne 49 50
  rw [f44 50, h2 50 (by decide) (by decide)] at e49
  rw [h2 49 (by decide) (by decide)] at e44
  refine ⟨k49, fun k k1 k2 => by rw [f49]; exact h2 k k1 k2, by rw [f49]; exact h3, fun i hi => ?_⟩
  rw [List.length_append] at hi
  rw [appD hi, e49, gel_sel, gel_sel, e44, gel_sel, gel_sel]
  by_cases h9 : i < T.length
  · have hne : ¬ ((i : Int) = (T.length : Int)) := by omega
    rw [if_pos h9, if_neg (fun h8 => hne h8.2), if_neg (fun h8 => hne h8.2), if_neg (fun h8 => hne h8.2), if_neg (fun h8 => hne h8.2)]
    exact h4 i h9
  · have hi' : i < T.length + 1 := hi
    have he : (i : Int) = (T.length : Int) := by omega
    rw [if_neg h9, if_neg (fun h8 => n1 h8.1), if_pos ⟨rfl, he⟩, if_pos ⟨rfl, he⟩]
    exact ⟨rfl, rfl⟩
/-- what two values joined are, and whether they are -/
theorem JnQ.none' (h : JnQ E G G' m kk l u r) (h0 : gfd G' 12 51 m = 0) : jnV kk l u v = none := by
  have h2 := h.2.1
  rw [h0] at h2
  unfold jnV
  by_cases e1 : kk = 14
  · rw [if_pos e1] at h2 ⊢
    by_cases e2 : u < l
    · rw [if_pos e2] at h2; exact absurd h2 (by decide)
    · rw [if_neg e2]
  · rw [if_neg e1] at h2 ⊢
    by_cases e2 : kk = 13 ∧ u = 0
    · rw [if_pos e2]
    · rw [if_neg e2] at h2; exact absurd h2 (by decide)
theorem JnQ.some' (h : JnQ E G G' m kk l u r) (h0 : gfd G' 12 51 m ≠ 0) (hv : bnd v) (hl : bnd l) : ∃ w, jnV kk l u v = some w ∧ wBd w = (if kk = 14 then v else r) := by
  have h2 := h.2.1
  have h3 := h.2.2
  unfold jnV
  by_cases e1 : kk = 14
  · rw [if_pos e1] at h2 h3 ⊢
    rw [if_pos e1]
    by_cases e2 : u < l
    · rw [if_pos e2]; exact ⟨v, rfl, wBd_id hv⟩
    · rw [if_neg e2] at h2; exact (h0 h2).elim
  · rw [if_neg e1] at h2 h3 ⊢
    rw [if_neg e1]
    by_cases e2 : kk = 13 ∧ u = 0
    · rw [if_pos e2] at h2; exact (h0 h2).elim
    · rw [if_neg e2]
      exact ⟨_, rfl, h3.symm⟩
theorem v_j228t (hSt : St93 E Gs G m T fl) (hk : 10 ≤ kk ∧ kk ≤ 14) (h33 : gfd Gs 12 33 m = (n : Int) + 1) (hn : n ≤ 8) (hstop : gel Gs (gfd Gs 12 30 m) ((n : Int) + 1) ≤ y14 ∨ l6 ≠ 0 ∨ l5 ≠ 0) (hT : T.length < 12) (ha : a < 12) (hy : bnd yv)
    (hr0 : l5 = 0 → gel Gs (gfd Gs 12 31 m) (12 * n + a) = yk ∧ gel Gs (gfd Gs 12 32 m) (12 * n + a) = yv) (hr1 : l5 ≠ 0 → gel Gs (gfd Gs 12 31 m) (12 * n + 12 + a) = yk ∧ gel Gs (gfd Gs 12 32 m) (12 * n + 12 + a) = yv)
    (q0 : l5 = 0 → p = -1 → res = none) (q1 : l5 = 0 → p ≠ -1 → (0 ≤ p ∧ p < 120) ∧ bnd (gel Gs (gfd Gs 12 32 m) p) ∧ res = jnV kk yv (gel Gs (gfd Gs 12 32 m) p) yv) (q2 : l5 ≠ 0 → bnd l9 ∧ res = jnV kk l9 yv yv)
    (hK : ∀ G', St93 E Gs G' m (T ++ optL yk res) (if fl = 0 then (if cn ≤ 1 then (0 : Int) else 1) else 1) → V E M_X12_joins 193 [some (rv m), some (iv kk), some (iv set), some (iv (12 * n)), some (iv (12 * n + 12)), some (iv l5), some (iv l6), some (iv l7), some (iv ((T ++ optL yk res).length : Int)), some (jv l9), none, some (iv ((a : Int) + 1)), none, none, none, none, none] [] G' c s Q X) :
    V E M_X12_joins 228 [some (rv m), some (iv kk), some (iv set), some (iv (12 * n)), some (iv (12 * n + 12)), some (iv l5), some (iv l6), some (iv l7), some (iv (T.length : Int)), some (jv l9), none, some (iv (a : Int)), some (iv p), some (iv cn), some (iv y14), none, none] [] G c s Q X := by
  have hs := hSt.1.1
  have x30 := hs.fx 30 15 10
  have e33 : gfd G 12 33 m = (n : Int) + 1 := by rw [hSt.2.1 33 (by decide) (by decide)]; exact h33
  have hfl : gfd G 12 34 m = fl := hSt.2.2.1
  refine b_X12_joins_228 ?_
  rw [e33, hSt.el 30 (by decide), hfl]
  have h01 : (if fl = 0 then ((if cn ≤ 1 then (0 : Int) else 1) : Int) else 1) = 0 ∨ (if fl = 0 then ((if cn ≤ 1 then (0 : Int) else 1) : Int) else 1) = 1 := by
    repeat' split
    all_goals first | exact Or.inl rfl | exact Or.inr rfl
  generalize (if fl = 0 then ((if cn ≤ 1 then (0 : Int) else 1) : Int) else 1) = f2 at h01 hK ⊢
  refine ⟨hs.1, hs.1, x30.1, by omega, by omega, fun J6 hJ6 => ?_⟩
  have j6 : J6 := hJ6 ⟨hs.1, hs.1, h01, fun G12 e12 J13 hJ13 => by
    have s12 : St93 E Gs G12 m T f2 := by rw [e12]; exact hSt.fl1
    have hs12 := s12.1.1
    have x31 := hs12.fx 31 15 120
    have x32 := hs12.fx 32 16 120
    have i1 : i32 (12 * (n : Int) + a) := i32s' (by omega)
    have i2 : i32 (12 * (n : Int) + 12 + a) := i32s' (by omega)
    have j13 : (l5 = 0 → p ≠ -1) → J13 := by
      intro hp
      refine hJ13 fun J14 hJ14 => ⟨fun h5 => ?_, fun h5 => ?_⟩
      · obtain ⟨⟨p0, p1⟩, p2, p3⟩ := q1 h5 (hp h5)
        obtain ⟨r1, r2⟩ := hr0 h5
        refine ⟨hs12.1, i1, x32.1, by omega, by omega, hs12.1, x32.1, p0, by omega, hs12.1, ?_⟩
        rw [s12.el 32 (by decide), s12.el 32 (by decide), r2]
        refine Call.to (om_joined hs12 s12.1.2.1 s12.1.2.2.1.1 hk hy p2) (Nat.zero_le _) (Nat.zero_le _) fun r64 G64 hq => hJ14 _ _ _ _ ?_
        have s64 := s12.mu hq.1
        have hs64 := s64.1.1
        have y31 := hs64.fx 31 15 120
        have y49 := hs64.fx 49 16 12
        refine ⟨fun _ => hs64.1, fun _ => i1, fun _ => y31.1, fun _ => by omega, fun _ => by omega, fun h => (h h5).elim, fun h => (h h5).elim, fun h => (h h5).elim, fun h => (h h5).elim, fun h => (h h5).elim, hs64.1, fun h51 => ⟨i32s' (by omega), ?_⟩, fun h51 => ⟨hs64.1, fun h _ => (h h5).elim, fun h _ => (h h5).elim, fun h _ => (h h5).elim, fun h _ => (h h5).elim, fun h _ => (h h5).elim, y49.1, by omega, by omega, fun G44 e44 => ?_⟩⟩
        · have := hq.none' (v := yv) h51
          rw [p3, this] at hK
          have e : T ++ optL yk none = T := List.append_nil T
          rw [e] at hK
          exact hK G64 s64
        · obtain ⟨w, w1, w2⟩ := hq.some' (v := yv) h51 hy hy
          have w3 : wBd w = r64 := by
            rw [w2, hq.2.2]
            by_cases e9 : kk = 14
            · rw [if_pos e9, if_pos e9]
            · rw [if_neg e9, if_neg e9]
          rw [if_pos h5, ← w3] at e44
          have hs44 : MSh E G44 m := by rw [e44]; exact hs64
          have z50 := hs44.fx 50 15 12
          refine ⟨hs44.1, z50.1, by omega, by omega, fun G49 e49 => ⟨i32s' (by omega), i32s' (by omega), ?_⟩⟩
          rw [if_pos h5, s64.el 31 (by decide), r1] at e49
          have hp9 := s64.put e44 e49
          rw [p3, w1] at hK
          have e : optL yk (some w) = [(yk, w)] := rfl
          rw [e] at hK
          have := hK G49 hp9
          rw [List.length_append] at this
          exact this
      · obtain ⟨p2, p3⟩ := q2 h5
        obtain ⟨r1, r2⟩ := hr1 h5
        refine ⟨hs12.1, i2, x32.1, by omega, by omega, hs12.1, ?_⟩
        rw [s12.el 32 (by decide), r2]
        refine Call.to (om_joined hs12 s12.1.2.1 s12.1.2.2.1.1 hk p2 hy) (Nat.zero_le _) (Nat.zero_le _) fun r64 G64 hq => hJ14 _ _ _ _ ?_
        have s64 := s12.mu hq.1
        have hs64 := s64.1.1
        have y31 := hs64.fx 31 15 120
        have y32 := hs64.fx 32 16 120
        have y49 := hs64.fx 49 16 12
        refine ⟨fun h => (h5 h).elim, fun h => (h5 h).elim, fun h => (h5 h).elim, fun h => (h5 h).elim, fun h => (h5 h).elim, fun _ => hs64.1, fun _ => i2, fun _ => y31.1, fun _ => by omega, fun _ => by omega, hs64.1, fun h51 => ⟨i32s' (by omega), ?_⟩, fun h51 => ⟨hs64.1, fun _ _ => hs64.1, fun _ _ => i2, fun _ _ => y32.1, fun _ _ => by omega, fun _ _ => by omega, y49.1, by omega, by omega, fun G44 e44 => ?_⟩⟩
        · have := hq.none' (v := yv) h51
          rw [p3, this] at hK
          have e : T ++ optL yk none = T := List.append_nil T
          rw [e] at hK
          exact hK G64 s64
        · obtain ⟨w, w1, w2⟩ := hq.some' (v := yv) h51 hy p2
          rw [if_neg h5, s64.el 32 (by decide), r2, ← w2] at e44
          have hs44 : MSh E G44 m := by rw [e44]; exact hs64
          have z50 := hs44.fx 50 15 12
          refine ⟨hs44.1, z50.1, by omega, by omega, fun G49 e49 => ⟨i32s' (by omega), i32s' (by omega), ?_⟩⟩
          rw [if_neg h5, s64.el 31 (by decide), r1] at e49
          have hp9 := s64.put e44 e49
          rw [p3, w1] at hK
          have e : optL yk (some w) = [(yk, w)] := rfl
          rw [e] at hK
          have := hK G49 hp9
          rw [List.length_append] at this
          exact this
    refine ⟨fun h5 => j13 (fun h9 => (h5 h9).elim), fun h5 => ⟨fun hp => ⟨i32s' (by omega), ?_⟩, fun hp => j13 (fun _ => hp)⟩⟩
    rw [q0 h5 hp] at hK
    have e : T ++ optL yk none = T := List.append_nil T
    rw [e] at hK
    exact hK G12 s12⟩
  refine ⟨fun _ => j6, fun h9 => ⟨fun _ => j6, fun h6 => ⟨fun _ => j6, fun h5 => ?_⟩⟩⟩
  rcases hstop with h8 | h8 | h8
  · omega
  · exact (h8 h6).elim
  · exact (h8 h5).elim
end Sa44
