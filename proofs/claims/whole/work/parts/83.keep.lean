/-! the next state is in order as well: writing, erasing, crash, flush -/
section S83
variable {G G' : Gt} {c l u t v e er : Int} {d : DS} {ser : List Int} {sm : List Sm4} {smp : List (Sm4 × Int)} {rs : List Int} {bk : Int → List (Int × Int)} {nn : Nat → Int}
theorem SI.take (h : SI ser sm rs er) (he : 0 ≤ er) (hl : cOk l) (ht : 0 ≤ t ∧ t ≤ 100000) (hv : vOk v) (ha : tkA ser sm l t v = 0) : SI (serW ser l) (sm ++ [(l, t, v, 0)]) (0 :: rs) er := by
  unfold tkA at ha
  by_cases h1 : l ∉ ser ∧ 12 ≤ ser.length
  · rw [if_pos h1] at ha
    exact absurd ha (by decide)
  rw [if_neg h1] at ha
  by_cases h2 : jdg sm l t v ≠ 0
  · rw [if_pos h2] at ha
    exact absurd ha h2
  rw [if_neg h2] at ha
  by_cases h3 : 60 ≤ likeN (Int.tdiv l 100) sm
  · rw [if_pos h3] at ha
    exact absurd ha (by decide)
  have hj : jdg sm l t v = 0 := Decidable.of_not_not h2
  have key : ∀ S : List Int, S.Nodup → S.length ≤ 12 → (∀ c ∈ S, cOk c) → (∀ c ∈ ser, c ∈ S) → l ∈ S → SI S (sm ++ [(l, t, v, 0)]) (0 :: rs) er := by
    intro S a1 a2 a3 a4 a5
    refine ⟨a1, a2, a3, fun q hq => ?_, h.2.2.2.2.1.write (h.2.2.2.2.1.basic.write hj (by omega)) rfl, fun r hr => ?_⟩
    · rcases List.mem_append.mp hq with h9 | h9
      · have := h.2.2.2.1 q h9
        exact ⟨a4 _ this.1, this.2⟩
      · rw [List.mem_singleton.mp h9]
        exact ⟨a5, ht, hv, Int.le_refl 0, he⟩
    · rcases List.mem_cons.mp hr with h9 | h9
      · rw [h9]; exact ⟨Int.le_refl 0, he⟩
      · exact h.2.2.2.2.2 r h9
  unfold serW
  by_cases hm : l ∈ ser
  · rw [if_pos hm]
    exact key ser h.1 h.2.1 h.2.2.1 (fun _ h9 => h9) hm
  · rw [if_neg hm]
    have hlt : ser.length < 12 := by
      have : ¬ 12 ≤ ser.length := fun h9 => h1 ⟨hm, h9⟩
      omega
    refine key (ser ++ [l]) ?_ (by rw [List.length_append]; show _ + 1 ≤ 12; omega) (fun c hc => ?_) (fun c hc => List.mem_append_left _ hc) (List.mem_append_right _ List.mem_cons_self)
    · refine List.nodup_append.mpr ⟨h.1, List.nodup_cons.mpr ⟨List.not_mem_nil, List.nodup_nil⟩, fun a ha b hb => ?_⟩
      rw [List.mem_singleton.mp hb]
      exact fun h9 => hm (h9 ▸ ha)
    · rcases List.mem_append.mp hc with h9 | h9
      · exact h.2.2.1 c h9
      · rw [List.mem_singleton.mp h9]; exact hl
theorem SI.erase {P : Sm4 → Bool} (h : SI ser sm rs er) (h0 : 0 ≤ er) (he : e = er + 1) : SI ser (sm.map (hides e P)) (e :: rs) e := by
  have hH : ∀ q : Sm4, qH (hides e P q) = qH q ∨ qH (hides e P q) = e := fun q => by
    unfold hides
    split
    · exact Or.inr rfl
    · exact Or.inl rfl
  refine ⟨h.1, h.2.1, h.2.2.1, fun q hq => ?_, h.2.2.2.2.1.erase (by omega) (fun q hq => by have := (h.2.2.2.1 q hq).2.2.2; omega), fun r hr => ?_⟩
  · obtain ⟨p, hp, rfl⟩ := List.mem_map.mp hq
    have := h.2.2.2.1 p hp
    rw [hides_C, hides_T, hides_V]
    refine ⟨this.1, this.2.1, this.2.2.1, ?_⟩
    rcases hH p with h9 | h9
    · rw [h9]; exact ⟨this.2.2.2.1, by have := this.2.2.2.2; omega⟩
    · rw [h9]; exact ⟨by omega, Int.le_refl _⟩
  · rcases List.mem_cons.mp hr with h9 | h9
    · rw [h9]; exact ⟨by omega, Int.le_refl _⟩
    · have := h.2.2.2.2.2 r h9
      exact ⟨this.1, by omega⟩
theorem SI.crash : ∀ (n : Nat) (rs : List Int) (smp : List (Sm4 × Int)), SI ser (smp.map (·.1)) rs er → SI ser ((crS n rs smp).2.map (·.1)) (crS n rs smp).1 er ∧ (crS n rs smp).1.length ≤ rs.length ∧ (crS n rs smp).2.length ≤ smp.length
  | 0, _, _, h => ⟨h, Nat.le_refl _, Nat.le_refl _⟩
  | _ + 1, [], _, h => ⟨h, Nat.le_refl _, Nat.le_refl _⟩
  | n + 1, r :: rs, smp, h => by
    have h2 := h.undo
    rw [← undoS_map] at h2
    have := SI.crash n rs (undoS r smp) h2
    have hl : (undoS r smp).length ≤ smp.length := by
      unfold undoS
      split
      · rw [List.length_dropLast]; omega
      · rw [List.length_map]; exact Nat.le_refl _
    refine ⟨this.1, ?_, ?_⟩
    · show (crS n rs (undoS r smp)).1.length ≤ rs.length + 1
      omega
    · show (crS n rs (undoS r smp)).2.length ≤ smp.length
      omega
theorem SI.flush (h : SI ser (smp.map (·.1)) rs er) : SI ser ((smp.filter (kept t)).map (·.1)) [] er := by
  have hs : ((smp.filter (kept t)).map (·.1)).Sublist (smp.map (·.1)) := List.Sublist.map _ List.filter_sublist
  exact ⟨h.1, h.2.1, h.2.2.1, fun q hq => h.2.2.2.1 q (hs.subset hq), h.2.2.2.2.1.basic.sub hs, fun r hr => (List.not_mem_nil hr).elim⟩
theorem DI.store (h : DI d) (hs : SI ser (smp.map (·.1)) rs (nn 2)) (hn : nn 0 = dN d 0 ∧ nn 1 = dN d 1 ∧ nn 3 = dN d 3) (h4 : nn 4 = 0 ∨ nn 4 = 1) (h2 : 0 ≤ nn 2) (h5 : 0 ≤ nn 5 ∧ nn 5 ≤ 1000000 ∧ rs.length ≤ 1000000) (hb : ∀ c, c ∉ ser → bk c = []) : DI (stD d nn ser smp rs bk) := by
  obtain ⟨a1, a2, a3, a4, a5, a6, a7, a8, a9, a10, a11, a12, a13, a14⟩ := h
  refine ⟨hs, h4, ?_, ?_, h2, a6, a7, a8, a9, ?_, a11, ?_, h5, hb⟩
  · show 0 ≤ nn 0 ∧ nn 0 ≤ 100000
    rw [hn.1]; exact a3
  · show 1 ≤ nn 1 ∧ nn 1 ≤ 100000
    rw [hn.2.1]; exact a4
  · show (dNt d).length = min (nn 3).toNat 60
    rw [hn.2.2]; exact a10
  · show 0 ≤ nn 3 ∧ nn 3 ≤ 100000000
    rw [hn.2.2]; exact a12
end S83
