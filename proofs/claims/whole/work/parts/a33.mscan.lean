/-! the model's scans against the sorted samples -/
section Sa33
variable {E : EE} {G G' G2 G0 : Gt} {c s : Nat} {Q X : Int → Gt → Prop} {m ml t v b l n r : Int} {k j : Nat} {ser : List Int} {smp : List (Sm4 × Int)} {sm : List Sm4} {S A B : List (Int × Int)}
theorem seeT_mem {y : Int × Int} : y ∈ seeT l sm ↔ ∃ q ∈ sm, own l q = true ∧ y = (qT q, qV q) := by
  unfold seeT
  rw [(srt_perm _).mem_iff, List.mem_map]
  constructor
  · rintro ⟨q, hq, rfl⟩
    exact ⟨q, (List.mem_filter.mp hq).1, (List.mem_filter.mp hq).2, rfl⟩
  · rintro ⟨q, hq, ho, rfl⟩
    exact ⟨q, List.mem_filter.mpr ⟨hq, ho⟩, rfl⟩
theorem seeT_asc (h : Basic sm) : ascL (seeT l sm) := by
  have h0 : (seeT l sm).Pairwise (fun p q => p.1 ≤ q.1) := srt_sorted _
  have h1 : ((sm.filter (own l)).map fun q => (qT q, qV q)).Pairwise (fun p q => p.1 ≠ q.1) := by
    rw [List.pairwise_map]
    have h2 : (sm.filter (own l)).Pairwise (fun p q => qH p = 0 → qH q = 0 → qC p = qC q → qT p ≠ qT q) := List.Pairwise.filter _ h.1
    refine h2.imp_of_mem fun {p q} hp hq h9 => ?_
    have a := own_iff.mp (List.mem_filter.mp hp).2
    have b := own_iff.mp (List.mem_filter.mp hq).2
    exact h9 a.1 b.1 (a.2.trans b.2.symm)
  have h3 : (seeT l sm).Pairwise (fun p q => p.1 ≠ q.1) := (srt_perm _).symm.pairwise h1 (fun {x y} h9 h8 => h9 h8.symm)
  exact h0.imp₂ (fun {p q} a b => by have : p.1 ≤ q.1 := a; have : p.1 ≠ q.1 := b; show p.1 < q.1; omega) h3
/-- the next time behind b in a sorted list -/
def nxL (b : Int) : List (Int × Int) → Int
  | [] => -1
  | y :: L => if b < y.1 then y.1 else nxL b L
def vaL (t : Int) : List (Int × Int) → Int
  | [] => 0
  | y :: L => if y.1 = t then y.2 else vaL t L
theorem nxL_spec (h0 : ∀ y ∈ S, 0 ≤ y.1) (hS : ascL S) : (nxL b S = -1 ∧ ∀ y ∈ S, y.1 ≤ b) ∨ (0 ≤ nxL b S ∧ b < nxL b S ∧ (∃ v, (nxL b S, v) ∈ S) ∧ ∀ y ∈ S, b < y.1 → nxL b S ≤ y.1) := by
  induction S with
  | nil => exact Or.inl ⟨rfl, fun y hy => (List.not_mem_nil hy).elim⟩
  | cons z S ih =>
    have hp := List.pairwise_cons.mp hS
    have e : nxL b (z :: S) = if b < z.1 then z.1 else nxL b S := rfl
    rw [e]
    by_cases hz : b < z.1
    · rw [if_pos hz]
      refine Or.inr ⟨h0 z List.mem_cons_self, hz, ⟨z.2, List.mem_cons_self⟩, fun y hy _ => ?_⟩
      rcases List.mem_cons.mp hy with h9 | h9
      · rw [h9]; exact Int.le_refl _
      · exact Int.le_of_lt (hp.1 y h9)
    · rw [if_neg hz]
      rcases ih (fun y hy => h0 y (List.mem_cons_of_mem _ hy)) hp.2 with ⟨a1, a2⟩ | ⟨a1, a2, ⟨v, a3⟩, a4⟩
      · refine Or.inl ⟨a1, fun y hy => ?_⟩
        rcases List.mem_cons.mp hy with h9 | h9
        · rw [h9]; omega
        · exact a2 y h9
      · refine Or.inr ⟨a1, a2, ⟨v, List.mem_cons_of_mem _ a3⟩, fun y hy h9 => ?_⟩
        rcases List.mem_cons.mp hy with h8 | h8
        · rw [h8] at h9; exact (hz h9).elim
        · exact a4 y h8 h9
/-- one series' samples in the model -/
def OwnX (G : Gt) (m s9 l : Int) (smp : List (Sm4 × Int)) : Prop := ∀ k : Nat, k < smp.length → (mH G m k = 0 ∧ mS G m k = s9 ↔ own l (smp.getD k z4).1 = true) ∧ mT G m k = qT (smp.getD k z4).1 ∧ mV G m k = qV (smp.getD k z4).1
theorem MSm.ownx {s9 : Int} (h : MSm G m ser smp ml) (hn : ser.Nodup) (hs : 0 ≤ s9 ∧ s9 < ser.length) : OwnX G m s9 (ser.getD s9.toNat 0) smp := fun k hk => by
  obtain ⟨a1, a2, a3, a4, -⟩ := h.at hk
  refine ⟨?_, a2, a3⟩
  rw [own_iff]
  show gel G (gfd G 12 10 m) k = 0 ∧ gel G (gfd G 12 7 m) k = s9 ↔ _
  rw [a4, h.own hn hk hs]
theorem mNext_spec {s9 : Int} (hn : mN G m = smp.length) (h : OwnX G m s9 l smp) (h0 : ∀ q ∈ smp.map (·.1), 0 ≤ qT q) : (mNext G m s9 b = -1 ∧ ∀ y ∈ seeT l (smp.map (·.1)), y.1 ≤ b) ∨ (0 ≤ mNext G m s9 b ∧ b < mNext G m s9 b ∧ (∃ v, (mNext G m s9 b, v) ∈ seeT l (smp.map (·.1))) ∧ ∀ y ∈ seeT l (smp.map (·.1)), b < y.1 → mNext G m s9 b ≤ y.1) := by
  unfold mNext
  rw [hn, Int.toNat_natCast]
  have key : ∀ n : Nat, n ≤ smp.length → (ups (nxS G m s9 b) (-1) n = -1 ∧ ∀ k, k < n → own l (smp.getD k z4).1 = true → qT (smp.getD k z4).1 ≤ b) ∨ (0 ≤ ups (nxS G m s9 b) (-1) n ∧ b < ups (nxS G m s9 b) (-1) n ∧ (∃ k, k < n ∧ own l (smp.getD k z4).1 = true ∧ ups (nxS G m s9 b) (-1) n = qT (smp.getD k z4).1) ∧ ∀ k, k < n → own l (smp.getD k z4).1 = true → b < qT (smp.getD k z4).1 → ups (nxS G m s9 b) (-1) n ≤ qT (smp.getD k z4).1) := by
    intro n
    induction n with
    | zero => intro _; exact Or.inl ⟨rfl, fun k hk => absurd hk (Nat.not_lt_zero k)⟩
    | succ n ih =>
      intro hle
      obtain ⟨a1, a2, -⟩ := h n (by omega)
      have hq0 : 0 ≤ qT (smp.getD n z4).1 := h0 _ (List.mem_map.mpr ⟨_, getD_mem' (v := z4) (show n < smp.length by omega), rfl⟩)
      rw [ups_succ]
      have hst : ∀ f, nxS G m s9 b f n = if own l (smp.getD n z4).1 = true ∧ b < qT (smp.getD n z4).1 ∧ (f = -1 ∨ qT (smp.getD n z4).1 < f) then qT (smp.getD n z4).1 else f := fun f => by
        unfold nxS
        rw [a2]
        by_cases hc : own l (smp.getD n z4).1 = true ∧ b < qT (smp.getD n z4).1 ∧ (f = -1 ∨ qT (smp.getD n z4).1 < f)
        · rw [if_pos hc, if_pos ⟨(a1.mpr hc.1).1, (a1.mpr hc.1).2, hc.2.1, hc.2.2⟩]
        · rw [if_neg hc, if_neg (fun h9 => hc ⟨a1.mp ⟨h9.1, h9.2.1⟩, h9.2.2.1, h9.2.2.2⟩)]
      rw [hst]
      generalize ups (nxS G m s9 b) (-1) n = f at ih ⊢
      have ih' := ih (by omega)
      by_cases hc : own l (smp.getD n z4).1 = true ∧ b < qT (smp.getD n z4).1 ∧ (f = -1 ∨ qT (smp.getD n z4).1 < f)
      · rw [if_pos hc]
        refine Or.inr ⟨hq0, hc.2.1, ⟨n, by omega, hc.1, rfl⟩, fun k hk hok hbk => ?_⟩
        by_cases hkn : k = n
        · rw [hkn]; exact Int.le_refl _
        · rcases ih' with ⟨b1, b2⟩ | ⟨b1, b2, b3, b4⟩
          · have := b2 k (by omega) hok; omega
          · have := b4 k (by omega) hok hbk
            rcases hc.2.2 with h9 | h9 <;> omega
      · rw [if_neg hc]
        rcases ih' with ⟨b1, b2⟩ | ⟨b1, b2, ⟨k0, b3, b5⟩, b4⟩
        · refine Or.inl ⟨b1, fun k hk hok => ?_⟩
          by_cases hkn : k = n
          · rw [hkn] at hok ⊢
            by_cases h9 : b < qT (smp.getD n z4).1
            · exact (hc ⟨hok, h9, Or.inl b1⟩).elim
            · omega
          · exact b2 k (by omega) hok
        · refine Or.inr ⟨b1, b2, ⟨k0, by omega, b5⟩, fun k hk hok hbk => ?_⟩
          by_cases hkn : k = n
          · rw [hkn] at hok hbk ⊢
            by_cases h9 : qT (smp.getD n z4).1 < f
            · exact (hc ⟨hok, hbk, Or.inr h9⟩).elim
            · omega
          · exact b4 k (by omega) hok hbk
  have mem : ∀ k, k < smp.length → own l (smp.getD k z4).1 = true → (qT (smp.getD k z4).1, qV (smp.getD k z4).1) ∈ seeT l (smp.map (·.1)) := fun k hk ho => seeT_mem.mpr ⟨_, List.mem_map.mpr ⟨_, getD_mem' (v := z4) hk, rfl⟩, ho, rfl⟩
  have back : ∀ y ∈ seeT l (smp.map (·.1)), ∃ k, k < smp.length ∧ own l (smp.getD k z4).1 = true ∧ y.1 = qT (smp.getD k z4).1 := fun y hy => by
    obtain ⟨q, hq, ho, rfl⟩ := seeT_mem.mp hy
    obtain ⟨p, hp, rfl⟩ := List.mem_map.mp hq
    obtain ⟨k, hk, rfl⟩ := List.getElem_of_mem hp
    refine ⟨k, hk, ?_⟩
    rw [List.getD_eq_getElem?_getD, List.getElem?_eq_getElem hk]
    exact ⟨ho, rfl⟩
  rcases key smp.length (Nat.le_refl _) with ⟨a1, a2⟩ | ⟨a1, a2, ⟨k, a3, a5, a6⟩, a4⟩
  · refine Or.inl ⟨a1, fun y hy => ?_⟩
    obtain ⟨k, hk, ho, e⟩ := back y hy
    rw [e]; exact a2 k hk ho
  · refine Or.inr ⟨a1, a2, ⟨qV (smp.getD k z4).1, ?_⟩, fun y hy h9 => ?_⟩
    · rw [a6]; exact mem k a3 a5
    · obtain ⟨k2, hk, ho, e⟩ := back y hy
      rw [e] at h9 ⊢
      exact a4 k2 hk ho h9
theorem seeT_nn (h0 : ∀ q ∈ sm, 0 ≤ qT q) : ∀ y ∈ seeT l sm, 0 ≤ y.1 := fun y hy => by
  obtain ⟨q, hq, ho, rfl⟩ := seeT_mem.mp hy
  exact h0 q hq
theorem mNext_nxL {s9 : Int} (hn : mN G m = smp.length) (h : OwnX G m s9 l smp) (h0 : ∀ q ∈ smp.map (·.1), 0 ≤ qT q) (hb : Basic (smp.map (·.1))) : mNext G m s9 b = nxL b (seeT l (smp.map (·.1))) := by
  have h1 := mNext_spec (b := b) hn h h0
  have h2 := nxL_spec (b := b) (seeT_nn (l := l) h0) (seeT_asc (l := l) hb)
  rcases h1 with ⟨a1, a2⟩ | ⟨a1, a2, ⟨v, a3⟩, a4⟩
  · rcases h2 with ⟨b1, b2⟩ | ⟨b1, b2, ⟨w, b3⟩, b4⟩
    · rw [a1, b1]
    · have := a2 _ b3
      have h9 : nxL b (seeT l (smp.map (·.1))) ≤ b := this
      omega
  · rcases h2 with ⟨b1, b2⟩ | ⟨b1, b2, ⟨w, b3⟩, b4⟩
    · have h9 : mNext G m s9 b ≤ b := b2 _ a3
      omega
    · have h8 : mNext G m s9 b ≤ nxL b (seeT l (smp.map (·.1))) := a4 _ b3 b2
      have h9 : nxL b (seeT l (smp.map (·.1))) ≤ mNext G m s9 b := b4 _ a3 a2
      omega
theorem vaL_of (hS : ascL S) (h : (t, v) ∈ S) : vaL t S = v := by
  induction S with
  | nil => exact (List.not_mem_nil h).elim
  | cons z S ih =>
    have hp := List.pairwise_cons.mp hS
    show (if z.1 = t then z.2 else vaL t S) = v
    rcases List.mem_cons.mp h with h9 | h9
    · rw [← h9, if_pos rfl]
    · have := hp.1 _ h9
      rw [if_neg (fun h8 => by have h7 : z.1 < t := this; omega)]
      exact ih hp.2 h9
theorem mVal_vaL {s9 : Int} (hn : mN G m = smp.length) (h : OwnX G m s9 l smp) (hb : Basic (smp.map (·.1))) (ht : (t, v) ∈ seeT l (smp.map (·.1))) : mVal G m s9 t = v := by
  unfold mVal
  rw [hn, Int.toNat_natCast]
  have hasc := seeT_asc (l := l) hb
  have mem : ∀ k, k < smp.length → own l (smp.getD k z4).1 = true → (qT (smp.getD k z4).1, qV (smp.getD k z4).1) ∈ seeT l (smp.map (·.1)) := fun k hk ho => seeT_mem.mpr ⟨_, List.mem_map.mpr ⟨_, getD_mem' (v := z4) hk, rfl⟩, ho, rfl⟩
  have key : ∀ n : Nat, n ≤ smp.length → (ups (vaS G m s9 t) 0 n = 0 ∧ ∀ k, k < n → own l (smp.getD k z4).1 = true → qT (smp.getD k z4).1 ≠ t) ∨ ups (vaS G m s9 t) 0 n = v := by
    intro n
    induction n with
    | zero => intro _; exact Or.inl ⟨rfl, fun k hk => absurd hk (Nat.not_lt_zero k)⟩
    | succ n ih =>
      intro hle
      obtain ⟨a1, a2, a3⟩ := h n (by omega)
      rw [ups_succ]
      unfold vaS
      rw [a2, a3]
      by_cases hc : own l (smp.getD n z4).1 = true ∧ qT (smp.getD n z4).1 = t
      · rw [if_pos ⟨(a1.mpr hc.1).1, (a1.mpr hc.1).2, hc.2⟩]
        refine Or.inr ?_
        have hm := mem n (by omega) hc.1
        rw [hc.2] at hm
        rw [← vaL_of hasc hm]
        exact vaL_of hasc ht
      · rw [if_neg (fun h9 => hc ⟨a1.mp ⟨h9.1, h9.2.1⟩, h9.2.2⟩)]
        rcases ih (by omega) with ⟨b1, b2⟩ | b1
        · refine Or.inl ⟨b1, fun k hk hok => ?_⟩
          by_cases hkn : k = n
          · rw [hkn] at hok ⊢
            exact fun h9 => hc ⟨hok, h9⟩
          · exact b2 k (by omega) hok
        · exact Or.inr b1
  rcases key smp.length (Nat.le_refl _) with ⟨a1, a2⟩ | a1
  · obtain ⟨q, hq, ho, e⟩ := seeT_mem.mp ht
    obtain ⟨p, hp, rfl⟩ := List.mem_map.mp hq
    obtain ⟨k, hk, rfl⟩ := List.getElem_of_mem hp
    have e2 : smp.getD k z4 = smp[k] := by rw [List.getD_eq_getElem?_getD, List.getElem?_eq_getElem hk]; rfl
    refine (a2 k hk (by rw [e2]; exact ho) ?_).elim
    rw [e2]
    exact (congrArg Prod.fst e).symm
  · exact a1
/-- in a sorted list: the next one -/
theorem nxL_app {y : Int × Int} (hS : ascL (A ++ y :: B)) (hA : ∀ z ∈ A, z.1 ≤ b) (hy : b < y.1) : nxL b (A ++ y :: B) = y.1 := by
  induction A with
  | nil =>
    show (if b < y.1 then y.1 else _) = _
    rw [if_pos hy]
  | cons z A ih =>
    show (if b < z.1 then z.1 else nxL b (A ++ y :: B)) = _
    rw [if_neg (by have := hA z List.mem_cons_self; omega)]
    exact ih (List.pairwise_cons.mp hS).2 (fun w hw => hA w (List.mem_cons_of_mem _ hw))
theorem nxL_end (h : ∀ z ∈ S, z.1 ≤ b) : nxL b S = -1 := by
  induction S with
  | nil => rfl
  | cons z A ih =>
    show (if b < z.1 then z.1 else nxL b A) = _
    rw [if_neg (by have := h z List.mem_cons_self; omega)]
    exact ih (fun w hw => h w (List.mem_cons_of_mem _ hw))
/-! bits -/
theorem bit31 (k : Nat) (hk : k < 32) (u : Int32) : (u >>> (Int32.ofInt (k : Int) &&& 31)) &&& 1 = ((u.toUInt32 >>> ((Int32.ofInt (k : Int)).toUInt32 &&& Int32.toUInt32 31)).toInt32) &&& 1 := by
  have s1 := shamt k hk
  have s2 := shamtU k hk
  refine Int32.toBitVec_inj.mp ?_
  rw [Int32.toBitVec_and, Int32.toBitVec_and, Int32.toBitVec_shiftRight]
  show _ = (u.toUInt32.toBitVec >>> (((Int32.ofInt (k : Int)).toUInt32 &&& Int32.toUInt32 31).toBitVec % 32)) &&& _
  have s3 : (((Int32.ofInt (k : Int)).toUInt32 &&& Int32.toUInt32 31).toBitVec % 32).toNat = k := by
    rw [BitVec.toNat_umod]
    exact s2
  refine BitVec.eq_of_getLsbD_eq fun i hi => ?_
  rw [BitVec.getLsbD_and, BitVec.getLsbD_and, BitVec.getLsbD_sshiftRight', s1, BitVec.ushiftRight_eq', BitVec.getLsbD_ushiftRight, s3]
  by_cases h0 : i = 0
  · rw [h0, if_pos (by omega)]
    rfl
  · have : (1 : Int32).toBitVec.getLsbD i = false := by
      show (1#32).getLsbD i = false
      rw [BitVec.getLsbD_one, decide_eq_false h0, Bool.and_false]
    rw [this, Bool.and_false, Bool.and_false]
theorem bit_shr {u x : Int} (hx : 0 ≤ x ∧ x < 32) : and32 (shr32 u x) 1 = bitU u x := by
  obtain ⟨k, rfl⟩ : ∃ k : Nat, x = k := ⟨x.toNat, by omega⟩
  have h := bit31 k (by omega) (Int32.ofInt u)
  unfold bitU and32 shr32 ushr32
  rw [Int32.ofInt_toInt, Int32.ofInt_toInt]
  exact congrArg Int32.toInt h
/-- from bit 0 up, from bit 31 down -/
theorem v_spread19 {u lo : Int} {c s : Nat} {Q X : Int → Gt → Prop} (hlo : 0 ≤ lo ∧ lo ≤ 31) (hex : ∃ k : Nat, k ≤ 31 ∧ bitU u k ≠ 0) : ∀ n : Nat, n ≤ 31 → (∀ k : Nat, n < k → k ≤ 31 → bitU u k = 0) → Q (hiB u n - lo + 1) G → V E M_X12_spread 19 [some (iv u), some (iv lo), some (iv (n : Int))] [] G c s Q X := by
  intro n
  induction n with
  | zero =>
    intro _ hz hq
    refine b_X12_spread_19 ⟨fun _ => ⟨i32s' (by omega), i32s' (by omega), hq⟩, fun h9 => ?_⟩
    rw [bit_shr (by decide)] at h9
    obtain ⟨k, hk, hb⟩ := hex
    by_cases hk0 : k = 0
    · rw [hk0] at hb; exact (hb h9).elim
    · exact (hb (hz k (by omega) hk)).elim
  | succ n ih =>
    intro hn hz hq
    have e : hiB u (n + 1) = if bitU u ((n + 1 : Nat) : Int) = 0 then hiB u n else ((n + 1 : Nat) : Int) := rfl
    rw [e] at hq
    refine b_X12_spread_19 ⟨fun h9 => ?_, fun h9 => ⟨i32s' (by omega), ?_⟩⟩
    · rw [bit_shr ⟨by omega, by omega⟩] at h9
      rw [if_neg h9] at hq
      exact ⟨i32s' (by omega), i32s' (by omega), hq⟩
    · rw [bit_shr ⟨by omega, by omega⟩] at h9
      rw [if_pos h9] at hq
      have e2 : ((n + 1 : Nat) : Int) + (-1) = (n : Int) := by omega
      rw [e2]
      refine ih (by omega) (fun k h1 h2 => ?_) hq
      by_cases hk : k = n + 1
      · rw [hk]; exact h9
      · exact hz k (by omega) h2
end Sa33
