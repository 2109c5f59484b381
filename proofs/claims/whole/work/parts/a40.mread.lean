/-! the model: a word reads -/
section Sa40
variable {E : EE} {G G' G2 G0 : Gt} {c s : Nat} {Q X : Int → Gt → Prop} {m ml mr t v b l n r u s9 x i nn time two what p : Int} {k j : Nat} {ser : List Int} {smp : List (Sm4 × Int)} {sm : List Sm4} {d : DS} {R A B S9 L9 : List (Int × Int)} {S : List Rw} {w : Wd}
theorem and32_zo (a : Int) : and32 a 1 = 0 ∨ and32 a 1 = 1 := by
  have e : and32 a 1 = and32 (Int32.ofInt a).toInt 1 := by unfold and32; rw [Int32.ofInt_toInt]
  have hr : i32 (Int32.ofInt a).toInt := by
    have h1 := Int32.le_toInt (Int32.ofInt a)
    have h2 := Int32.toInt_lt (Int32.ofInt a)
    unfold i32
    omega
  rw [e, and1 hr]
  omega
theorem sel_gen {z o t : Int} (hl : 0 ≤ l ∧ l ≤ 999) : mIn z o t l = slV z o t l := by
  have d0 : Int.tdiv l 100 = l / 100 := Int.tdiv_eq_ediv_of_nonneg hl.1
  have d1 : Int.tmod (Int.tdiv l 10) 10 = l / 10 % 10 := by rw [Int.tdiv_eq_ediv_of_nonneg hl.1, Int.tmod_eq_emod_of_nonneg (by omega)]
  have d2 : Int.tmod l 10 = l % 10 := Int.tmod_eq_emod_of_nonneg hl.1
  unfold mIn slV
  rw [d0, d1, d2, bit_shr (u := z) (x := l / 100) ⟨by omega, by omega⟩, bit_shr (u := o) (x := l / 10 % 10) ⟨by omega, by omega⟩, bit_shr (u := t) (x := l % 10) ⟨by omega, by omega⟩, and32_one, and32_one]
  unfold bitU
  have c1 := and32_zo (ushr32 z (l / 100))
  have c2 := and32_zo (ushr32 o (l / 10 % 10))
  have c3 := and32_zo (ushr32 t (l % 10))
  have e1 := and32_01 c1 c2
  have c12 : and32 (and32 (ushr32 z (l / 100)) 1) (and32 (ushr32 o (l / 10 % 10)) 1) = 0 ∨ and32 (and32 (ushr32 z (l / 100)) 1) (and32 (ushr32 o (l / 10 % 10)) 1) = 1 := by
    rcases c1 with h1 | h1 <;> rcases c2 with h2 | h2 <;> rw [h1, h2] <;> decide
  have e2 := and32_01 c12 c3
  rw [e1] at e2
  by_cases hh : and32 (and32 (and32 (ushr32 z (l / 100)) 1) (and32 (ushr32 o (l / 10 % 10)) 1)) (and32 (ushr32 t (l % 10)) 1) = 1
  · rw [if_pos hh, if_pos ⟨(e2.mp hh).1.1, (e2.mp hh).1.2, (e2.mp hh).2⟩]
  · rw [if_neg hh, if_neg (fun h9 => hh (e2.mpr ⟨⟨h9.1, h9.2.1⟩, h9.2.2⟩))]
theorem seeT60 (hb : Basic sm) : (seeT l sm).length ≤ 60 := by
  rw [seeT_len]
  refine Nat.le_trans (List.countP_mono_left fun q _ hq => ?_) (hb.2 (Int.tdiv l 100))
  have := own_iff.mp hq
  exact decide_eq_true ⟨this.1, by rw [this.2]⟩
theorem MH.sx {k : Nat} (h : MH E G m d ml mr) (hi : DI d) (hk : k < (dSer d).length) : SX E G m k ((dSer d).getD k 0) (dSmp d) := by
  obtain ⟨a1, a2, a3, a4, a5, a6⟩ := hi.1
  refine ⟨h.1.1, h.sa, h.2.2.2.1.1, ?_, fun q hq => ⟨(a4 q hq).2.1.1, (a4 q hq).2.1.2, (a4 q hq).2.2.1⟩, a5.basic⟩
  have := h.2.2.2.1.ownx a1 (s9 := (k : Int)) ⟨by omega, by omega⟩
  rw [Int.toNat_natCast] at this
  exact this
theorem MH.cod {k : Nat} (h : MH E G m d ml mr) (hk : k < (dSer d).length) : OkP E M_X12_codeOfSeries [rv m, iv (k : Int)] G (mCode G m k) ∧ mCode G m k = (dSer d).getD k 0 := by
  refine ⟨okp_codeOfSeries h.1.1 h.lb.1 (by omega) (by rw [h.sr6.1]; omega), ?_⟩
  have := h.lb.2 k (by omega) (by omega)
  rw [Int.toNat_natCast] at this
  exact this
/-- the next series that the word selects -/
theorem mNxs_spec (h : MH E G m d ml mr) (hi : DI d) (hw : WdM G m p w) : (mNxs G m p b = -1 ∧ ∀ c ∈ dSer d, b < c → wSl w c = false) ∨ (∃ f : Nat, f < (dSer d).length ∧ mNxs G m p b = f ∧ b < (dSer d).getD f 0 ∧ wSl w ((dSer d).getD f 0) = true ∧ ∀ c ∈ dSer d, b < c → wSl w c = true → (dSer d).getD f 0 ≤ c) := by
  have hsel : ∀ k : Nat, k < (dSer d).length → (wSel G m p k ≠ 0 ↔ wSl w ((dSer d).getD k 0) = true) := fun k hk => by
    have hc := hi.1.2.2.1 _ (getD_mem' (v := 0) hk)
    unfold wSel wSl
    rw [(h.cod hk).2, hw.2.2.2.1, hw.2.2.2.2.1, hw.2.2.2.2.2, sel_gen ⟨hc.1, by have := hc.2.1; omega⟩, decide_eq_true_eq]
  have key : ∀ n : Nat, n ≤ (dSer d).length → (ups (nsS G m p b) (-1) n = -1 ∧ ∀ k, k < n → b < (dSer d).getD k 0 → wSl w ((dSer d).getD k 0) = false) ∨ (∃ f : Nat, f < n ∧ ups (nsS G m p b) (-1) n = f ∧ b < (dSer d).getD f 0 ∧ wSl w ((dSer d).getD f 0) = true ∧ ∀ k, k < n → b < (dSer d).getD k 0 → wSl w ((dSer d).getD k 0) = true → (dSer d).getD f 0 ≤ (dSer d).getD k 0) := by
    intro n
    induction n with
    | zero => intro _; exact Or.inl ⟨rfl, fun k hk => absurd hk (Nat.not_lt_zero k)⟩
    | succ n ih =>
      intro hle
      have hn : n < (dSer d).length := by omega
      have e1 := (h.cod hn).2
      have e2 := hsel n hn
      rw [ups_succ]
      have hst : ∀ f, nsS G m p b f n = if b < (dSer d).getD n 0 ∧ wSl w ((dSer d).getD n 0) = true ∧ (f = -1 ∨ (dSer d).getD n 0 < mCode G m f) then (n : Int) else f := fun f => by
        unfold nsS
        rw [e1]
        by_cases h9 : b < (dSer d).getD n 0 ∧ wSl w ((dSer d).getD n 0) = true ∧ (f = -1 ∨ (dSer d).getD n 0 < mCode G m f)
        · rw [if_pos h9, if_pos ⟨h9.1, e2.mpr h9.2.1, h9.2.2⟩]
        · rw [if_neg h9, if_neg (fun h8 => h9 ⟨h8.1, e2.mp h8.2.1, h8.2.2⟩)]
      rw [hst]
      rcases ih (by omega) with ⟨b1, b2⟩ | ⟨f, b1, b2, b3, b4, b5⟩
      · rw [b1]
        by_cases h9 : b < (dSer d).getD n 0 ∧ wSl w ((dSer d).getD n 0) = true
        · rw [if_pos ⟨h9.1, h9.2, Or.inl rfl⟩]
          refine Or.inr ⟨n, by omega, rfl, h9.1, h9.2, fun k hk hbk hsk => ?_⟩
          by_cases hkn : k = n
          · rw [hkn]; exact Int.le_refl _
          · rw [b2 k (by omega) hbk] at hsk; exact absurd hsk (by decide)
        · rw [if_neg (fun h8 => h9 ⟨h8.1, h8.2.1⟩)]
          refine Or.inl ⟨rfl, fun k hk hbk => ?_⟩
          by_cases hkn : k = n
          · rw [hkn] at hbk ⊢
            cases e : wSl w ((dSer d).getD n 0) with
            | false => rfl
            | true => exact (h9 ⟨hbk, e⟩).elim
          · exact b2 k (by omega) hbk
      · rw [b2, (h.cod (show f < (dSer d).length by omega)).2]
        by_cases h9 : b < (dSer d).getD n 0 ∧ wSl w ((dSer d).getD n 0) = true ∧ (dSer d).getD n 0 < (dSer d).getD f 0
        · rw [if_pos ⟨h9.1, h9.2.1, Or.inr h9.2.2⟩]
          refine Or.inr ⟨n, by omega, rfl, h9.1, h9.2.1, fun k hk hbk hsk => ?_⟩
          by_cases hkn : k = n
          · rw [hkn]; exact Int.le_refl _
          · have := b5 k (by omega) hbk hsk; omega
        · rw [if_neg (fun h8 => h9 ⟨h8.1, h8.2.1, by rcases h8.2.2 with h7 | h7 <;> omega⟩)]
          refine Or.inr ⟨f, by omega, rfl, b3, b4, fun k hk hbk hsk => ?_⟩
          by_cases hkn : k = n
          · rw [hkn] at hbk hsk ⊢
            by_cases h8 : (dSer d).getD n 0 < (dSer d).getD f 0
            · exact (h9 ⟨hbk, hsk, h8⟩).elim
            · omega
          · exact b5 k (by omega) hbk hsk
  have back : ∀ y ∈ dSer d, ∃ k, k < (dSer d).length ∧ (dSer d).getD k 0 = y := fun y hy => by
    obtain ⟨k, hk, rfl⟩ := List.getElem_of_mem hy
    exact ⟨k, hk, by rw [List.getD_eq_getElem?_getD, List.getElem?_eq_getElem hk]; rfl⟩
  unfold mNxs
  rw [h.sr6.1, Int.toNat_natCast]
  rcases key (dSer d).length (Nat.le_refl _) with ⟨a1, a2⟩ | ⟨f, a1, a2, a3, a4, a5⟩
  · refine Or.inl ⟨a1, fun y hy hby => ?_⟩
    obtain ⟨k, hk, rfl⟩ := back y hy
    exact a2 k hk hby
  · refine Or.inr ⟨f, a1, a2, a3, a4, fun y hy hby hsy => ?_⟩
    obtain ⟨k, hk, rfl⟩ := back y hy
    exact a5 k hk hby hsy
theorem asc_nodup (h : ascL A) : A.Nodup := h.imp fun {x y} h9 h8 => by rw [h8] at h9; omega
theorem asc_ext (hA : ascL A) (hB : ascL B) (h : ∀ y, y ∈ A ↔ y ∈ B) : A = B := by
  have hp : A.Perm B := (List.perm_ext_iff_of_nodup (asc_nodup hA) (asc_nodup hB)).mpr (fun y => h y)
  rw [srt_eq hp hA]
  exact (srt_eq (List.Perm.refl B) hB).symm
def upL (b : Int) (L : List (Int × Int)) : List (Int × Int) := L.filter fun y => decide (y.1 ≤ b)
theorem upL_mem {y : Int × Int} : y ∈ upL b R ↔ y ∈ R ∧ y.1 ≤ b := by
  unfold upL
  rw [List.mem_filter, decide_eq_true_eq]
theorem upL_none (hbc : b < l) (h : ∀ y ∈ R, b < y.1 → y.1 ≤ l → False) : upL l R = upL b R := by
  unfold upL
  refine List.filter_congr fun y hy => decide_eq_decide.mpr ?_
  constructor
  · intro h9
    by_cases h8 : b < y.1
    · exact (h y hy h8 h9).elim
    · omega
  · intro h9; omega
theorem upL_some (hR : ascL R) (hbc : b < l) (hm : (l, v) ∈ R) (h : ∀ y ∈ R, b < y.1 → y.1 ≤ l → y.1 = l) : upL l R = upL b R ++ [(l, v)] := by
  have ha : ascL (upL b R ++ [(l, v)]) := List.pairwise_append.mpr ⟨List.Pairwise.filter _ hR, List.pairwise_singleton _ _, fun x hx y hy => by
    rw [List.mem_singleton.mp hy]
    have := (upL_mem.mp hx).2
    show x.1 < l
    omega⟩
  refine asc_ext (List.Pairwise.filter _ hR) ha fun y => ?_
  show y ∈ upL l R ↔ _
  rw [List.mem_append, List.mem_singleton, upL_mem, upL_mem]
  constructor
  · rintro ⟨h1, h2⟩
    by_cases h8 : b < y.1
    · refine Or.inr ?_
      have h3 := h y h1 h8 h2
      have q1 : vaL l R = v := vaL_of hR hm
      have q2 : vaL l R = y.2 := vaL_of hR (by rw [← h3]; exact h1)
      rw [← h3, ← q1, q2]
    · exact Or.inl ⟨h1, by omega⟩
  · rintro (⟨h1, h2⟩ | h1)
    · exact ⟨h1, by omega⟩
    · rw [h1]; exact ⟨hm, Int.le_refl _⟩
theorem rdF_none {kk : Int} (h : wSl w l = false) : rdF (wSl w) kk two time sm l = none := by
  unfold rdF
  rw [if_neg (by rw [h]; decide)]
/-- the model reads: one series after another -/
theorem v_mread (hm0 : MH E G0 m d ml mr) (hi : DI d) (hw0 : WdM G0 m p w) (hok : wOk w) (hk : 1 ≤ w.1 ∧ w.1 ≤ 7) (hp : 0 ≤ p ∧ p + 6 ≤ 540) (ht : 0 ≤ time ∧ time ≤ 100000) (h10 : S.length < 10)
    (hQ : ∀ G', MU E G0 G' m scP → PiM G' m (S ++ [(0, bdL (readR (wSl w) w.1 w.2.2.1 time (dSer d) ((dSmp d).map (·.1))))]) → V E M_X12_run 12 [some (rv m), some (iv r), some (iv time), some (iv (x + 1)), none, none, none] [] G' c s Q X) (hx : i32 (x + 1)) :
    ∀ (j : Nat) (b : Int) (G : Gt), 667 ≤ b + j + 1 → -1 ≤ b → MU E G0 G m scP → PiM G m (S ++ [(0, bdL (upL b (readR (wSl w) w.1 w.2.2.1 time (dSer d) ((dSmp d).map (·.1)))))]) →
      V E M_X12_run 110 [some (rv m), some (iv r), some (iv time), some (iv x), some (iv p), none, some (iv (mNxs G m p b))] [] G c s Q X := by
  obtain ⟨a1, a2, a3, a4, a5, a6⟩ := hi.1
  have hRR := readR_ok (k := w.1) (two := w.2.2.1) (time := time) (P := wSl w) (sm := (dSmp d).map (·.1)) a1 a3
  have hmem : ∀ y, y ∈ readR (wSl w) w.1 w.2.2.1 time (dSer d) ((dSmp d).map (·.1)) ↔ ∃ c ∈ dSer d, rdF (wSl w) w.1 w.2.2.1 time ((dSmp d).map (·.1)) c = some y := fun y => by
    unfold readR
    rw [(srt_perm _).mem_iff, List.mem_filterMap]
  intro j
  induction j with
  | zero =>
    intro b G hb hb1 kU hP
    have hm := hm0.keep kU (fun j h9 => by unfold scP at h9; unfold scr; omega)
    have hw : WdM G m p w := by
      unfold WdM at hw0 ⊢
      simp only [kU.2.2.2.2.2.e 21 (by unfold scP; omega)]
      exact hw0
    rcases mNxs_spec (b := b) hm hi hw with ⟨e1, e2⟩ | ⟨f, f1, f2, f3, f4, f5⟩
    · have hall : upL b (readR (wSl w) w.1 w.2.2.1 time (dSer d) ((dSmp d).map (·.1))) = readR (wSl w) w.1 w.2.2.1 time (dSer d) ((dSmp d).map (·.1)) := List.filter_eq_self.mpr fun y hy => by
        obtain ⟨c, hc, e⟩ := (hmem y).mp hy
        have := (a3 c hc).2.1
        rw [rdF_key e]
        exact decide_eq_true (by omega)
      rw [hall] at hP
      rw [e1]
      exact b_X12_run_110 ⟨fun _ => ⟨hx, hQ G kU hP⟩, fun h9 => (h9 rfl).elim⟩
    · have := (a3 _ (getD_mem' (v := 0) f1)).2.1
      omega
  | succ j ih =>
    intro b G hb hb1 kU hP
    have hm := hm0.keep kU (fun j h9 => by unfold scP at h9; unfold scr; omega)
    have hw : WdM G m p w := by
      unfold WdM at hw0 ⊢
      simp only [kU.2.2.2.2.2.e 21 (by unfold scP; omega)]
      exact hw0
    rcases mNxs_spec (b := b) hm hi hw with ⟨e1, e2⟩ | ⟨f, f1, f2, f3, f4, f5⟩
    · have hall : upL b (readR (wSl w) w.1 w.2.2.1 time (dSer d) ((dSmp d).map (·.1))) = readR (wSl w) w.1 w.2.2.1 time (dSer d) ((dSmp d).map (·.1)) := List.filter_eq_self.mpr fun y hy => by
        obtain ⟨c, hc, e⟩ := (hmem y).mp hy
        rw [rdF_key e]
        refine decide_eq_true ?_
        by_cases h9 : b < c
        · rw [rdF_none (e2 c hc h9)] at e; cases e
        · omega
      rw [hall] at hP
      rw [e1]
      exact b_X12_run_110 ⟨fun _ => ⟨hx, hQ G kU hP⟩, fun h9 => (h9 rfl).elim⟩
    · rw [f2]
      have hcd := hm.cod f1
      have hsx := hm.sx hi f1
      have hfm := getD_mem' (v := 0) f1
      generalize hl : (dSer d).getD f 0 = l at hcd hsx hfm f3 f4 f5
      generalize hRe : readR (wSl w) w.1 w.2.2.1 time (dSer d) ((dSmp d).map (·.1)) = R at hRR hmem hP hQ ih
      have hbt : ∀ y ∈ R, b < y.1 → y.1 ≤ l → y.1 = l := fun y hy h8 h9 => by
        obtain ⟨c, hc, e⟩ := (hmem y).mp hy
        have ek := rdF_key e
        rw [ek] at h8 h9 ⊢
        by_cases h7 : wSl w c = true
        · have := f5 c hc h8 h7; omega
        · rw [rdF_none (by cases e9 : wSl w c with
            | false => rfl
            | true => exact (h7 e9).elim)] at e
          cases e
      have hlen : (upL b R).length < 12 := by
        have hnd : (l :: (upL b R).map (·.1)).Nodup := List.nodup_cons.mpr ⟨fun h9 => by
          obtain ⟨y, hy, e⟩ := List.mem_map.mp h9
          have := (upL_mem.mp hy).2
          omega, by
          have hq : (upL b R).Pairwise (fun p q => p.1 < q.1) := List.Pairwise.filter _ hRR.1
          exact List.pairwise_map.mpr (hq.imp fun {p q} h9 => Int.ne_of_lt h9)⟩
        have := hnd.length_le_of_subset (l₂ := dSer d) (fun y hy => by
          rcases List.mem_cons.mp hy with h9 | h9
          · rw [h9]; exact hfm
          · obtain ⟨z, hz, rfl⟩ := List.mem_map.mp h9
            obtain ⟨c, hc, e⟩ := (hmem z).mp (upL_mem.mp hz).1
            rw [rdF_key e]; exact hc)
        rw [List.length_cons, List.length_map] at this
        omega
      have hv : ∀ v, valW w.1 w.2.2.1 time (seeT l ((dSmp d).map (·.1))) = some v → upL l R = upL b R ++ [(l, v)] := fun v h9 => upL_some hRR.1 f3 ((hmem _).mpr ⟨l, hfm, by
        unfold rdF
        rw [if_pos f4, h9]; rfl⟩) hbt
      have hn : valW w.1 w.2.2.1 time (seeT l ((dSmp d).map (·.1))) = none → upL l R = upL b R := fun h9 => upL_none f3 fun y hy h7 h8 => by
        have := hbt y hy h7 h8
        obtain ⟨c, hc, e⟩ := (hmem y).mp hy
        have ek := rdF_key e
        rw [show c = l by omega] at e
        unfold rdF at e
        rw [if_pos f4, h9] at e
        cases e
      have hlk : Ok E M_X12_looksAt [rv m, iv p, iv (f : Int), iv time] G 0 0 (fun _ G' => MU E G0 G' m scP ∧ PiM G' m (S ++ [(0, bdL (upL l R))])) (fun _ _ => False) := by
        refine om_looksAt hsx hcd.1 hp hw.1 hw.2.2.1 hk (hok.2.2.1 hk.1 hk.2) ht (seeT60 a5.basic) (fun v => ?_) (fun h9 => ⟨kU, by rw [hn h9]; exact hP⟩) (fun v h9 G' hq => ?_) (PA := fun v G' => MU E G0 G' m scP ∧ PiM G' m (S ++ [(0, bdL (upL b R) ++ [(l, wBd v)])]))
        · rw [hcd.2]
          exact om_add kU hP (by unfold bdL; rw [List.length_map]; exact hlen)
        · rw [hv v h9]
          have e : bdL (upL b R ++ [(l, v)]) = bdL (upL b R) ++ [(l, wBd v)] := by
            unfold bdL
            rw [List.map_append]; rfl
          rw [e]; exact hq
      refine b_X12_run_110 ⟨fun h9 => by omega, fun _ => ⟨hm.k13, Call.to hlk (Nat.zero_le _) (Nat.zero_le _) fun _ G5 hq => ?_⟩⟩
      have hm5 := hm0.keep hq.1 (fun j h9 => by unfold scP at h9; unfold scr; omega)
      have hc5 := hm5.cod f1
      rw [hl] at hc5
      refine ⟨hm5.k13, hc5.1, hm5.k13, ?_⟩
      rw [hc5.2]
      exact Call.pure (okp_nextSeries hm5.1.1 hm5.lb.1 hp) (ih l G5 (by omega) (by omega) hq.1 hq.2)
end Sa40
