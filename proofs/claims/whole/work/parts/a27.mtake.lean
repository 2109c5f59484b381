/-! the model's rows grow; its series are found -/
section Sa27
variable {E : EE} {G G' G2 G0 : Gt} {c s bc bs : Nat} {Q X : Int → Gt → Prop} {a i v q m x ml mr u l t w z o two wt9 kp f e p n r : Int} {k j b : Nat} {T T' : Nat → Prop} {d d' : DS} {ser : List Int} {smp : List (Sm4 × Int)}
/-- a longer array -/
def lgQ (E : EE) (G G' : Gt) (a r n : Int) (t : Nat) : Prop := (gcl G r = 0 ∧ (eb E : Int) ≤ r) ∧ LW E G' ∧ ONW G G' ∧ FR G G' noW noA noA ∧ noref G' r ∧ gcl G' r = t ∧ gln G' r = 2 * gln G a ∧ ∀ i, 0 ≤ i → i < n → gel G' r i = gel G a i
theorem lg_of {tt : Nat} (hL : LW E G) (hO : OW G) (ha : gcl G a = tt) (h15 : 15 ≤ tt ∧ tt ≠ 18) (hr : gcl G r = 0) (hb : (eb E : Int) ≤ r) {N : Int} (hN : N = 2 * gln G a) : lgQ E G (cpy (newa G r tt N) a r 0 0 n) a r n tt := by
  have har : a ≠ r := fun h9 => by rw [h9] at ha; omega
  have hnew := (NB.refl (a := 0) (cl := 0) hL hO).newa (t := tt) (m := N) hr (by omega) h15.1
  obtain ⟨n1, n2, n3, n4⟩ := hnew
  have hce : ∀ y, gcl (cpy (newa G r tt N) a r 0 0 n) y = gcl (newa G r tt N) y := fun y => by rw [gcl_cpy]
  have hfe : ∀ c k y, gfd (cpy (newa G r tt N) a r 0 0 n) c k y = gfd (newa G r tt N) c k y := fun c k y => by rw [gfd_cpy]
  have hle : ∀ y, gln (cpy (newa G r tt N) a r 0 0 n) y = gln (newa G r tt N) y := fun y => by rw [gln_cpy]
  have hee : ∀ y i, y ≠ r → gel (cpy (newa G r tt N) a r 0 0 n) y i = gel G y i := fun y i hy => by
    rw [gel_cpy, if_neg (fun h9 => hy h9.1), gel_newa, if_neg hy]
  have arr : ∀ y, gcl G y = 14 → gfd G 13 1 y ≠ -1 → gfd G 13 1 y ≠ r := fun y hy h1 h9 => by
    have := hL.arr hy h1
    rw [h9] at this; omega
  have elst : ∀ y, gcl G y = 14 → gfd G 13 1 y ≠ -1 → lst (cpy (newa G r tt N) a r 0 0 n) y = lst G y ∧ capOf (cpy (newa G r tt N) a r 0 0 n) y = capOf G y := fun y hy h1 => by
    have e1 : gfd (cpy (newa G r tt N) a r 0 0 n) 13 1 y = gfd G 13 1 y := by rw [hfe, gfd_newa]
    refine ⟨lst_congr (by rw [hfe, gfd_newa]) e1 (fun i => hee _ i (arr y hy h1)), ?_⟩
    unfold capOf
    rw [e1, hle, gln_newa, if_neg (arr y hy h1)]
  refine ⟨⟨hr, hb⟩, ?_, ?_, ⟨fun y hy => ?_, fun c k y _ _ _ => by rw [hfe, gfd_newa], fun y hy h1 => ⟨by rw [hfe, gfd_newa]; exact h1, fun _ => elst y hy h1⟩, fun y hy h1 => ⟨?_, fun _ i => hee y i (fun h9 => by rw [h9, hr] at hy; omega)⟩⟩, ?_, by rw [hce]; exact n3, by rw [hle]; exact n4.trans hN, fun i h0 h1 => ?_⟩
  · exact n1.1.congr (fun y hy h1 => ⟨by rw [hce] at hy; exact hy, by rw [hfe], by rw [hfe]⟩) (fun y hy => ⟨by rw [hce]; exact hy, by rw [hle]⟩)
  · have o1 := ONW.mNewa (G := G) (n := N) hr h15.1 (by omega)
    exact ⟨fun p hp y hy => by rw [hce] at hy; rw [hfe]; exact o1.1 p hp y hy, fun y hy => by rw [hce]; exact o1.2.1 y hy, fun h9 => by rw [hce]; exact o1.2.2 h9⟩
  · rw [hce, gcl_newa, if_neg (fun h9 => by rw [h9] at hy; exact hy hr)]
  · rw [hle, gln_newa, if_neg (fun h9 => by rw [h9, hr] at hy; omega)]
  · intro p hp y hy
    rw [hce] at hy
    rw [hfe]; exact n2 p hp y hy
  · rw [gel_cpy, if_pos ⟨rfl, h0, by omega⟩, gel_newa, if_neg har]
    congr 1; omega
theorem om_longer (hL : LW E G) (hO : OW G) (ha : gcl G a = 15) (hab : (eb E : Int) ≤ a) (hn : 0 ≤ gln G a ∧ gln G a ≤ 10000000) (hc : 1 ≤ c) (hs : 2 * (gln G a).toNat ≤ s) : Ok E M_X12_longer [rv a] G c s (fun r G' => lgQ E G G' a r (gln G a) 15) (fun _ _ => False) := by
  refine i_X12_longer ⟨by omega, i32s' (by omega), by omega, by omega, hc, by omega, fun q hq hqb G8 e8 => ?_⟩
  have haq : a ≠ q := fun h9 => by rw [h9] at ha; omega
  have c8 : gcl G8 q = 15 ∧ gln G8 q = 2 * gln G a := by rw [e8, gcl_newa, gln_newa, if_pos rfl, if_pos rfl]; exact ⟨rfl, rfl⟩
  have a8 : gcl G8 a = 15 ∧ gln G8 a = gln G a := by rw [e8, gcl_newa, gln_newa, if_neg haq, if_neg haq]; exact ⟨ha, rfl⟩
  refine ⟨by omega, Or.inl c8.1, by omega, hab, hqb, by omega, by omega, by omega, fun G17 e17 => ?_⟩
  rw [e17, e8]
  rw [← e8, a8.2, e8]
  exact lg_of hL hO ha (by decide) hq hqb rfl
/-- the model with one of its rows grown -/
theorem MU.grow {tt : Nat} (h : MU E G0 G m T) (hk : (k, tt) ∈ mGrow) (ht : T k) (hg : lgQ E G G' (gfd G 12 k m) r n tt) : MU E G0 (sfd G' 12 k m r) m T := by
  obtain ⟨⟨hr, hrb⟩, hL, hO, hF, hn, hgc, hln, hel⟩ := hg
  have hkm : k ∈ mArr := List.mem_append_right _ (List.mem_map.mpr ⟨(k, tt), hk, rfl⟩)
  have hm13 := h.1.1
  have em : ∀ j, gfd G' 12 j m = gfd G 12 j m := fun j => hF.2.1 12 j m (by decide) (by omega) (fun h9 => h9)
  have es : ∀ j, j ≠ k → gfd (sfd G' 12 k m r) 12 j m = gfd G 12 j m := fun j hj => by rw [gfd_sfd, if_neg (fun h9 => hj h9.2.1), em]
  have ek : gfd (sfd G' 12 k m r) 12 k m = r := by rw [gfd_sfd, if_pos ⟨rfl, rfl, rfl⟩]
  have kd : ∀ j ∈ mArr, gcl G (gfd G 12 j m) = 15 ∨ gcl G (gfd G 12 j m) = 16 ∨ gcl G (gfd G 12 j m) = 17 := fun j hj => mArr_kd h.1 hj
  have ne : ∀ j ∈ mArr, gfd G 12 j m ≠ r := fun j hj h9 => by have := kd j hj; rw [h9] at this; omega
  have gold : ∀ j ∈ mArr, gcl G' (gfd G 12 j m) = gcl G (gfd G 12 j m) ∧ gln G' (gfd G 12 j m) = gln G (gfd G 12 j m) ∧ ∀ i, gel G' (gfd G 12 j m) i = gel G (gfd G 12 j m) i := fun j hj => by
    have h9 := kd j hj
    have := hF.2.2.2 (gfd G 12 j m) (by omega) (by omega)
    exact ⟨hF.1 _ (by omega), this.1, this.2 (fun h9 => h9)⟩
  have hsh : MSh E (sfd G' 12 k m r) m := by
    refine ⟨by show gcl G' m = 13; rw [hF.1 m (by omega)]; exact hm13, fun p hp => ?_, fun p hp => ?_, fun i hi j hj h9 => ?_⟩
    · have hj : p.1 ∈ mArr := List.mem_append_left _ (List.mem_map.mpr ⟨p, hp, rfl⟩)
      have hne : p.1 ≠ k := fun h9 => by
        have d1 : ∀ p ∈ mFix, ∀ q ∈ mGrow, p.1 ≠ q.1 := by decide
        exact d1 p hp _ hk h9
      rw [es p.1 hne]
      show gcl G' _ = _ ∧ gln G' _ = _ ∧ _
      rw [(gold p.1 hj).1, (gold p.1 hj).2.1]; exact h.1.2.1 p hp
    · have hj : p.1 ∈ mArr := List.mem_append_right _ (List.mem_map.mpr ⟨p, hp, rfl⟩)
      by_cases hpk : p.1 = k
      · have d2 : ∀ p ∈ mGrow, ∀ q ∈ mGrow, p.1 = q.1 → p.2 = q.2 := by decide
        have h2 : p.2 = tt := d2 p hp _ hk hpk
        have := h.1.2.2.1 (k, tt) hk
        rw [hpk, ek, h2]
        exact ⟨hgc, by show 40000 ≤ gln G' r; rw [hln]; have h3 : 40000 ≤ gln G (gfd G 12 k m) := this.2.1; omega, hrb⟩
      · rw [es p.1 hpk]
        show gcl G' _ = _ ∧ 40000 ≤ gln G' _ ∧ _
        rw [(gold p.1 hj).1, (gold p.1 hj).2.1]; exact h.1.2.2.1 p hp
    · by_cases hik : i = k
      · by_cases hjk : j = k
        · rw [hik, hjk]
        · rw [hik, ek, es j hjk] at h9
          exact (ne j hj h9.symm).elim
      · by_cases hjk : j = k
        · rw [hjk, ek, es i hik] at h9
          exact (ne i hi h9).elim
        · rw [es i hik, es j hjk] at h9
          exact h.1.2.2.2 i hi j hj h9
  have hr0 : gcl G0 r = 0 := h.2.2.2.1.old hr
  have hO1 : OWG G0 G' := h.2.2.1.onw hO
  have d3 : ∀ p ∈ mGrow, p.2 ≠ 0 := by decide
  refine ⟨hsh, hL.sfd (by decide), hO1.put hr0 hn (by rw [hgc]; exact d3 _ hk), ?_, fun j hj => ?_, fun j hj => ?_⟩
  · exact ((h.2.2.2.1.andThen hF (fun c j y _ h9 => h9.elim) (fun y _ h9 => h9.elim) (fun y _ h9 => h9.elim))).sfdIn ⟨rfl, rfl⟩ (by decide)
  · by_cases hjk : j = k
    · rw [hjk, ek]; exact Or.inr hr0
    · rw [es j hjk]; exact h.2.2.2.2.1 j hj
  · have hjk : j ≠ k := fun h9 => hj (h9 ▸ ht)
    have a := h.2.2.2.2.2 j hj
    refine ⟨(es j hjk).trans a.1, fun hmj => ?_⟩
    have b := a.2 hmj
    have g := gold j hmj
    rw [a.1] at g
    exact ⟨by show gln G' _ = _; exact g.2.1.trans b.1, fun i => by show gel G' _ i = _; exact (g.2.2 i).trans (b.2 i)⟩
/-- the digits of labels -/
theorem dig3 {z o w : Int} (hz : 0 ≤ z ∧ z ≤ 6) (ho : 0 ≤ o ∧ o ≤ 6) (hw : 0 ≤ w ∧ w ≤ 6) : Int.tdiv (wCode z o w) 100 = z ∧ cOk (wCode z o w) := by
  unfold wCode cOk
  rw [Int.tdiv_eq_ediv_of_nonneg (by omega), Int.tdiv_eq_ediv_of_nonneg (by omega), Int.tmod_eq_emod_of_nonneg (by omega), Int.tmod_eq_emod_of_nonneg (by omega)]
  omega
theorem wCode_inj {z o w z' o' w' : Int} (hz : 0 ≤ z ∧ z ≤ 6) (ho : 0 ≤ o ∧ o ≤ 6) (hw : 0 ≤ w ∧ w ≤ 6) (hz' : 0 ≤ z' ∧ z' ≤ 6) (ho' : 0 ≤ o' ∧ o' ≤ 6) (hw' : 0 ≤ w' ∧ w' ≤ 6) : wCode z o w = wCode z' o' w' ↔ z = z' ∧ o = o' ∧ w = w' := by
  unfold wCode; omega
/-- where labels are in the list of series -/
def ixL (l : Int) (ser : List Int) (x : Int) : Prop := (x = -1 ∧ l ∉ ser) ∨ (0 ≤ x ∧ x < ser.length ∧ ser.getD x.toNat 0 = l)
theorem mFind_ix (h : MSer G m ser) (hz : 0 ≤ z ∧ z ≤ 6) (ho : 0 ≤ o ∧ o ≤ 6) (hw : 0 ≤ w ∧ w ≤ 6) : ixL (wCode z o w) ser (mFind G m z o w) := by
  obtain ⟨h1, h2, h3⟩ := h
  unfold mFind
  rw [h1, Int.toNat_natCast]
  have key : ∀ n : Nat, n ≤ ser.length → (ups (fdS G m z o w) (-1) n = -1 ∧ ∀ i, i < n → ser.getD i 0 ≠ wCode z o w) ∨ (0 ≤ ups (fdS G m z o w) (-1) n ∧ ups (fdS G m z o w) (-1) n < n ∧ ser.getD (ups (fdS G m z o w) (-1) n).toNat 0 = wCode z o w) := by
    intro n
    induction n with
    | zero => intro _; exact Or.inl ⟨rfl, fun i hi => absurd hi (Nat.not_lt_zero i)⟩
    | succ n ih =>
      intro hn
      have hd := h3 n (by omega)
      have heq : (gel G (gfd G 12 3 m) n = z ∧ gel G (gfd G 12 4 m) n = o ∧ gel G (gfd G 12 5 m) n = w) ↔ ser.getD n 0 = wCode z o w := by
        rw [← hd.2, wCode_inj hd.1.1 hd.1.2.1 hd.1.2.2 hz ho hw]
      rw [ups_succ]
      unfold fdS
      by_cases hh : ser.getD n 0 = wCode z o w
      · rw [if_pos (heq.mpr hh)]
        exact Or.inr ⟨by omega, by omega, by rw [Int.toNat_natCast]; exact hh⟩
      · rw [if_neg (fun h9 => hh (heq.mp h9))]
        rcases ih (by omega) with ⟨a1, a2⟩ | ⟨a1, a2, a3⟩
        · refine Or.inl ⟨a1, fun i hi => ?_⟩
          by_cases hin : i = n
          · rw [hin]; exact hh
          · exact a2 i (by omega)
        · exact Or.inr ⟨a1, by unfold fdS at a2; omega, a3⟩
  rcases key ser.length (Nat.le_refl _) with ⟨a1, a2⟩ | ⟨a1, a2, a3⟩
  · refine Or.inl ⟨a1, fun h9 => ?_⟩
    obtain ⟨i, hi, e⟩ := List.getElem_of_mem h9
    refine a2 i hi ?_
    rw [List.getD_eq_getElem?_getD, List.getElem?_eq_getElem hi]
    exact e
  · exact Or.inr ⟨a1, a2, a3⟩
theorem ixL.own (hx : ixL l ser x) (hn : ser.Nodup) (h : MSm G m ser smp ml) (hk : k < smp.length) : gel G (gfd G 12 7 m) k = x ↔ qC (smp.getD k z4).1 = l := by
  obtain ⟨⟨a1, a2, a3⟩, -⟩ := h.at hk
  rcases hx with ⟨h1, h2⟩ | ⟨h1, h2, h3⟩
  · refine ⟨fun h9 => by omega, fun h9 => ?_⟩
    rw [← a3] at h9
    exact (h2 (h9 ▸ getD_mem' (by omega))).elim
  · rw [h.own hn hk ⟨h1, h2⟩, h3]
end Sa27
