/-! the model takes a sample: its contract -/
section Sa30
variable {E : EE} {G G' G2 G0 : Gt} {c s bc bs : Nat} {Q X : Int → Gt → Prop} {a i v q m x ml mr u l t w z o f e p n r sx : Int} {k j b : Nat} {T T' : Nat → Prop} {d d' : DS}
/-- what the taking of a sample leaves of the model -/
def tkF (E : EE) (G0 G' : Gt) (m : Int) (d' : DS) (ml' mr' : Int) : Prop := MH E G' m d' ml' mr' ∧ MU E G0 G' m T14
theorem mBl_take (hb : ∀ c, c ∉ dSer d → dBk d c = []) : mBl (serW (dSer d) l) (dBk d) = mBl (dSer d) (dBk d) := by
  unfold serW
  by_cases hl : l ∈ dSer d
  · rw [if_pos hl]
  · rw [if_neg hl]
    unfold mBl
    rw [List.length_append]
    show ((List.range ((dSer d).length + 1)).map _).flatten = _
    rw [List.range_succ, List.map_append, List.flatten_append]
    have e1 : ((List.range (dSer d).length).map fun i : Nat => (dBk d ((dSer d ++ [l]).getD i 0)).map fun p => ((i : Int), p.1, p.2)) = ((List.range (dSer d).length).map fun i : Nat => (dBk d ((dSer d).getD i 0)).map fun p => ((i : Int), p.1, p.2)) := by
      refine List.map_congr_left fun i hi => ?_
      rw [appZ, if_pos (List.mem_range.mp hi)]
    have e2 : ([(dSer d).length].map fun i : Nat => (dBk d ((dSer d ++ [l]).getD i 0)).map fun p => ((i : Int), p.1, p.2)).flatten = [] := by
      show ((dBk d ((dSer d ++ [l]).getD (dSer d).length 0)).map _ ++ []) = []
      rw [appZ, if_neg (by omega), if_pos rfl, hb l hl]; rfl
    rw [e1, e2, List.append_nil]
theorem smS_getD {k : Nat} (hk : k < (dSmp d).length) : (smS d).getD k (0, 0, 0, 0) = ((dSmp d).getD k z4).1 := by
  unfold smS
  rw [List.getD_eq_getElem?_getD, List.getD_eq_getElem?_getD, List.getElem?_map, List.getElem?_eq_getElem hk]; rfl
theorem v_mtake (h : MH E G m d ml mr) (hi : DI d) (hz : 0 ≤ z ∧ z ≤ 6) (ho : 0 ≤ o ∧ o ≤ 6) (hw : 0 ≤ w ∧ w ≤ 6) (hlw : l = wCode z o w) (ht : 0 ≤ t ∧ t ≤ 100000) (hml : ml ≤ 10000000 ∧ mr ≤ 10000000) (hx : ixL l (dSer d) sx) (hfull : ¬ (l ∉ dSer d ∧ 12 ≤ (dSer d).length)) (hc : tMC d l t v ml mr ≤ c) (hs : tMS d l t v ml mr ≤ s)
    (hQ : ∀ r G', r = tkA (dSer d) (smS d) l t v → tkF E G G' m (tkD d l t v) (tML d l t v ml) (tMR d l t v mr) → Q r G') :
    ∀ (n j : Nat), j + n = (dSmp d).length → (∀ y ∈ (smS d).take j, own l y = true → qT y ≠ t) →
      V E M_X12_take 35 [some (rv m), some (iv z), some (iv o), some (iv w), some (iv t), some (iv v), some (iv sx), some (iv (mxT l ((smS d).take j))), some (iv (likeN z ((smS d).take j))), some (iv (j : Int)), none] [] G c s Q X := by
  have hS := h.2.2.2.1
  obtain ⟨h1, h2, ⟨l7, l8, l9, l10, l11⟩, h3⟩ := id hS
  have hser := h.2.2.1
  have hnd := hi.1.1
  have hlen : (smS d).length = (dSmp d).length := List.length_map ..
  have hsi := hi.1.2.2.2.1
  have hbt : ∀ y ∈ smS d, 0 ≤ qT y ∧ qT y ≤ 100000 := fun y hy => (hsi y hy).2.1
  have hl100 : Int.tdiv l 100 = z := by rw [hlw]; exact (dig3 hz ho hw).1
  have hcol : cOk l := by rw [hlw]; exact (dig3 hz ho hw).2
  have lk60 : ∀ j, likeN z ((smS d).take j) ≤ 60 := fun j => Nat.le_trans (List.Sublist.countP_le (List.take_sublist j _)) (hi.1.2.2.2.2.1.basic.2 z)
  have hA : tkA (dSer d) (smS d) l t v = if jdg (smS d) l t v ≠ 0 then jdg (smS d) l t v else if 60 ≤ likeN z (smS d) then 5 else 0 := by
    unfold tkA; rw [if_neg hfull, hl100]
  have same : ∀ r : Int, r = tkA (dSer d) (smS d) l t v → r ≠ 0 → Q r G := fun r er hr => by
    have hne : ¬ tkO d l t v := fun h9 => hr (er.trans h9)
    refine hQ r G er ?_
    have e1 : tkD d l t v = d := by unfold tkD; rw [if_neg hne]
    have e2 : tML d l t v ml = ml := by unfold tML; rw [if_neg hne]
    have e3 : tMR d l t v mr = mr := by unfold tMR; rw [if_neg hne]
    rw [e1, e2, e3]
    exact ⟨h, h.ru⟩
  intro n
  induction n with
  | zero =>
    intro j hj hno
    have ej : (smS d).take j = smS d := List.take_of_length_le (by omega)
    rw [ej] at hno ⊢
    have hmx := mxT_in (l := l) hbt (smS d).length (Nat.le_refl _)
    rw [List.take_length] at hmx
    have hl60 := lk60 (smS d).length
    rw [List.take_length] at hl60
    have hj9 := jdg_miss (v := v) ht.1 hbt hno
    refine b_X12_take_35 ⟨h.k13, fun _ => ⟨i32s' (by omega), fun hlate => ⟨fun hlk => ?_, fun hlk => ?_⟩, fun hlate => ?_⟩, fun h9 => by omega⟩
    · -- it is written
      have hok : tkO d l t v := by
        show tkA (dSer d) (smS d) l t v = 0
        rw [hA, hj9, if_neg (c := t < _) (by omega), if_neg (fun h9 => h9 rfl), if_neg (by omega)]
      have eD : tkD d l t v = stD d (fun j => if j = 5 then dN d 5 + 1 else if j = 6 then recN d else dN d j) (serW (dSer d) l) (dSmp d ++ [((l, t, v, 0), if dN d 4 = 0 then 1 else 0)]) (0 :: dRec d) (dBk d) := by unfold tkD; rw [if_pos hok]
      have eML : tML d l t v ml = mlN (dSmp d).length ml := by unfold tML; rw [if_pos hok]
      have eMR : tMR d l t v mr = mlN (dRec d).length mr := by unfold tMR; rw [if_pos hok]
      have eMC : tMC d l t v ml mr = mgC (dSmp d).length ml 5 + mgC (dRec d).length mr 1 := by unfold tMC; rw [if_pos hok]
      have eMS : tMS d l t v ml mr = mgS (dSmp d).length ml 5 + mgS (dRec d).length mr 1 := by unfold tMS; rw [if_pos hok]
      rw [eMC] at hc
      rw [eMS] at hs
      intro J6 hJ6
      -- behind the series
      have inner : ∀ (x7 : Int) (G8 : Gt), MU E G G8 m T14 → MT G G8 m (fun k => k = 3 ∨ k = 4 ∨ k = 5 ∨ k = 6) → MSer G8 m (serW (dSer d) l) → (0 ≤ x7 ∧ x7 < (serW (dSer d) l).length ∧ (serW (dSer d) l).getD x7.toNat 0 = l) → MSm G8 m (serW (dSer d) l) (dSmp d) ml → J6 x7 G8 c s := fun x7 G8 kU8 t8 hser8 hx7 hS8 => hJ6 _ _ _ _ (by
        have y8 := kU8.1.gw 8 15
        refine ⟨kU8.1.1, kU8.1.1, by omega, fun J14 hJ14 => ?_⟩
        -- behind the rows
        have inner2 : ∀ (G15 : Gt) (c16 s17 : Nat), MU E G G15 m T14 → MT G8 G15 m (fun k => 7 ≤ k ∧ k ≤ 11) → MSm G15 m (serW (dSer d) l) (dSmp d) (mlN (dSmp d).length ml) → (dSmp d).length < mlN (dSmp d).length ml → mgC (dRec d).length mr 1 ≤ c16 → mgS (dRec d).length mr 1 ≤ s17 → J14 G15 c16 s17 := fun G15 c16 s17 kU15 t15 hS15 hlt15 hc15 hs15 => hJ14 _ _ _ (by
          obtain ⟨g1, g2, ⟨g7, g8, g9, g10, g11⟩, g3⟩ := id hS15
          have y7 := kU15.1.gw 7 15
          have z8 := kU15.1.gw 8 15
          have z9 := kU15.1.gw 9 15
          have z10 := kU15.1.gw 10 15
          have z11 := kU15.1.gw 11 17
          have hT : ∀ k, 7 ≤ k → k ≤ 12 → T14 k := fun k a1 a2 => ⟨by omega, by omega⟩
          refine ⟨kU15.1.1, kU15.1.1, y7.1, by omega, by omega, fun Ga ea => ?_⟩
          have ka : MU E G Ga m T14 := by rw [ea]; exact kU15.mSel (by decide) (hT 7 (by decide) (by decide))
          have fa : ∀ k, gfd Ga 12 k m = gfd G15 12 k m := fun k => by rw [ea]; rfl
          have la : ∀ y, gln Ga y = gln G15 y := fun y => by rw [ea]; rfl
          have ca : ∀ y, gcl Ga y = gcl G15 y := fun y => by rw [ea]; rfl
          rw [fa 8, fa 12]
          refine ⟨ka.1.1, ka.1.1, by rw [ca]; exact z8.1, by omega, by rw [la]; omega, fun Gb eb' => ?_⟩
          have kb : MU E G Gb m T14 := by rw [eb', ← fa 8]; exact ka.mSel (by decide) (hT 8 (by decide) (by decide))
          have fb : ∀ k, gfd Gb 12 k m = gfd G15 12 k m := fun k => by rw [eb']; exact fa k
          have lb : ∀ y, gln Gb y = gln G15 y := fun y => by rw [eb']; exact la y
          have cb : ∀ y, gcl Gb y = gcl G15 y := fun y => by rw [eb']; exact ca y
          rw [fb 9, fb 12]
          refine ⟨kb.1.1, kb.1.1, by rw [cb]; exact z9.1, by omega, by rw [lb]; omega, fun Gc ec => ?_⟩
          have kc : MU E G Gc m T14 := by rw [ec, ← fb 9]; exact kb.mSel (by decide) (hT 9 (by decide) (by decide))
          have fc : ∀ k, gfd Gc 12 k m = gfd G15 12 k m := fun k => by rw [ec]; exact fb k
          have lc : ∀ y, gln Gc y = gln G15 y := fun y => by rw [ec]; exact lb y
          have cc : ∀ y, gcl Gc y = gcl G15 y := fun y => by rw [ec]; exact cb y
          rw [fc 10, fc 12]
          refine ⟨kc.1.1, kc.1.1, by rw [cc]; exact z10.1, by omega, by rw [lc]; omega, fun Gd ed => ?_⟩
          have kd : MU E G Gd m T14 := by rw [ed, ← fc 10]; exact kc.mSel (by decide) (hT 10 (by decide) (by decide))
          have fd : ∀ k, gfd Gd 12 k m = gfd G15 12 k m := fun k => by rw [ed]; exact fc k
          have ld : ∀ y, gln Gd y = gln G15 y := fun y => by rw [ed]; exact lc y
          have cd : ∀ y, gcl Gd y = gcl G15 y := fun y => by rw [ed]; exact cc y
          have e48 : gfd G15 12 48 m = dN d 4 := (t15.f 48 (by omega)).trans ((t8.f 48 (by omega)).trans h.2.1.2.2.1)
          rw [fd 11, fd 12, fd 48, e48]
          refine ⟨kd.1.1, kd.1.1, kd.1.1, by rw [cd]; exact z11.1, by omega, by rw [ld]; omega, by split; exact Or.inr rfl; exact Or.inl rfl, fun Ge ee => ?_⟩
          have ke : MU E G Ge m T14 := by rw [ee, ← fd 11]; exact kd.mSel (by decide) (hT 11 (by decide) (by decide))
          have fe : ∀ k, gfd Ge 12 k m = gfd G15 12 k m := fun k => by rw [ee]; exact fd k
          have le : ∀ y, gln Ge y = gln G15 y := fun y => by rw [ee]; exact ld y
          rw [fe 12, g1]
          refine ⟨ke.1.1, i32s' (by omega), ke.1.1, fun Gf ef => ?_⟩
          have kf : MU E G Gf m T14 := by rw [ef]; exact ke.mSfd (by decide) (hT 12 (by decide) (by decide))
          have ff : ∀ k, k ≠ 12 → gfd Gf 12 k m = gfd G15 12 k m := fun k hk => by rw [ef, gfd_sfd, if_neg (fun h9 => hk h9.2.1)]; exact fe k
          have hne : ∀ i j, i ∈ mArr → j ∈ mArr → i ≠ j → gfd G15 12 i m ≠ gfd G15 12 j m := fun i j a1 a2 a3 h9 => a3 (kU15.1.2.2.2 i a1 j a2 h9)
          have el : ∀ y i, gel Gf y i = if y = gfd G15 12 11 m ∧ i = (dSmp d).length then (if dN d 4 = 0 then 1 else 0) else if y = gfd G15 12 10 m ∧ i = (dSmp d).length then 0 else if y = gfd G15 12 9 m ∧ i = (dSmp d).length then v else if y = gfd G15 12 8 m ∧ i = (dSmp d).length then t else if y = gfd G15 12 7 m ∧ i = (dSmp d).length then x7 else gel G15 y i := fun y i => by
            rw [ef]
            show gel Ge y i = _
            rw [ee, gel_sel, ed, gel_sel, ec, gel_sel, eb', gel_sel, ea, gel_sel, g1]
          have pick : ∀ k (_ : k ∈ mArr) (i : Int), k = 7 ∨ k = 8 ∨ k = 9 ∨ k = 10 ∨ k = 11 → gel Gf (gfd Gf 12 k m) i = if i = (dSmp d).length then (if k = 7 then x7 else if k = 8 then t else if k = 9 then v else if k = 10 then 0 else (if dN d 4 = 0 then 1 else 0)) else gel G15 (gfd G15 12 k m) i := fun k hk i hcs => by
            rw [ff k (by omega), el]
            by_cases hin : i = (dSmp d).length
            · rw [if_pos hin]
              rcases hcs with rfl | rfl | rfl | rfl | rfl
              · rw [if_neg (fun h9 => hne 7 11 (by decide) (by decide) (by decide) h9.1), if_neg (fun h9 => hne 7 10 (by decide) (by decide) (by decide) h9.1), if_neg (fun h9 => hne 7 9 (by decide) (by decide) (by decide) h9.1), if_neg (fun h9 => hne 7 8 (by decide) (by decide) (by decide) h9.1), if_pos ⟨rfl, hin⟩]; rfl
              · rw [if_neg (fun h9 => hne 8 11 (by decide) (by decide) (by decide) h9.1), if_neg (fun h9 => hne 8 10 (by decide) (by decide) (by decide) h9.1), if_neg (fun h9 => hne 8 9 (by decide) (by decide) (by decide) h9.1), if_pos ⟨rfl, hin⟩]; rfl
              · rw [if_neg (fun h9 => hne 9 11 (by decide) (by decide) (by decide) h9.1), if_neg (fun h9 => hne 9 10 (by decide) (by decide) (by decide) h9.1), if_pos ⟨rfl, hin⟩]; rfl
              · rw [if_neg (fun h9 => hne 10 11 (by decide) (by decide) (by decide) h9.1), if_pos ⟨rfl, hin⟩]; rfl
              · rw [if_pos ⟨rfl, hin⟩]; rfl
            · rw [if_neg hin, if_neg (fun h9 => hin h9.2), if_neg (fun h9 => hin h9.2), if_neg (fun h9 => hin h9.2), if_neg (fun h9 => hin h9.2), if_neg (fun h9 => hin h9.2)]
          have tf : MT G15 Gf m (fun k => 7 ≤ k ∧ k ≤ 12) := fun k hk => by
            refine ⟨ff k (fun h9 => hk (by omega)), fun hm => ⟨by rw [ef]; exact le _, fun i => ?_⟩⟩
            rw [el, if_neg (fun h9 => hne k 11 hm (by decide) (fun h8 => hk (by omega)) h9.1), if_neg (fun h9 => hne k 10 hm (by decide) (fun h8 => hk (by omega)) h9.1), if_neg (fun h9 => hne k 9 hm (by decide) (fun h8 => hk (by omega)) h9.1), if_neg (fun h9 => hne k 8 hm (by decide) (fun h8 => hk (by omega)) h9.1), if_neg (fun h9 => hne k 7 hm (by decide) (fun h8 => hk (by omega)) h9.1)]
          have hSf : MSm Gf m (serW (dSer d) l) (dSmp d ++ [((l, t, v, 0), if dN d 4 = 0 then 1 else 0)]) (mlN (dSmp d).length ml) := by
            refine hS15.put (q9 := ((l, t, v, 0), if dN d 4 = 0 then 1 else 0)) hlt15 (by rw [ef, gfd_sfd, if_pos ⟨rfl, rfl, rfl⟩]) (fun k a1 a2 => ?_) hx7 (fun i => pick 7 (by decide) i (by omega)) (fun i => pick 8 (by decide) i (by omega)) (fun i => pick 9 (by decide) i (by omega)) (fun i => pick 10 (by decide) i (by omega)) (fun i => pick 11 (by decide) i (by omega))
            rw [ff k (by omega), ef]
            show gln Ge _ = _
            rw [le]
            have hcs : k = 7 ∨ k = 8 ∨ k = 9 ∨ k = 10 ∨ k = 11 := by omega
            rcases hcs with rfl | rfl | rfl | rfl | rfl
            · exact g7
            · exact g8
            · exact g9
            · exact g10
            · exact g11
          have hRf : MRc Gf m (dRec d) mr := (((h.2.2.2.2.1.mt t8 ⟨by omega, by omega⟩).mt t15 ⟨by omega, by omega⟩).mt tf ⟨by omega, by omega⟩)
          have y13 := kf.1.gw 13 15
          refine ⟨kf.1.1, kf.1.1, by omega, fun J58 hJ58 => ?_⟩
          have hra := rec_add (X := X) (v9 := 0) kf hRf ⟨⟨by decide, by decide⟩, ⟨by decide, by decide⟩⟩ hml.2 hc15 hs15 (K := fun G74 _ _ => Q 0 G74) (fun G74 c2 s2 k74 t74 hR74 _ _ => hQ 0 G74 hok.symm (by
            have kt : MT G G74 m T14 := k74.2.2.2.2.2
            have n14 : ∀ j, ¬ (3 ≤ j ∧ j ≤ 14) → ¬ T14 j := fun j h9 h8 => h9 h8
            have tS : MT G8 G74 m (fun k => 7 ≤ k ∧ k ≤ 14) := fun j hj => by
              have a1 := t15 j (fun h9 => hj (by omega))
              have a2 := tf j (fun h9 => hj (by omega))
              have a3 := t74 j (fun h9 => hj (by omega))
              refine ⟨by rw [a3.1, a2.1, a1.1], fun hm => ?_⟩
              have b1 := a1.2 hm
              have b2 := a2.2 hm
              have b3 := a3.2 hm
              rw [a2.1, a1.1] at b3
              rw [a1.1] at b2
              exact ⟨by rw [b3.1, b2.1, b1.1], fun i => by rw [b3.2, b2.2, b1.2]⟩
            rw [eD, eML, eMR]
            have hm := h
            have hbl : MBk G74 m (mBl (serW (dSer d) l) (dBk d)) := by
              rw [mBl_take hi.2.2.2.2.2.2.2.2.2.2.2.2.2]
              exact h.2.2.2.2.2.1.mt kt ⟨n14 _ (by omega), n14 _ (by omega), n14 _ (by omega), n14 _ (by omega)⟩
            have nn : ∀ j, j = 1 ∨ j = 2 ∨ 15 ≤ j → ¬ T14 j := fun j h9 h8 => by unfold T14 at h8; omega
            refine ⟨⟨⟨k74.1, k74.2.1, k74.2.2.1.1⟩, ?_, hser8.mt tS ⟨by omega, by omega, by omega, by omega⟩, hSf.mt t74 ⟨by omega, by omega, by omega, by omega, by omega, by omega⟩, hR74, hbl, hm.2.2.2.2.2.2.1.mt kt (nn _ (by omega)), hm.2.2.2.2.2.2.2.1.mt kt ⟨nn _ (by omega), nn _ (by omega)⟩, hm.2.2.2.2.2.2.2.2.1.mt kt ⟨nn _ (by omega), nn _ (by omega), nn _ (by omega), nn _ (by omega), nn _ (by omega), nn _ (by omega), nn _ (by omega), nn _ (by omega)⟩, hm.2.2.2.2.2.2.2.2.2.1.mt kt ⟨nn _ (by omega), nn _ (by omega), nn _ (by omega), nn _ (by omega), nn _ (by omega), nn _ (by omega)⟩, hm.2.2.2.2.2.2.2.2.2.2.1.mt kt ⟨nn _ (by omega), nn _ (by omega), nn _ (by omega)⟩, hm.2.2.2.2.2.2.2.2.2.2.2.1.mt kt ⟨nn _ (by omega), nn _ (by omega)⟩, hm.2.2.2.2.2.2.2.2.2.2.2.2.mt kt (nn _ (by omega))⟩, k74⟩
            obtain ⟨u1, u2, u3, u4, u5⟩ := hm.2.1.mt kt ⟨nn _ (by omega), nn _ (by omega), nn _ (by omega), nn _ (by omega), nn _ (by omega)⟩
            exact ⟨u1, u2, u3, u4, u5⟩))
          have hra2 := hra J58 (fun x59 G60 c61 s62 hh => hJ58 x59 G60 c61 s62 (by
            have g64 := hh _ rfl
            refine ⟨g64.1, fun G64 e64 => ?_⟩
            rw [e64]
            exact ⟨g64.1, g64.1, g64.2.1, g64.2.2.1, g64.2.2.2.1, fun G70 e70 => ⟨(g64.2.2.2.2.2 G70 e70).1, (g64.2.2.2.2.2 G70 e70).2.1, (g64.2.2.2.2.2 G70 e70).1, (g64.2.2.2.2.2 G70 e70).2.2⟩⟩))
          exact ⟨fun h9 => ⟨kf.1.1, hra2.1 h9⟩, fun h9 => ⟨kf.1.1, hra2.2 h9⟩⟩)
        have e12 : gfd G8 12 12 m = (dSmp d).length := (t8.f 12 (by omega)).trans h1
        have el8 : gln G8 (gfd G8 12 8 m) = ml := (t8.l 8 (by omega)).trans l8
        rw [e12, el8]
        refine ⟨fun hne => ?_, fun heq => ?_⟩
        · have em : mlN (dSmp d).length ml = ml := by unfold mlN; rw [if_neg hne]
          refine inner2 G8 c s kU8 (fun _ _ => ⟨rfl, fun _ => ⟨rfl, fun _ => rfl⟩⟩) (by rw [em]; exact hS8) (by rw [em]; omega) (by omega) (by omega)
        · have em : mlN (dSmp d).length ml = 2 * ml := by unfold mlN; rw [if_pos heq]
          have ec : mgC (dSmp d).length ml 5 = 5 := by unfold mgC; rw [if_pos heq]
          have es : mgS (dSmp d).length ml 5 = 5 * (2 * ml.toNat) := by unfold mgS; rw [if_pos heq]
          rw [ec] at hc
          rw [es] at hs
          have hg8 := kU8.1.gw 8 15
          exact rows_grow kU8 hS8 (fun k a1 a2 => ⟨by omega, by omega⟩) hml.1 heq (by omega) (by omega) (fun G2 c2 s2 k2 t2 hS2 hc2 hs2 => inner2 G2 c2 s2 k2 t2 (by rw [em]; exact hS2) (by rw [em]; omega) (by omega) (by omega)))
      rcases hx with ⟨x1, x2⟩ | ⟨x1, x2, x3⟩
      · refine ⟨fun h9 => (h9 x1).elim, fun _ => ?_⟩
        have hn12 : (dSer d).length < 12 := by
          by_cases h9 : (dSer d).length < 12
          · exact h9
          · exact (hfull ⟨x2, by omega⟩).elim
        have esw : serW (dSer d) l = dSer d ++ [l] := by unfold serW; rw [if_neg x2]
        exact mser_add (h.ru (T := T14)) hser ⟨⟨by decide, by decide⟩, ⟨by decide, by decide⟩, ⟨by decide, by decide⟩, ⟨by decide, by decide⟩⟩ hn12 hz ho hw (K := fun x7 G8 => J6 x7 G8 c s) (fun G2 k2 t2 hs2 => inner _ G2 k2 t2 (by rw [esw, hlw]; exact hs2) (by
          rw [esw, hser.1, List.length_append]
          refine ⟨by omega, by show ((dSer d).length : Int) < (((dSer d).length + 1 : Nat) : Int); omega, ?_⟩
          rw [Int.toNat_natCast, appZ, if_neg (by omega), if_pos rfl]) (by rw [esw]; exact (hS.mt t2 ⟨by omega, by omega, by omega, by omega, by omega, by omega⟩).app))
      · have hin : l ∈ dSer d := x3 ▸ getD_mem' (by omega)
        have esw : serW (dSer d) l = dSer d := by unfold serW; rw [if_pos hin]
        refine ⟨fun _ => inner sx G (h.ru (T := T14)) (fun _ _ => ⟨rfl, fun _ => ⟨rfl, fun _ => rfl⟩⟩) (by rw [esw]; exact hser) (by rw [esw]; exact ⟨x1, x2, x3⟩) (by rw [esw]; exact hS), fun h9 => by omega⟩
    · refine same 5 ?_ (by decide)
      rw [hA, hj9, if_neg (c := t < _) (by omega), if_neg (fun h9 => h9 rfl), if_pos (by omega)]
    · refine same 4 ?_ (by decide)
      rw [hA, hj9, if_pos (c := t < _) (by omega), if_pos (by decide)]
  | succ n ih =>
    intro j hj hno
    have hlt : j < (dSmp d).length := by omega
    have hlt2 : j < (smS d).length := by omega
    obtain ⟨k1, k2, k3⟩ := h.isSeen hlt
    obtain ⟨⟨a1, a2, a3⟩, a4, a5, a6, a7⟩ := hS.at hlt
    have eq9 := smS_getD (d := d) hlt
    have hown := hx.own hnd hS hlt
    have hmx := mxT_in (l := l) hbt j (by omega)
    have hl60 := lk60 j
    have etake : (smS d).take (j + 1) = (smS d).take j ++ [((dSmp d).getD j z4).1] := by rw [takeS (d := (0, 0, 0, 0)) hlt2, eq9]
    have hq9 := hbt _ (getD_mem' (v := ((0, 0, 0, 0) : Sm4)) hlt2)
    rw [eq9] at hq9
    have hmx1 := mxT_snoc l ((smS d).take j) ((dSmp d).getD j z4).1
    have hlk1 := likeN_app z ((smS d).take j) ((dSmp d).getD j z4).1
    rw [← etake] at hmx1 hlk1
    have esplit : smS d = (smS d).take j ++ ((dSmp d).getD j z4).1 :: (smS d).drop (j + 1) := by
      rw [← eq9, ← dropG (0, 0, 0, 0) hlt2, List.take_append_drop]
    have next : (∀ y ∈ (smS d).take (j + 1), own l y = true → qT y ≠ t) → ∀ M N : Int, M = mxT l ((smS d).take (j + 1)) → N = likeN z ((smS d).take (j + 1)) → V E M_X12_take 35 [some (rv m), some (iv z), some (iv o), some (iv w), some (iv t), some (iv v), some (iv sx), some (iv M), some (iv N), some (iv ((j : Int) + 1)), none] [] G c s Q X := fun hno2 M N eM eN => by
      rw [eM, eN]
      exact ih (j + 1) (by omega) hno2
    have x7 := h.1.1.gw 7 15
    have x8 := h.1.1.gw 8 15
    have x9 := h.1.1.gw 9 15
    have x3 := h.1.1.fx 3 15 12
    have h12 := h.sr6
    have no2 : (own l ((dSmp d).getD j z4).1 = true → qT ((dSmp d).getD j z4).1 ≠ t) → ∀ y ∈ (smS d).take (j + 1), own l y = true → qT y ≠ t := fun h9 y hy hoy => by
      rw [etake] at hy
      rcases List.mem_append.mp hy with h8 | h8
      · exact hno y h8 hoy
      · rw [List.mem_singleton.mp h8] at hoy ⊢
        exact h9 hoy
    refine b_X12_take_35 ⟨h.k13, fun h9 => by omega, fun _ => ⟨h.k13, k1, fun hz0 => ?_, fun hz0 => ?_⟩⟩
    · have hh := k2.mp hz0
      have hno1 : ¬ own l ((dSmp d).getD j z4).1 = true := fun h9 => hh (own_iff.mp h9).1
      have hnl : ¬ likeP z ((dSmp d).getD j z4).1 = true := fun h9 => hh (of_decide_eq_true h9).1
      rw [if_neg hno1] at hmx1
      rw [if_neg hnl] at hlk1
      exact ⟨i32s' (by omega), next (no2 (fun h9 => (hno1 h9).elim)) _ _ hmx1.symm (by omega)⟩
    · have hh : qH ((dSmp d).getD j z4).1 = 0 := Classical.byContradiction fun h9 => hz0 (k2.mpr h9)
      have hoi : own l ((dSmp d).getD j z4).1 = true ↔ gel G (gfd G 12 7 m) j = sx := by rw [own_iff, hown]; exact ⟨fun h9 => h9.2, fun h9 => ⟨hh, h9⟩⟩
      have h3z : gel G (gfd G 12 3 m) (gel G (gfd G 12 7 m) j) = z ↔ likeP z ((dSmp d).getD j z4).1 = true := by
        have hd := hser.2.2 (gel G (gfd G 12 7 m) j).toNat (by omega)
        rw [Int.toNat_of_nonneg a1, a3] at hd
        have := (dig3 hd.1.1 hd.1.2.1 hd.1.2.2).1
        rw [hd.2] at this
        rw [← this]
        exact ⟨fun h9 => decide_eq_true ⟨hh, h9⟩, fun h9 => (of_decide_eq_true h9).2⟩
      refine ⟨h.k13, x7.1, by omega, by omega, fun J162 hJ => ?_⟩
      have go : (own l ((dSmp d).getD j z4).1 = true → qT ((dSmp d).getD j z4).1 ≠ t) → J162 := fun hnt => hJ (by
        refine ⟨fun _ => h.k13, fun _ => x8.1, fun _ => by omega, fun _ => by omega, fun _ _ => h.k13, fun _ _ => x8.1, fun _ _ => by omega, fun _ _ => by omega, h.k13, h.k13, x7.1, by omega, by omega, x3.1, by omega, by omega, i32s' (by split <;> omega), i32s' (by omega), next (no2 hnt) _ _ ?_ ?_⟩
        · rw [hmx1, a4]
          by_cases hb : gel G (gfd G 12 7 m) j = sx
          · rw [if_pos (c := gel G (gfd G 12 7 m) j = sx) hb, if_neg (c := (1 : Int) = 0) (by decide), if_pos (hoi.mpr hb)]
          · rw [if_neg (c := gel G (gfd G 12 7 m) j = sx) hb, if_pos (c := (0 : Int) = 0) rfl, if_neg (fun h9 => hb (hoi.mp h9))]
        · by_cases hb : gel G (gfd G 12 3 m) (gel G (gfd G 12 7 m) j) = z
          · rw [if_pos hb]
            rw [if_pos (h3z.mp hb)] at hlk1
            omega
          · rw [if_neg hb]
            rw [if_neg (fun h9 => hb (h3z.mpr h9))] at hlk1
            omega)
      by_cases hb : gel G (gfd G 12 7 m) j = sx
      · have hso := hoi.mpr hb
        rw [if_pos (c := gel G (gfd G 12 7 m) j = sx) hb]
        refine ⟨fun h9 => absurd h9 (by decide), fun _ => ⟨h.k13, x8.1, by omega, by omega, fun htt => go (fun _ => by rw [← a4]; exact htt), fun htt => ⟨h.k13, x9.1, by omega, by omega, ?_⟩⟩⟩
        rw [a4] at htt
        have hj9 := jdg_hit (v := v) (B := (smS d).drop (j + 1)) hno hso htt
        rw [← esplit] at hj9
        have hA2 : tkA (dSer d) (smS d) l t v = jdg (smS d) l t v := by rw [hA, if_pos (by rw [hj9]; split <;> decide)]
        rw [a5]
        refine same _ ?_ (by split <;> decide)
        rw [hA2, hj9]
      · rw [if_neg (c := gel G (gfd G 12 7 m) j = sx) hb]
        exact ⟨fun _ => go (fun h9 => (hb (hoi.mp h9)).elim), fun h9 => absurd rfl h9⟩
theorem om_take (h : MH E G m d ml mr) (hi : DI d) (hz : 0 ≤ z ∧ z ≤ 6) (ho : 0 ≤ o ∧ o ≤ 6) (hw : 0 ≤ w ∧ w ≤ 6) (hlw : l = wCode z o w) (ht : 0 ≤ t ∧ t ≤ 100000) (hml : ml ≤ 10000000 ∧ mr ≤ 10000000) (hc : tMC d l t v ml mr ≤ c) (hs : tMS d l t v ml mr ≤ s) :
    Ok E M_X12_take [rv m, iv z, iv o, iv w, iv t, iv v] G c s (fun r G' => r = tkA (dSer d) (smS d) l t v ∧ tkF E G G' m (tkD d l t v) (tML d l t v ml) (tMR d l t v mr)) (fun _ _ => False) := by
  have hx := mFind_ix h.2.2.1 hz ho hw
  rw [← hlw] at hx
  have h12 := h.sr6
  refine i_X12_take ⟨h.k13, Call.pure (okp_find h.1.1 h.lb.1) ?_⟩
  have go : ¬ (l ∉ dSer d ∧ 12 ≤ (dSer d).length) → V E M_X12_take 35 [some (rv m), some (iv z), some (iv o), some (iv w), some (iv t), some (iv v), some (iv (mFind G m z o w)), some (iv (-1)), some (iv 0), some (iv 0), none] [] G c s (fun r G' => r = tkA (dSer d) (smS d) l t v ∧ tkF E G G' m (tkD d l t v) (tML d l t v ml) (tMR d l t v mr)) (fun _ _ => False) := fun hf =>
    v_mtake h hi hz ho hw hlw ht hml hx hf hc hs (fun r G' a b => ⟨a, b⟩) (dSmp d).length 0 (Nat.zero_add _) (fun y hy => (List.not_mem_nil hy).elim)
  refine ⟨fun h9 => go (fun h8 => ?_), fun h9 => ⟨h.k13, fun h8 => go (fun h7 => ?_), fun h8 => ?_⟩⟩
  · rcases hx with ⟨x1, x2⟩ | ⟨x1, x2, x3⟩
    · exact h9 x1
    · exact h8.1 (x3 ▸ getD_mem' (by omega))
  · omega
  · have hl : l ∉ dSer d := by
      rcases hx with ⟨x1, x2⟩ | ⟨x1, x2, x3⟩
      · exact x2
      · omega
    have hA : tkA (dSer d) (smS d) l t v = 1 := by unfold tkA; rw [if_pos ⟨hl, by omega⟩]
    have hne : ¬ tkO d l t v := fun h7 => by have h6 : tkA (dSer d) (smS d) l t v = 0 := h7; rw [hA] at h6; exact absurd h6 (by decide)
    have e1 : tkD d l t v = d := by unfold tkD; rw [if_neg hne]
    have e2 : tML d l t v ml = ml := by unfold tML; rw [if_neg hne]
    have e3 : tMR d l t v mr = mr := by unfold tMR; rw [if_neg hne]
    rw [e1, e2, e3]
    exact ⟨hA.symm, h, h.ru⟩
end Sa30
