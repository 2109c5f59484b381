/-! a rule of the model writes -/
section Sa65
variable {E : EE} {G G' G2 G0 : Gt} {c s : Nat} {Q X : Int → Gt → Prop} {m l v two t : Int} {k r n j : Nat} {d D : DS} {R : List (Int × Int)}
/-- the lengths of the model's rows: samples, records -/
abbrev Mz : Type := Int × Int
def tZ (d : DS) (l t v : Int) (z : Mz) : Mz := (tML d l t v z.1, tMR d l t v z.2)
def nZ (two : Int) : DS → Mz → List (Int × Int) → Mz
  | _, z, [] => z
  | d, z, y :: R => nZ two (note1 two d y) (tZ d (noL two y.1) (dN d 0) (noV y.2) z) R
def nZC (two : Int) : DS → Mz → List (Int × Int) → Nat
  | _, _, [] => 0
  | d, z, y :: R => tMC d (noL two y.1) (dN d 0) (noV y.2) z.1 z.2 + nZC two (note1 two d y) (tZ d (noL two y.1) (dN d 0) (noV y.2) z) R
def nZS (two : Int) : DS → Mz → List (Int × Int) → Nat
  | _, _, [] => 0
  | d, z, y :: R => tMS d (noL two y.1) (dN d 0) (noV y.2) z.1 z.2 + nZS two (note1 two d y) (tZ d (noL two y.1) (dN d 0) (noV y.2) z) R
def ZB (z : Mz) : Prop := (40000 ≤ z.1 ∧ z.1 ≤ 2000000) ∧ 40000 ≤ z.2 ∧ z.2 ≤ 2000000
/-- no more samples than were written -/
def SL (d : DS) : Prop := ((dSmp d).length : Int) ≤ dN d 5
theorem ZB.take {z : Mz} (h : ZB z) (hS : (dSmp d).length ≤ 1000000) (hR : (dRec d).length ≤ 1000000) : ZB (tZ d l t v z) := by
  unfold ZB tZ tML tMR mlN at *
  repeat' split
  all_goals omega
theorem SL.take (h : SL d) : SL (tkD d l t v) := by
  unfold tkD
  split
  · show ((dSmp d ++ [_]).length : Int) ≤ dN d 5 + 1
    rw [List.length_append]
    have : ((dSmp d).length : Int) ≤ dN d 5 := h
    show (((dSmp d).length + 1 : Nat) : Int) ≤ _
    omega
  · exact h
theorem noV_eq (v : Int) : (if (Int.tdiv v 1000) ≤ 1000000 then ((if (-1000000) ≤ (Int.tdiv v 1000) then ((Int.tdiv v 1000) : Int) else (-1000000)) : Int) else 1000000) = noV v := by
  unfold noV
  generalize Int.tdiv v 1000 = u
  split
  · split <;> omega
  · omega
theorem noL_w (h : cOk l) : (0 ≤ Int.tdiv l 100 ∧ Int.tdiv l 100 ≤ 6) ∧ (0 ≤ Int.tmod (Int.tdiv l 10) 10 ∧ Int.tmod (Int.tdiv l 10) 10 ≤ 6) ∧ noL two l = wCode (Int.tdiv l 100) (Int.tmod (Int.tdiv l 10) 10) two := by
  obtain ⟨h0, h1, h3, h4⟩ := h
  have e0 : Int.tdiv l 10 = l / 10 := Int.tdiv_eq_ediv_of_nonneg h0
  have e1 : Int.tdiv l 100 = l / 100 := Int.tdiv_eq_ediv_of_nonneg h0
  unfold noL wCode
  rw [e0] at h3 ⊢
  rw [Int.tmod_eq_emod_of_nonneg (by omega)] at h3 ⊢
  rw [e1]
  omega
theorem v_notes (hr : r < (dRl d).length) (h8 : (dRl d).length ≤ 8) (h2 : 0 ≤ two ∧ two ≤ 5) (hq : gel G0 (gfd G0 12 25 m) r = two) (hF : Ft G0 m v R) (hV : RV v R) {zD : Mz} (hQ : ∀ G', MH E G' m D zD.1 zD.2 → MU E G0 G' m T14 → Q 0 G') :
    ∀ (j k : Nat) (G : Gt) (d1 : DS) (z1 : Mz) (c s : Nat), k + j = R.length → MH E G m d1 z1.1 z1.2 → MU E G0 G m T14 → DI d1 → ZB z1 → SL d1 → dN d1 5 + j ≤ 1000000 → (dRec d1).length + j ≤ 1000000 → noteD two d1 (R.drop k) = D → nZ two d1 z1 (R.drop k) = zD → nZC two d1 z1 (R.drop k) ≤ c → nZS two d1 z1 (R.drop k) ≤ s →
    V E M_X12_notes 9 [some (rv m), some (iv (r : Int)), some (iv (R.length : Int)), some (iv (k : Int)), none, none, none] [] G c s Q X := by
  have h12 := hV.1
  intro j
  induction j with
  | zero =>
    intro k G d1 z1 c s hk hm hU hi hz hS h5 hR hD hzD hc hs
    rw [List.drop_eq_nil_of_le (by omega)] at hD hzD
    have e1 : d1 = D := hD
    have e2 : z1 = zD := hzD
    exact b_X12_notes_9 ⟨fun _ => hQ G (by rw [← e1, ← e2]; exact hm) hU, fun h9 => by omega⟩
  | succ j ih =>
    intro k G d1 z1 c s hk hm hU hi hz hS h5 hR hD hzD hc hs
    have hlt : k < R.length := by omega
    have hFG := hF.mt hU.2.2.2.2.2 ⟨by unfold T14; omega, by unfold T14; omega, by unfold T14; omega, by unfold T14; omega⟩
    have hlab := hV.lab hlt
    rw [← hFG.1, ← (hFG.2.2 k hlt).1] at hlab
    have v32 := (hFG.2.2 k hlt).2
    have v31 := (hFG.2.2 k hlt).1
    have v25 : gel G (gfd G 12 25 m) r = two := by rw [hU.2.2.2.2.2.e 25 (by unfold T14; omega)]; exact hq
    have v1 : gfd G 12 1 m = dN d1 0 := hm.2.1.1
    have hg := hm.k13
    have x32 := hm.1.1.fx 32 16 120
    have x29 := hm.1.1.fx 29 17 10
    have x31 := hm.1.1.fx 31 15 120
    have x25 := hm.1.1.fx 25 15 8
    rw [dropG (0, 0) hlt] at hD hzD hc hs
    have hcy := (hV.2.2.1 _ (getD_mem' (v := ((0 : Int), (0 : Int))) hlt)).1
    refine b_X12_notes_9 ⟨fun h9 => by omega, fun _ => ?_⟩
    rw [hlab, v31, v32, v25, v1, noV_eq]
    generalize R.getD k (0, 0) = y at hD hzD hc hs hcy
    obtain ⟨b1, b2, b3⟩ := noL_w (two := two) hcy
    have hnv := noV_in y.2
    have hnow := hi.2.2.1
    have hc' : tMC d1 (noL two y.1) (dN d1 0) (noV y.2) z1.1 z1.2 + nZC two (note1 two d1 y) (tZ d1 (noL two y.1) (dN d1 0) (noV y.2) z1) (R.drop (k + 1)) ≤ c := hc
    have hs' : tMS d1 (noL two y.1) (dN d1 0) (noV y.2) z1.1 z1.2 + nZS two (note1 two d1 y) (tZ d1 (noL two y.1) (dN d1 0) (noV y.2) z1) (R.drop (k + 1)) ≤ s := hs
    have hz1 := hz.1
    have hz2 := hz.2
    have hS9 : ((dSmp d1).length : Int) ≤ dN d1 5 := hS
    have t5 := tkD_5 (d := d1) (l := noL two y.1) (t := dN d1 0) (v := noV y.2)
    refine ⟨hg, x32.1, by omega, by omega, hg, x29.1, by omega, fun _ => hg, fun _ => x31.1, fun _ => by omega, fun _ => by omega, hg, x25.1, by omega, by omega, hg, i32s' (by omega), hg, Call.to (mc' := tMC d1 (noL two y.1) (dN d1 0) (noV y.2) z1.1 z1.2) (ms' := tMS d1 (noL two y.1) (dN d1 0) (noV y.2) z1.1 z1.2) (om_take hm hi b1 b2 (by omega) b3 hnow ⟨by omega, by omega⟩ (Nat.le_refl _) (Nat.le_refl _)) (by omega) (by omega) fun _ G24 ⟨_, hm24, kU⟩ => ⟨i32s' (by omega), ?_⟩⟩
    exact ih (k + 1) G24 (note1 two d1 y) (tZ d1 (noL two y.1) (dN d1 0) (noV y.2) z1) _ _ (by omega) hm24 (hU.trans kU) (hi.take (noL_ok hcy h2) hnow (Or.inr hnv) ⟨by omega, by omega⟩) (hz.take (by omega) (by omega)) hS.take (by show dN (tkD _ _ _ _) 5 + _ ≤ _; omega) (by show (dRec (tkD _ _ _ _)).length + _ ≤ _; omega) hD hzD (by omega) (by omega)
theorem om_notes {z : Mz} {v : Int} (h : MH E G m d z.1 z.2) (hi : DI d) (hr : r < (dRl d).length) (hal : (ruD d r).1.1 = two) (h2 : 0 ≤ two ∧ two ≤ 5) (hF : Ft G m v R) (hV : RV v R) (hz : ZB z) (hS : SL d) (h5 : dN d 5 + 12 ≤ 1000000) (hR : (dRec d).length + 12 ≤ 1000000) (hc : nZC two d z R ≤ c) (hs : nZS two d z R ≤ s) :
    Ok E M_X12_notes [rv m, iv (r : Int)] G c s (fun _ G' => MH E G' m (noteD two d R) (nZ two d z R).1 (nZ two d z R).2 ∧ MU E G G' m T14) (fun _ _ => False) := by
  have x30 := h.1.1.fx 30 15 10
  have h8 := h.rl.2
  have h12 := hV.1
  have hrl := h.2.2.2.2.2.2.2.2.1.2.2.1 r hr
  rw [rz_at hr] at hrl
  have w25 : gel G (gfd G 12 25 m) (r : Int) = (ruD d r).1.1 := hrl.2.1 (by show (ruD d r).1.1 ≠ -1; omega)
  refine i_X12_notes ⟨h.k13, x30.1, by omega, ?_⟩
  rw [hF.2.1]
  exact v_notes (D := noteD two d R) (zD := nZ two d z R) hr h8 h2 (w25.trans hal) hF hV (fun G' a b => ⟨a, b⟩) R.length 0 G d z c s (Nat.zero_add _) h h.ru hi hz hS (by omega) (by omega) (by rw [List.drop_zero]) (by rw [List.drop_zero]) (by rw [List.drop_zero]; exact hc) (by rw [List.drop_zero]; exact hs)
end Sa65
