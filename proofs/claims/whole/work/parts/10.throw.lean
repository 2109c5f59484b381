def nmX : List String := ["java/lang/RuntimeException", "java/lang/Exception"]
def icX (ex : Int) : Nat := if ex = 1 then 93 else if ex = 2 then 143 else 166
def ikX (ex : Int) : Nat := if ex = 1 then 89 else if ex = 2 then 139 else 162
def atX (ex : Int) : List Cond := vx_atS "Ticksilo" (icX ex) (exN ex) nmX
theorem thG1 : ∀ w ∈ (atX 1).filter goodWord, w ∈ WS := by
  have h : ∀ w ∈ (atX 1).filter goodWord, w ∈ lw_tbl := by decide +kernel
  exact fun w hw => List.mem_filter.mpr ⟨h w hw, (List.mem_filter.mp hw).2⟩
theorem thG2 : ∀ w ∈ (atX 2).filter goodWord, w ∈ WS := by
  have h : ∀ w ∈ (atX 2).filter goodWord, w ∈ lw_tbl := by decide +kernel
  exact fun w hw => List.mem_filter.mpr ⟨h w hw, (List.mem_filter.mp hw).2⟩
theorem thG3 : ∀ w ∈ (atX 3).filter goodWord, w ∈ WS := by
  have h : ∀ w ∈ (atX 3).filter goodWord, w ∈ lw_tbl := by decide +kernel
  exact fun w hw => List.mem_filter.mpr ⟨h w hw, (List.mem_filter.mp hw).2⟩
theorem thN1 : ∀ w ∈ (atX 1).filter (fun w => !goodWord w), w ∈ lw_tbl ∧ isNs w = true := by decide +kernel
theorem thN2 : ∀ w ∈ (atX 2).filter (fun w => !goodWord w), w ∈ lw_tbl ∧ isNs w = true := by decide +kernel
theorem thN3 : ∀ w ∈ (atX 3).filter (fun w => !goodWord w), w ∈ lw_tbl ∧ isNs w = true := by decide +kernel
theorem thO1 : ∀ w ∈ Cond.classLink "Ticksilo" 89 (exN 1) :: Cond.initialized (exN 1) :: atX 1, vx_ot w = true := by decide +kernel
theorem thO2 : ∀ w ∈ Cond.classLink "Ticksilo" 139 (exN 2) :: Cond.initialized (exN 2) :: atX 2, vx_ot w = true := by decide +kernel
theorem thO3 : ∀ w ∈ Cond.classLink "Ticksilo" 162 (exN 3) :: Cond.initialized (exN 3) :: atX 3, vx_ot w = true := by decide +kernel

theorem thK1 : Cond.classLink "Ticksilo" 89 (exN 1) ∈ WS := wsm 485 (by decide +kernel)
theorem thI1 : Cond.initialized (exN 1) ∈ WS := wsm 80 (by decide +kernel)
theorem thK2 : Cond.classLink "Ticksilo" 139 (exN 2) ∈ WS := wsm 970 (by decide +kernel)
theorem thI2 : Cond.initialized (exN 2) ∈ WS := wsm 94 (by decide +kernel)
theorem thK3 : Cond.classLink "Ticksilo" 162 (exN 3) ∈ WS := wsm 925 (by decide +kernel)
theorem thI3 : Cond.initialized (exN 3) ∈ WS := wsm 85 (by decide +kernel)
section VT
variable {E : EE} {M : MD} {pc : Nat} {ls : List (Option SV)} {stk : List SV} {G : Gt} {bc bs : Nat} {Q X : Int → Gt → Prop}
def exOk (ex : Int) : Prop := ex = 1 ∨ ex = 2 ∨ ex = 3
theorem thAll {ex : Int} (h : exOk ex) {s : State} {args : Array Value} (hts : ∀ w ∈ WS, w.before args s = true) (hns : ∀ w ∈ NS, va_Nw w s) :
    Bundle.fit (exN ex) = true ∧ (Cond.classLink "Ticksilo" (ikX ex) (exN ex)).before args s = true ∧ (Cond.initialized (exN ex)).before args s = true ∧ (∀ w ∈ vx_atS "Ticksilo" (icX ex) (exN ex) nmX, w.before args s = true) ∧
    (∀ w ∈ Cond.classLink "Ticksilo" (ikX ex) (exN ex) :: Cond.initialized (exN ex) :: vx_atS "Ticksilo" (icX ex) (exN ex) nmX, vx_ot w = true) := by
  have use : ∀ {w : Cond}, w ∈ lw_tbl ∧ isNs w = true → w.before args s = true := fun {w} h => by
    have hw := hns w (List.mem_filter.mpr h)
    have ho : w.onTables = true := by
      have hg := h.2
      cases w <;> first | rfl | cases hg
    exact va_Nw.use ho hw
  rcases h with rfl | rfl | rfl
  · exact ⟨by decide +kernel, hts _ thK1, hts _ thI1, fun w hw => by
      by_cases g : goodWord w = true
      · exact hts _ (thG1 w (List.mem_filter.mpr ⟨hw, g⟩))
      · exact use (thN1 w (List.mem_filter.mpr ⟨hw, by simp [g]⟩)), thO1⟩
  · exact ⟨by decide +kernel, hts _ thK2, hts _ thI2, fun w hw => by
      by_cases g : goodWord w = true
      · exact hts _ (thG2 w (List.mem_filter.mpr ⟨hw, g⟩))
      · exact use (thN2 w (List.mem_filter.mpr ⟨hw, by simp [g]⟩)), thO2⟩
  · exact ⟨by decide +kernel, hts _ thK3, hts _ thI3, fun w hw => by
      by_cases g : goodWord w = true
      · exact hts _ (thG3 w (List.mem_filter.mpr ⟨hw, g⟩))
      · exact use (thN3 w (List.mem_filter.mpr ⟨hw, by simp [g]⟩)), thO3⟩
theorem fitN : ∀ n ∈ nmX, Bundle.fit n = true := by decide +kernel
theorem RG.grow {H H1 : Heap} (h : RG E G H) (hq : ∀ q : Nat, q < H.size → H1[q]? = H[q]?) (hb : eb E ≤ H.size) : RG E G H1 := by
  obtain ⟨hw, ⟨L, hL, hP, hD⟩, ho⟩ := h
  refine ⟨hw, ⟨L, hL, fun k q hk => ?_, hD⟩, fun q h1 h2 => ?_⟩
  · have := hP k q hk
    exact this.kept (hq _ this.lt)
  · have := ho q h1 h2
    exact this.same (hq _ (Nat.lt_of_lt_of_le h1 hb)) rfl rfl (fun _ => rfl)
theorem v_throw {is : Nat} {text : String} (ex : Int) (hown : mo M = "Ticksilo") (hex : exOk ex) (ht : ("Ticksilo", is, text) ∈ txts) (hh : mh M = []) (hfr : 6 ≤ mfr M) (hlo : 100 ≤ mlo M) (hsc : scat stk ≤ 8)
    (d0 : decode (mb M) pc = .ok (.new (ikX ex), 3)) (d3 : decode (mb M) (pc + 3) = .ok (.dup, 1)) (d4 : decode (mb M) (pc + 4) = .ok (.ldc is, 2)) (d6 : decode (mb M) (pc + 6) = .ok (.invokespecial (icX ex), 3)) (d9 : decode (mb M) (pc + 9) = .ok (.athrow, 1)) (h1 : 1 ≤ bc) (h2 : 6 ≤ bs) (hx : X ex G) : V E M pc ls stk G bc bs Q X := by
  intro p e s m args below meth c0 R mc ms H locs cells slots lsA F B P O hl
  have hS := F.2.2.2.2.2.2.2.2.2.2.2.2.1
  obtain ⟨f1, f2, f3, f4, f5⟩ := thAll hex F.2.2.2.2.1 hS.2.2.2.2.2.2.2
  obtain ⟨sa, hsa⟩ := hS.2.2.2.2.1 _ ht
  have hown' : s.vm.findClass "Ticksilo" = some m.cls := by rw [← hown]; exact F.2.2.2.1
  have hr1 : mfr M ≤ R.frames := F.2.2.2.2.2.2.2.2.2.1
  have hr2 : mlo M ≤ R.locals := F.2.2.2.2.2.2.2.2.2.2.1
  refine vx_throwS (names := nmX) F.1 F.2.1 F.2.2.2.2.2.2.2.2.2.2.2.2.2 hown' f1 fitN f2 f3 hsa f4 f5 hS.2.2.1 hS.2.2.2.1 P.2.2 (hl.1.trans F.2.2.1.symm) d0 d3 d4 d6 d9 (by rw [F.2.2.2.2.2.2.2.2.1, hh]; intro x hx; cases hx) (by show 2 + 3 < R.frames; omega) (by rw [scat_eq]; show scat stk + (13 * (2 + 1) + 43) ≤ _; omega) (by omega) (by omega) F.2.2.2.2.2.2.2.1 (fun t hvm hz hq => ⟨ex, G, rfl, hx, P.2.1.grow hq (Nat.le_trans P.1 P.2.2.1), ?_⟩) P.2.2.2.2 (by omega) (by omega)
  refine ⟨Nat.le_trans P.2.2.1 hz, fun q h1 h2 => ?_⟩
  rw [hq q (Nat.lt_of_lt_of_le h1 P.2.2.1)]
  exact P.2.2.2.1 q h1 h2
theorem v_throwW {is : Nat} {text : String} (ex : Int) (hown : mo M = "Ticksilo") (hex : exOk ex) (ht : ("Ticksilo", is, text) ∈ txts) (hh : mh M = []) (hfr : 6 ≤ mfr M) (hlo : 100 ≤ mlo M) (hsc : scat stk ≤ 8)
    (d0 : decode (mb M) pc = .ok (.new (ikX ex), 3)) (d3 : decode (mb M) (pc + 3) = .ok (.dup, 1)) (d4 : decode (mb M) (pc + 4) = .ok (.ldc_w is, 3)) (d6 : decode (mb M) (pc + 7) = .ok (.invokespecial (icX ex), 3)) (d9 : decode (mb M) (pc + 10) = .ok (.athrow, 1)) (h1 : 1 ≤ bc) (h2 : 6 ≤ bs) (hx : X ex G) : V E M pc ls stk G bc bs Q X := by
  intro p e s m args below meth c0 R mc ms H locs cells slots lsA F B P O hl
  have hS := F.2.2.2.2.2.2.2.2.2.2.2.2.1
  obtain ⟨f1, f2, f3, f4, f5⟩ := thAll hex F.2.2.2.2.1 hS.2.2.2.2.2.2.2
  obtain ⟨sa, hsa⟩ := hS.2.2.2.2.1 _ ht
  have hown' : s.vm.findClass "Ticksilo" = some m.cls := by rw [← hown]; exact F.2.2.2.1
  have hr1 : mfr M ≤ R.frames := F.2.2.2.2.2.2.2.2.2.1
  have hr2 : mlo M ≤ R.locals := F.2.2.2.2.2.2.2.2.2.2.1
  refine vx_throwSW (names := nmX) F.1 F.2.1 F.2.2.2.2.2.2.2.2.2.2.2.2.2 hown' f1 fitN f2 f3 hsa f4 f5 hS.2.2.1 hS.2.2.2.1 P.2.2 (hl.1.trans F.2.2.1.symm) d0 d3 d4 d6 d9 (by rw [F.2.2.2.2.2.2.2.2.1, hh]; intro x hx; cases hx) (by show 2 + 3 < R.frames; omega) (by rw [scat_eq]; show scat stk + (13 * (2 + 1) + 43) ≤ _; omega) (by omega) (by omega) F.2.2.2.2.2.2.2.1 (fun t hvm hz hq => ⟨ex, G, rfl, hx, P.2.1.grow hq (Nat.le_trans P.1 P.2.2.1), ?_⟩) P.2.2.2.2 (by omega) (by omega)
  refine ⟨Nat.le_trans P.2.2.1 hz, fun q h1 h2 => ?_⟩
  rw [hq q (Nat.lt_of_lt_of_le h1 P.2.2.1)]
  exact P.2.2.2.1 q h1 h2
end VT
