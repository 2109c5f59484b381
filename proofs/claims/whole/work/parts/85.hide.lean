/-! erase, crash, mend, flush -/
section S85
variable {E : EE} {G G' G2 : Gt} {c s : Nat} {Q X : Int → Gt → Prop} {a x i j k l u t v z o w m : Int} {d d' d2 : DS}
def slT (q : Int × Int × Int) (c : Int) : Bool := decide (slV q.1 q.2.1 q.2.2 c ≠ 0)
def selD (d : DS) (i : Int) : Int × Int × Int := (dSel d).getD i.toNat s0
def hideD (d : DS) (q : Int × Int × Int) (u t : Int) : DS :=
  stD d (fun j => if j = 2 then dN d 2 + 1 else if j = 6 then recN d else dN d j) (dSer d) ((dSmp d).map fun p => (hides (dN d 2 + 1) (inP (slT q) u t) p.1, p.2)) ((dN d 2 + 1) :: dRec d) (dBk d)
def cErase (d : DS) (i u t : Int) : Sp :=
  if 0 ≤ i ∧ i < 4 then (if (0 ≤ u ∧ u ≤ 100000) ∧ (u ≤ t ∧ t ≤ 100000) then yes ((smS d).countP fun p => decide (qH p = 0) && inP (slT (selD d i)) u t p : Nat) (hideD d (selD d i) u t) else no 1 d) else no 3 d
theorem CH.sel (h : CH E G x d) (hi : DI d) (h0 : 0 ≤ i ∧ i < 4) : SlH G ((lst G (gfd G 11 5 x)).getD i.toNat 0) (selD d i) := by
  obtain ⟨hx, hL, -, -, -, -, -, -, -, hS, -⟩ := h
  have h4 := hi.2.2.2.2.2.1.1
  exact hS.2.2.2 i.toNat (by omega)
theorem selP_slT {q : Int × Int × Int} (h : SlH G a q) : selP G a = slT q := by
  funext c
  unfold selP slT slS
  rw [h.2.1, h.2.2.1, h.2.2.2]
theorem CH.cls (h : CH E G x d) : gcl G (gfd G 11 0 x) = 9 ∧ ∀ b ∈ numL G (gfd G 11 0 x), gcl G b = 8 ∧ BSh G b := by
  obtain ⟨zs, hS⟩ := h.2.2.2.1
  exact ⟨hS.1, fun b hb => ⟨(hS.2.2.2.2.1 b hb).1, (hS.2.2.2.2.1 b hb).2.2.2.2.1⟩⟩
theorem ok_hideD {q : Int × Int × Int} (h : CH E G x d) (hi : DI d) (hq : SlH G a q) (hut : u ≤ t) (h0 : 0 ≤ u ∧ t ≤ 100000) (hc : 1 + recC d ≤ c) (hs : 2 + recS d ≤ s) : Ok E M_X8_hide [rv (gfd G 11 0 x), rv a, iv u, iv t] G c s (fun r G' => r = ((smS d).countP fun p => decide (qH p = 0) && inP (slT q) u t p : Nat) ∧ CF E G G' x (hideD d q u t)) (fun _ _ => False) := by
  obtain ⟨zs, hS⟩ := h.2.2.2.1
  obtain ⟨e1, e2, e3⟩ := h.recs
  obtain ⟨h9, h8⟩ := h.cls
  refine (ok_hide h.2.1 h.2.2.1 hS hi.1 hq.1 hut h0 rfl hi.2.2.2.2.1 hi.2.2.2.2.2.2.2.2.2.2.2.2.1.2.2 (by rw [e1]; exact hc) (by rw [e2]; exact hs)).mono (fun r G1 ⟨f1, f2⟩ => ?_) (fun _ _ h9 => h9)
  rw [selP_slT hq] at f1
  refine ⟨f1, ?_⟩
  obtain ⟨hL', hO', hF, hn, hs'⟩ := f2
  rw [selP_slT hq, e3] at hs'
  refine h.store hL' hO' (hF.mono (fun c j y hw => Or.inr (Or.inl hw.1)) (fun y hy => ?_) (fun y hy => hy.elim)) ⟨rfl, rfl, rfl⟩ hs' (h.2.2.2.2.1.fr hS hF (fun j y hw => absurd hw.1 (by decide)) hn (fun b hb => ⟨fun h7 => h7, fun h7 => h7⟩))
  rcases hy with h7 | ⟨b, hb, h7⟩
  · exact ⟨_, Or.inl ⟨h9, Or.inr h7⟩⟩
  · exact ⟨b, Or.inr ⟨(h8 b hb).1, h7⟩⟩
theorem ok_erase (h : CH E G x d) (hi : DI d) (hc : 1 + recC d ≤ c) (hs : 6 + recS d ≤ s) : Ok E M_X11_erase [rv x, iv i, iv u, iv t] G c s (RQ E G x (cErase d i u t)) (RX G (cErase d i u t)) := by
  refine i_X11_erase ⟨h.1, ?_⟩
  by_cases hr : 0 ≤ i ∧ i < 4
  · refine Call.to (mc' := 0) (ms' := 0) (ok_selectorOf (Q := fun r G1 => r = (lst G (gfd G 11 5 x)).getD i.toNat 0 ∧ G1 = G) h hi (fun _ => ⟨rfl, rfl⟩) (fun h8 => absurd hr h8)) (Nat.zero_le _) (Nat.zero_le _) fun r G1 ⟨e1, e2⟩ => ?_
    rw [e1, e2]
    have hq := h.sel hi hr
    have hno : ¬ ((0 ≤ u ∧ u ≤ 100000) ∧ (u ≤ t ∧ t ≤ 100000)) → 1 ≤ c - 0 ∧ 6 ≤ s - 0 ∧ RX G (cErase d i u t) 1 G := fun h9 => ⟨by omega, by omega, by rw [cErase, if_pos hr, if_neg h9]; exact RX.n⟩
    refine ⟨okp_isWithin, fun h1 => hno fun h9 => wIn0.mp h1 h9.1, fun h1 => ⟨okp_isWithin, fun h2 => ?_, fun h2 => hno fun h9 => wIn0.mp h2 h9.2⟩⟩
    have h1' := wInY h1
    have h2' := wInY h2
    refine ⟨h.1, h.cls.1, Call.to (ok_hideD h hi hq h2'.1 ⟨h1'.1, h2'.2⟩ (Nat.le_refl _) (Nat.le_refl _)) (by omega) (by omega) fun r G1 ⟨f1, f2⟩ => ?_⟩
    rw [f1, cErase, if_pos hr, if_pos ⟨h1', h2'⟩]
    exact RQ.y f2
  · refine Call.of (mc' := 1) (ms' := 6) (Q' := fun _ _ => False) (X' := fun e G1 => e = 3 ∧ G1 = G) (ok_selectorOf h hi (fun h8 => absurd h8 hr) (fun _ => ⟨Nat.le_refl _, Nat.le_refl _, rfl, rfl⟩)) (by omega) (by omega) (fun e G1 ⟨e1, e2⟩ => ?_) (fun _ _ h8 => h8.elim)
    rw [e1, e2, cErase, if_neg hr]
    exact RX.n
theorem DI.hide {q : Int × Int × Int} (hi : DI d) (hb : (dRec d).length < 1000000) : DI (hideD d q u t) := by
  have hi5 := hi.2.2.2.2.2.2.2.2.2.2.2.2
  have h2 := hi.2.2.2.2.1
  refine hi.store ?_ ⟨rfl, rfl, rfl⟩ hi.2.1 (by show 0 ≤ dN d 2 + 1; omega) ⟨hi5.1.1, hi5.1.2.1, by rw [List.length_cons]; omega⟩ hi5.2
  have := hi.1.erase (P := inP (slT q) u t) h2 rfl
  rw [List.map_map] at this ⊢
  exact this
/-- the crash -/
def crashD (d : DS) (m : Int) : DS := stD d (dN d) (dSer d) (crS m.toNat (dRec d) (dSmp d)).2 (crS m.toNat (dRec d) (dSmp d)).1 (dBk d)
def cCrash (d : DS) (m : Int) : Sp := if 0 ≤ m ∧ m ≤ 1000 then yes (crS m.toNat (dRec d) (dSmp d)).1.length (crashD d m) else no 1 d
theorem sum_le {α : Type} {f : α → Nat} {k : Nat} : ∀ {L : List α}, (∀ y ∈ L, f y ≤ k) → (L.map f).sum ≤ k * L.length
  | [], _ => Nat.zero_le _
  | y :: L, h => by
    have h1 := h y List.mem_cons_self
    have h2 := sum_le (L := L) (fun z hz => h z (List.mem_cons_of_mem _ hz))
    rw [List.map_cons, List.sum_cons, List.length_cons, Nat.mul_add, Nat.mul_one]
    omega
theorem CH.pc (h : CH E G x d) (hi : DI d) : PC G (gfd G 11 0 x) ≤ 72 ∧ PS G (gfd G 11 0 x) ≤ 2424 := by
  obtain ⟨-, -, hl, -, -, h12⟩ := h.num hi
  have h1 : PC G (gfd G 11 0 x) ≤ 6 * (numL G (gfd G 11 0 x)).length := sum_le fun y _ => by unfold glC; split <;> (try split) <;> (try split) <;> (try split) <;> (try split) <;> (try split) <;> omega
  have h2 : PS G (gfd G 11 0 x) ≤ 202 * (numL G (gfd G 11 0 x)).length := sum_le fun y _ => by unfold glS; split <;> (try split) <;> (try split) <;> (try split) <;> (try split) <;> (try split) <;> omega
  omega
theorem ok_crash (h : CH E G x d) (hi : DI d) (hc : 72 ≤ c) (hs : 2424 ≤ s) : Ok E M_X11_crash [rv x, iv m] G c s (RQ E G x (cCrash d m)) (RX G (cCrash d m)) := by
  obtain ⟨h9, h8⟩ := h.cls
  have hp := h.pc hi
  refine i_X11_crash ⟨okp_isWithin, fun h1 => ?_, fun h1 => ⟨by omega, by omega, ?_⟩⟩
  · have h1' := wInY h1
    obtain ⟨zs, hS⟩ := h.2.2.2.1
    refine ⟨h.1, h9, Call.to (ok_tearOff h.2.1 h.2.2.1 hS h1' hi.1 hi.2.2.2.2.2.2.2.2.2.2.2.2.1.2.2) (by omega) (by omega) fun r G1 ⟨f1, hL', hO', hF, hn, hs'⟩ => ?_⟩
    rw [f1, cCrash, if_pos h1']
    refine RQ.y (h.store hL' (hO'.owg h.2.2.1) (hF.mono (fun c j y hw => Or.inr (Or.inl hw.1)) (fun y hy => ?_) (fun y hy => hy.elim)) ⟨rfl, rfl, rfl⟩ hs' (h.2.2.2.2.1.fr hS hF (fun j y hw => absurd hw.1 (by decide)) hn (fun b hb => ⟨fun h7 => h7, fun h7 => h7⟩)))
    rcases hy with h7 | ⟨b, hb, h7⟩
    · exact ⟨_, Or.inl ⟨h9, Or.inr h7⟩⟩
    · exact ⟨b, Or.inr ⟨(h8 b hb).1, h7⟩⟩
  · rw [cCrash, if_neg (wIn0.mp h1)]
    exact RX.n
theorem DI.crash (hi : DI d) : DI (crashD d m) := by
  have hi5 := hi.2.2.2.2.2.2.2.2.2.2.2.2
  have hc := hi.1.crash (er := dN d 2) m.toNat (dRec d) (dSmp d)
  exact hi.store hc.1 ⟨rfl, rfl, rfl⟩ hi.2.1 hi.2.2.2.2.1 ⟨hi5.1.1, hi5.1.2.1, by have := hc.2.1; omega⟩ hi5.2
/-- the copying -/
def mendD (d : DS) (m : Int) : DS := stD d (dN d) (dSer d) (mnd m.toNat (dSmp d)).1 (dRec d) (dBk d)
def cMend (d : DS) (m : Int) : Sp := if 1 ≤ m ∧ m ≤ 1000 then yes (mnd m.toNat (dSmp d)).2 (mendD d m) else no 1 d
theorem ok_mend (h : CH E G x d) (hi : DI d) (hc : 1 ≤ c) (hs : 6 ≤ s) : Ok E M_X11_mend [rv x, iv m] G c s (RQ E G x (cMend d m)) (RX G (cMend d m)) := by
  obtain ⟨h9, h8⟩ := h.cls
  refine i_X11_mend ⟨okp_isWithin, fun h1 => ?_, fun h1 => ⟨hc, hs, ?_⟩⟩
  · have h1' := wInY h1
    obtain ⟨zs, hS⟩ := h.2.2.2.1
    refine ⟨h.1, h9, Call.to (ok_copyFirst h1' h.2.1 h.2.2.1 hS hi.1) (Nat.zero_le _) (Nat.zero_le _) fun r G1 ⟨f1, hL', hO', hF, hs'⟩ => ?_⟩
    rw [f1, cMend, if_pos h1']
    have h14 := hS.2.1
    have hn : numL G1 (gfd G 11 0 x) = numL G (gfd G 11 0 x) := by
      unfold numL
      rw [hF.2.1 8 0 _ (by decide) (by omega) (fun hw => absurd hw.1 (by decide)), ((hF.2.2.1 _ h14.1 h14.2).2 (fun h7 => h7)).1]
    exact RQ.y (h.store hL' hO' (hF.mono (fun c j y hw => Or.inr (Or.inl hw.1)) (fun y hy => hy.elim) (fun y hy => hy.elim)) ⟨rfl, rfl, rfl⟩ hs' (h.2.2.2.2.1.fr hS hF (fun j y hw => absurd hw.1 (by decide)) hn (fun b hb => ⟨fun h7 => h7, fun h7 => h7⟩)))
  · rw [cMend, if_neg (wIn0.mp h1)]
    exact RX.n
theorem DI.mend (hi : DI d) : DI (mendD d m) := by
  have hi5 := hi.2.2.2.2.2.2.2.2.2.2.2.2
  exact hi.store (by rw [mnd_fst]; exact hi.1) ⟨rfl, rfl, rfl⟩ hi.2.1 hi.2.2.2.2.1 hi5.1 hi5.2
/-- the flush -/
def flushD (d : DS) : DS := stD d (dN d) (dSer d) ((dSmp d).filter (kept (dN d 0 - dN d 1))) [] (fun c => pack (seeT c (((dSmp d).filter (kept (dN d 0 - dN d 1))).map (·.1))))
def cFlush (d : DS) : Sp := yes (((dSer d).map fun c => (pack (seeT c (((dSmp d).filter (kept (dN d 0 - dN d 1))).map (·.1)))).length).sum : Nat) (flushD d)
theorem ok_flush (h : CH E G x d) (hi : DI d) : Ok E M_X11_flush [rv x] G c s (RQ E G x (cFlush d)) (RX G (cFlush d)) := by
  obtain ⟨h9, h8⟩ := h.cls
  obtain ⟨e3, e0, e1⟩ := h.nums
  obtain ⟨zs, hS⟩ := h.2.2.2.1
  have hb0 := hi.2.2.1
  have hb1 := hi.2.2.2.1
  refine i_X11_flush ⟨h.1, h.1, h.1, i32s (by omega), h9, Call.to (ok_packAll h.2.1 h.2.2.1 hS hi.1) (Nat.zero_le _) (Nat.zero_le _) fun r G1 ⟨f1, hL', hO', hF, hn, hs', hb'⟩ => ?_⟩
  rw [e0, e1] at f1 hs' hb'
  rw [f1, cFlush]
  refine RQ.y (h.store hL' hO' (hF.mono (fun c j y hw => Or.inr (Or.inr (Or.inl hw.1))) (fun y hy => ?_) (fun y hy => ?_)) ⟨rfl, rfl, rfl⟩ hs' hb')
  · rcases hy with h7 | ⟨b, hb, h7⟩
    · exact ⟨_, Or.inl ⟨h9, Or.inr h7⟩⟩
    · exact ⟨b, Or.inr ⟨(h8 b hb).1, h7⟩⟩
  · obtain ⟨b, hb, h7⟩ := hy
    have hB := (h8 b hb).2
    refine ⟨?_, b, (h8 b hb).1, h7⟩
    rcases h7 with h7 | h7
    · rw [h7]; exact h.2.2.1.nn (by rw [hB.2.1.1]; decide) (by rw [hB.2.1.1]; decide)
    · rw [h7]; exact h.2.2.1.nn (by rw [hB.2.2.1.1]; decide) (by rw [hB.2.2.1.1]; decide)
theorem DI.flush (hi : DI d) : DI (flushD d) := by
  have hi5 := hi.2.2.2.2.2.2.2.2.2.2.2.2
  refine hi.store hi.1.flush ⟨rfl, rfl, rfl⟩ hi.2.1 hi.2.2.2.2.1 ⟨hi5.1.1, hi5.1.2.1, Nat.zero_le _⟩ fun c hc => ?_
  have hf : (((dSmp d).filter (kept (dN d 0 - dN d 1))).map (·.1)).filter (own c) = [] := by
    refine List.filter_eq_nil_iff.mpr fun q hq h9 => hc ?_
    have hs : (((dSmp d).filter (kept (dN d 0 - dN d 1))).map (·.1)).Sublist ((dSmp d).map (·.1)) := List.Sublist.map _ List.filter_sublist
    rw [← (own_iff.mp h9).2]
    exact (hi.1.2.2.2.1 q (hs.subset hq)).1
  unfold seeT
  rw [hf]
  rfl
end S85
