/-! the law's cases (written by program: wip/gen/lcase.py) -/
section Sc01
variable {E : EE} {G : Gt} {c s : Nat} {Q X : Int → Gt → Prop} {b i m x o a1 a2 a3 a4 a5 : Int} {d : DS} {z : Mz}
theorem xx_write : ((cWrite d a1 a2 a3 a4 a5).1 ≠ 0 → (cWrite d a1 a2 a3 a4 a5).1 = 1) ∧ ((cWrite d a1 a2 a3 a4 a5).1 ≠ 0 → (cWrite d a1 a2 a3 a4 a5).2.2 = d) ∧ ((cWrite d a1 a2 a3 a4 a5).1 ≠ 0 → tA (cWrite d a1 a2 a3 a4 a5).1 ≠ 0) := by
  unfold cWrite; repeat' split
  all_goals simp [yes, no, tA, tB]
set_option maxRecDepth 20000 in
theorem l_write (h : LIM E G b x m o d d z) (hs : SCB E G b i) (e1 : kS E (i + 1) = a1) (e2 : kS E (i + 2) = a2) (e3 : kS E (i + 3) = a3) (e4 : kS E (i + 4) = a4) (e5 : kS E (i + 5) = a5) (hi : DI d) (hi2 : DI (cWrite d a1 a2 a3 a4 a5).2.2) (hz : z.1 ≤ 10000000 ∧ z.2 ≤ 10000000) (hc : (if wrP d a1 a2 a3 a4 a5 then takC d (100 * a1 + 10 * a2 + a3) a4 a5 else 1) + (wMC d a1 a2 a3 a4 a5 z.1 z.2) ≤ c) (hs9 : (if wrP d a1 a2 a3 a4 a5 then takS d (100 * a1 + 10 * a2 + a3) a4 a5 else 6) + (wMS d a1 a2 a3 a4 a5 z.1 z.2) ≤ s) (K : ∀ G9, LIM E G9 b x m o (cWrite d a1 a2 a3 a4 a5).2.2 (cWrite d a1 a2 a3 a4 a5).2.2 (wML d a1 a2 a3 a4 a5 z.1, wMR d a1 a2 a3 a4 a5 z.2) → V E M_L_law 1893 [some (rv b), some (rv x), some (rv m), some (rv o), some (iv i), none, none, none] [] G9 (c - (if wrP d a1 a2 a3 a4 a5 then takC d (100 * a1 + 10 * a2 + a3) a4 a5 else 1) - (wMC d a1 a2 a3 a4 a5 z.1 z.2)) (s - (if wrP d a1 a2 a3 a4 a5 then takS d (100 * a1 + 10 * a2 + a3) a4 a5 else 6) - (wMS d a1 a2 a3 a4 a5 z.1 z.2)) Q X) : V E M_L_law 176 [some (rv b), some (rv x), some (rv m), some (rv o), some (iv i), none, none, none] [] G c s Q X := by
  refine b_L_law_176 (opn hs (by decide) (opn hs (by decide) (opn hs (by decide) (opn hs (by decide) (opn hs (by decide) (?_))))))
  simp only [hs.gel (j := 1) (by decide), hs.gel (j := 2) (by decide), hs.gel (j := 3) (by decide), hs.gel (j := 4) (by decide), hs.gel (j := 5) (by decide), e1, e2, e3, e4, e5]
  refine CallH.to (mc' := (if wrP d a1 a2 a3 a4 a5 then takC d (100 * a1 + 10 * a2 + a3) a4 a5 else 1)) (ms' := (if wrP d a1 a2 a3 a4 a5 then takS d (100 * a1 + 10 * a2 + a3) a4 a5 else 6)) (w_write h.2.1.1 (CallC.mono (cC (ok_writeE h.2.1 hi (Nat.le_refl _) (Nat.le_refl _))) (fun ex G1 _ _ h9 => kx_1 xx_write.1 h9) (fun r G1 _ _ h9 => h.wi h9))) (by omega) (by omega) (fun r21 G22 hq hp => ?_)
  obtain ⟨k1, k2, k3⟩ := h.wq xx_write.2.1 hi2 rfl hq
  have hs2 := hs.at k1.1 hp
  refine opn hs2 (by decide) (opn hs2 (by decide) (opn hs2 (by decide) (opn hs2 (by decide) (opn hs2 (by decide) (?_)))))
  simp only [hs2.gel (j := 1) (by decide), hs2.gel (j := 2) (by decide), hs2.gel (j := 3) (by decide), hs2.gel (j := 4) (by decide), hs2.gel (j := 5) (by decide), e1, e2, e3, e4, e5]
  refine ⟨k1.2.2.1.1.1.1, Call.to (mc' := (wMC d a1 a2 a3 a4 a5 z.1 z.2)) (ms' := (wMS d a1 a2 a3 a4 a5 z.1 z.2)) (om_write k1.2.2.1 hi hz (Nat.le_refl _) (Nat.le_refl _)) (by omega) (by omega) (fun r46 G47 hq2 => ?_)⟩
  exact tailT (V9 := fun G9 c9 s9 => V E M_L_law 1893 [some (rv b), some (rv x), some (rv m), some (rv o), some (iv i), none, none, none] [] G9 c9 s9 Q X) k1 hi2 rfl xx_write.2.2 k2 k3 hq2 K
theorem xx_labels : ((cLabels d a1).1 ≠ 0 → (cLabels d a1).1 = 3) ∧ ((cLabels d a1).1 ≠ 0 → (cLabels d a1).2.2 = d) ∧ ((cLabels d a1).1 ≠ 0 → tB (cLabels d a1).1 ≠ 0) := by
  unfold cLabels; repeat' split
  all_goals simp [yes, no, tA, tB]
set_option maxRecDepth 20000 in
theorem l_labels (h : LIM E G b x m o d d z) (hs : SCB E G b i) (e1 : kS E (i + 1) = a1) (hi : DI d) (hi2 : DI (cLabels d a1).2.2)  (hc : (1) + (0) ≤ c) (hs9 : (6) + (0) ≤ s) (K : ∀ G9, LIM E G9 b x m o (cLabels d a1).2.2 (cLabels d a1).2.2 (z.1, z.2) → V E M_L_law 1893 [some (rv b), some (rv x), some (rv m), some (rv o), some (iv i), none, none, none] [] G9 (c - (1) - (0)) (s - (6) - (0)) Q X) : V E M_L_law 293 [some (rv b), some (rv x), some (rv m), some (rv o), some (iv i), none, none, none] [] G c s Q X := by
  refine b_L_law_293 (opn hs (by decide) (?_))
  simp only [hs.gel (j := 1) (by decide), e1]
  refine CallH.to (mc' := (1)) (ms' := (6)) (w_labels h.2.1.1 (CallC.mono (cC (ok_labels h.2.1 hi (Nat.le_refl _) (Nat.le_refl _))) (fun ex G1 _ _ h9 => kx_3 xx_labels.1 h9) (fun r G1 _ _ h9 => h.wi h9))) (by omega) (by omega) (fun r21 G22 hq hp => ?_)
  obtain ⟨k1, k2, k3⟩ := h.wq xx_labels.2.1 hi2 rfl hq
  have hs2 := hs.at k1.1 hp
  refine opn hs2 (by decide) (?_)
  simp only [hs2.gel (j := 1) (by decide), e1]
  refine ⟨k1.2.2.1.1.1.1, Call.to (mc' := (0)) (ms' := (0)) (om_labels k1.2.2.1 ) (by omega) (by omega) (fun r46 G47 hq2 => ?_)⟩
  exact tailT (V9 := fun G9 c9 s9 => V E M_L_law 1893 [some (rv b), some (rv x), some (rv m), some (rv o), some (iv i), none, none, none] [] G9 c9 s9 Q X) k1 hi2 rfl xx_labels.2.2 k2 k3 hq2 K
theorem xx_samples : ((cSamples d a1).1 ≠ 0 → (cSamples d a1).1 = 3) ∧ ((cSamples d a1).1 ≠ 0 → (cSamples d a1).2.2 = d) ∧ ((cSamples d a1).1 ≠ 0 → tB (cSamples d a1).1 ≠ 0) := by
  unfold cSamples; repeat' split
  all_goals simp [yes, no, tA, tB]
set_option maxRecDepth 20000 in
theorem l_samples (h : LIM E G b x m o d d z) (hs : SCB E G b i) (e1 : kS E (i + 1) = a1) (hi : DI d) (hi2 : DI (cSamples d a1).2.2) (hn : (dSer d).Nodup) (hc : (1) + (0) ≤ c) (hs9 : (6) + (0) ≤ s) (K : ∀ G9, LIM E G9 b x m o (cSamples d a1).2.2 (cSamples d a1).2.2 (z.1, z.2) → V E M_L_law 1893 [some (rv b), some (rv x), some (rv m), some (rv o), some (iv i), none, none, none] [] G9 (c - (1) - (0)) (s - (6) - (0)) Q X) : V E M_L_law 349 [some (rv b), some (rv x), some (rv m), some (rv o), some (iv i), none, none, none] [] G c s Q X := by
  refine b_L_law_349 (opn hs (by decide) (?_))
  simp only [hs.gel (j := 1) (by decide), e1]
  refine CallH.to (mc' := (1)) (ms' := (6)) (w_samples h.2.1.1 (CallC.mono (cC (ok_samples h.2.1 hi (Nat.le_refl _) (Nat.le_refl _))) (fun ex G1 _ _ h9 => kx_3 xx_samples.1 h9) (fun r G1 _ _ h9 => h.wi h9))) (by omega) (by omega) (fun r21 G22 hq hp => ?_)
  obtain ⟨k1, k2, k3⟩ := h.wq xx_samples.2.1 hi2 rfl hq
  have hs2 := hs.at k1.1 hp
  refine opn hs2 (by decide) (?_)
  simp only [hs2.gel (j := 1) (by decide), e1]
  refine ⟨k1.2.2.1.1.1.1, Call.to (mc' := (0)) (ms' := (0)) (om_samples k1.2.2.1 hn) (by omega) (by omega) (fun r46 G47 hq2 => ?_)⟩
  exact tailT (V9 := fun G9 c9 s9 => V E M_L_law 1893 [some (rv b), some (rv x), some (rv m), some (rv o), some (iv i), none, none, none] [] G9 c9 s9 Q X) k1 hi2 rfl xx_samples.2.2 k2 k3 hq2 K
theorem xx_erase : ((cErase d a1 a2 a3).1 ≠ 0 → (cErase d a1 a2 a3).1 = 3 ∨ (cErase d a1 a2 a3).1 = 1) ∧ ((cErase d a1 a2 a3).1 ≠ 0 → (cErase d a1 a2 a3).2.2 = d) ∧ ((cErase d a1 a2 a3).1 ≠ 0 → tB (cErase d a1 a2 a3).1 ≠ 0) := by
  unfold cErase; repeat' split
  all_goals simp [yes, no, tA, tB]
set_option maxRecDepth 20000 in
theorem l_erase (h : LIM E G b x m o d d z) (hs : SCB E G b i) (e1 : kS E (i + 1) = a1) (e2 : kS E (i + 2) = a2) (e3 : kS E (i + 3) = a3) (hi : DI d) (hi2 : DI (cErase d a1 a2 a3).2.2) (hz : z.2 ≤ 10000000) (her : dN d 2 ≤ 1000000) (hc : (if erP d a1 a2 a3 then 1 + recC d else 1) + (if erP d a1 a2 a3 then mgC (dRec d).length z.2 1 else 0) ≤ c) (hs9 : (if erP d a1 a2 a3 then 6 + recS d else 6) + (if erP d a1 a2 a3 then mgS (dRec d).length z.2 1 else 0) ≤ s) (K : ∀ G9, LIM E G9 b x m o (cErase d a1 a2 a3).2.2 (cErase d a1 a2 a3).2.2 (z.1, eMR d a1 a2 a3 z.2) → V E M_L_law 1893 [some (rv b), some (rv x), some (rv m), some (rv o), some (iv i), none, none, none] [] G9 (c - (if erP d a1 a2 a3 then 1 + recC d else 1) - (if erP d a1 a2 a3 then mgC (dRec d).length z.2 1 else 0)) (s - (if erP d a1 a2 a3 then 6 + recS d else 6) - (if erP d a1 a2 a3 then mgS (dRec d).length z.2 1 else 0)) Q X) : V E M_L_law 405 [some (rv b), some (rv x), some (rv m), some (rv o), some (iv i), none, none, none] [] G c s Q X := by
  refine b_L_law_405 (opn hs (by decide) (opn hs (by decide) (opn hs (by decide) (?_))))
  simp only [hs.gel (j := 1) (by decide), hs.gel (j := 2) (by decide), hs.gel (j := 3) (by decide), e1, e2, e3]
  refine CallH.to (mc' := (if erP d a1 a2 a3 then 1 + recC d else 1)) (ms' := (if erP d a1 a2 a3 then 6 + recS d else 6)) (w_erase h.2.1.1 (CallC.mono (cC (ok_eraseE h.2.1 hi (Nat.le_refl _) (Nat.le_refl _))) (fun ex G1 _ _ h9 => kx_31 xx_erase.1 h9) (fun r G1 _ _ h9 => h.wi h9))) (by omega) (by omega) (fun r21 G22 hq hp => ?_)
  obtain ⟨k1, k2, k3⟩ := h.wq xx_erase.2.1 hi2 rfl hq
  have hs2 := hs.at k1.1 hp
  refine opn hs2 (by decide) (opn hs2 (by decide) (opn hs2 (by decide) (?_)))
  simp only [hs2.gel (j := 1) (by decide), hs2.gel (j := 2) (by decide), hs2.gel (j := 3) (by decide), e1, e2, e3]
  refine ⟨k1.2.2.1.1.1.1, Call.to (mc' := (if erP d a1 a2 a3 then mgC (dRec d).length z.2 1 else 0)) (ms' := (if erP d a1 a2 a3 then mgS (dRec d).length z.2 1 else 0)) (om_eraseE k1.2.2.1 hi hz her (Nat.le_refl _) (Nat.le_refl _)) (by omega) (by omega) (fun r46 G47 hq2 => ?_)⟩
  exact tailT (V9 := fun G9 c9 s9 => V E M_L_law 1893 [some (rv b), some (rv x), some (rv m), some (rv o), some (iv i), none, none, none] [] G9 c9 s9 Q X) k1 hi2 rfl xx_erase.2.2 k2 k3 hq2 K
theorem xx_pass : ((cPass d a1).1 ≠ 0 → (cPass d a1).1 = 1 ∨ (cPass d a1).1 = 2) ∧ ((cPass d a1).1 ≠ 0 → (cPass d a1).2.2 = d) ∧ ((cPass d a1).1 ≠ 0 → tA (cPass d a1).1 ≠ 0) := by
  unfold cPass; repeat' split
  all_goals simp [yes, no, tA, tB]
set_option maxRecDepth 20000 in
theorem l_pass (h : LIM E G b x m o d d z) (hs : SCB E G b i) (e1 : kS E (i + 1) = a1) (hi : DI d) (hi2 : DI (cPass d a1).2.2) (hw : WK d 800) (h4 : I4 d) (hz : ZB z) (hc : (1 + (if passOk d a1 then passC a1.toNat d else 0)) + (cPassZC d a1 z) ≤ c) (hs9 : (6 + (if passOk d a1 then passS a1.toNat d else 0)) + (cPassZS d a1 z) ≤ s) (K : ∀ G9, LIM E G9 b x m o (cPass d a1).2.2 (cPass d a1).2.2 ((cPassZ d a1 z).1, (cPassZ d a1 z).2) → V E M_L_law 1893 [some (rv b), some (rv x), some (rv m), some (rv o), some (iv i), none, none, none] [] G9 (c - (1 + (if passOk d a1 then passC a1.toNat d else 0)) - (cPassZC d a1 z)) (s - (6 + (if passOk d a1 then passS a1.toNat d else 0)) - (cPassZS d a1 z)) Q X) : V E M_L_law 485 [some (rv b), some (rv x), some (rv m), some (rv o), some (iv i), none, none, none] [] G c s Q X := by
  refine b_L_law_485 (opn hs (by decide) (?_))
  simp only [hs.gel (j := 1) (by decide), e1]
  refine CallH.to (mc' := (1 + (if passOk d a1 then passC a1.toNat d else 0))) (ms' := (6 + (if passOk d a1 then passS a1.toNat d else 0))) (w_pass h.2.1.1 (CallC.mono (cC (ok_passE h.2.1 hw (Nat.le_refl _) (Nat.le_refl _))) (fun ex G1 _ _ h9 => kx_12 xx_pass.1 h9) (fun r G1 _ _ h9 => h.wi h9))) (by omega) (by omega) (fun r21 G22 hq hp => ?_)
  obtain ⟨k1, k2, k3⟩ := h.wq xx_pass.2.1 hi2 rfl hq
  have hs2 := hs.at k1.1 hp
  refine opn hs2 (by decide) (?_)
  simp only [hs2.gel (j := 1) (by decide), e1]
  refine ⟨k1.2.2.1.1.1.1, Call.to (mc' := (cPassZC d a1 z)) (ms' := (cPassZS d a1 z)) (om_pass k1.2.2.1 hw h4 hz (Nat.le_refl _) (Nat.le_refl _)) (by omega) (by omega) (fun r46 G47 hq2 => ?_)⟩
  exact tailT (V9 := fun G9 c9 s9 => V E M_L_law 1893 [some (rv b), some (rv x), some (rv m), some (rv o), some (iv i), none, none, none] [] G9 c9 s9 Q X) k1 hi2 rfl xx_pass.2.2 k2 k3 hq2.1 K
theorem xx_retain : ((cRetain d a1).1 ≠ 0 → (cRetain d a1).1 = 1) ∧ ((cRetain d a1).1 ≠ 0 → (cRetain d a1).2.2 = d) ∧ ((cRetain d a1).1 ≠ 0 → tA (cRetain d a1).1 ≠ 0) := by
  unfold cRetain; repeat' split
  all_goals simp [yes, no, tA, tB]
set_option maxRecDepth 20000 in
theorem l_retain (h : LIM E G b x m o d d z) (hs : SCB E G b i) (e1 : kS E (i + 1) = a1) (hi : DI d) (hi2 : DI (cRetain d a1).2.2)  (hc : (1) + (0) ≤ c) (hs9 : (6) + (0) ≤ s) (K : ∀ G9, LIM E G9 b x m o (cRetain d a1).2.2 (cRetain d a1).2.2 (z.1, z.2) → V E M_L_law 1893 [some (rv b), some (rv x), some (rv m), some (rv o), some (iv i), none, none, none] [] G9 (c - (1) - (0)) (s - (6) - (0)) Q X) : V E M_L_law 541 [some (rv b), some (rv x), some (rv m), some (rv o), some (iv i), none, none, none] [] G c s Q X := by
  refine b_L_law_541 (opn hs (by decide) (?_))
  simp only [hs.gel (j := 1) (by decide), e1]
  refine CallH.to (mc' := (1)) (ms' := (6)) (w_retain h.2.1.1 (CallC.mono (cC (ok_retain h.2.1 hi (Nat.le_refl _) (Nat.le_refl _))) (fun ex G1 _ _ h9 => kx_1 xx_retain.1 h9) (fun r G1 _ _ h9 => h.wi h9))) (by omega) (by omega) (fun r21 G22 hq hp => ?_)
  obtain ⟨k1, k2, k3⟩ := h.wq xx_retain.2.1 hi2 rfl hq
  have hs2 := hs.at k1.1 hp
  refine opn hs2 (by decide) (?_)
  simp only [hs2.gel (j := 1) (by decide), e1]
  refine ⟨k1.2.2.1.1.1.1, Call.to (mc' := (0)) (ms' := (0)) (om_retain k1.2.2.1 ) (by omega) (by omega) (fun r46 G47 hq2 => ?_)⟩
  exact tailT (V9 := fun G9 c9 s9 => V E M_L_law 1893 [some (rv b), some (rv x), some (rv m), some (rv o), some (iv i), none, none, none] [] G9 c9 s9 Q X) k1 hi2 rfl xx_retain.2.2 k2 k3 hq2 K
theorem xx_crash : ((cCrash d a1).1 ≠ 0 → (cCrash d a1).1 = 1) ∧ ((cCrash d a1).1 ≠ 0 → (cCrash d a1).2.2 = d) ∧ ((cCrash d a1).1 ≠ 0 → tA (cCrash d a1).1 ≠ 0) := by
  unfold cCrash; repeat' split
  all_goals simp [yes, no, tA, tB]
set_option maxRecDepth 20000 in
theorem l_crash (h : LIM E G b x m o d d z) (hs : SCB E G b i) (e1 : kS E (i + 1) = a1) (hi : DI d) (hi2 : DI (cCrash d a1).2.2)  (hc : (72) + (0) ≤ c) (hs9 : (2424) + (0) ≤ s) (K : ∀ G9, LIM E G9 b x m o (cCrash d a1).2.2 (cCrash d a1).2.2 (z.1, z.2) → V E M_L_law 1893 [some (rv b), some (rv x), some (rv m), some (rv o), some (iv i), none, none, none] [] G9 (c - (72) - (0)) (s - (2424) - (0)) Q X) : V E M_L_law 623 [some (rv b), some (rv x), some (rv m), some (rv o), some (iv i), none, none, none] [] G c s Q X := by
  refine b_L_law_623 (opn hs (by decide) (?_))
  simp only [hs.gel (j := 1) (by decide), e1]
  refine CallH.to (mc' := (72)) (ms' := (2424)) (w_crash h.2.1.1 (CallC.mono (cC (ok_crash h.2.1 hi (Nat.le_refl _) (Nat.le_refl _))) (fun ex G1 _ _ h9 => kx_1 xx_crash.1 h9) (fun r G1 _ _ h9 => h.wi h9))) (by omega) (by omega) (fun r21 G22 hq hp => ?_)
  obtain ⟨k1, k2, k3⟩ := h.wq xx_crash.2.1 hi2 rfl hq
  have hs2 := hs.at k1.1 hp
  refine opn hs2 (by decide) (?_)
  simp only [hs2.gel (j := 1) (by decide), e1]
  refine ⟨k1.2.2.1.1.1.1, Call.to (mc' := (0)) (ms' := (0)) (om_crash k1.2.2.1 hi) (by omega) (by omega) (fun r46 G47 hq2 => ?_)⟩
  exact tailT (V9 := fun G9 c9 s9 => V E M_L_law 1893 [some (rv b), some (rv x), some (rv m), some (rv o), some (iv i), none, none, none] [] G9 c9 s9 Q X) k1 hi2 rfl xx_crash.2.2 k2 k3 hq2 K
theorem xx_bits : ((cBits d a1 a2).1 ≠ 0 → (cBits d a1 a2).1 = 3) ∧ ((cBits d a1 a2).1 ≠ 0 → (cBits d a1 a2).2.2 = d) ∧ ((cBits d a1 a2).1 ≠ 0 → tB (cBits d a1 a2).1 ≠ 0) := by
  unfold cBits; repeat' split
  all_goals simp [yes, no, tA, tB]
set_option maxRecDepth 20000 in
theorem l_bits (h : LIM E G b x m o d d z) (hs : SCB E G b i) (e1 : kS E (i + 1) = a1) (e2 : kS E (i + 2) = a2) (hi : DI d) (hi2 : DI (cBits d a1 a2).2.2) (hB : BKI d) (hc : (1) + (0) ≤ c) (hs9 : (6) + (0) ≤ s) (K : ∀ G9, LIM E G9 b x m o (cBits d a1 a2).2.2 (cBits d a1 a2).2.2 (z.1, z.2) → V E M_L_law 1893 [some (rv b), some (rv x), some (rv m), some (rv o), some (iv i), none, none, none] [] G9 (c - (1) - (0)) (s - (6) - (0)) Q X) : V E M_L_law 679 [some (rv b), some (rv x), some (rv m), some (rv o), some (iv i), none, none, none] [] G c s Q X := by
  refine b_L_law_679 (opn hs (by decide) (opn hs (by decide) (?_)))
  simp only [hs.gel (j := 1) (by decide), hs.gel (j := 2) (by decide), e1, e2]
  refine CallH.to (mc' := (1)) (ms' := (6)) (w_bits h.2.1.1 (CallC.mono (cC (ok_bits h.2.1 hi (Nat.le_refl _) (Nat.le_refl _))) (fun ex G1 _ _ h9 => kx_3 xx_bits.1 h9) (fun r G1 _ _ h9 => h.wi h9))) (by omega) (by omega) (fun r21 G22 hq hp => ?_)
  obtain ⟨k1, k2, k3⟩ := h.wq xx_bits.2.1 hi2 rfl hq
  have hs2 := hs.at k1.1 hp
  refine opn hs2 (by decide) (opn hs2 (by decide) (?_))
  simp only [hs2.gel (j := 1) (by decide), hs2.gel (j := 2) (by decide), e1, e2]
  refine ⟨k1.2.2.1.1.1.1, Call.to (mc' := (0)) (ms' := (0)) (om_bits k1.2.2.1 hB) (by omega) (by omega) (fun r46 G47 hq2 => ?_)⟩
  exact tailT (V9 := fun G9 c9 s9 => V E M_L_law 1893 [some (rv b), some (rv x), some (rv m), some (rv o), some (iv i), none, none, none] [] G9 c9 s9 Q X) k1 hi2 rfl xx_bits.2.2 k2 k3 hq2 K
theorem xx_select : ((cSelect d a1 a2 a3 a4).1 ≠ 0 → (cSelect d a1 a2 a3 a4).1 = 3 ∨ (cSelect d a1 a2 a3 a4).1 = 1) ∧ ((cSelect d a1 a2 a3 a4).1 ≠ 0 → (cSelect d a1 a2 a3 a4).2.2 = d) ∧ ((cSelect d a1 a2 a3 a4).1 ≠ 0 → tB (cSelect d a1 a2 a3 a4).1 ≠ 0) := by
  unfold cSelect; repeat' split
  all_goals simp [yes, no, tA, tB]
set_option maxRecDepth 20000 in
theorem l_select (h : LIM E G b x m o d d z) (hs : SCB E G b i) (e1 : kS E (i + 1) = a1) (e2 : kS E (i + 2) = a2) (e3 : kS E (i + 3) = a3) (e4 : kS E (i + 4) = a4) (hi : DI d) (hi2 : DI (cSelect d a1 a2 a3 a4).2.2)  (hc : (1) + (0) ≤ c) (hs9 : (6) + (0) ≤ s) (K : ∀ G9, LIM E G9 b x m o (cSelect d a1 a2 a3 a4).2.2 (cSelect d a1 a2 a3 a4).2.2 (z.1, z.2) → V E M_L_law 1893 [some (rv b), some (rv x), some (rv m), some (rv o), some (iv i), none, none, none] [] G9 (c - (1) - (0)) (s - (6) - (0)) Q X) : V E M_L_law 747 [some (rv b), some (rv x), some (rv m), some (rv o), some (iv i), none, none, none] [] G c s Q X := by
  refine b_L_law_747 (opn hs (by decide) (opn hs (by decide) (opn hs (by decide) (opn hs (by decide) (?_)))))
  simp only [hs.gel (j := 1) (by decide), hs.gel (j := 2) (by decide), hs.gel (j := 3) (by decide), hs.gel (j := 4) (by decide), e1, e2, e3, e4]
  refine CallH.to (mc' := (1)) (ms' := (6)) (w_select h.2.1.1 (CallC.mono (cC (ok_select h.2.1 hi (Nat.le_refl _) (Nat.le_refl _))) (fun ex G1 _ _ h9 => kx_31 xx_select.1 h9) (fun r G1 _ _ h9 => h.wi h9))) (by omega) (by omega) (fun r21 G22 hq hp => ?_)
  obtain ⟨k1, k2, k3⟩ := h.wq xx_select.2.1 hi2 rfl hq
  have hs2 := hs.at k1.1 hp
  refine opn hs2 (by decide) (opn hs2 (by decide) (opn hs2 (by decide) (opn hs2 (by decide) (?_))))
  simp only [hs2.gel (j := 1) (by decide), hs2.gel (j := 2) (by decide), hs2.gel (j := 3) (by decide), hs2.gel (j := 4) (by decide), e1, e2, e3, e4]
  refine ⟨k1.2.2.1.1.1.1, Call.to (mc' := (0)) (ms' := (0)) (om_select k1.2.2.1 hi) (by omega) (by omega) (fun r46 G47 hq2 => ?_)⟩
  exact tailT (V9 := fun G9 c9 s9 => V E M_L_law 1893 [some (rv b), some (rv x), some (rv m), some (rv o), some (iv i), none, none, none] [] G9 c9 s9 Q X) k1 hi2 rfl xx_select.2.2 k2 k3 hq2 K
theorem xx_word : ((cWord d a1 a2 a3).1 ≠ 0 → (cWord d a1 a2 a3).1 = 1 ∨ (cWord d a1 a2 a3).1 = 2) ∧ ((cWord d a1 a2 a3).1 ≠ 0 → (cWord d a1 a2 a3).2.2 = d) ∧ ((cWord d a1 a2 a3).1 ≠ 0 → tA (cWord d a1 a2 a3).1 ≠ 0) := by
  unfold cWord; repeat' split
  all_goals simp [yes, no, tA, tB]
set_option maxRecDepth 20000 in
theorem l_word (h : LIM E G b x m o d d z) (hs : SCB E G b i) (e1 : kS E (i + 1) = a1) (e2 : kS E (i + 2) = a2) (e3 : kS E (i + 3) = a3) (hi : DI d) (hi2 : DI (cWord d a1 a2 a3).2.2)  (hc : (2) + (0) ≤ c) (hs9 : (22) + (0) ≤ s) (K : ∀ G9, LIM E G9 b x m o (cWord d a1 a2 a3).2.2 (cWord d a1 a2 a3).2.2 (z.1, z.2) → V E M_L_law 1893 [some (rv b), some (rv x), some (rv m), some (rv o), some (iv i), none, none, none] [] G9 (c - (2) - (0)) (s - (22) - (0)) Q X) : V E M_L_law 839 [some (rv b), some (rv x), some (rv m), some (rv o), some (iv i), none, none, none] [] G c s Q X := by
  refine b_L_law_839 (opn hs (by decide) (opn hs (by decide) (opn hs (by decide) (?_))))
  simp only [hs.gel (j := 1) (by decide), hs.gel (j := 2) (by decide), hs.gel (j := 3) (by decide), e1, e2, e3]
  refine CallH.to (mc' := (2)) (ms' := (22)) (w_word h.2.1.1 (CallC.mono (cC (ok_word h.2.1 hi (Nat.le_refl _) (Nat.le_refl _))) (fun ex G1 _ _ h9 => kx_12 xx_word.1 h9) (fun r G1 _ _ h9 => h.wi h9))) (by omega) (by omega) (fun r21 G22 hq hp => ?_)
  obtain ⟨k1, k2, k3⟩ := h.wq xx_word.2.1 hi2 rfl hq
  have hs2 := hs.at k1.1 hp
  refine opn hs2 (by decide) (opn hs2 (by decide) (opn hs2 (by decide) (?_)))
  simp only [hs2.gel (j := 1) (by decide), hs2.gel (j := 2) (by decide), hs2.gel (j := 3) (by decide), e1, e2, e3]
  refine ⟨k1.2.2.1.1.1.1, Call.to (mc' := (0)) (ms' := (0)) (om_word k1.2.2.1 hi) (by omega) (by omega) (fun r46 G47 hq2 => ?_)⟩
  exact tailT (V9 := fun G9 c9 s9 => V E M_L_law 1893 [some (rv b), some (rv x), some (rv m), some (rv o), some (iv i), none, none, none] [] G9 c9 s9 Q X) k1 hi2 rfl xx_word.2.2 k2 k3 hq2 K
theorem xx_ask : ((cAsk d a1).1 ≠ 0 → (cAsk d a1).1 = 1 ∨ (cAsk d a1).1 = 2) ∧ ((cAsk d a1).1 ≠ 0 → (cAsk d a1).2.2 = d) ∧ ((cAsk d a1).1 ≠ 0 → tA (cAsk d a1).1 ≠ 0) := by
  unfold cAsk; repeat' split
  all_goals simp [yes, no, tA, tB]
set_option maxRecDepth 20000 in
theorem l_ask (h : LIM E G b x m o d d z) (hs : SCB E G b i) (e1 : kS E (i + 1) = a1) (hi : DI d) (hi2 : DI (cAsk d a1).2.2) (hF : FED d) (hc : (1) + (0) ≤ c) (hs9 : (6) + (0) ≤ s) (K : ∀ G9, LIM E G9 b x m o (cAsk d a1).2.2 (cAsk d a1).2.2 (z.1, z.2) → V E M_L_law 1893 [some (rv b), some (rv x), some (rv m), some (rv o), some (iv i), none, none, none] [] G9 (c - (1) - (0)) (s - (6) - (0)) Q X) : V E M_L_law 932 [some (rv b), some (rv x), some (rv m), some (rv o), some (iv i), none, none, none] [] G c s Q X := by
  refine b_L_law_932 (opn hs (by decide) (?_))
  simp only [hs.gel (j := 1) (by decide), e1]
  refine CallH.to (mc' := (1)) (ms' := (6)) (w_ask h.2.1.1 (CallC.mono (cC (ok_ask h.2.1 hi (Nat.le_refl _) (Nat.le_refl _))) (fun ex G1 _ _ h9 => kx_12 xx_ask.1 h9) (fun r G1 _ _ h9 => h.wi h9))) (by omega) (by omega) (fun r21 G22 hq hp => ?_)
  obtain ⟨k1, k2, k3⟩ := h.wq xx_ask.2.1 hi2 rfl hq
  have hs2 := hs.at k1.1 hp
  refine opn hs2 (by decide) (?_)
  simp only [hs2.gel (j := 1) (by decide), e1]
  refine ⟨k1.2.2.1.1.1.1, Call.to (mc' := (0)) (ms' := (0)) (om_ask k1.2.2.1 hi hF) (by omega) (by omega) (fun r46 G47 hq2 => ?_)⟩
  exact tailT (V9 := fun G9 c9 s9 => V E M_L_law 1893 [some (rv b), some (rv x), some (rv m), some (rv o), some (iv i), none, none, none] [] G9 c9 s9 Q X) k1 hi2 rfl xx_ask.2.2 k2 k3 hq2 K
theorem xx_value : ((cValue d a1).1 ≠ 0 → (cValue d a1).1 = 3) ∧ ((cValue d a1).1 ≠ 0 → (cValue d a1).2.2 = d) ∧ ((cValue d a1).1 ≠ 0 → tB (cValue d a1).1 ≠ 0) := by
  unfold cValue; repeat' split
  all_goals simp [yes, no, tA, tB]
set_option maxRecDepth 20000 in
theorem l_value (h : LIM E G b x m o d d z) (hs : SCB E G b i) (e1 : kS E (i + 1) = a1) (hi : DI d) (hi2 : DI (cValue d a1).2.2)  (hc : (1) + (0) ≤ c) (hs9 : (6) + (0) ≤ s) (K : ∀ G9, LIM E G9 b x m o (cValue d a1).2.2 (cValue d a1).2.2 (z.1, z.2) → V E M_L_law 1893 [some (rv b), some (rv x), some (rv m), some (rv o), some (iv i), none, none, none] [] G9 (c - (1) - (0)) (s - (6) - (0)) Q X) : V E M_L_law 988 [some (rv b), some (rv x), some (rv m), some (rv o), some (iv i), none, none, none] [] G c s Q X := by
  refine b_L_law_988 (opn hs (by decide) (?_))
  simp only [hs.gel (j := 1) (by decide), e1]
  refine CallH.to (mc' := (1)) (ms' := (6)) (w_value h.2.1.1 (CallC.mono (cC (ok_value h.2.1  (Nat.le_refl _) (Nat.le_refl _))) (fun ex G1 _ _ h9 => kx_3 xx_value.1 h9) (fun r G1 _ _ h9 => h.wi h9))) (by omega) (by omega) (fun r21 G22 hq hp => ?_)
  obtain ⟨k1, k2, k3⟩ := h.wq xx_value.2.1 hi2 rfl hq
  have hs2 := hs.at k1.1 hp
  refine opn hs2 (by decide) (?_)
  simp only [hs2.gel (j := 1) (by decide), e1]
  refine ⟨k1.2.2.1.1.1.1, Call.to (mc' := (0)) (ms' := (0)) (om_value k1.2.2.1 ) (by omega) (by omega) (fun r46 G47 hq2 => ?_)⟩
  exact tailT (V9 := fun G9 c9 s9 => V E M_L_law 1893 [some (rv b), some (rv x), some (rv m), some (rv o), some (iv i), none, none, none] [] G9 c9 s9 Q X) k1 hi2 rfl xx_value.2.2 k2 k3 hq2 K
theorem xx_labelsOf : ((cLabelsOf d a1).1 ≠ 0 → (cLabelsOf d a1).1 = 3) ∧ ((cLabelsOf d a1).1 ≠ 0 → (cLabelsOf d a1).2.2 = d) ∧ ((cLabelsOf d a1).1 ≠ 0 → tB (cLabelsOf d a1).1 ≠ 0) := by
  unfold cLabelsOf; repeat' split
  all_goals simp [yes, no, tA, tB]
set_option maxRecDepth 20000 in
theorem l_labelsOf (h : LIM E G b x m o d d z) (hs : SCB E G b i) (e1 : kS E (i + 1) = a1) (hi : DI d) (hi2 : DI (cLabelsOf d a1).2.2)  (hc : (1) + (0) ≤ c) (hs9 : (6) + (0) ≤ s) (K : ∀ G9, LIM E G9 b x m o (cLabelsOf d a1).2.2 (cLabelsOf d a1).2.2 (z.1, z.2) → V E M_L_law 1893 [some (rv b), some (rv x), some (rv m), some (rv o), some (iv i), none, none, none] [] G9 (c - (1) - (0)) (s - (6) - (0)) Q X) : V E M_L_law 1043 [some (rv b), some (rv x), some (rv m), some (rv o), some (iv i), none, none, none] [] G c s Q X := by
  refine b_L_law_1043 (opn hs (by decide) (?_))
  simp only [hs.gel (j := 1) (by decide), e1]
  refine CallH.to (mc' := (1)) (ms' := (6)) (w_labelsOf h.2.1.1 (CallC.mono (cC (ok_labelsOf h.2.1  (Nat.le_refl _) (Nat.le_refl _))) (fun ex G1 _ _ h9 => kx_3 xx_labelsOf.1 h9) (fun r G1 _ _ h9 => h.wi h9))) (by omega) (by omega) (fun r21 G22 hq hp => ?_)
  obtain ⟨k1, k2, k3⟩ := h.wq xx_labelsOf.2.1 hi2 rfl hq
  have hs2 := hs.at k1.1 hp
  refine opn hs2 (by decide) (?_)
  simp only [hs2.gel (j := 1) (by decide), e1]
  refine ⟨k1.2.2.1.1.1.1, Call.to (mc' := (0)) (ms' := (0)) (om_labelsOf k1.2.2.1 ) (by omega) (by omega) (fun r46 G47 hq2 => ?_)⟩
  exact tailT (V9 := fun G9 c9 s9 => V E M_L_law 1893 [some (rv b), some (rv x), some (rv m), some (rv o), some (iv i), none, none, none] [] G9 c9 s9 Q X) k1 hi2 rfl xx_labelsOf.2.2 k2 k3 hq2 K
theorem xx_record : ((cRecord d a1).1 ≠ 0 → (cRecord d a1).1 = 1 ∨ (cRecord d a1).1 = 2) ∧ ((cRecord d a1).1 ≠ 0 → (cRecord d a1).2.2 = d) ∧ ((cRecord d a1).1 ≠ 0 → tA (cRecord d a1).1 ≠ 0) := by
  unfold cRecord; repeat' split
  all_goals simp [yes, no, tA, tB]
set_option maxRecDepth 20000 in
theorem l_record (h : LIM E G b x m o d d z) (hs : SCB E G b i) (e1 : kS E (i + 1) = a1) (hi : DI d) (hi2 : DI (cRecord d a1).2.2)  (hc : (4) + (0) ≤ c) (hs9 : (30) + (0) ≤ s) (K : ∀ G9, LIM E G9 b x m o (cRecord d a1).2.2 (cRecord d a1).2.2 (z.1, z.2) → V E M_L_law 1893 [some (rv b), some (rv x), some (rv m), some (rv o), some (iv i), none, none, none] [] G9 (c - (4) - (0)) (s - (30) - (0)) Q X) : V E M_L_law 1099 [some (rv b), some (rv x), some (rv m), some (rv o), some (iv i), none, none, none] [] G c s Q X := by
  refine b_L_law_1099 (opn hs (by decide) (?_))
  simp only [hs.gel (j := 1) (by decide), e1]
  refine CallH.to (mc' := (4)) (ms' := (30)) (w_record h.2.1.1 (CallC.mono (cC (ok_record h.2.1 hi (Nat.le_refl _) (Nat.le_refl _))) (fun ex G1 _ _ h9 => kx_12 xx_record.1 h9) (fun r G1 _ _ h9 => h.wi h9))) (by omega) (by omega) (fun r21 G22 hq hp => ?_)
  obtain ⟨k1, k2, k3⟩ := h.wq xx_record.2.1 hi2 rfl hq
  have hs2 := hs.at k1.1 hp
  refine opn hs2 (by decide) (?_)
  simp only [hs2.gel (j := 1) (by decide), e1]
  refine ⟨k1.2.2.1.1.1.1, Call.to (mc' := (0)) (ms' := (0)) (om_record k1.2.2.1 hi) (by omega) (by omega) (fun r46 G47 hq2 => ?_)⟩
  exact tailT (V9 := fun G9 c9 s9 => V E M_L_law 1893 [some (rv b), some (rv x), some (rv m), some (rv o), some (iv i), none, none, none] [] G9 c9 s9 Q X) k1 hi2 rfl xx_record.2.2 k2 k3 hq2 K
theorem xx_alert : ((cAlert d a1 a2).1 ≠ 0 → (cAlert d a1 a2).1 = 1 ∨ (cAlert d a1 a2).1 = 2) ∧ ((cAlert d a1 a2).1 ≠ 0 → (cAlert d a1 a2).2.2 = d) ∧ ((cAlert d a1 a2).1 ≠ 0 → tA (cAlert d a1 a2).1 ≠ 0) := by
  unfold cAlert; repeat' split
  all_goals simp [yes, no, tA, tB]
set_option maxRecDepth 20000 in
theorem l_alert (h : LIM E G b x m o d d z) (hs : SCB E G b i) (e1 : kS E (i + 1) = a1) (e2 : kS E (i + 2) = a2) (hi : DI d) (hi2 : DI (cAlert d a1 a2).2.2)  (hc : (4) + (0) ≤ c) (hs9 : (30) + (0) ≤ s) (K : ∀ G9, LIM E G9 b x m o (cAlert d a1 a2).2.2 (cAlert d a1 a2).2.2 (z.1, z.2) → V E M_L_law 1893 [some (rv b), some (rv x), some (rv m), some (rv o), some (iv i), none, none, none] [] G9 (c - (4) - (0)) (s - (30) - (0)) Q X) : V E M_L_law 1155 [some (rv b), some (rv x), some (rv m), some (rv o), some (iv i), none, none, none] [] G c s Q X := by
  refine b_L_law_1155 (opn hs (by decide) (opn hs (by decide) (?_)))
  simp only [hs.gel (j := 1) (by decide), hs.gel (j := 2) (by decide), e1, e2]
  refine CallH.to (mc' := (4)) (ms' := (30)) (w_alert h.2.1.1 (CallC.mono (cC (ok_alert h.2.1 hi (Nat.le_refl _) (Nat.le_refl _))) (fun ex G1 _ _ h9 => kx_12 xx_alert.1 h9) (fun r G1 _ _ h9 => h.wi h9))) (by omega) (by omega) (fun r21 G22 hq hp => ?_)
  obtain ⟨k1, k2, k3⟩ := h.wq xx_alert.2.1 hi2 rfl hq
  have hs2 := hs.at k1.1 hp
  refine opn hs2 (by decide) (opn hs2 (by decide) (?_))
  simp only [hs2.gel (j := 1) (by decide), hs2.gel (j := 2) (by decide), e1, e2]
  refine ⟨k1.2.2.1.1.1.1, Call.to (mc' := (0)) (ms' := (0)) (om_alert k1.2.2.1 hi) (by omega) (by omega) (fun r46 G47 hq2 => ?_)⟩
  exact tailT (V9 := fun G9 c9 s9 => V E M_L_law 1893 [some (rv b), some (rv x), some (rv m), some (rv o), some (iv i), none, none, none] [] G9 c9 s9 Q X) k1 hi2 rfl xx_alert.2.2 k2 k3 hq2 K
theorem xx_inhibit : ((cInhibit d a1 a2).1 ≠ 0 → (cInhibit d a1 a2).1 = 3) ∧ ((cInhibit d a1 a2).1 ≠ 0 → (cInhibit d a1 a2).2.2 = d) ∧ ((cInhibit d a1 a2).1 ≠ 0 → tB (cInhibit d a1 a2).1 ≠ 0) := by
  unfold cInhibit; repeat' split
  all_goals simp [yes, no, tA, tB]
set_option maxRecDepth 20000 in
theorem l_inhibit (h : LIM E G b x m o d d z) (hs : SCB E G b i) (e1 : kS E (i + 1) = a1) (e2 : kS E (i + 2) = a2) (hi : DI d) (hi2 : DI (cInhibit d a1 a2).2.2)  (hc : (1) + (0) ≤ c) (hs9 : (6) + (0) ≤ s) (K : ∀ G9, LIM E G9 b x m o (cInhibit d a1 a2).2.2 (cInhibit d a1 a2).2.2 (z.1, z.2) → V E M_L_law 1893 [some (rv b), some (rv x), some (rv m), some (rv o), some (iv i), none, none, none] [] G9 (c - (1) - (0)) (s - (6) - (0)) Q X) : V E M_L_law 1223 [some (rv b), some (rv x), some (rv m), some (rv o), some (iv i), none, none, none] [] G c s Q X := by
  refine b_L_law_1223 (opn hs (by decide) (opn hs (by decide) (?_)))
  simp only [hs.gel (j := 1) (by decide), hs.gel (j := 2) (by decide), e1, e2]
  refine CallH.to (mc' := (1)) (ms' := (6)) (w_inhibit h.2.1.1 (CallC.mono (cC (ok_inhibit h.2.1 hi (Nat.le_refl _) (Nat.le_refl _))) (fun ex G1 _ _ h9 => kx_3 xx_inhibit.1 h9) (fun r G1 _ _ h9 => h.wi h9))) (by omega) (by omega) (fun r21 G22 hq hp => ?_)
  obtain ⟨k1, k2, k3⟩ := h.wq xx_inhibit.2.1 hi2 rfl hq
  have hs2 := hs.at k1.1 hp
  refine opn hs2 (by decide) (opn hs2 (by decide) (?_))
  simp only [hs2.gel (j := 1) (by decide), hs2.gel (j := 2) (by decide), e1, e2]
  refine ⟨k1.2.2.1.1.1.1, Call.to (mc' := (0)) (ms' := (0)) (om_inhibit k1.2.2.1 hi) (by omega) (by omega) (fun r46 G47 hq2 => ?_)⟩
  exact tailT (V9 := fun G9 c9 s9 => V E M_L_law 1893 [some (rv b), some (rv x), some (rv m), some (rv o), some (iv i), none, none, none] [] G9 c9 s9 Q X) k1 hi2 rfl xx_inhibit.2.2 k2 k3 hq2 K
theorem xx_silence : ((cSilence d a1 a2).1 ≠ 0 → (cSilence d a1 a2).1 = 3 ∨ (cSilence d a1 a2).1 = 1 ∨ (cSilence d a1 a2).1 = 2) ∧ ((cSilence d a1 a2).1 ≠ 0 → (cSilence d a1 a2).2.2 = d) ∧ ((cSilence d a1 a2).1 ≠ 0 → tB (cSilence d a1 a2).1 ≠ 0) := by
  unfold cSilence; repeat' split
  all_goals simp [yes, no, tA, tB]
set_option maxRecDepth 20000 in
theorem l_silence (h : LIM E G b x m o d d z) (hs : SCB E G b i) (e1 : kS E (i + 1) = a1) (e2 : kS E (i + 2) = a2) (hi : DI d) (hi2 : DI (cSilence d a1 a2).2.2)  (hc : (1) + (0) ≤ c) (hs9 : (18) + (0) ≤ s) (K : ∀ G9, LIM E G9 b x m o (cSilence d a1 a2).2.2 (cSilence d a1 a2).2.2 (z.1, z.2) → V E M_L_law 1893 [some (rv b), some (rv x), some (rv m), some (rv o), some (iv i), none, none, none] [] G9 (c - (1) - (0)) (s - (18) - (0)) Q X) : V E M_L_law 1291 [some (rv b), some (rv x), some (rv m), some (rv o), some (iv i), none, none, none] [] G c s Q X := by
  refine b_L_law_1291 (opn hs (by decide) (opn hs (by decide) (?_)))
  simp only [hs.gel (j := 1) (by decide), hs.gel (j := 2) (by decide), e1, e2]
  refine CallH.to (mc' := (1)) (ms' := (18)) (w_silence h.2.1.1 (CallC.mono (cC (ok_silence h.2.1 hi (Nat.le_refl _) (Nat.le_refl _))) (fun ex G1 _ _ h9 => kx_312 xx_silence.1 h9) (fun r G1 _ _ h9 => h.wi h9))) (by omega) (by omega) (fun r21 G22 hq hp => ?_)
  obtain ⟨k1, k2, k3⟩ := h.wq xx_silence.2.1 hi2 rfl hq
  have hs2 := hs.at k1.1 hp
  refine opn hs2 (by decide) (opn hs2 (by decide) (?_))
  simp only [hs2.gel (j := 1) (by decide), hs2.gel (j := 2) (by decide), e1, e2]
  refine ⟨k1.2.2.1.1.1.1, Call.to (mc' := (0)) (ms' := (0)) (om_silence k1.2.2.1 hi) (by omega) (by omega) (fun r46 G47 hq2 => ?_)⟩
  exact tailT (V9 := fun G9 c9 s9 => V E M_L_law 1893 [some (rv b), some (rv x), some (rv m), some (rv o), some (iv i), none, none, none] [] G9 c9 s9 Q X) k1 hi2 rfl xx_silence.2.2 k2 k3 hq2 K
theorem xx_entries : ((cEntries d a1 (if a2 = 0 then (0 : Int) else 1)).1 ≠ 0 → (cEntries d a1 (if a2 = 0 then (0 : Int) else 1)).1 = 3) ∧ ((cEntries d a1 (if a2 = 0 then (0 : Int) else 1)).1 ≠ 0 → (cEntries d a1 (if a2 = 0 then (0 : Int) else 1)).2.2 = d) ∧ ((cEntries d a1 (if a2 = 0 then (0 : Int) else 1)).1 ≠ 0 → tB (cEntries d a1 (if a2 = 0 then (0 : Int) else 1)).1 ≠ 0) := by
  unfold cEntries; repeat' split
  all_goals simp [yes, no, tA, tB]
set_option maxRecDepth 20000 in
theorem l_entries (h : LIM E G b x m o d d z) (hs : SCB E G b i) (e1 : kS E (i + 1) = a1) (e2 : kS E (i + 2) = a2) (hi : DI d) (hi2 : DI (cEntries d a1 (if a2 = 0 then (0 : Int) else 1)).2.2)  (hc : (1) + (0) ≤ c) (hs9 : (6) + (0) ≤ s) (K : ∀ G9, LIM E G9 b x m o (cEntries d a1 (if a2 = 0 then (0 : Int) else 1)).2.2 (cEntries d a1 (if a2 = 0 then (0 : Int) else 1)).2.2 (z.1, z.2) → V E M_L_law 1893 [some (rv b), some (rv x), some (rv m), some (rv o), some (iv i), none, none, none] [] G9 (c - (1) - (0)) (s - (6) - (0)) Q X) : V E M_L_law 1359 [some (rv b), some (rv x), some (rv m), some (rv o), some (iv i), none, none, none] [] G c s Q X := by
  refine b_L_law_1359 (opn hs (by decide) (opn hs (by decide) (?_)))
  simp only [hs.gel (j := 1) (by decide), hs.gel (j := 2) (by decide), e1, e2]
  refine CallH.to (mc' := (1)) (ms' := (6)) (w_entries h.2.1.1 (CallC.mono (cC (ok_entries h.2.1 hi (Nat.le_refl _) (Nat.le_refl _))) (fun ex G1 _ _ h9 => kx_3 xx_entries.1 h9) (fun r G1 _ _ h9 => h.wi h9))) (by omega) (by omega) (fun r21 G22 hq hp => ?_)
  obtain ⟨k1, k2, k3⟩ := h.wq xx_entries.2.1 hi2 rfl hq
  have hs2 := hs.at k1.1 hp
  refine opn hs2 (by decide) (opn hs2 (by decide) (?_))
  simp only [hs2.gel (j := 1) (by decide), hs2.gel (j := 2) (by decide), e1, e2]
  refine ⟨k1.2.2.1.1.1.1, Call.to (mc' := (0)) (ms' := (0)) (om_entries k1.2.2.1 hi) (by omega) (by omega) (fun r46 G47 hq2 => ?_)⟩
  exact tailT (V9 := fun G9 c9 s9 => V E M_L_law 1893 [some (rv b), some (rv x), some (rv m), some (rv o), some (iv i), none, none, none] [] G9 c9 s9 Q X) k1 hi2 rfl xx_entries.2.2 k2 k3 hq2 K
theorem xx_entry : ((cEntry d a1 a2 a3).1 ≠ 0 → (cEntry d a1 a2 a3).1 = 3 ∨ (cEntry d a1 a2 a3).1 = 1) ∧ ((cEntry d a1 a2 a3).1 ≠ 0 → (cEntry d a1 a2 a3).2.2 = d) ∧ ((cEntry d a1 a2 a3).1 ≠ 0 → tB (cEntry d a1 a2 a3).1 ≠ 0) := by
  unfold cEntry; repeat' split
  all_goals simp [yes, no, tA, tB]
set_option maxRecDepth 20000 in
theorem l_entry (h : LIM E G b x m o d d z) (hs : SCB E G b i) (e1 : kS E (i + 1) = a1) (e2 : kS E (i + 2) = a2) (e3 : kS E (i + 3) = a3) (hi : DI d) (hi2 : DI (cEntry d a1 a2 a3).2.2)  (hc : (1) + (0) ≤ c) (hs9 : (6) + (0) ≤ s) (K : ∀ G9, LIM E G9 b x m o (cEntry d a1 a2 a3).2.2 (cEntry d a1 a2 a3).2.2 (z.1, z.2) → V E M_L_law 1893 [some (rv b), some (rv x), some (rv m), some (rv o), some (iv i), none, none, none] [] G9 (c - (1) - (0)) (s - (6) - (0)) Q X) : V E M_L_law 1443 [some (rv b), some (rv x), some (rv m), some (rv o), some (iv i), none, none, none] [] G c s Q X := by
  refine b_L_law_1443 (opn hs (by decide) (opn hs (by decide) (opn hs (by decide) (?_))))
  simp only [hs.gel (j := 1) (by decide), hs.gel (j := 2) (by decide), hs.gel (j := 3) (by decide), e1, e2, e3]
  refine CallH.to (mc' := (1)) (ms' := (6)) (w_entry h.2.1.1 (CallC.mono (cC (ok_entry h.2.1 hi (Nat.le_refl _) (Nat.le_refl _))) (fun ex G1 _ _ h9 => kx_31 xx_entry.1 h9) (fun r G1 _ _ h9 => h.wi h9))) (by omega) (by omega) (fun r21 G22 hq hp => ?_)
  obtain ⟨k1, k2, k3⟩ := h.wq xx_entry.2.1 hi2 rfl hq
  have hs2 := hs.at k1.1 hp
  refine opn hs2 (by decide) (opn hs2 (by decide) (opn hs2 (by decide) (?_)))
  simp only [hs2.gel (j := 1) (by decide), hs2.gel (j := 2) (by decide), hs2.gel (j := 3) (by decide), e1, e2, e3]
  refine ⟨k1.2.2.1.1.1.1, Call.to (mc' := (0)) (ms' := (0)) (om_entry k1.2.2.1 hi) (by omega) (by omega) (fun r46 G47 hq2 => ?_)⟩
  exact tailT (V9 := fun G9 c9 s9 => V E M_L_law 1893 [some (rv b), some (rv x), some (rv m), some (rv o), some (iv i), none, none, none] [] G9 c9 s9 Q X) k1 hi2 rfl xx_entry.2.2 k2 k3 hq2 K
theorem xx_notice : ((cNotice d a1 a2).1 ≠ 0 → (cNotice d a1 a2).1 = 3 ∨ (cNotice d a1 a2).1 = 1) ∧ ((cNotice d a1 a2).1 ≠ 0 → (cNotice d a1 a2).2.2 = d) ∧ ((cNotice d a1 a2).1 ≠ 0 → tB (cNotice d a1 a2).1 ≠ 0) := by
  unfold cNotice; repeat' split
  all_goals simp [yes, no, tA, tB]
set_option maxRecDepth 20000 in
theorem l_notice (h : LIM E G b x m o d d z) (hs : SCB E G b i) (e1 : kS E (i + 1) = a1) (e2 : kS E (i + 2) = a2) (hi : DI d) (hi2 : DI (cNotice d a1 a2).2.2)  (hc : (1) + (0) ≤ c) (hs9 : (6) + (0) ≤ s) (K : ∀ G9, LIM E G9 b x m o (cNotice d a1 a2).2.2 (cNotice d a1 a2).2.2 (z.1, z.2) → V E M_L_law 1893 [some (rv b), some (rv x), some (rv m), some (rv o), some (iv i), none, none, none] [] G9 (c - (1) - (0)) (s - (6) - (0)) Q X) : V E M_L_law 1536 [some (rv b), some (rv x), some (rv m), some (rv o), some (iv i), none, none, none] [] G c s Q X := by
  refine b_L_law_1536 (opn hs (by decide) (opn hs (by decide) (?_)))
  simp only [hs.gel (j := 1) (by decide), hs.gel (j := 2) (by decide), e1, e2]
  refine CallH.to (mc' := (1)) (ms' := (6)) (w_notice h.2.1.1 (CallC.mono (cC (ok_notice h.2.1 hi (Nat.le_refl _) (Nat.le_refl _))) (fun ex G1 _ _ h9 => kx_31 xx_notice.1 h9) (fun r G1 _ _ h9 => h.wi h9))) (by omega) (by omega) (fun r21 G22 hq hp => ?_)
  obtain ⟨k1, k2, k3⟩ := h.wq xx_notice.2.1 hi2 rfl hq
  have hs2 := hs.at k1.1 hp
  refine opn hs2 (by decide) (opn hs2 (by decide) (?_))
  simp only [hs2.gel (j := 1) (by decide), hs2.gel (j := 2) (by decide), e1, e2]
  refine ⟨k1.2.2.1.1.1.1, Call.to (mc' := (0)) (ms' := (0)) (om_notice k1.2.2.1 hi) (by omega) (by omega) (fun r46 G47 hq2 => ?_)⟩
  exact tailT (V9 := fun G9 c9 s9 => V E M_L_law 1893 [some (rv b), some (rv x), some (rv m), some (rv o), some (iv i), none, none, none] [] G9 c9 s9 Q X) k1 hi2 rfl xx_notice.2.2 k2 k3 hq2 K
theorem xx_thinned : ((cThinned d a1 a2 a3 a4).1 ≠ 0 → (cThinned d a1 a2 a3 a4).1 = 3 ∨ (cThinned d a1 a2 a3 a4).1 = 1) ∧ ((cThinned d a1 a2 a3 a4).1 ≠ 0 → (cThinned d a1 a2 a3 a4).2.2 = d) ∧ ((cThinned d a1 a2 a3 a4).1 ≠ 0 → tB (cThinned d a1 a2 a3 a4).1 ≠ 0) := by
  unfold cThinned; repeat' split
  all_goals simp [yes, no, tA, tB]
set_option maxRecDepth 20000 in
theorem l_thinned (h : LIM E G b x m o d d z) (hs : SCB E G b i) (e1 : kS E (i + 1) = a1) (e2 : kS E (i + 2) = a2) (e3 : kS E (i + 3) = a3) (e4 : kS E (i + 4) = a4) (hi : DI d) (hi2 : DI (cThinned d a1 a2 a3 a4).2.2)  (hc : (1) + (0) ≤ c) (hs9 : (6) + (0) ≤ s) (K : ∀ G9, LIM E G9 b x m o (cThinned d a1 a2 a3 a4).2.2 (cThinned d a1 a2 a3 a4).2.2 (z.1, z.2) → V E M_L_law 1893 [some (rv b), some (rv x), some (rv m), some (rv o), some (iv i), none, none, none] [] G9 (c - (1) - (0)) (s - (6) - (0)) Q X) : V E M_L_law 1604 [some (rv b), some (rv x), some (rv m), some (rv o), some (iv i), none, none, none] [] G c s Q X := by
  refine b_L_law_1604 (opn hs (by decide) (opn hs (by decide) (opn hs (by decide) (opn hs (by decide) (?_)))))
  simp only [hs.gel (j := 1) (by decide), hs.gel (j := 2) (by decide), hs.gel (j := 3) (by decide), hs.gel (j := 4) (by decide), e1, e2, e3, e4]
  refine CallH.to (mc' := (1)) (ms' := (6)) (w_thinned h.2.1.1 (CallC.mono (cC (ok_thinned h.2.1 hi (Nat.le_refl _) (Nat.le_refl _))) (fun ex G1 _ _ h9 => kx_31 xx_thinned.1 h9) (fun r G1 _ _ h9 => h.wi h9))) (by omega) (by omega) (fun r21 G22 hq hp => ?_)
  obtain ⟨k1, k2, k3⟩ := h.wq xx_thinned.2.1 hi2 rfl hq
  have hs2 := hs.at k1.1 hp
  refine opn hs2 (by decide) (opn hs2 (by decide) (opn hs2 (by decide) (opn hs2 (by decide) (?_))))
  simp only [hs2.gel (j := 1) (by decide), hs2.gel (j := 2) (by decide), hs2.gel (j := 3) (by decide), hs2.gel (j := 4) (by decide), e1, e2, e3, e4]
  refine ⟨k1.2.2.1.1.1.1, Call.to (mc' := (0)) (ms' := (0)) (om_thinned k1.2.2.1 hi) (by omega) (by omega) (fun r46 G47 hq2 => ?_)⟩
  exact tailT (V9 := fun G9 c9 s9 => V E M_L_law 1893 [some (rv b), some (rv x), some (rv m), some (rv o), some (iv i), none, none, none] [] G9 c9 s9 Q X) k1 hi2 rfl xx_thinned.2.2 k2 k3 hq2 K
theorem xx_suits : ((cSuits d a1 a2 a3).1 ≠ 0 → (cSuits d a1 a2 a3).1 = 1) ∧ ((cSuits d a1 a2 a3).1 ≠ 0 → (cSuits d a1 a2 a3).2.2 = d) ∧ ((cSuits d a1 a2 a3).1 ≠ 0 → tA (cSuits d a1 a2 a3).1 ≠ 0) := by
  unfold cSuits; repeat' split
  all_goals simp [yes, no, tA, tB]
set_option maxRecDepth 20000 in
theorem l_suits (h : LIM E G b x m o d d z) (hs : SCB E G b i) (e1 : kS E (i + 1) = a1) (e2 : kS E (i + 2) = a2) (e3 : kS E (i + 3) = a3) (hi : DI d) (hi2 : DI (cSuits d a1 a2 a3).2.2)  (hc : (1) + (0) ≤ c) (hs9 : (6) + (0) ≤ s) (K : ∀ G9, LIM E G9 b x m o (cSuits d a1 a2 a3).2.2 (cSuits d a1 a2 a3).2.2 (z.1, z.2) → V E M_L_law 1893 [some (rv b), some (rv x), some (rv m), some (rv o), some (iv i), none, none, none] [] G9 (c - (1) - (0)) (s - (6) - (0)) Q X) : V E M_L_law 1696 [some (rv b), some (rv x), some (rv m), some (rv o), some (iv i), none, none, none] [] G c s Q X := by
  refine b_L_law_1696 (opn hs (by decide) (opn hs (by decide) (opn hs (by decide) (?_))))
  simp only [hs.gel (j := 1) (by decide), hs.gel (j := 2) (by decide), hs.gel (j := 3) (by decide), e1, e2, e3]
  have h01 : (cSuits d a1 a2 a3).1 = 0 → (cSuits d a1 a2 a3).2.1 = 0 ∨ (cSuits d a1 a2 a3).2.1 = 1 := by
    unfold cSuits
    repeat' split
    all_goals simp [yes, no]
  refine CallH.to (mc' := (1)) (ms' := (6)) (w_suits h.2.1.1 (CallC.mono (cC (ok_suits h.2.1  (Nat.le_refl _) (Nat.le_refl _))) (fun ex G1 _ _ h9 => kx_1 xx_suits.1 h9) (fun r G1 _ _ h9 => by
    have h8 := h.wi (tc := tA) h9
    have h7 := h01 h9.1
    rw [← h9.2.1] at h7
    exact ⟨h8.1, h8.2.1, fun h6 => by rw [h6] at h8; exact h8.2.2, fun h6 => by rw [h7.resolve_left h6] at h8; exact h8.2.2⟩))) (by omega) (by omega) (fun r21 G22 hq hp => ?_)
  obtain ⟨k1, k2, k3⟩ := h.wq xx_suits.2.1 hi2 rfl hq
  have hs2 := hs.at k1.1 hp
  refine opn hs2 (by decide) (opn hs2 (by decide) (opn hs2 (by decide) (?_)))
  simp only [hs2.gel (j := 1) (by decide), hs2.gel (j := 2) (by decide), hs2.gel (j := 3) (by decide), e1, e2, e3]
  refine ⟨k1.2.2.1.1.1.1, Call.to (mc' := (0)) (ms' := (0)) (om_suits k1.2.2.1 ) (by omega) (by omega) (fun r46 G47 hq2 => ?_)⟩
  have hq3 : MqR E G22 m (cSuits d a1 a2 a3) tA z.1 z.2 (if r46 = 0 then (0 : Int) else 1) G47 := ⟨hq2.1, fun h9 => by have := hq2.2.1 h9; rcases h01 h9 with h8 | h8 <;> rw [this, h8] <;> rfl, hq2.2.2⟩
  exact tailT (V9 := fun G9 c9 s9 => V E M_L_law 1893 [some (rv b), some (rv x), some (rv m), some (rv o), some (iv i), none, none, none] [] G9 c9 s9 Q X) k1 hi2 rfl xx_suits.2.2 k2 k3 hq3 K
theorem xx_mend : ((cMend d a1).1 ≠ 0 → (cMend d a1).1 = 1) ∧ ((cMend d a1).1 ≠ 0 → (cMend d a1).2.2 = d) ∧ ((cMend d a1).1 ≠ 0 → tA (cMend d a1).1 ≠ 0) := by
  unfold cMend; repeat' split
  all_goals simp [yes, no, tA, tB]
set_option maxRecDepth 20000 in
theorem l_mend (h : LIM E G b x m o d d z) (hs : SCB E G b i) (e1 : kS E (i + 1) = a1) (hi : DI d) (hi2 : DI (cMend d a1).2.2)  (hc : (1) + (0) ≤ c) (hs9 : (6) + (0) ≤ s) (K : ∀ G9, LIM E G9 b x m o (cMend d a1).2.2 (cMend d a1).2.2 (z.1, z.2) → V E M_L_law 1893 [some (rv b), some (rv x), some (rv m), some (rv o), some (iv i), none, none, none] [] G9 (c - (1) - (0)) (s - (6) - (0)) Q X) : V E M_L_law 1837 [some (rv b), some (rv x), some (rv m), some (rv o), some (iv i), none, none, none] [] G c s Q X := by
  refine b_L_law_1837 (opn hs (by decide) (?_))
  simp only [hs.gel (j := 1) (by decide), e1]
  refine CallH.to (mc' := (1)) (ms' := (6)) (w_mend h.2.1.1 (CallC.mono (cC (ok_mend h.2.1 hi (Nat.le_refl _) (Nat.le_refl _))) (fun ex G1 _ _ h9 => kx_1 xx_mend.1 h9) (fun r G1 _ _ h9 => h.wi h9))) (by omega) (by omega) (fun r21 G22 hq hp => ?_)
  obtain ⟨k1, k2, k3⟩ := h.wq xx_mend.2.1 hi2 rfl hq
  have hs2 := hs.at k1.1 hp
  refine opn hs2 (by decide) (?_)
  simp only [hs2.gel (j := 1) (by decide), e1]
  refine ⟨k1.2.2.1.1.1.1, Call.to (mc' := (0)) (ms' := (0)) (om_mend k1.2.2.1 ) (by omega) (by omega) (fun r46 G47 hq2 => ?_)⟩
  exact tailT (V9 := fun G9 c9 s9 => V E M_L_law 1893 [some (rv b), some (rv x), some (rv m), some (rv o), some (iv i), none, none, none] [] G9 c9 s9 Q X) k1 hi2 rfl xx_mend.2.2 k2 k3 hq2 K
set_option maxRecDepth 20000 in
theorem l_series (h : LIM E G b x m o d d z) (hs : SCB E G b i) (hi : DI d) (hi2 : DI (cSeries d).2.2) (K : ∀ G9, LIM E G9 b x m o (cSeries d).2.2 (cSeries d).2.2 z → V E M_L_law 1893 [some (rv b), some (rv x), some (rv m), some (rv o), some (iv i), none, none, none] [] G9 c s Q X) : V E M_L_law 280 [some (rv b), some (rv x), some (rv m), some (rv o), some (iv i), none, none, none] [] G c s Q X := by
  refine b_L_law_280 ⟨h.2.1.1, Call.of (mc' := 0) (ms' := 0) (ok_series h.2.1 hi) (Nat.zero_le _) (Nat.zero_le _) (fun e G9 h9 => (h9.2.1 h9.1.symm).elim) (fun r2 G3 hq => ?_)⟩
  have k1 := h.cls hq.2.2
  refine ⟨k1.2.2.1.1.1.1, Call.to (mc' := 0) (ms' := 0) (om_series k1.2.2.1 ) (Nat.zero_le _) (Nat.zero_le _) (fun r7 G8 hq2 => ⟨fun _ => K _ (k1.mdl hi2 hq2.2.2).1, fun h9 => absurd (hq.2.1.trans (hq2.2.1 rfl).symm) h9⟩)⟩
set_option maxRecDepth 20000 in
theorem l_flush (h : LIM E G b x m o d d z) (hs : SCB E G b i) (hi : DI d) (hi2 : DI (cFlush2 d).2.2) (K : ∀ G9, LIM E G9 b x m o (cFlush2 d).2.2 (cFlush2 d).2.2 z → V E M_L_law 1893 [some (rv b), some (rv x), some (rv m), some (rv o), some (iv i), none, none, none] [] G9 c s Q X) : V E M_L_law 597 [some (rv b), some (rv x), some (rv m), some (rv o), some (iv i), none, none, none] [] G c s Q X := by
  refine b_L_law_597 ⟨h.2.1.1, Call.of (mc' := 0) (ms' := 0) (ok_flush2 h.2.1 hi) (Nat.zero_le _) (Nat.zero_le _) (fun e G9 h9 => (h9.2.1 h9.1.symm).elim) (fun r2 G3 hq => ?_)⟩
  have k1 := h.cls hq.2.2
  refine ⟨k1.2.2.1.1.1.1, Call.to (mc' := 0) (ms' := 0) (om_flush k1.2.2.1 hi) (Nat.zero_le _) (Nat.zero_le _) (fun r7 G8 hq2 => ⟨fun _ => K _ (k1.mdl hi2 hq2.2.2).1, fun h9 => absurd (hq.2.1.trans (hq2.2.1 rfl).symm) h9⟩)⟩
set_option maxRecDepth 20000 in
theorem l_log (h : LIM E G b x m o d d z) (hs : SCB E G b i) (hi : DI d) (hi2 : DI (cLog d).2.2) (K : ∀ G9, LIM E G9 b x m o (cLog d).2.2 (cLog d).2.2 z → V E M_L_law 1893 [some (rv b), some (rv x), some (rv m), some (rv o), some (iv i), none, none, none] [] G9 c s Q X) : V E M_L_law 610 [some (rv b), some (rv x), some (rv m), some (rv o), some (iv i), none, none, none] [] G c s Q X := by
  refine b_L_law_610 ⟨h.2.1.1, Call.of (mc' := 0) (ms' := 0) (ok_log h.2.1 ) (Nat.zero_le _) (Nat.zero_le _) (fun e G9 h9 => (h9.2.1 h9.1.symm).elim) (fun r2 G3 hq => ?_)⟩
  have k1 := h.cls hq.2.2
  refine ⟨k1.2.2.1.1.1.1, Call.to (mc' := 0) (ms' := 0) (om_log k1.2.2.1 ) (Nat.zero_le _) (Nat.zero_le _) (fun r7 G8 hq2 => ⟨fun _ => K _ (k1.mdl hi2 hq2.2.2).1, fun h9 => absurd (hq.2.1.trans (hq2.2.1 rfl).symm) h9⟩)⟩
set_option maxRecDepth 20000 in
theorem l_clear (h : LIM E G b x m o d d z) (hs : SCB E G b i) (hi : DI d) (hi2 : DI (cClear d).2.2) (K : ∀ G9, LIM E G9 b x m o (cClear d).2.2 (cClear d).2.2 z → V E M_L_law 1893 [some (rv b), some (rv x), some (rv m), some (rv o), some (iv i), none, none, none] [] G9 c s Q X) : V E M_L_law 919 [some (rv b), some (rv x), some (rv m), some (rv o), some (iv i), none, none, none] [] G c s Q X := by
  refine b_L_law_919 ⟨h.2.1.1, Call.of (mc' := 0) (ms' := 0) (ok_dclear h.2.1 hi) (Nat.zero_le _) (Nat.zero_le _) (fun e G9 h9 => (h9.2.1 h9.1.symm).elim) (fun r2 G3 hq => ?_)⟩
  have k1 := h.cls hq.2.2
  refine ⟨k1.2.2.1.1.1.1, Call.to (mc' := 0) (ms' := 0) (om_clear k1.2.2.1 ) (Nat.zero_le _) (Nat.zero_le _) (fun r7 G8 hq2 => ⟨fun _ => K _ (k1.mdl hi2 hq2.2.2).1, fun h9 => absurd (hq.2.1.trans (hq2.2.1 rfl).symm) h9⟩)⟩
set_option maxRecDepth 20000 in
theorem l_notices (h : LIM E G b x m o d d z) (hs : SCB E G b i) (hi : DI d) (hi2 : DI (cNotices d).2.2) (K : ∀ G9, LIM E G9 b x m o (cNotices d).2.2 (cNotices d).2.2 z → V E M_L_law 1893 [some (rv b), some (rv x), some (rv m), some (rv o), some (iv i), none, none, none] [] G9 c s Q X) : V E M_L_law 1523 [some (rv b), some (rv x), some (rv m), some (rv o), some (iv i), none, none, none] [] G c s Q X := by
  refine b_L_law_1523 ⟨h.2.1.1, Call.of (mc' := 0) (ms' := 0) (ok_notices h.2.1 ) (Nat.zero_le _) (Nat.zero_le _) (fun e G9 h9 => (h9.2.1 h9.1.symm).elim) (fun r2 G3 hq => ?_)⟩
  have k1 := h.cls hq.2.2
  refine ⟨k1.2.2.1.1.1.1, Call.to (mc' := 0) (ms' := 0) (om_notices k1.2.2.1 ) (Nat.zero_le _) (Nat.zero_le _) (fun r7 G8 hq2 => ⟨fun _ => K _ (k1.mdl hi2 hq2.2.2).1, fun h9 => absurd (hq.2.1.trans (hq2.2.1 rfl).symm) h9⟩)⟩
set_option maxRecDepth 20000 in
theorem l_down (h : LIM E G b x m o d d z) (hs : SCB E G b i) (e1 : kS E (i + 1) = a1) (hi : DI d) (hi2 : DI (cDown d (if a1 = 0 then (0 : Int) else 1)).2.2) (K : ∀ G9, LIM E G9 b x m o (cDown d (if a1 = 0 then (0 : Int) else 1)).2.2 (cDown d (if a1 = 0 then (0 : Int) else 1)).2.2 z → V E M_L_law 1893 [some (rv b), some (rv x), some (rv m), some (rv o), some (iv i), none, none, none] [] G9 c s Q X) : V E M_L_law 1783 [some (rv b), some (rv x), some (rv m), some (rv o), some (iv i), none, none, none] [] G c s Q X := by
  refine b_L_law_1783 (opn hs (by decide) ?_)
  simp only [hs.gel (j := 1) (by decide), e1]
  refine ⟨h.2.1.1, Call.of (mc' := 0) (ms' := 0) (ok_down h.2.1 hi (by split <;> simp)) (Nat.zero_le _) (Nat.zero_le _) (fun e G9 h9 => (h9.2.1 h9.1.symm).elim) (fun r2 G3 hq hp => ?_)⟩
  have k1 := h.cls hq.2.2
  have hs2 := hs.at k1.1 hp
  refine opn hs2 (by decide) ?_
  simp only [hs2.gel (j := 1) (by decide), e1]
  refine ⟨k1.2.2.1.1.1.1, Call.to (mc' := 0) (ms' := 0) (om_down k1.2.2.1 hi.2.1 (by split <;> simp)) (Nat.zero_le _) (Nat.zero_le _) (fun r7 G8 hq2 => ⟨fun _ => K _ (k1.mdl hi2 hq2.2.2).1, fun h9 => absurd (hq.2.1.trans (hq2.2.1 rfl).symm) h9⟩)⟩
set_option maxRecDepth 20000 in
theorem l_behind (h : LIM E G b x m o d d z) (hs : SCB E G b i) (hi : DI d) (hi2 : DI (cBehind d).2.2) (K : ∀ G9, LIM E G9 b x m o (cBehind d).2.2 (cBehind d).2.2 z → V E M_L_law 1893 [some (rv b), some (rv x), some (rv m), some (rv o), some (iv i), none, none, none] [] G9 c s Q X) : V E M_L_law 1824 [some (rv b), some (rv x), some (rv m), some (rv o), some (iv i), none, none, none] [] G c s Q X := by
  refine b_L_law_1824 ⟨h.2.1.1, Call.of (mc' := 0) (ms' := 0) (ok_behind h.2.1 hi) (Nat.zero_le _) (Nat.zero_le _) (fun e G9 h9 => (h9.2.1 h9.1.symm).elim) (fun r2 G3 hq => ?_)⟩
  have k1 := h.cls hq.2.2
  refine ⟨k1.2.2.1.1.1.1, Call.to (mc' := 0) (ms' := 0) (om_behind k1.2.2.1 ) (Nat.zero_le _) (Nat.zero_le _) (fun r7 G8 hq2 => ⟨fun _ => K _ (k1.mdl hi2 hq2.2.2).1, fun h9 => absurd (hq.2.1.trans (hq2.2.1 rfl).symm) h9⟩)⟩
end Sc01
