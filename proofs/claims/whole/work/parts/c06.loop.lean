/-! the law's loop (written by program: wip/gen/lloop.py) -/
section Sc06
variable {E : EE} {G : Gt} {c s : Nat} {b i m x o : Int} {d : DS} {z : Mz} {kk : Int}
def LQ : Int → Gt → Prop := fun r _ => r = 1
def LX : Int → Gt → Prop := fun _ _ => False
theorem PK.stay (h : PK kk d z c s) (hk : kk < 512) : PK (kk + 1) d z c s :=
  (h.mild (C1 := 0) (C2 := 0) (S1 := 0) (S2 := 0) hk (MD9.refl h.2.1.1) (by omega) (by omega)).2.2
theorem zz_le (h : Np kk d z) : (40000 ≤ z.1 ∧ z.1 ≤ 160000) ∧ 40000 ≤ z.2 ∧ z.2 ≤ 160000 := by
  obtain ⟨-, -, -, -, -, n6, n7, -⟩ := h
  unfold zz at n6 n7
  omega
theorem n_write (h : LIM E G b x m o d d z) (hs : SCB E G b i) (hP : PK kk d z c s) (hk : kk < 512) (K : ∀ G9 d9 z9 c9 s9, LIM E G9 b x m o d9 d9 z9 → PK (kk + 1) d9 z9 c9 s9 → V E M_L_law 1893 [some (rv b), some (rv x), some (rv m), some (rv o), some (iv i), none, none, none] [] G9 c9 s9 LQ LX) : V E M_L_law 176 [some (rv b), some (rv x), some (rv m), some (rv o), some (iv i), none, none, none] [] G c s LQ LX := by
  obtain ⟨hi, hb, h4⟩ := hP.2.1.1
  obtain ⟨c1, s1, p1⟩ := pk_write (a1 := kS E (i + 1)) (a2 := kS E (i + 2)) (a3 := kS E (i + 3)) (a4 := kS E (i + 4)) (a5 := kS E (i + 5)) hP hk
  have hz12 := zz_le hP.2.1.2.1
  exact l_write h hs rfl rfl rfl rfl rfl hi p1.2.1.1.1 ⟨by omega, by omega⟩ c1 s1 (fun G9 k9 => K G9 _ _ _ _ k9 p1)
theorem n_series (h : LIM E G b x m o d d z) (hs : SCB E G b i) (hP : PK kk d z c s) (hk : kk < 512) (K : ∀ G9 d9 z9 c9 s9, LIM E G9 b x m o d9 d9 z9 → PK (kk + 1) d9 z9 c9 s9 → V E M_L_law 1893 [some (rv b), some (rv x), some (rv m), some (rv o), some (iv i), none, none, none] [] G9 c9 s9 LQ LX) : V E M_L_law 280 [some (rv b), some (rv x), some (rv m), some (rv o), some (iv i), none, none, none] [] G c s LQ LX := by
  obtain ⟨hi, hb, h4⟩ := hP.2.1.1
  have hm := md_series (d := d) ⟨hi, hb, h4⟩
  obtain ⟨c1, s1, p1⟩ := hP.mild (C1 := 0) (C2 := 0) (S1 := 0) (S2 := 0) hk hm (by omega) (by omega)
  exact l_series h hs hi hm.1.1 (fun G9 k9 => K G9 _ _ _ _ k9 p1)
theorem n_labels (h : LIM E G b x m o d d z) (hs : SCB E G b i) (hP : PK kk d z c s) (hk : kk < 512) (K : ∀ G9 d9 z9 c9 s9, LIM E G9 b x m o d9 d9 z9 → PK (kk + 1) d9 z9 c9 s9 → V E M_L_law 1893 [some (rv b), some (rv x), some (rv m), some (rv o), some (iv i), none, none, none] [] G9 c9 s9 LQ LX) : V E M_L_law 293 [some (rv b), some (rv x), some (rv m), some (rv o), some (iv i), none, none, none] [] G c s LQ LX := by
  obtain ⟨hi, hb, h4⟩ := hP.2.1.1
  have hm := md_labels (d := d) (a1 := kS E (i + 1)) ⟨hi, hb, h4⟩
  obtain ⟨c1, s1, p1⟩ := hP.mild (C1 := 1) (C2 := 0) (S1 := 6) (S2 := 0) hk hm (by omega) (by omega)
  exact l_labels h hs rfl hi hm.1.1  c1 s1 (fun G9 k9 => K G9 _ _ _ _ k9 p1)
theorem n_samples (h : LIM E G b x m o d d z) (hs : SCB E G b i) (hP : PK kk d z c s) (hk : kk < 512) (K : ∀ G9 d9 z9 c9 s9, LIM E G9 b x m o d9 d9 z9 → PK (kk + 1) d9 z9 c9 s9 → V E M_L_law 1893 [some (rv b), some (rv x), some (rv m), some (rv o), some (iv i), none, none, none] [] G9 c9 s9 LQ LX) : V E M_L_law 349 [some (rv b), some (rv x), some (rv m), some (rv o), some (iv i), none, none, none] [] G c s LQ LX := by
  obtain ⟨hi, hb, h4⟩ := hP.2.1.1
  have hm := md_samples (d := d) (a1 := kS E (i + 1)) ⟨hi, hb, h4⟩
  obtain ⟨c1, s1, p1⟩ := hP.mild (C1 := 1) (C2 := 0) (S1 := 6) (S2 := 0) hk hm (by omega) (by omega)
  exact l_samples h hs rfl hi hm.1.1 hi.1.1 c1 s1 (fun G9 k9 => K G9 _ _ _ _ k9 p1)
theorem n_erase (h : LIM E G b x m o d d z) (hs : SCB E G b i) (hP : PK kk d z c s) (hk : kk < 512) (K : ∀ G9 d9 z9 c9 s9, LIM E G9 b x m o d9 d9 z9 → PK (kk + 1) d9 z9 c9 s9 → V E M_L_law 1893 [some (rv b), some (rv x), some (rv m), some (rv o), some (iv i), none, none, none] [] G9 c9 s9 LQ LX) : V E M_L_law 405 [some (rv b), some (rv x), some (rv m), some (rv o), some (iv i), none, none, none] [] G c s LQ LX := by
  obtain ⟨hi, hb, h4⟩ := hP.2.1.1
  obtain ⟨c1, s1, p1⟩ := pk_erase (a1 := kS E (i + 1)) (a2 := kS E (i + 2)) (a3 := kS E (i + 3)) hP hk
  have hz12 := zz_le hP.2.1.2.1
  have he2 := hP.2.1.2.2.2
  have hk1 := hP.1
  exact l_erase h hs rfl rfl rfl hi p1.2.1.1.1 (by omega) (by omega) c1 s1 (fun G9 k9 => K G9 _ _ _ _ k9 p1)
theorem n_pass (h : LIM E G b x m o d d z) (hs : SCB E G b i) (hP : PK kk d z c s) (hk : kk < 512) (K : ∀ G9 d9 z9 c9 s9, LIM E G9 b x m o d9 d9 z9 → PK (kk + 1) d9 z9 c9 s9 → V E M_L_law 1893 [some (rv b), some (rv x), some (rv m), some (rv o), some (iv i), none, none, none] [] G9 c9 s9 LQ LX) : V E M_L_law 485 [some (rv b), some (rv x), some (rv m), some (rv o), some (iv i), none, none, none] [] G c s LQ LX := by
  obtain ⟨hi, hb, h4⟩ := hP.2.1.1
  obtain ⟨c1, s1, p1⟩ := pk_pass (a1 := kS E (i + 1)) hP hk
  have hz12 := zz_le hP.2.1.2.1
  have hb5 := hP.2.1.2.1.nm.b5 hi (by have := hP.1; omega)
  have hn3 := hP.2.1.2.2.1
  exact l_pass h hs rfl hi p1.2.1.1.1 ⟨hi, hb, by omega, by omega, by omega⟩ h4 ⟨by omega, by omega, by omega⟩ c1 s1 (fun G9 k9 => K G9 _ _ _ _ k9 p1)
theorem n_retain (h : LIM E G b x m o d d z) (hs : SCB E G b i) (hP : PK kk d z c s) (hk : kk < 512) (K : ∀ G9 d9 z9 c9 s9, LIM E G9 b x m o d9 d9 z9 → PK (kk + 1) d9 z9 c9 s9 → V E M_L_law 1893 [some (rv b), some (rv x), some (rv m), some (rv o), some (iv i), none, none, none] [] G9 c9 s9 LQ LX) : V E M_L_law 541 [some (rv b), some (rv x), some (rv m), some (rv o), some (iv i), none, none, none] [] G c s LQ LX := by
  obtain ⟨hi, hb, h4⟩ := hP.2.1.1
  have hm := md_retain (d := d) (a1 := kS E (i + 1)) ⟨hi, hb, h4⟩
  obtain ⟨c1, s1, p1⟩ := hP.mild (C1 := 1) (C2 := 0) (S1 := 6) (S2 := 0) hk hm (by omega) (by omega)
  exact l_retain h hs rfl hi hm.1.1  c1 s1 (fun G9 k9 => K G9 _ _ _ _ k9 p1)
theorem n_flush (h : LIM E G b x m o d d z) (hs : SCB E G b i) (hP : PK kk d z c s) (hk : kk < 512) (K : ∀ G9 d9 z9 c9 s9, LIM E G9 b x m o d9 d9 z9 → PK (kk + 1) d9 z9 c9 s9 → V E M_L_law 1893 [some (rv b), some (rv x), some (rv m), some (rv o), some (iv i), none, none, none] [] G9 c9 s9 LQ LX) : V E M_L_law 597 [some (rv b), some (rv x), some (rv m), some (rv o), some (iv i), none, none, none] [] G c s LQ LX := by
  obtain ⟨hi, hb, h4⟩ := hP.2.1.1
  have p1 := pk_flush hP hk
  exact l_flush h hs hi p1.2.1.1.1 (fun G9 k9 => K G9 _ _ _ _ k9 p1)
theorem n_log (h : LIM E G b x m o d d z) (hs : SCB E G b i) (hP : PK kk d z c s) (hk : kk < 512) (K : ∀ G9 d9 z9 c9 s9, LIM E G9 b x m o d9 d9 z9 → PK (kk + 1) d9 z9 c9 s9 → V E M_L_law 1893 [some (rv b), some (rv x), some (rv m), some (rv o), some (iv i), none, none, none] [] G9 c9 s9 LQ LX) : V E M_L_law 610 [some (rv b), some (rv x), some (rv m), some (rv o), some (iv i), none, none, none] [] G c s LQ LX := by
  obtain ⟨hi, hb, h4⟩ := hP.2.1.1
  have hm := md_log (d := d) ⟨hi, hb, h4⟩
  obtain ⟨c1, s1, p1⟩ := hP.mild (C1 := 0) (C2 := 0) (S1 := 0) (S2 := 0) hk hm (by omega) (by omega)
  exact l_log h hs hi hm.1.1 (fun G9 k9 => K G9 _ _ _ _ k9 p1)
theorem n_crash (h : LIM E G b x m o d d z) (hs : SCB E G b i) (hP : PK kk d z c s) (hk : kk < 512) (K : ∀ G9 d9 z9 c9 s9, LIM E G9 b x m o d9 d9 z9 → PK (kk + 1) d9 z9 c9 s9 → V E M_L_law 1893 [some (rv b), some (rv x), some (rv m), some (rv o), some (iv i), none, none, none] [] G9 c9 s9 LQ LX) : V E M_L_law 623 [some (rv b), some (rv x), some (rv m), some (rv o), some (iv i), none, none, none] [] G c s LQ LX := by
  obtain ⟨hi, hb, h4⟩ := hP.2.1.1
  obtain ⟨c1, s1, p1⟩ := pk_crash (a1 := kS E (i + 1)) hP hk
  exact l_crash h hs rfl hi p1.2.1.1.1  c1 s1 (fun G9 k9 => K G9 _ _ _ _ k9 p1)
theorem n_bits (h : LIM E G b x m o d d z) (hs : SCB E G b i) (hP : PK kk d z c s) (hk : kk < 512) (K : ∀ G9 d9 z9 c9 s9, LIM E G9 b x m o d9 d9 z9 → PK (kk + 1) d9 z9 c9 s9 → V E M_L_law 1893 [some (rv b), some (rv x), some (rv m), some (rv o), some (iv i), none, none, none] [] G9 c9 s9 LQ LX) : V E M_L_law 679 [some (rv b), some (rv x), some (rv m), some (rv o), some (iv i), none, none, none] [] G c s LQ LX := by
  obtain ⟨hi, hb, h4⟩ := hP.2.1.1
  have hm := md_bits (d := d) (a1 := kS E (i + 1)) (a2 := kS E (i + 2)) ⟨hi, hb, h4⟩
  obtain ⟨c1, s1, p1⟩ := hP.mild (C1 := 1) (C2 := 0) (S1 := 6) (S2 := 0) hk hm (by omega) (by omega)
  exact l_bits h hs rfl rfl hi hm.1.1 h4.2.2.2 c1 s1 (fun G9 k9 => K G9 _ _ _ _ k9 p1)
theorem n_select (h : LIM E G b x m o d d z) (hs : SCB E G b i) (hP : PK kk d z c s) (hk : kk < 512) (K : ∀ G9 d9 z9 c9 s9, LIM E G9 b x m o d9 d9 z9 → PK (kk + 1) d9 z9 c9 s9 → V E M_L_law 1893 [some (rv b), some (rv x), some (rv m), some (rv o), some (iv i), none, none, none] [] G9 c9 s9 LQ LX) : V E M_L_law 747 [some (rv b), some (rv x), some (rv m), some (rv o), some (iv i), none, none, none] [] G c s LQ LX := by
  obtain ⟨hi, hb, h4⟩ := hP.2.1.1
  have hm := md_select (d := d) (a1 := kS E (i + 1)) (a2 := kS E (i + 2)) (a3 := kS E (i + 3)) (a4 := kS E (i + 4)) ⟨hi, hb, h4⟩
  obtain ⟨c1, s1, p1⟩ := hP.mild (C1 := 1) (C2 := 0) (S1 := 6) (S2 := 0) hk hm (by omega) (by omega)
  exact l_select h hs rfl rfl rfl rfl hi hm.1.1  c1 s1 (fun G9 k9 => K G9 _ _ _ _ k9 p1)
theorem n_word (h : LIM E G b x m o d d z) (hs : SCB E G b i) (hP : PK kk d z c s) (hk : kk < 512) (K : ∀ G9 d9 z9 c9 s9, LIM E G9 b x m o d9 d9 z9 → PK (kk + 1) d9 z9 c9 s9 → V E M_L_law 1893 [some (rv b), some (rv x), some (rv m), some (rv o), some (iv i), none, none, none] [] G9 c9 s9 LQ LX) : V E M_L_law 839 [some (rv b), some (rv x), some (rv m), some (rv o), some (iv i), none, none, none] [] G c s LQ LX := by
  obtain ⟨hi, hb, h4⟩ := hP.2.1.1
  have hm := md_word (d := d) (a1 := kS E (i + 1)) (a2 := kS E (i + 2)) (a3 := kS E (i + 3)) ⟨hi, hb, h4⟩
  obtain ⟨c1, s1, p1⟩ := hP.mild (C1 := 2) (C2 := 0) (S1 := 22) (S2 := 0) hk hm (by omega) (by omega)
  exact l_word h hs rfl rfl rfl hi hm.1.1  c1 s1 (fun G9 k9 => K G9 _ _ _ _ k9 p1)
theorem n_clear (h : LIM E G b x m o d d z) (hs : SCB E G b i) (hP : PK kk d z c s) (hk : kk < 512) (K : ∀ G9 d9 z9 c9 s9, LIM E G9 b x m o d9 d9 z9 → PK (kk + 1) d9 z9 c9 s9 → V E M_L_law 1893 [some (rv b), some (rv x), some (rv m), some (rv o), some (iv i), none, none, none] [] G9 c9 s9 LQ LX) : V E M_L_law 919 [some (rv b), some (rv x), some (rv m), some (rv o), some (iv i), none, none, none] [] G c s LQ LX := by
  obtain ⟨hi, hb, h4⟩ := hP.2.1.1
  have hm := md_clear (d := d) ⟨hi, hb, h4⟩
  obtain ⟨c1, s1, p1⟩ := hP.mild (C1 := 0) (C2 := 0) (S1 := 0) (S2 := 0) hk hm (by omega) (by omega)
  exact l_clear h hs hi hm.1.1 (fun G9 k9 => K G9 _ _ _ _ k9 p1)
theorem n_ask (h : LIM E G b x m o d d z) (hs : SCB E G b i) (hP : PK kk d z c s) (hk : kk < 512) (K : ∀ G9 d9 z9 c9 s9, LIM E G9 b x m o d9 d9 z9 → PK (kk + 1) d9 z9 c9 s9 → V E M_L_law 1893 [some (rv b), some (rv x), some (rv m), some (rv o), some (iv i), none, none, none] [] G9 c9 s9 LQ LX) : V E M_L_law 932 [some (rv b), some (rv x), some (rv m), some (rv o), some (iv i), none, none, none] [] G c s LQ LX := by
  obtain ⟨hi, hb, h4⟩ := hP.2.1.1
  have hm := md_ask (d := d) (a1 := kS E (i + 1)) ⟨hi, hb, h4⟩
  obtain ⟨c1, s1, p1⟩ := hP.mild (C1 := 1) (C2 := 0) (S1 := 6) (S2 := 0) hk hm (by omega) (by omega)
  exact l_ask h hs rfl hi hm.1.1 h4.1 c1 s1 (fun G9 k9 => K G9 _ _ _ _ k9 p1)
theorem n_value (h : LIM E G b x m o d d z) (hs : SCB E G b i) (hP : PK kk d z c s) (hk : kk < 512) (K : ∀ G9 d9 z9 c9 s9, LIM E G9 b x m o d9 d9 z9 → PK (kk + 1) d9 z9 c9 s9 → V E M_L_law 1893 [some (rv b), some (rv x), some (rv m), some (rv o), some (iv i), none, none, none] [] G9 c9 s9 LQ LX) : V E M_L_law 988 [some (rv b), some (rv x), some (rv m), some (rv o), some (iv i), none, none, none] [] G c s LQ LX := by
  obtain ⟨hi, hb, h4⟩ := hP.2.1.1
  have hm := md_value (d := d) (a1 := kS E (i + 1)) ⟨hi, hb, h4⟩
  obtain ⟨c1, s1, p1⟩ := hP.mild (C1 := 1) (C2 := 0) (S1 := 6) (S2 := 0) hk hm (by omega) (by omega)
  exact l_value h hs rfl hi hm.1.1  c1 s1 (fun G9 k9 => K G9 _ _ _ _ k9 p1)
theorem n_labelsOf (h : LIM E G b x m o d d z) (hs : SCB E G b i) (hP : PK kk d z c s) (hk : kk < 512) (K : ∀ G9 d9 z9 c9 s9, LIM E G9 b x m o d9 d9 z9 → PK (kk + 1) d9 z9 c9 s9 → V E M_L_law 1893 [some (rv b), some (rv x), some (rv m), some (rv o), some (iv i), none, none, none] [] G9 c9 s9 LQ LX) : V E M_L_law 1043 [some (rv b), some (rv x), some (rv m), some (rv o), some (iv i), none, none, none] [] G c s LQ LX := by
  obtain ⟨hi, hb, h4⟩ := hP.2.1.1
  have hm := md_labelsOf (d := d) (a1 := kS E (i + 1)) ⟨hi, hb, h4⟩
  obtain ⟨c1, s1, p1⟩ := hP.mild (C1 := 1) (C2 := 0) (S1 := 6) (S2 := 0) hk hm (by omega) (by omega)
  exact l_labelsOf h hs rfl hi hm.1.1  c1 s1 (fun G9 k9 => K G9 _ _ _ _ k9 p1)
theorem n_record (h : LIM E G b x m o d d z) (hs : SCB E G b i) (hP : PK kk d z c s) (hk : kk < 512) (K : ∀ G9 d9 z9 c9 s9, LIM E G9 b x m o d9 d9 z9 → PK (kk + 1) d9 z9 c9 s9 → V E M_L_law 1893 [some (rv b), some (rv x), some (rv m), some (rv o), some (iv i), none, none, none] [] G9 c9 s9 LQ LX) : V E M_L_law 1099 [some (rv b), some (rv x), some (rv m), some (rv o), some (iv i), none, none, none] [] G c s LQ LX := by
  obtain ⟨hi, hb, h4⟩ := hP.2.1.1
  have hm := md_record (d := d) (a1 := kS E (i + 1)) ⟨hi, hb, h4⟩
  obtain ⟨c1, s1, p1⟩ := hP.mild (C1 := 4) (C2 := 0) (S1 := 30) (S2 := 0) hk hm (by omega) (by omega)
  exact l_record h hs rfl hi hm.1.1  c1 s1 (fun G9 k9 => K G9 _ _ _ _ k9 p1)
theorem n_alert (h : LIM E G b x m o d d z) (hs : SCB E G b i) (hP : PK kk d z c s) (hk : kk < 512) (K : ∀ G9 d9 z9 c9 s9, LIM E G9 b x m o d9 d9 z9 → PK (kk + 1) d9 z9 c9 s9 → V E M_L_law 1893 [some (rv b), some (rv x), some (rv m), some (rv o), some (iv i), none, none, none] [] G9 c9 s9 LQ LX) : V E M_L_law 1155 [some (rv b), some (rv x), some (rv m), some (rv o), some (iv i), none, none, none] [] G c s LQ LX := by
  obtain ⟨hi, hb, h4⟩ := hP.2.1.1
  have hm := md_alert (d := d) (a1 := kS E (i + 1)) (a2 := kS E (i + 2)) ⟨hi, hb, h4⟩
  obtain ⟨c1, s1, p1⟩ := hP.mild (C1 := 4) (C2 := 0) (S1 := 30) (S2 := 0) hk hm (by omega) (by omega)
  exact l_alert h hs rfl rfl hi hm.1.1  c1 s1 (fun G9 k9 => K G9 _ _ _ _ k9 p1)
theorem n_inhibit (h : LIM E G b x m o d d z) (hs : SCB E G b i) (hP : PK kk d z c s) (hk : kk < 512) (K : ∀ G9 d9 z9 c9 s9, LIM E G9 b x m o d9 d9 z9 → PK (kk + 1) d9 z9 c9 s9 → V E M_L_law 1893 [some (rv b), some (rv x), some (rv m), some (rv o), some (iv i), none, none, none] [] G9 c9 s9 LQ LX) : V E M_L_law 1223 [some (rv b), some (rv x), some (rv m), some (rv o), some (iv i), none, none, none] [] G c s LQ LX := by
  obtain ⟨hi, hb, h4⟩ := hP.2.1.1
  have hm := md_inhibit (d := d) (a1 := kS E (i + 1)) (a2 := kS E (i + 2)) ⟨hi, hb, h4⟩
  obtain ⟨c1, s1, p1⟩ := hP.mild (C1 := 1) (C2 := 0) (S1 := 6) (S2 := 0) hk hm (by omega) (by omega)
  exact l_inhibit h hs rfl rfl hi hm.1.1  c1 s1 (fun G9 k9 => K G9 _ _ _ _ k9 p1)
theorem n_silence (h : LIM E G b x m o d d z) (hs : SCB E G b i) (hP : PK kk d z c s) (hk : kk < 512) (K : ∀ G9 d9 z9 c9 s9, LIM E G9 b x m o d9 d9 z9 → PK (kk + 1) d9 z9 c9 s9 → V E M_L_law 1893 [some (rv b), some (rv x), some (rv m), some (rv o), some (iv i), none, none, none] [] G9 c9 s9 LQ LX) : V E M_L_law 1291 [some (rv b), some (rv x), some (rv m), some (rv o), some (iv i), none, none, none] [] G c s LQ LX := by
  obtain ⟨hi, hb, h4⟩ := hP.2.1.1
  have hm := md_silence (d := d) (a1 := kS E (i + 1)) (a2 := kS E (i + 2)) ⟨hi, hb, h4⟩
  obtain ⟨c1, s1, p1⟩ := hP.mild (C1 := 1) (C2 := 0) (S1 := 18) (S2 := 0) hk hm (by omega) (by omega)
  exact l_silence h hs rfl rfl hi hm.1.1  c1 s1 (fun G9 k9 => K G9 _ _ _ _ k9 p1)
theorem n_entries (h : LIM E G b x m o d d z) (hs : SCB E G b i) (hP : PK kk d z c s) (hk : kk < 512) (K : ∀ G9 d9 z9 c9 s9, LIM E G9 b x m o d9 d9 z9 → PK (kk + 1) d9 z9 c9 s9 → V E M_L_law 1893 [some (rv b), some (rv x), some (rv m), some (rv o), some (iv i), none, none, none] [] G9 c9 s9 LQ LX) : V E M_L_law 1359 [some (rv b), some (rv x), some (rv m), some (rv o), some (iv i), none, none, none] [] G c s LQ LX := by
  obtain ⟨hi, hb, h4⟩ := hP.2.1.1
  have hm := md_entries (d := d) (a1 := kS E (i + 1)) (a2 := (if kS E (i + 2) = 0 then (0 : Int) else 1)) ⟨hi, hb, h4⟩
  obtain ⟨c1, s1, p1⟩ := hP.mild (C1 := 1) (C2 := 0) (S1 := 6) (S2 := 0) hk hm (by omega) (by omega)
  exact l_entries h hs rfl rfl hi hm.1.1  c1 s1 (fun G9 k9 => K G9 _ _ _ _ k9 p1)
theorem n_entry (h : LIM E G b x m o d d z) (hs : SCB E G b i) (hP : PK kk d z c s) (hk : kk < 512) (K : ∀ G9 d9 z9 c9 s9, LIM E G9 b x m o d9 d9 z9 → PK (kk + 1) d9 z9 c9 s9 → V E M_L_law 1893 [some (rv b), some (rv x), some (rv m), some (rv o), some (iv i), none, none, none] [] G9 c9 s9 LQ LX) : V E M_L_law 1443 [some (rv b), some (rv x), some (rv m), some (rv o), some (iv i), none, none, none] [] G c s LQ LX := by
  obtain ⟨hi, hb, h4⟩ := hP.2.1.1
  have hm := md_entry (d := d) (a1 := kS E (i + 1)) (a2 := kS E (i + 2)) (a3 := kS E (i + 3)) ⟨hi, hb, h4⟩
  obtain ⟨c1, s1, p1⟩ := hP.mild (C1 := 1) (C2 := 0) (S1 := 6) (S2 := 0) hk hm (by omega) (by omega)
  exact l_entry h hs rfl rfl rfl hi hm.1.1  c1 s1 (fun G9 k9 => K G9 _ _ _ _ k9 p1)
theorem n_notices (h : LIM E G b x m o d d z) (hs : SCB E G b i) (hP : PK kk d z c s) (hk : kk < 512) (K : ∀ G9 d9 z9 c9 s9, LIM E G9 b x m o d9 d9 z9 → PK (kk + 1) d9 z9 c9 s9 → V E M_L_law 1893 [some (rv b), some (rv x), some (rv m), some (rv o), some (iv i), none, none, none] [] G9 c9 s9 LQ LX) : V E M_L_law 1523 [some (rv b), some (rv x), some (rv m), some (rv o), some (iv i), none, none, none] [] G c s LQ LX := by
  obtain ⟨hi, hb, h4⟩ := hP.2.1.1
  have hm := md_notices (d := d) ⟨hi, hb, h4⟩
  obtain ⟨c1, s1, p1⟩ := hP.mild (C1 := 0) (C2 := 0) (S1 := 0) (S2 := 0) hk hm (by omega) (by omega)
  exact l_notices h hs hi hm.1.1 (fun G9 k9 => K G9 _ _ _ _ k9 p1)
theorem n_notice (h : LIM E G b x m o d d z) (hs : SCB E G b i) (hP : PK kk d z c s) (hk : kk < 512) (K : ∀ G9 d9 z9 c9 s9, LIM E G9 b x m o d9 d9 z9 → PK (kk + 1) d9 z9 c9 s9 → V E M_L_law 1893 [some (rv b), some (rv x), some (rv m), some (rv o), some (iv i), none, none, none] [] G9 c9 s9 LQ LX) : V E M_L_law 1536 [some (rv b), some (rv x), some (rv m), some (rv o), some (iv i), none, none, none] [] G c s LQ LX := by
  obtain ⟨hi, hb, h4⟩ := hP.2.1.1
  have hm := md_notice (d := d) (a1 := kS E (i + 1)) (a2 := kS E (i + 2)) ⟨hi, hb, h4⟩
  obtain ⟨c1, s1, p1⟩ := hP.mild (C1 := 1) (C2 := 0) (S1 := 6) (S2 := 0) hk hm (by omega) (by omega)
  exact l_notice h hs rfl rfl hi hm.1.1  c1 s1 (fun G9 k9 => K G9 _ _ _ _ k9 p1)
theorem n_thinned (h : LIM E G b x m o d d z) (hs : SCB E G b i) (hP : PK kk d z c s) (hk : kk < 512) (K : ∀ G9 d9 z9 c9 s9, LIM E G9 b x m o d9 d9 z9 → PK (kk + 1) d9 z9 c9 s9 → V E M_L_law 1893 [some (rv b), some (rv x), some (rv m), some (rv o), some (iv i), none, none, none] [] G9 c9 s9 LQ LX) : V E M_L_law 1604 [some (rv b), some (rv x), some (rv m), some (rv o), some (iv i), none, none, none] [] G c s LQ LX := by
  obtain ⟨hi, hb, h4⟩ := hP.2.1.1
  have hm := md_thinned (d := d) (a1 := kS E (i + 1)) (a2 := kS E (i + 2)) (a3 := kS E (i + 3)) (a4 := kS E (i + 4)) ⟨hi, hb, h4⟩
  obtain ⟨c1, s1, p1⟩ := hP.mild (C1 := 1) (C2 := 0) (S1 := 6) (S2 := 0) hk hm (by omega) (by omega)
  exact l_thinned h hs rfl rfl rfl rfl hi hm.1.1  c1 s1 (fun G9 k9 => K G9 _ _ _ _ k9 p1)
theorem n_suits (h : LIM E G b x m o d d z) (hs : SCB E G b i) (hP : PK kk d z c s) (hk : kk < 512) (K : ∀ G9 d9 z9 c9 s9, LIM E G9 b x m o d9 d9 z9 → PK (kk + 1) d9 z9 c9 s9 → V E M_L_law 1893 [some (rv b), some (rv x), some (rv m), some (rv o), some (iv i), none, none, none] [] G9 c9 s9 LQ LX) : V E M_L_law 1696 [some (rv b), some (rv x), some (rv m), some (rv o), some (iv i), none, none, none] [] G c s LQ LX := by
  obtain ⟨hi, hb, h4⟩ := hP.2.1.1
  have hm := md_suits (d := d) (a1 := kS E (i + 1)) (a2 := kS E (i + 2)) (a3 := kS E (i + 3)) ⟨hi, hb, h4⟩
  obtain ⟨c1, s1, p1⟩ := hP.mild (C1 := 1) (C2 := 0) (S1 := 6) (S2 := 0) hk hm (by omega) (by omega)
  exact l_suits h hs rfl rfl rfl hi hm.1.1  c1 s1 (fun G9 k9 => K G9 _ _ _ _ k9 p1)
theorem n_down (h : LIM E G b x m o d d z) (hs : SCB E G b i) (hP : PK kk d z c s) (hk : kk < 512) (K : ∀ G9 d9 z9 c9 s9, LIM E G9 b x m o d9 d9 z9 → PK (kk + 1) d9 z9 c9 s9 → V E M_L_law 1893 [some (rv b), some (rv x), some (rv m), some (rv o), some (iv i), none, none, none] [] G9 c9 s9 LQ LX) : V E M_L_law 1783 [some (rv b), some (rv x), some (rv m), some (rv o), some (iv i), none, none, none] [] G c s LQ LX := by
  obtain ⟨hi, hb, h4⟩ := hP.2.1.1
  have hm := md_down (d := d) (v := if kS E (i + 1) = 0 then (0 : Int) else 1) ⟨hi, hb, h4⟩ (by split <;> simp)
  obtain ⟨c1, s1, p1⟩ := hP.mild (C1 := 0) (C2 := 0) (S1 := 0) (S2 := 0) hk hm (by omega) (by omega)
  exact l_down h hs rfl hi hm.1.1 (fun G9 k9 => K G9 _ _ _ _ k9 p1)
theorem n_behind (h : LIM E G b x m o d d z) (hs : SCB E G b i) (hP : PK kk d z c s) (hk : kk < 512) (K : ∀ G9 d9 z9 c9 s9, LIM E G9 b x m o d9 d9 z9 → PK (kk + 1) d9 z9 c9 s9 → V E M_L_law 1893 [some (rv b), some (rv x), some (rv m), some (rv o), some (iv i), none, none, none] [] G9 c9 s9 LQ LX) : V E M_L_law 1824 [some (rv b), some (rv x), some (rv m), some (rv o), some (iv i), none, none, none] [] G c s LQ LX := by
  obtain ⟨hi, hb, h4⟩ := hP.2.1.1
  have hm := md_behind (d := d) ⟨hi, hb, h4⟩
  obtain ⟨c1, s1, p1⟩ := hP.mild (C1 := 0) (C2 := 0) (S1 := 0) (S2 := 0) hk hm (by omega) (by omega)
  exact l_behind h hs hi hm.1.1 (fun G9 k9 => K G9 _ _ _ _ k9 p1)
theorem n_mend (h : LIM E G b x m o d d z) (hs : SCB E G b i) (hP : PK kk d z c s) (hk : kk < 512) (K : ∀ G9 d9 z9 c9 s9, LIM E G9 b x m o d9 d9 z9 → PK (kk + 1) d9 z9 c9 s9 → V E M_L_law 1893 [some (rv b), some (rv x), some (rv m), some (rv o), some (iv i), none, none, none] [] G9 c9 s9 LQ LX) : V E M_L_law 1837 [some (rv b), some (rv x), some (rv m), some (rv o), some (iv i), none, none, none] [] G c s LQ LX := by
  obtain ⟨hi, hb, h4⟩ := hP.2.1.1
  have hm := md_mend (d := d) (a1 := kS E (i + 1)) ⟨hi, hb, h4⟩
  obtain ⟨c1, s1, p1⟩ := hP.mild (C1 := 1) (C2 := 0) (S1 := 6) (S2 := 0) hk hm (by omega) (by omega)
  exact l_mend h hs rfl hi hm.1.1  c1 s1 (fun G9 k9 => K G9 _ _ _ _ k9 p1)
theorem v_law (hb : b = (eS E).1) (hlen : (eS E).2.1 ≤ 3072) : ∀ (n kk : Nat) (G : Gt) (d : DS) (z : Mz) (c s : Nat), kk + n = 512 → LIM E G b x m o d d z → PK kk d z c s → V E M_L_law 23 [some (rv b), some (rv x), some (rv m), some (rv o), some (iv (6 * (kk : Int))), none, none, none] [] G c s LQ LX := by
  intro n
  induction n with
  | zero =>
    intro kk G d z c s hn h hP
    refine V.scr (fun hp => ?_)
    have hg : gln G b = (eS E).2.1 := by
      have := h.1
      subst hb
      exact (hp this).1
    refine b_L_law_23 ⟨by rw [h.1]; decide, ⟨by omega, by omega⟩, fun _ => rfl, fun h9 => ?_⟩
    omega
  | succ n ih =>
    intro kk G d z c s hn h hP
    refine V.scr (fun hp => ?_)
    have hg : gln G b = (eS E).2.1 := by
      have := h.1
      subst hb
      exact (hp this).1
    refine b_L_law_23 ⟨by rw [h.1]; decide, ⟨by omega, by omega⟩, fun _ => rfl, fun h9 => ?_⟩
    have hs : SCB E G b (6 * (kk : Int)) := ⟨⟨hb, h.1, hp⟩, by omega, by omega, by omega⟩
    have hk : (kk : Int) < 512 := by omega
    have K : ∀ G9 d9 z9 c9 s9, LIM E G9 b x m o d9 d9 z9 → PK ((kk : Int) + 1) d9 z9 c9 s9 → V E M_L_law 1893 [some (rv b), some (rv x), some (rv m), some (rv o), some (iv (6 * (kk : Int))), none, none, none] [] G9 c9 s9 LQ LX := fun G9 d9 z9 c9 s9 h9 p9 => by
      refine b_L_law_1893 ⟨⟨by omega, by omega⟩, ?_⟩
      have e : 6 * (kk : Int) + 6 = 6 * ((kk + 1 : Nat) : Int) := by omega
      rw [e]
      exact ih (kk + 1) G9 d9 z9 c9 s9 (by omega) h9 p9
    exact ⟨Or.inr h.1, by omega, by omega, fun _ => n_write h hs hP hk K, fun _ => n_series h hs hP hk K, fun _ => n_labels h hs hP hk K, fun _ => n_samples h hs hP hk K, fun _ => n_erase h hs hP hk K, fun _ => n_pass h hs hP hk K, fun _ => n_retain h hs hP hk K, fun _ => n_flush h hs hP hk K, fun _ => n_log h hs hP hk K, fun _ => n_crash h hs hP hk K, fun _ => n_bits h hs hP hk K, fun _ => n_select h hs hP hk K, fun _ => n_word h hs hP hk K, fun _ => n_clear h hs hP hk K, fun _ => n_ask h hs hP hk K, fun _ => n_value h hs hP hk K, fun _ => n_labelsOf h hs hP hk K, fun _ => n_record h hs hP hk K, fun _ => n_alert h hs hP hk K, fun _ => n_inhibit h hs hP hk K, fun _ => n_silence h hs hP hk K, fun _ => n_entries h hs hP hk K, fun _ => n_entry h hs hP hk K, fun _ => n_notices h hs hP hk K, fun _ => n_notice h hs hP hk K, fun _ => n_thinned h hs hP hk K, fun _ => n_suits h hs hP hk K, fun _ => n_down h hs hP hk K, fun _ => n_behind h hs hP hk K, fun _ => n_mend h hs hP hk K, fun _ => K G d z c s h (PK.stay hP hk)⟩
end Sc06
