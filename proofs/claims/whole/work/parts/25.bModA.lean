set_option maxRecDepth 20000 in
theorem b_X12_init_0 {E : EE} {l0 : Int} {G : Gt} {c s : Nat} {Q X : Int → Gt → Prop} (h : (0 ≤ l0 ∧ gcl G l0 = 13 ∧ ∀ G3 : Gt, G3 = (sfd G 12 2 l0 1000) → 1 ≤ c ∧ (12 : Int).toNat ≤ s ∧ ∀ q4 : Int, gcl G3 q4 = 0 → (eb E : Int) ≤ q4 → ∀ G7 : Gt, G7 = (newa G3 q4 15 12) → gcl G7 l0 = 13 ∧ ∀ G9 : Gt, G9 = (sfd G7 12 3 l0 q4) → 1 ≤ (c - 1) ∧ (12 : Int).toNat ≤ (s - (12 : Int).toNat) ∧ ∀ q10 : Int, gcl G9 q10 = 0 → (eb E : Int) ≤ q10 → ∀ G13 : Gt, G13 = (newa G9 q10 15 12) → gcl G13 l0 = 13 ∧ ∀ G15 : Gt, G15 = (sfd G13 12 4 l0 q10) → 1 ≤ ((c - 1) - 1) ∧ (12 : Int).toNat ≤ ((s - (12 : Int).toNat) - (12 : Int).toNat) ∧ ∀ q16 : Int, gcl G15 q16 = 0 → (eb E : Int) ≤ q16 → ∀ G19 : Gt, G19 = (newa G15 q16 15 12) → gcl G19 l0 = 13 ∧ ∀ G21 : Gt, G21 = (sfd G19 12 5 l0 q16) → 1 ≤ (((c - 1) - 1) - 1) ∧ (40000 : Int).toNat ≤ (((s - (12 : Int).toNat) - (12 : Int).toNat) - (12 : Int).toNat) ∧ ∀ q22 : Int, gcl G21 q22 = 0 → (eb E : Int) ≤ q22 → ∀ G25 : Gt, G25 = (newa G21 q22 15 40000) → gcl G25 l0 = 13 ∧ ∀ G27 : Gt, G27 = (sfd G25 12 7 l0 q22) → 1 ≤ ((((c - 1) - 1) - 1) - 1) ∧ (40000 : Int).toNat ≤ ((((s - (12 : Int).toNat) - (12 : Int).toNat) - (12 : Int).toNat) - (40000 : Int).toNat) ∧ ∀ q28 : Int, gcl G27 q28 = 0 → (eb E : Int) ≤ q28 → ∀ G31 : Gt, G31 = (newa G27 q28 15 40000) → gcl G31 l0 = 13 ∧ ∀ G33 : Gt, G33 = (sfd G31 12 8 l0 q28) → 1 ≤ (((((c - 1) - 1) - 1) - 1) - 1) ∧ (40000 : Int).toNat ≤ (((((s - (12 : Int).toNat) - (12 : Int).toNat) - (12 : Int).toNat) - (40000 : Int).toNat) - (40000 : Int).toNat) ∧ ∀ q34 : Int, gcl G33 q34 = 0 → (eb E : Int) ≤ q34 → ∀ G37 : Gt, G37 = (newa G33 q34 15 40000) → gcl G37 l0 = 13 ∧ ∀ G39 : Gt, G39 = (sfd G37 12 9 l0 q34) → 1 ≤ ((((((c - 1) - 1) - 1) - 1) - 1) - 1) ∧ (40000 : Int).toNat ≤ ((((((s - (12 : Int).toNat) - (12 : Int).toNat) - (12 : Int).toNat) - (40000 : Int).toNat) - (40000 : Int).toNat) - (40000 : Int).toNat) ∧ ∀ q40 : Int, gcl G39 q40 = 0 → (eb E : Int) ≤ q40 → ∀ G43 : Gt, G43 = (newa G39 q40 15 40000) → gcl G43 l0 = 13 ∧ ∀ G45 : Gt, G45 = (sfd G43 12 10 l0 q40) → 1 ≤ (((((((c - 1) - 1) - 1) - 1) - 1) - 1) - 1) ∧ (40000 : Int).toNat ≤ (((((((s - (12 : Int).toNat) - (12 : Int).toNat) - (12 : Int).toNat) - (40000 : Int).toNat) - (40000 : Int).toNat) - (40000 : Int).toNat) - (40000 : Int).toNat) ∧ ∀ q46 : Int, gcl G45 q46 = 0 → (eb E : Int) ≤ q46 → ∀ G49 : Gt, G49 = (newa G45 q46 17 40000) → gcl G49 l0 = 13 ∧ ∀ G51 : Gt, G51 = (sfd G49 12 11 l0 q46) → 1 ≤ ((((((((c - 1) - 1) - 1) - 1) - 1) - 1) - 1) - 1) ∧ (40000 : Int).toNat ≤ ((((((((s - (12 : Int).toNat) - (12 : Int).toNat) - (12 : Int).toNat) - (40000 : Int).toNat) - (40000 : Int).toNat) - (40000 : Int).toNat) - (40000 : Int).toNat) - (40000 : Int).toNat) ∧ ∀ q52 : Int, gcl G51 q52 = 0 → (eb E : Int) ≤ q52 → ∀ G55 : Gt, G55 = (newa G51 q52 15 40000) → gcl G55 l0 = 13 ∧ ∀ G57 : Gt, G57 = (sfd G55 12 13 l0 q52) → 1 ≤ (((((((((c - 1) - 1) - 1) - 1) - 1) - 1) - 1) - 1) - 1) ∧ (600 : Int).toNat ≤ (((((((((s - (12 : Int).toNat) - (12 : Int).toNat) - (12 : Int).toNat) - (40000 : Int).toNat) - (40000 : Int).toNat) - (40000 : Int).toNat) - (40000 : Int).toNat) - (40000 : Int).toNat) - (40000 : Int).toNat) ∧ ∀ q58 : Int, gcl G57 q58 = 0 → (eb E : Int) ≤ q58 → ∀ G61 : Gt, G61 = (newa G57 q58 15 600) → gcl G61 l0 = 13 ∧ ∀ G63 : Gt, G63 = (sfd G61 12 16 l0 q58) → 1 ≤ ((((((((((c - 1) - 1) - 1) - 1) - 1) - 1) - 1) - 1) - 1) - 1) ∧ (600 : Int).toNat ≤ ((((((((((s - (12 : Int).toNat) - (12 : Int).toNat) - (12 : Int).toNat) - (40000 : Int).toNat) - (40000 : Int).toNat) - (40000 : Int).toNat) - (40000 : Int).toNat) - (40000 : Int).toNat) - (40000 : Int).toNat) - (600 : Int).toNat) ∧ ∀ q64 : Int, gcl G63 q64 = 0 → (eb E : Int) ≤ q64 → ∀ G67 : Gt, G67 = (newa G63 q64 15 600) → gcl G67 l0 = 13 ∧ ∀ G69 : Gt, G69 = (sfd G67 12 17 l0 q64) → 1 ≤ (((((((((((c - 1) - 1) - 1) - 1) - 1) - 1) - 1) - 1) - 1) - 1) - 1) ∧ (600 : Int).toNat ≤ (((((((((((s - (12 : Int).toNat) - (12 : Int).toNat) - (12 : Int).toNat) - (40000 : Int).toNat) - (40000 : Int).toNat) - (40000 : Int).toNat) - (40000 : Int).toNat) - (40000 : Int).toNat) - (40000 : Int).toNat) - (600 : Int).toNat) - (600 : Int).toNat) ∧ ∀ q70 : Int, gcl G69 q70 = 0 → (eb E : Int) ≤ q70 → ∀ G73 : Gt, G73 = (newa G69 q70 15 600) → gcl G73 l0 = 13 ∧ ∀ G75 : Gt, G75 = (sfd G73 12 18 l0 q70) → 1 ≤ ((((((((((((c - 1) - 1) - 1) - 1) - 1) - 1) - 1) - 1) - 1) - 1) - 1) - 1) ∧ (12 : Int).toNat ≤ ((((((((((((s - (12 : Int).toNat) - (12 : Int).toNat) - (12 : Int).toNat) - (40000 : Int).toNat) - (40000 : Int).toNat) - (40000 : Int).toNat) - (40000 : Int).toNat) - (40000 : Int).toNat) - (40000 : Int).toNat) - (600 : Int).toNat) - (600 : Int).toNat) - (600 : Int).toNat) ∧ ∀ q76 : Int, gcl G75 q76 = 0 → (eb E : Int) ≤ q76 → ∀ G79 : Gt, G79 = (newa G75 q76 15 12) → gcl G79 l0 = 13 ∧ ∀ G81 : Gt, G81 = (sfd G79 12 20 l0 q76) → 1 ≤ (((((((((((((c - 1) - 1) - 1) - 1) - 1) - 1) - 1) - 1) - 1) - 1) - 1) - 1) - 1) ∧ (540 : Int).toNat ≤ (((((((((((((s - (12 : Int).toNat) - (12 : Int).toNat) - (12 : Int).toNat) - (40000 : Int).toNat) - (40000 : Int).toNat) - (40000 : Int).toNat) - (40000 : Int).toNat) - (40000 : Int).toNat) - (40000 : Int).toNat) - (600 : Int).toNat) - (600 : Int).toNat) - (600 : Int).toNat) - (12 : Int).toNat) ∧ ∀ q82 : Int, gcl G81 q82 = 0 → (eb E : Int) ≤ q82 → ∀ G85 : Gt, G85 = (newa G81 q82 15 540) → gcl G85 l0 = 13 ∧ ∀ G87 : Gt, G87 = (sfd G85 12 21 l0 q82) → 1 ≤ ((((((((((((((c - 1) - 1) - 1) - 1) - 1) - 1) - 1) - 1) - 1) - 1) - 1) - 1) - 1) - 1) ∧ (9 : Int).toNat ≤ ((((((((((((((s - (12 : Int).toNat) - (12 : Int).toNat) - (12 : Int).toNat) - (40000 : Int).toNat) - (40000 : Int).toNat) - (40000 : Int).toNat) - (40000 : Int).toNat) - (40000 : Int).toNat) - (40000 : Int).toNat) - (600 : Int).toNat) - (600 : Int).toNat) - (600 : Int).toNat) - (12 : Int).toNat) - (540 : Int).toNat) ∧ ∀ q88 : Int, gcl G87 q88 = 0 → (eb E : Int) ≤ q88 → ∀ G91 : Gt, G91 = (newa G87 q88 15 9) → gcl G91 l0 = 13 ∧ ∀ G93 : Gt, G93 = (sfd G91 12 22 l0 q88) → 1 ≤ (((((((((((((((c - 1) - 1) - 1) - 1) - 1) - 1) - 1) - 1) - 1) - 1) - 1) - 1) - 1) - 1) - 1) ∧ (8 : Int).toNat ≤ (((((((((((((((s - (12 : Int).toNat) - (12 : Int).toNat) - (12 : Int).toNat) - (40000 : Int).toNat) - (40000 : Int).toNat) - (40000 : Int).toNat) - (40000 : Int).toNat) - (40000 : Int).toNat) - (40000 : Int).toNat) - (600 : Int).toNat) - (600 : Int).toNat) - (600 : Int).toNat) - (12 : Int).toNat) - (540 : Int).toNat) - (9 : Int).toNat) ∧ ∀ q94 : Int, gcl G93 q94 = 0 → (eb E : Int) ≤ q94 → ∀ G97 : Gt, G97 = (newa G93 q94 17 8) → gcl G97 l0 = 13 ∧ ∀ G99 : Gt, G99 = (sfd G97 12 24 l0 q94) → 1 ≤ ((((((((((((((((c - 1) - 1) - 1) - 1) - 1) - 1) - 1) - 1) - 1) - 1) - 1) - 1) - 1) - 1) - 1) - 1) ∧ (8 : Int).toNat ≤ ((((((((((((((((s - (12 : Int).toNat) - (12 : Int).toNat) - (12 : Int).toNat) - (40000 : Int).toNat) - (40000 : Int).toNat) - (40000 : Int).toNat) - (40000 : Int).toNat) - (40000 : Int).toNat) - (40000 : Int).toNat) - (600 : Int).toNat) - (600 : Int).toNat) - (600 : Int).toNat) - (12 : Int).toNat) - (540 : Int).toNat) - (9 : Int).toNat) - (8 : Int).toNat) ∧ ∀ q100 : Int, gcl G99 q100 = 0 → (eb E : Int) ≤ q100 → ∀ G103 : Gt, G103 = (newa G99 q100 15 8) → gcl G103 l0 = 13 ∧ ∀ G105 : Gt, G105 = (sfd G103 12 25 l0 q100) → 1 ≤ (((((((((((((((((c - 1) - 1) - 1) - 1) - 1) - 1) - 1) - 1) - 1) - 1) - 1) - 1) - 1) - 1) - 1) - 1) - 1) ∧ (8 : Int).toNat ≤ (((((((((((((((((s - (12 : Int).toNat) - (12 : Int).toNat) - (12 : Int).toNat) - (40000 : Int).toNat) - (40000 : Int).toNat) - (40000 : Int).toNat) - (40000 : Int).toNat) - (40000 : Int).toNat) - (40000 : Int).toNat) - (600 : Int).toNat) - (600 : Int).toNat) - (600 : Int).toNat) - (12 : Int).toNat) - (540 : Int).toNat) - (9 : Int).toNat) - (8 : Int).toNat) - (8 : Int).toNat) ∧ ∀ q106 : Int, gcl G105 q106 = 0 → (eb E : Int) ≤ q106 → ∀ G109 : Gt, G109 = (newa G105 q106 15 8) → gcl G109 l0 = 13 ∧ ∀ G111 : Gt, G111 = (sfd G109 12 26 l0 q106) → 1 ≤ ((((((((((((((((((c - 1) - 1) - 1) - 1) - 1) - 1) - 1) - 1) - 1) - 1) - 1) - 1) - 1) - 1) - 1) - 1) - 1) - 1) ∧ (8 : Int).toNat ≤ ((((((((((((((((((s - (12 : Int).toNat) - (12 : Int).toNat) - (12 : Int).toNat) - (40000 : Int).toNat) - (40000 : Int).toNat) - (40000 : Int).toNat) - (40000 : Int).toNat) - (40000 : Int).toNat) - (40000 : Int).toNat) - (600 : Int).toNat) - (600 : Int).toNat) - (600 : Int).toNat) - (12 : Int).toNat) - (540 : Int).toNat) - (9 : Int).toNat) - (8 : Int).toNat) - (8 : Int).toNat) - (8 : Int).toNat) ∧ ∀ q112 : Int, gcl G111 q112 = 0 → (eb E : Int) ≤ q112 → ∀ G115 : Gt, G115 = (newa G111 q112 15 8) → gcl G115 l0 = 13 ∧ ∀ G117 : Gt, G117 = (sfd G115 12 27 l0 q112) → 1 ≤ (((((((((((((((((((c - 1) - 1) - 1) - 1) - 1) - 1) - 1) - 1) - 1) - 1) - 1) - 1) - 1) - 1) - 1) - 1) - 1) - 1) - 1) ∧ (8 : Int).toNat ≤ (((((((((((((((((((s - (12 : Int).toNat) - (12 : Int).toNat) - (12 : Int).toNat) - (40000 : Int).toNat) - (40000 : Int).toNat) - (40000 : Int).toNat) - (40000 : Int).toNat) - (40000 : Int).toNat) - (40000 : Int).toNat) - (600 : Int).toNat) - (600 : Int).toNat) - (600 : Int).toNat) - (12 : Int).toNat) - (540 : Int).toNat) - (9 : Int).toNat) - (8 : Int).toNat) - (8 : Int).toNat) - (8 : Int).toNat) - (8 : Int).toNat) ∧ ∀ q118 : Int, gcl G117 q118 = 0 → (eb E : Int) ≤ q118 → ∀ G121 : Gt, G121 = (newa G117 q118 15 8) → gcl G121 l0 = 13 ∧ ∀ G123 : Gt, G123 = (sfd G121 12 28 l0 q118) → 1 ≤ ((((((((((((((((((((c - 1) - 1) - 1) - 1) - 1) - 1) - 1) - 1) - 1) - 1) - 1) - 1) - 1) - 1) - 1) - 1) - 1) - 1) - 1) - 1) ∧ (10 : Int).toNat ≤ ((((((((((((((((((((s - (12 : Int).toNat) - (12 : Int).toNat) - (12 : Int).toNat) - (40000 : Int).toNat) - (40000 : Int).toNat) - (40000 : Int).toNat) - (40000 : Int).toNat) - (40000 : Int).toNat) - (40000 : Int).toNat) - (600 : Int).toNat) - (600 : Int).toNat) - (600 : Int).toNat) - (12 : Int).toNat) - (540 : Int).toNat) - (9 : Int).toNat) - (8 : Int).toNat) - (8 : Int).toNat) - (8 : Int).toNat) - (8 : Int).toNat) - (8 : Int).toNat) ∧ ∀ q124 : Int, gcl G123 q124 = 0 → (eb E : Int) ≤ q124 → ∀ G127 : Gt, G127 = (newa G123 q124 17 10) → gcl G127 l0 = 13 ∧ ∀ G129 : Gt, G129 = (sfd G127 12 29 l0 q124) → 1 ≤ (((((((((((((((((((((c - 1) - 1) - 1) - 1) - 1) - 1) - 1) - 1) - 1) - 1) - 1) - 1) - 1) - 1) - 1) - 1) - 1) - 1) - 1) - 1) - 1) ∧ (10 : Int).toNat ≤ (((((((((((((((((((((s - (12 : Int).toNat) - (12 : Int).toNat) - (12 : Int).toNat) - (40000 : Int).toNat) - (40000 : Int).toNat) - (40000 : Int).toNat) - (40000 : Int).toNat) - (40000 : Int).toNat) - (40000 : Int).toNat) - (600 : Int).toNat) - (600 : Int).toNat) - (600 : Int).toNat) - (12 : Int).toNat) - (540 : Int).toNat) - (9 : Int).toNat) - (8 : Int).toNat) - (8 : Int).toNat) - (8 : Int).toNat) - (8 : Int).toNat) - (8 : Int).toNat) - (10 : Int).toNat) ∧ ∀ q130 : Int, gcl G129 q130 = 0 → (eb E : Int) ≤ q130 → ∀ G133 : Gt, G133 = (newa G129 q130 15 10) → gcl G133 l0 = 13 ∧ ∀ G135 : Gt, G135 = (sfd G133 12 30 l0 q130) → 1 ≤ ((((((((((((((((((((((c - 1) - 1) - 1) - 1) - 1) - 1) - 1) - 1) - 1) - 1) - 1) - 1) - 1) - 1) - 1) - 1) - 1) - 1) - 1) - 1) - 1) - 1) ∧ (120 : Int).toNat ≤ ((((((((((((((((((((((s - (12 : Int).toNat) - (12 : Int).toNat) - (12 : Int).toNat) - (40000 : Int).toNat) - (40000 : Int).toNat) - (40000 : Int).toNat) - (40000 : Int).toNat) - (40000 : Int).toNat) - (40000 : Int).toNat) - (600 : Int).toNat) - (600 : Int).toNat) - (600 : Int).toNat) - (12 : Int).toNat) - (540 : Int).toNat) - (9 : Int).toNat) - (8 : Int).toNat) - (8 : Int).toNat) - (8 : Int).toNat) - (8 : Int).toNat) - (8 : Int).toNat) - (10 : Int).toNat) - (10 : Int).toNat) ∧ ∀ q136 : Int, gcl G135 q136 = 0 → (eb E : Int) ≤ q136 → ∀ G139 : Gt, G139 = (newa G135 q136 15 120) → gcl G139 l0 = 13 ∧ ∀ G141 : Gt, G141 = (sfd G139 12 31 l0 q136) → 1 ≤ (((((((((((((((((((((((c - 1) - 1) - 1) - 1) - 1) - 1) - 1) - 1) - 1) - 1) - 1) - 1) - 1) - 1) - 1) - 1) - 1) - 1) - 1) - 1) - 1) - 1) - 1) ∧ (120 : Int).toNat ≤ (((((((((((((((((((((((s - (12 : Int).toNat) - (12 : Int).toNat) - (12 : Int).toNat) - (40000 : Int).toNat) - (40000 : Int).toNat) - (40000 : Int).toNat) - (40000 : Int).toNat) - (40000 : Int).toNat) - (40000 : Int).toNat) - (600 : Int).toNat) - (600 : Int).toNat) - (600 : Int).toNat) - (12 : Int).toNat) - (540 : Int).toNat) - (9 : Int).toNat) - (8 : Int).toNat) - (8 : Int).toNat) - (8 : Int).toNat) - (8 : Int).toNat) - (8 : Int).toNat) - (10 : Int).toNat) - (10 : Int).toNat) - (120 : Int).toNat) ∧ ∀ q142 : Int, gcl G141 q142 = 0 → (eb E : Int) ≤ q142 → ∀ G145 : Gt, G145 = (newa G141 q142 16 120) → gcl G145 l0 = 13 ∧ ∀ G147 : Gt, G147 = (sfd G145 12 32 l0 q142) → 1 ≤ ((((((((((((((((((((((((c - 1) - 1) - 1) - 1) - 1) - 1) - 1) - 1) - 1) - 1) - 1) - 1) - 1) - 1) - 1) - 1) - 1) - 1) - 1) - 1) - 1) - 1) - 1) - 1) ∧ (12 : Int).toNat ≤ ((((((((((((((((((((((((s - (12 : Int).toNat) - (12 : Int).toNat) - (12 : Int).toNat) - (40000 : Int).toNat) - (40000 : Int).toNat) - (40000 : Int).toNat) - (40000 : Int).toNat) - (40000 : Int).toNat) - (40000 : Int).toNat) - (600 : Int).toNat) - (600 : Int).toNat) - (600 : Int).toNat) - (12 : Int).toNat) - (540 : Int).toNat) - (9 : Int).toNat) - (8 : Int).toNat) - (8 : Int).toNat) - (8 : Int).toNat) - (8 : Int).toNat) - (8 : Int).toNat) - (10 : Int).toNat) - (10 : Int).toNat) - (120 : Int).toNat) - (120 : Int).toNat) ∧ ∀ q148 : Int, gcl G147 q148 = 0 → (eb E : Int) ≤ q148 → ∀ G151 : Gt, G151 = (newa G147 q148 15 12) → gcl G151 l0 = 13 ∧ ∀ G153 : Gt, G153 = (sfd G151 12 36 l0 q148) → 1 ≤ (((((((((((((((((((((((((c - 1) - 1) - 1) - 1) - 1) - 1) - 1) - 1) - 1) - 1) - 1) - 1) - 1) - 1) - 1) - 1) - 1) - 1) - 1) - 1) - 1) - 1) - 1) - 1) - 1) ∧ (12 : Int).toNat ≤ (((((((((((((((((((((((((s - (12 : Int).toNat) - (12 : Int).toNat) - (12 : Int).toNat) - (40000 : Int).toNat) - (40000 : Int).toNat) - (40000 : Int).toNat) - (40000 : Int).toNat) - (40000 : Int).toNat) - (40000 : Int).toNat) - (600 : Int).toNat) - (600 : Int).toNat) - (600 : Int).toNat) - (12 : Int).toNat) - (540 : Int).toNat) - (9 : Int).toNat) - (8 : Int).toNat) - (8 : Int).toNat) - (8 : Int).toNat) - (8 : Int).toNat) - (8 : Int).toNat) - (10 : Int).toNat) - (10 : Int).toNat) - (120 : Int).toNat) - (120 : Int).toNat) - (12 : Int).toNat) ∧ ∀ q154 : Int, gcl G153 q154 = 0 → (eb E : Int) ≤ q154 → ∀ G157 : Gt, G157 = (newa G153 q154 16 12) → gcl G157 l0 = 13 ∧ ∀ G159 : Gt, G159 = (sfd G157 12 37 l0 q154) → 1 ≤ ((((((((((((((((((((((((((c - 1) - 1) - 1) - 1) - 1) - 1) - 1) - 1) - 1) - 1) - 1) - 1) - 1) - 1) - 1) - 1) - 1) - 1) - 1) - 1) - 1) - 1) - 1) - 1) - 1) - 1) ∧ (8 : Int).toNat ≤ ((((((((((((((((((((((((((s - (12 : Int).toNat) - (12 : Int).toNat) - (12 : Int).toNat) - (40000 : Int).toNat) - (40000 : Int).toNat) - (40000 : Int).toNat) - (40000 : Int).toNat) - (40000 : Int).toNat) - (40000 : Int).toNat) - (600 : Int).toNat) - (600 : Int).toNat) - (600 : Int).toNat) - (12 : Int).toNat) - (540 : Int).toNat) - (9 : Int).toNat) - (8 : Int).toNat) - (8 : Int).toNat) - (8 : Int).toNat) - (8 : Int).toNat) - (8 : Int).toNat) - (10 : Int).toNat) - (10 : Int).toNat) - (120 : Int).toNat) - (120 : Int).toNat) - (12 : Int).toNat) - (12 : Int).toNat) ∧ ∀ q160 : Int, gcl G159 q160 = 0 → (eb E : Int) ≤ q160 → ∀ G163 : Gt, G163 = (newa G159 q160 15 8) → gcl G163 l0 = 13 ∧ ∀ G165 : Gt, G165 = (sfd G163 12 38 l0 q160) → 1 ≤ (((((((((((((((((((((((((((c - 1) - 1) - 1) - 1) - 1) - 1) - 1) - 1) - 1) - 1) - 1) - 1) - 1) - 1) - 1) - 1) - 1) - 1) - 1) - 1) - 1) - 1) - 1) - 1) - 1) - 1) - 1) ∧ (192 : Int).toNat ≤ (((((((((((((((((((((((((((s - (12 : Int).toNat) - (12 : Int).toNat) - (12 : Int).toNat) - (40000 : Int).toNat) - (40000 : Int).toNat) - (40000 : Int).toNat) - (40000 : Int).toNat) - (40000 : Int).toNat) - (40000 : Int).toNat) - (600 : Int).toNat) - (600 : Int).toNat) - (600 : Int).toNat) - (12 : Int).toNat) - (540 : Int).toNat) - (9 : Int).toNat) - (8 : Int).toNat) - (8 : Int).toNat) - (8 : Int).toNat) - (8 : Int).toNat) - (8 : Int).toNat) - (10 : Int).toNat) - (10 : Int).toNat) - (120 : Int).toNat) - (120 : Int).toNat) - (12 : Int).toNat) - (12 : Int).toNat) - (8 : Int).toNat) ∧ ∀ q166 : Int, gcl G165 q166 = 0 → (eb E : Int) ≤ q166 → ∀ G169 : Gt, G169 = (newa G165 q166 15 192) → gcl G169 l0 = 13 ∧ ∀ G171 : Gt, G171 = (sfd G169 12 39 l0 q166) → 1 ≤ ((((((((((((((((((((((((((((c - 1) - 1) - 1) - 1) - 1) - 1) - 1) - 1) - 1) - 1) - 1) - 1) - 1) - 1) - 1) - 1) - 1) - 1) - 1) - 1) - 1) - 1) - 1) - 1) - 1) - 1) - 1) - 1) ∧ (192 : Int).toNat ≤ ((((((((((((((((((((((((((((s - (12 : Int).toNat) - (12 : Int).toNat) - (12 : Int).toNat) - (40000 : Int).toNat) - (40000 : Int).toNat) - (40000 : Int).toNat) - (40000 : Int).toNat) - (40000 : Int).toNat) - (40000 : Int).toNat) - (600 : Int).toNat) - (600 : Int).toNat) - (600 : Int).toNat) - (12 : Int).toNat) - (540 : Int).toNat) - (9 : Int).toNat) - (8 : Int).toNat) - (8 : Int).toNat) - (8 : Int).toNat) - (8 : Int).toNat) - (8 : Int).toNat) - (10 : Int).toNat) - (10 : Int).toNat) - (120 : Int).toNat) - (120 : Int).toNat) - (12 : Int).toNat) - (12 : Int).toNat) - (8 : Int).toNat) - (192 : Int).toNat) ∧ ∀ q172 : Int, gcl G171 q172 = 0 → (eb E : Int) ≤ q172 → ∀ G175 : Gt, G175 = (newa G171 q172 15 192) → gcl G175 l0 = 13 ∧ ∀ G177 : Gt, G177 = (sfd G175 12 40 l0 q172) → 1 ≤ (((((((((((((((((((((((((((((c - 1) - 1) - 1) - 1) - 1) - 1) - 1) - 1) - 1) - 1) - 1) - 1) - 1) - 1) - 1) - 1) - 1) - 1) - 1) - 1) - 1) - 1) - 1) - 1) - 1) - 1) - 1) - 1) - 1) ∧ (192 : Int).toNat ≤ (((((((((((((((((((((((((((((s - (12 : Int).toNat) - (12 : Int).toNat) - (12 : Int).toNat) - (40000 : Int).toNat) - (40000 : Int).toNat) - (40000 : Int).toNat) - (40000 : Int).toNat) - (40000 : Int).toNat) - (40000 : Int).toNat) - (600 : Int).toNat) - (600 : Int).toNat) - (600 : Int).toNat) - (12 : Int).toNat) - (540 : Int).toNat) - (9 : Int).toNat) - (8 : Int).toNat) - (8 : Int).toNat) - (8 : Int).toNat) - (8 : Int).toNat) - (8 : Int).toNat) - (10 : Int).toNat) - (10 : Int).toNat) - (120 : Int).toNat) - (120 : Int).toNat) - (12 : Int).toNat) - (12 : Int).toNat) - (8 : Int).toNat) - (192 : Int).toNat) - (192 : Int).toNat) ∧ ∀ q178 : Int, gcl G177 q178 = 0 → (eb E : Int) ≤ q178 → ∀ G181 : Gt, G181 = (newa G177 q178 15 192) → gcl G181 l0 = 13 ∧ ∀ G183 : Gt, G183 = (sfd G181 12 41 l0 q178) → 1 ≤ ((((((((((((((((((((((((((((((c - 1) - 1) - 1) - 1) - 1) - 1) - 1) - 1) - 1) - 1) - 1) - 1) - 1) - 1) - 1) - 1) - 1) - 1) - 1) - 1) - 1) - 1) - 1) - 1) - 1) - 1) - 1) - 1) - 1) - 1) ∧ (192 : Int).toNat ≤ ((((((((((((((((((((((((((((((s - (12 : Int).toNat) - (12 : Int).toNat) - (12 : Int).toNat) - (40000 : Int).toNat) - (40000 : Int).toNat) - (40000 : Int).toNat) - (40000 : Int).toNat) - (40000 : Int).toNat) - (40000 : Int).toNat) - (600 : Int).toNat) - (600 : Int).toNat) - (600 : Int).toNat) - (12 : Int).toNat) - (540 : Int).toNat) - (9 : Int).toNat) - (8 : Int).toNat) - (8 : Int).toNat) - (8 : Int).toNat) - (8 : Int).toNat) - (8 : Int).toNat) - (10 : Int).toNat) - (10 : Int).toNat) - (120 : Int).toNat) - (120 : Int).toNat) - (12 : Int).toNat) - (12 : Int).toNat) - (8 : Int).toNat) - (192 : Int).toNat) - (192 : Int).toNat) - (192 : Int).toNat) ∧ ∀ q184 : Int, gcl G183 q184 = 0 → (eb E : Int) ≤ q184 → ∀ G187 : Gt, G187 = (newa G183 q184 15 192) → gcl G187 l0 = 13 ∧ ∀ G189 : Gt, G189 = (sfd G187 12 42 l0 q184) → 1 ≤ (((((((((((((((((((((((((((((((c - 1) - 1) - 1) - 1) - 1) - 1) - 1) - 1) - 1) - 1) - 1) - 1) - 1) - 1) - 1) - 1) - 1) - 1) - 1) - 1) - 1) - 1) - 1) - 1) - 1) - 1) - 1) - 1) - 1) - 1) - 1) ∧ (192 : Int).toNat ≤ (((((((((((((((((((((((((((((((s - (12 : Int).toNat) - (12 : Int).toNat) - (12 : Int).toNat) - (40000 : Int).toNat) - (40000 : Int).toNat) - (40000 : Int).toNat) - (40000 : Int).toNat) - (40000 : Int).toNat) - (40000 : Int).toNat) - (600 : Int).toNat) - (600 : Int).toNat) - (600 : Int).toNat) - (12 : Int).toNat) - (540 : Int).toNat) - (9 : Int).toNat) - (8 : Int).toNat) - (8 : Int).toNat) - (8 : Int).toNat) - (8 : Int).toNat) - (8 : Int).toNat) - (10 : Int).toNat) - (10 : Int).toNat) - (120 : Int).toNat) - (120 : Int).toNat) - (12 : Int).toNat) - (12 : Int).toNat) - (8 : Int).toNat) - (192 : Int).toNat) - (192 : Int).toNat) - (192 : Int).toNat) - (192 : Int).toNat) ∧ ∀ q190 : Int, gcl G189 q190 = 0 → (eb E : Int) ≤ q190 → ∀ G193 : Gt, G193 = (newa G189 q190 17 192) → gcl G193 l0 = 13 ∧ ∀ G195 : Gt, G195 = (sfd G193 12 43 l0 q190) → 1 ≤ ((((((((((((((((((((((((((((((((c - 1) - 1) - 1) - 1) - 1) - 1) - 1) - 1) - 1) - 1) - 1) - 1) - 1) - 1) - 1) - 1) - 1) - 1) - 1) - 1) - 1) - 1) - 1) - 1) - 1) - 1) - 1) - 1) - 1) - 1) - 1) - 1) ∧ (40 : Int).toNat ≤ ((((((((((((((((((((((((((((((((s - (12 : Int).toNat) - (12 : Int).toNat) - (12 : Int).toNat) - (40000 : Int).toNat) - (40000 : Int).toNat) - (40000 : Int).toNat) - (40000 : Int).toNat) - (40000 : Int).toNat) - (40000 : Int).toNat) - (600 : Int).toNat) - (600 : Int).toNat) - (600 : Int).toNat) - (12 : Int).toNat) - (540 : Int).toNat) - (9 : Int).toNat) - (8 : Int).toNat) - (8 : Int).toNat) - (8 : Int).toNat) - (8 : Int).toNat) - (8 : Int).toNat) - (10 : Int).toNat) - (10 : Int).toNat) - (120 : Int).toNat) - (120 : Int).toNat) - (12 : Int).toNat) - (12 : Int).toNat) - (8 : Int).toNat) - (192 : Int).toNat) - (192 : Int).toNat) - (192 : Int).toNat) - (192 : Int).toNat) - (192 : Int).toNat) ∧ ∀ q196 : Int, gcl G195 q196 = 0 → (eb E : Int) ≤ q196 → ∀ G199 : Gt, G199 = (newa G195 q196 15 40) → gcl G199 l0 = 13 ∧ ∀ G201 : Gt, G201 = (sfd G199 12 44 l0 q196) → 1 ≤ (((((((((((((((((((((((((((((((((c - 1) - 1) - 1) - 1) - 1) - 1) - 1) - 1) - 1) - 1) - 1) - 1) - 1) - 1) - 1) - 1) - 1) - 1) - 1) - 1) - 1) - 1) - 1) - 1) - 1) - 1) - 1) - 1) - 1) - 1) - 1) - 1) - 1) ∧ (180 : Int).toNat ≤ (((((((((((((((((((((((((((((((((s - (12 : Int).toNat) - (12 : Int).toNat) - (12 : Int).toNat) - (40000 : Int).toNat) - (40000 : Int).toNat) - (40000 : Int).toNat) - (40000 : Int).toNat) - (40000 : Int).toNat) - (40000 : Int).toNat) - (600 : Int).toNat) - (600 : Int).toNat) - (600 : Int).toNat) - (12 : Int).toNat) - (540 : Int).toNat) - (9 : Int).toNat) - (8 : Int).toNat) - (8 : Int).toNat) - (8 : Int).toNat) - (8 : Int).toNat) - (8 : Int).toNat) - (10 : Int).toNat) - (10 : Int).toNat) - (120 : Int).toNat) - (120 : Int).toNat) - (12 : Int).toNat) - (12 : Int).toNat) - (8 : Int).toNat) - (192 : Int).toNat) - (192 : Int).toNat) - (192 : Int).toNat) - (192 : Int).toNat) - (192 : Int).toNat) - (40 : Int).toNat) ∧ ∀ q202 : Int, gcl G201 q202 = 0 → (eb E : Int) ≤ q202 → ∀ G205 : Gt, G205 = (newa G201 q202 15 180) → gcl G205 l0 = 13 ∧ ∀ G207 : Gt, G207 = (sfd G205 12 47 l0 q202) → 1 ≤ ((((((((((((((((((((((((((((((((((c - 1) - 1) - 1) - 1) - 1) - 1) - 1) - 1) - 1) - 1) - 1) - 1) - 1) - 1) - 1) - 1) - 1) - 1) - 1) - 1) - 1) - 1) - 1) - 1) - 1) - 1) - 1) - 1) - 1) - 1) - 1) - 1) - 1) - 1) ∧ (12 : Int).toNat ≤ ((((((((((((((((((((((((((((((((((s - (12 : Int).toNat) - (12 : Int).toNat) - (12 : Int).toNat) - (40000 : Int).toNat) - (40000 : Int).toNat) - (40000 : Int).toNat) - (40000 : Int).toNat) - (40000 : Int).toNat) - (40000 : Int).toNat) - (600 : Int).toNat) - (600 : Int).toNat) - (600 : Int).toNat) - (12 : Int).toNat) - (540 : Int).toNat) - (9 : Int).toNat) - (8 : Int).toNat) - (8 : Int).toNat) - (8 : Int).toNat) - (8 : Int).toNat) - (8 : Int).toNat) - (10 : Int).toNat) - (10 : Int).toNat) - (120 : Int).toNat) - (120 : Int).toNat) - (12 : Int).toNat) - (12 : Int).toNat) - (8 : Int).toNat) - (192 : Int).toNat) - (192 : Int).toNat) - (192 : Int).toNat) - (192 : Int).toNat) - (192 : Int).toNat) - (40 : Int).toNat) - (180 : Int).toNat) ∧ ∀ q208 : Int, gcl G207 q208 = 0 → (eb E : Int) ≤ q208 → ∀ G211 : Gt, G211 = (newa G207 q208 16 12) → gcl G211 l0 = 13 ∧ ∀ G213 : Gt, G213 = (sfd G211 12 49 l0 q208) → 1 ≤ (((((((((((((((((((((((((((((((((((c - 1) - 1) - 1) - 1) - 1) - 1) - 1) - 1) - 1) - 1) - 1) - 1) - 1) - 1) - 1) - 1) - 1) - 1) - 1) - 1) - 1) - 1) - 1) - 1) - 1) - 1) - 1) - 1) - 1) - 1) - 1) - 1) - 1) - 1) - 1) ∧ (12 : Int).toNat ≤ (((((((((((((((((((((((((((((((((((s - (12 : Int).toNat) - (12 : Int).toNat) - (12 : Int).toNat) - (40000 : Int).toNat) - (40000 : Int).toNat) - (40000 : Int).toNat) - (40000 : Int).toNat) - (40000 : Int).toNat) - (40000 : Int).toNat) - (600 : Int).toNat) - (600 : Int).toNat) - (600 : Int).toNat) - (12 : Int).toNat) - (540 : Int).toNat) - (9 : Int).toNat) - (8 : Int).toNat) - (8 : Int).toNat) - (8 : Int).toNat) - (8 : Int).toNat) - (8 : Int).toNat) - (10 : Int).toNat) - (10 : Int).toNat) - (120 : Int).toNat) - (120 : Int).toNat) - (12 : Int).toNat) - (12 : Int).toNat) - (8 : Int).toNat) - (192 : Int).toNat) - (192 : Int).toNat) - (192 : Int).toNat) - (192 : Int).toNat) - (192 : Int).toNat) - (40 : Int).toNat) - (180 : Int).toNat) - (12 : Int).toNat) ∧ ∀ q214 : Int, gcl G213 q214 = 0 → (eb E : Int) ≤ q214 → ∀ G217 : Gt, G217 = (newa G213 q214 15 12) → gcl G217 l0 = 13 ∧ ∀ G219 : Gt, G219 = (sfd G217 12 50 l0 q214) → V E M_X12_init 311 [some (rv l0), some (iv 0)] [] G219 ((((((((((((((((((((((((((((((((((((c - 1) - 1) - 1) - 1) - 1) - 1) - 1) - 1) - 1) - 1) - 1) - 1) - 1) - 1) - 1) - 1) - 1) - 1) - 1) - 1) - 1) - 1) - 1) - 1) - 1) - 1) - 1) - 1) - 1) - 1) - 1) - 1) - 1) - 1) - 1) - 1) ((((((((((((((((((((((((((((((((((((s - (12 : Int).toNat) - (12 : Int).toNat) - (12 : Int).toNat) - (40000 : Int).toNat) - (40000 : Int).toNat) - (40000 : Int).toNat) - (40000 : Int).toNat) - (40000 : Int).toNat) - (40000 : Int).toNat) - (600 : Int).toNat) - (600 : Int).toNat) - (600 : Int).toNat) - (12 : Int).toNat) - (540 : Int).toNat) - (9 : Int).toNat) - (8 : Int).toNat) - (8 : Int).toNat) - (8 : Int).toNat) - (8 : Int).toNat) - (8 : Int).toNat) - (10 : Int).toNat) - (10 : Int).toNat) - (120 : Int).toNat) - (120 : Int).toNat) - (12 : Int).toNat) - (12 : Int).toNat) - (8 : Int).toNat) - (192 : Int).toNat) - (192 : Int).toNat) - (192 : Int).toNat) - (192 : Int).toNat) - (192 : Int).toNat) - (40 : Int).toNat) - (180 : Int).toNat) - (12 : Int).toNat) - (12 : Int).toNat) Q X)) : V E M_X12_init 0 [some (rv l0), none] [] G c s Q X := by
  refine v_aload_n (pc := 0) (dk dt_X12_init 0 rfl) rfl rfl ?_
  obtain ⟨v1, h⟩ := h
  refine v_objInit (pc := 1) (dk dt_X12_init 1 rfl) mw_X12_3 (Nat.le_of_ble_eq_true rfl) (Nat.le_of_ble_eq_true rfl) (Nat.le_of_ble_eq_true rfl) v1 ?_
  refine v_aload_n (pc := 4) (dk dt_X12_init 2 rfl) rfl rfl ?_
  refine v_sipush (pc := 5) (dk dt_X12_init 3 rfl) (by decide) ⟨by decide, by decide⟩ ?_
  obtain ⟨v2, h⟩ := h
  refine v_putI (pc := 8) (dk dt_X12_init 4 rfl) fl_X12_9 (Or.inl rfl) v2 ?_
  generalize hG3 : (sfd G 12 2 l0 1000) = G3
  replace h := h G3 hG3.symm
  refine v_aload_n (pc := 11) (dk dt_X12_init 5 rfl) rfl rfl ?_
  refine v_bipush (pc := 12) (dk dt_X12_init 6 rfl) (by decide) ⟨by decide, by decide⟩ ?_
  obtain ⟨v5, h⟩ := h
  obtain ⟨v6, h⟩ := h
  refine v_newa (t := 15) (i := 0) (ty := .int) (pc := 14) (dk dt_X12_init 7 rfl) ac_int rfl (Or.inl ⟨rfl, rfl, rfl⟩) (by decide) (by decide) v5 v6 (fun q4 hq4 gq4 => ?_)
  replace h := h q4 hq4 gq4
  generalize hG7 : (newa G3 q4 15 12) = G7
  replace h := h G7 hG7.symm
  obtain ⟨v8, h⟩ := h
  refine v_putR (pc := 16) (dk dt_X12_init 8 rfl) fl_X12_15 (Or.inr ⟨rfl, rfl⟩) v8 ?_
  generalize hG9 : (sfd G7 12 3 l0 q4) = G9
  replace h := h G9 hG9.symm
  refine v_aload_n (pc := 19) (dk dt_X12_init 9 rfl) rfl rfl ?_
  refine v_bipush (pc := 20) (dk dt_X12_init 10 rfl) (by decide) ⟨by decide, by decide⟩ ?_
  obtain ⟨v11, h⟩ := h
  obtain ⟨v12, h⟩ := h
  refine v_newa (t := 15) (i := 0) (ty := .int) (pc := 22) (dk dt_X12_init 11 rfl) ac_int rfl (Or.inl ⟨rfl, rfl, rfl⟩) (by decide) (by decide) v11 v12 (fun q10 hq10 gq10 => ?_)
  replace h := h q10 hq10 gq10
  generalize hG13 : (newa G9 q10 15 12) = G13
  replace h := h G13 hG13.symm
  obtain ⟨v14, h⟩ := h
  refine v_putR (pc := 24) (dk dt_X12_init 12 rfl) fl_X12_19 (Or.inr ⟨rfl, rfl⟩) v14 ?_
  generalize hG15 : (sfd G13 12 4 l0 q10) = G15
  replace h := h G15 hG15.symm
  refine v_aload_n (pc := 27) (dk dt_X12_init 13 rfl) rfl rfl ?_
  refine v_bipush (pc := 28) (dk dt_X12_init 14 rfl) (by decide) ⟨by decide, by decide⟩ ?_
  obtain ⟨v17, h⟩ := h
  obtain ⟨v18, h⟩ := h
  refine v_newa (t := 15) (i := 0) (ty := .int) (pc := 30) (dk dt_X12_init 15 rfl) ac_int rfl (Or.inl ⟨rfl, rfl, rfl⟩) (by decide) (by decide) v17 v18 (fun q16 hq16 gq16 => ?_)
  replace h := h q16 hq16 gq16
  generalize hG19 : (newa G15 q16 15 12) = G19
  replace h := h G19 hG19.symm
  obtain ⟨v20, h⟩ := h
  refine v_putR (pc := 32) (dk dt_X12_init 16 rfl) fl_X12_22 (Or.inr ⟨rfl, rfl⟩) v20 ?_
  generalize hG21 : (sfd G19 12 5 l0 q16) = G21
  replace h := h G21 hG21.symm
  refine v_aload_n (pc := 35) (dk dt_X12_init 17 rfl) rfl rfl ?_
  refine v_ldc (pc := 36) (dk dt_X12_init 18 rfl) co_X12_25 ⟨by decide, by decide⟩ ?_
  obtain ⟨v23, h⟩ := h
  obtain ⟨v24, h⟩ := h
  refine v_newa (t := 15) (i := 0) (ty := .int) (pc := 38) (dk dt_X12_init 19 rfl) ac_int rfl (Or.inl ⟨rfl, rfl, rfl⟩) (by decide) (by decide) v23 v24 (fun q22 hq22 gq22 => ?_)
  replace h := h q22 hq22 gq22
  generalize hG25 : (newa G21 q22 15 40000) = G25
  replace h := h G25 hG25.symm
  obtain ⟨v26, h⟩ := h
  refine v_putR (pc := 40) (dk dt_X12_init 20 rfl) fl_X12_26 (Or.inl rfl) v26 ?_
  generalize hG27 : (sfd G25 12 7 l0 q22) = G27
  replace h := h G27 hG27.symm
  refine v_aload_n (pc := 43) (dk dt_X12_init 21 rfl) rfl rfl ?_
  refine v_ldc (pc := 44) (dk dt_X12_init 22 rfl) co_X12_25 ⟨by decide, by decide⟩ ?_
  obtain ⟨v29, h⟩ := h
  obtain ⟨v30, h⟩ := h
  refine v_newa (t := 15) (i := 0) (ty := .int) (pc := 46) (dk dt_X12_init 23 rfl) ac_int rfl (Or.inl ⟨rfl, rfl, rfl⟩) (by decide) (by decide) v29 v30 (fun q28 hq28 gq28 => ?_)
  replace h := h q28 hq28 gq28
  generalize hG31 : (newa G27 q28 15 40000) = G31
  replace h := h G31 hG31.symm
  obtain ⟨v32, h⟩ := h
  refine v_putR (pc := 48) (dk dt_X12_init 24 rfl) fl_X12_29 (Or.inl rfl) v32 ?_
  generalize hG33 : (sfd G31 12 8 l0 q28) = G33
  replace h := h G33 hG33.symm
  refine v_aload_n (pc := 51) (dk dt_X12_init 25 rfl) rfl rfl ?_
  refine v_ldc (pc := 52) (dk dt_X12_init 26 rfl) co_X12_25 ⟨by decide, by decide⟩ ?_
  obtain ⟨v35, h⟩ := h
  obtain ⟨v36, h⟩ := h
  refine v_newa (t := 15) (i := 0) (ty := .int) (pc := 54) (dk dt_X12_init 27 rfl) ac_int rfl (Or.inl ⟨rfl, rfl, rfl⟩) (by decide) (by decide) v35 v36 (fun q34 hq34 gq34 => ?_)
  replace h := h q34 hq34 gq34
  generalize hG37 : (newa G33 q34 15 40000) = G37
  replace h := h G37 hG37.symm
  obtain ⟨v38, h⟩ := h
  refine v_putR (pc := 56) (dk dt_X12_init 28 rfl) fl_X12_32 (Or.inl rfl) v38 ?_
  generalize hG39 : (sfd G37 12 9 l0 q34) = G39
  replace h := h G39 hG39.symm
  refine v_aload_n (pc := 59) (dk dt_X12_init 29 rfl) rfl rfl ?_
  refine v_ldc (pc := 60) (dk dt_X12_init 30 rfl) co_X12_25 ⟨by decide, by decide⟩ ?_
  obtain ⟨v41, h⟩ := h
  obtain ⟨v42, h⟩ := h
  refine v_newa (t := 15) (i := 0) (ty := .int) (pc := 62) (dk dt_X12_init 31 rfl) ac_int rfl (Or.inl ⟨rfl, rfl, rfl⟩) (by decide) (by decide) v41 v42 (fun q40 hq40 gq40 => ?_)
  replace h := h q40 hq40 gq40
  generalize hG43 : (newa G39 q40 15 40000) = G43
  replace h := h G43 hG43.symm
  obtain ⟨v44, h⟩ := h
  refine v_putR (pc := 64) (dk dt_X12_init 32 rfl) fl_X12_35 (Or.inl rfl) v44 ?_
  generalize hG45 : (sfd G43 12 10 l0 q40) = G45
  replace h := h G45 hG45.symm
  refine v_aload_n (pc := 67) (dk dt_X12_init 33 rfl) rfl rfl ?_
  refine v_ldc (pc := 68) (dk dt_X12_init 34 rfl) co_X12_25 ⟨by decide, by decide⟩ ?_
  obtain ⟨v47, h⟩ := h
  obtain ⟨v48, h⟩ := h
  refine v_newa (t := 17) (i := 2) (ty := .boolean) (pc := 70) (dk dt_X12_init 35 rfl) ac_boolean rfl (Or.inr (Or.inr ⟨rfl, rfl, rfl⟩)) (by decide) (by decide) v47 v48 (fun q46 hq46 gq46 => ?_)
  replace h := h q46 hq46 gq46
  generalize hG49 : (newa G45 q46 17 40000) = G49
  replace h := h G49 hG49.symm
  obtain ⟨v50, h⟩ := h
  refine v_putR (pc := 72) (dk dt_X12_init 36 rfl) fl_X12_38 (Or.inl rfl) v50 ?_
  generalize hG51 : (sfd G49 12 11 l0 q46) = G51
  replace h := h G51 hG51.symm
  refine v_aload_n (pc := 75) (dk dt_X12_init 37 rfl) rfl rfl ?_
  refine v_ldc (pc := 76) (dk dt_X12_init 38 rfl) co_X12_25 ⟨by decide, by decide⟩ ?_
  obtain ⟨v53, h⟩ := h
  obtain ⟨v54, h⟩ := h
  refine v_newa (t := 15) (i := 0) (ty := .int) (pc := 78) (dk dt_X12_init 39 rfl) ac_int rfl (Or.inl ⟨rfl, rfl, rfl⟩) (by decide) (by decide) v53 v54 (fun q52 hq52 gq52 => ?_)
  replace h := h q52 hq52 gq52
  generalize hG55 : (newa G51 q52 15 40000) = G55
  replace h := h G55 hG55.symm
  obtain ⟨v56, h⟩ := h
  refine v_putR (pc := 80) (dk dt_X12_init_1 0 rfl) fl_X12_42 (Or.inl rfl) v56 ?_
  generalize hG57 : (sfd G55 12 13 l0 q52) = G57
  replace h := h G57 hG57.symm
  refine v_aload_n (pc := 83) (dk dt_X12_init_1 1 rfl) rfl rfl ?_
  refine v_sipush (pc := 84) (dk dt_X12_init_1 2 rfl) (by decide) ⟨by decide, by decide⟩ ?_
  obtain ⟨v59, h⟩ := h
  obtain ⟨v60, h⟩ := h
  refine v_newa (t := 15) (i := 0) (ty := .int) (pc := 87) (dk dt_X12_init_1 3 rfl) ac_int rfl (Or.inl ⟨rfl, rfl, rfl⟩) (by decide) (by decide) v59 v60 (fun q58 hq58 gq58 => ?_)
  replace h := h q58 hq58 gq58
  generalize hG61 : (newa G57 q58 15 600) = G61
  replace h := h G61 hG61.symm
  obtain ⟨v62, h⟩ := h
  refine v_putR (pc := 89) (dk dt_X12_init_1 4 rfl) fl_X12_45 (Or.inr ⟨rfl, rfl⟩) v62 ?_
  generalize hG63 : (sfd G61 12 16 l0 q58) = G63
  replace h := h G63 hG63.symm
  refine v_aload_n (pc := 92) (dk dt_X12_init_1 5 rfl) rfl rfl ?_
  refine v_sipush (pc := 93) (dk dt_X12_init_1 6 rfl) (by decide) ⟨by decide, by decide⟩ ?_
  obtain ⟨v65, h⟩ := h
  obtain ⟨v66, h⟩ := h
  refine v_newa (t := 15) (i := 0) (ty := .int) (pc := 96) (dk dt_X12_init_1 7 rfl) ac_int rfl (Or.inl ⟨rfl, rfl, rfl⟩) (by decide) (by decide) v65 v66 (fun q64 hq64 gq64 => ?_)
  replace h := h q64 hq64 gq64
  generalize hG67 : (newa G63 q64 15 600) = G67
  replace h := h G67 hG67.symm
  obtain ⟨v68, h⟩ := h
  refine v_putR (pc := 98) (dk dt_X12_init_1 8 rfl) fl_X12_48 (Or.inr ⟨rfl, rfl⟩) v68 ?_
  generalize hG69 : (sfd G67 12 17 l0 q64) = G69
  replace h := h G69 hG69.symm
  refine v_aload_n (pc := 101) (dk dt_X12_init_1 9 rfl) rfl rfl ?_
  refine v_sipush (pc := 102) (dk dt_X12_init_1 10 rfl) (by decide) ⟨by decide, by decide⟩ ?_
  obtain ⟨v71, h⟩ := h
  obtain ⟨v72, h⟩ := h
  refine v_newa (t := 15) (i := 0) (ty := .int) (pc := 105) (dk dt_X12_init_1 11 rfl) ac_int rfl (Or.inl ⟨rfl, rfl, rfl⟩) (by decide) (by decide) v71 v72 (fun q70 hq70 gq70 => ?_)
  replace h := h q70 hq70 gq70
  generalize hG73 : (newa G69 q70 15 600) = G73
  replace h := h G73 hG73.symm
  obtain ⟨v74, h⟩ := h
  refine v_putR (pc := 107) (dk dt_X12_init_1 12 rfl) fl_X12_51 (Or.inr ⟨rfl, rfl⟩) v74 ?_
  generalize hG75 : (sfd G73 12 18 l0 q70) = G75
  replace h := h G75 hG75.symm
  refine v_aload_n (pc := 110) (dk dt_X12_init_1 13 rfl) rfl rfl ?_
  refine v_bipush (pc := 111) (dk dt_X12_init_1 14 rfl) (by decide) ⟨by decide, by decide⟩ ?_
  obtain ⟨v77, h⟩ := h
  obtain ⟨v78, h⟩ := h
  refine v_newa (t := 15) (i := 0) (ty := .int) (pc := 113) (dk dt_X12_init_1 15 rfl) ac_int rfl (Or.inl ⟨rfl, rfl, rfl⟩) (by decide) (by decide) v77 v78 (fun q76 hq76 gq76 => ?_)
  replace h := h q76 hq76 gq76
  generalize hG79 : (newa G75 q76 15 12) = G79
  replace h := h G79 hG79.symm
  obtain ⟨v80, h⟩ := h
  refine v_putR (pc := 115) (dk dt_X12_init_1 16 rfl) fl_X12_54 (Or.inr ⟨rfl, rfl⟩) v80 ?_
  generalize hG81 : (sfd G79 12 20 l0 q76) = G81
  replace h := h G81 hG81.symm
  refine v_aload_n (pc := 118) (dk dt_X12_init_1 17 rfl) rfl rfl ?_
  refine v_sipush (pc := 119) (dk dt_X12_init_1 18 rfl) (by decide) ⟨by decide, by decide⟩ ?_
  obtain ⟨v83, h⟩ := h
  obtain ⟨v84, h⟩ := h
  refine v_newa (t := 15) (i := 0) (ty := .int) (pc := 122) (dk dt_X12_init_1 19 rfl) ac_int rfl (Or.inl ⟨rfl, rfl, rfl⟩) (by decide) (by decide) v83 v84 (fun q82 hq82 gq82 => ?_)
  replace h := h q82 hq82 gq82
  generalize hG85 : (newa G81 q82 15 540) = G85
  replace h := h G85 hG85.symm
  obtain ⟨v86, h⟩ := h
  refine v_putR (pc := 124) (dk dt_X12_init_1 20 rfl) fl_X12_57 (Or.inr ⟨rfl, rfl⟩) v86 ?_
  generalize hG87 : (sfd G85 12 21 l0 q82) = G87
  replace h := h G87 hG87.symm
  refine v_aload_n (pc := 127) (dk dt_X12_init_1 21 rfl) rfl rfl ?_
  refine v_bipush (pc := 128) (dk dt_X12_init_1 22 rfl) (by decide) ⟨by decide, by decide⟩ ?_
  obtain ⟨v89, h⟩ := h
  obtain ⟨v90, h⟩ := h
  refine v_newa (t := 15) (i := 0) (ty := .int) (pc := 130) (dk dt_X12_init_1 23 rfl) ac_int rfl (Or.inl ⟨rfl, rfl, rfl⟩) (by decide) (by decide) v89 v90 (fun q88 hq88 gq88 => ?_)
  replace h := h q88 hq88 gq88
  generalize hG91 : (newa G87 q88 15 9) = G91
  replace h := h G91 hG91.symm
  obtain ⟨v92, h⟩ := h
  refine v_putR (pc := 132) (dk dt_X12_init_1 24 rfl) fl_X12_60 (Or.inr ⟨rfl, rfl⟩) v92 ?_
  generalize hG93 : (sfd G91 12 22 l0 q88) = G93
  replace h := h G93 hG93.symm
  refine v_aload_n (pc := 135) (dk dt_X12_init_1 25 rfl) rfl rfl ?_
  refine v_bipush (pc := 136) (dk dt_X12_init_1 26 rfl) (by decide) ⟨by decide, by decide⟩ ?_
  obtain ⟨v95, h⟩ := h
  obtain ⟨v96, h⟩ := h
  refine v_newa (t := 17) (i := 2) (ty := .boolean) (pc := 138) (dk dt_X12_init_1 27 rfl) ac_boolean rfl (Or.inr (Or.inr ⟨rfl, rfl, rfl⟩)) (by decide) (by decide) v95 v96 (fun q94 hq94 gq94 => ?_)
  replace h := h q94 hq94 gq94
  generalize hG97 : (newa G93 q94 17 8) = G97
  replace h := h G97 hG97.symm
  obtain ⟨v98, h⟩ := h
  refine v_putR (pc := 140) (dk dt_X12_init_1 28 rfl) fl_X12_63 (Or.inr ⟨rfl, rfl⟩) v98 ?_
  generalize hG99 : (sfd G97 12 24 l0 q94) = G99
  replace h := h G99 hG99.symm
  refine v_aload_n (pc := 143) (dk dt_X12_init_1 29 rfl) rfl rfl ?_
  refine v_bipush (pc := 144) (dk dt_X12_init_1 30 rfl) (by decide) ⟨by decide, by decide⟩ ?_
  obtain ⟨v101, h⟩ := h
  obtain ⟨v102, h⟩ := h
  refine v_newa (t := 15) (i := 0) (ty := .int) (pc := 146) (dk dt_X12_init_1 31 rfl) ac_int rfl (Or.inl ⟨rfl, rfl, rfl⟩) (by decide) (by decide) v101 v102 (fun q100 hq100 gq100 => ?_)
  replace h := h q100 hq100 gq100
  generalize hG103 : (newa G99 q100 15 8) = G103
  replace h := h G103 hG103.symm
  obtain ⟨v104, h⟩ := h
  refine v_putR (pc := 148) (dk dt_X12_init_1 32 rfl) fl_X12_66 (Or.inr ⟨rfl, rfl⟩) v104 ?_
  generalize hG105 : (sfd G103 12 25 l0 q100) = G105
  replace h := h G105 hG105.symm
  refine v_aload_n (pc := 151) (dk dt_X12_init_1 33 rfl) rfl rfl ?_
  refine v_bipush (pc := 152) (dk dt_X12_init_1 34 rfl) (by decide) ⟨by decide, by decide⟩ ?_
  obtain ⟨v107, h⟩ := h
  obtain ⟨v108, h⟩ := h
  refine v_newa (t := 15) (i := 0) (ty := .int) (pc := 154) (dk dt_X12_init_1 35 rfl) ac_int rfl (Or.inl ⟨rfl, rfl, rfl⟩) (by decide) (by decide) v107 v108 (fun q106 hq106 gq106 => ?_)
  replace h := h q106 hq106 gq106
  generalize hG109 : (newa G105 q106 15 8) = G109
  replace h := h G109 hG109.symm
  obtain ⟨v110, h⟩ := h
  refine v_putR (pc := 156) (dk dt_X12_init_1 36 rfl) fl_X12_69 (Or.inr ⟨rfl, rfl⟩) v110 ?_
  generalize hG111 : (sfd G109 12 26 l0 q106) = G111
  replace h := h G111 hG111.symm
  refine v_aload_n (pc := 159) (dk dt_X12_init_1 37 rfl) rfl rfl ?_
  refine v_bipush (pc := 160) (dk dt_X12_init_1 38 rfl) (by decide) ⟨by decide, by decide⟩ ?_
  obtain ⟨v113, h⟩ := h
  obtain ⟨v114, h⟩ := h
  refine v_newa (t := 15) (i := 0) (ty := .int) (pc := 162) (dk dt_X12_init_1 39 rfl) ac_int rfl (Or.inl ⟨rfl, rfl, rfl⟩) (by decide) (by decide) v113 v114 (fun q112 hq112 gq112 => ?_)
  replace h := h q112 hq112 gq112
  generalize hG115 : (newa G111 q112 15 8) = G115
  replace h := h G115 hG115.symm
  obtain ⟨v116, h⟩ := h
  refine v_putR (pc := 164) (dk dt_X12_init_2 0 rfl) fl_X12_72 (Or.inr ⟨rfl, rfl⟩) v116 ?_
  generalize hG117 : (sfd G115 12 27 l0 q112) = G117
  replace h := h G117 hG117.symm
  refine v_aload_n (pc := 167) (dk dt_X12_init_2 1 rfl) rfl rfl ?_
  refine v_bipush (pc := 168) (dk dt_X12_init_2 2 rfl) (by decide) ⟨by decide, by decide⟩ ?_
  obtain ⟨v119, h⟩ := h
  obtain ⟨v120, h⟩ := h
  refine v_newa (t := 15) (i := 0) (ty := .int) (pc := 170) (dk dt_X12_init_2 3 rfl) ac_int rfl (Or.inl ⟨rfl, rfl, rfl⟩) (by decide) (by decide) v119 v120 (fun q118 hq118 gq118 => ?_)
  replace h := h q118 hq118 gq118
  generalize hG121 : (newa G117 q118 15 8) = G121
  replace h := h G121 hG121.symm
  obtain ⟨v122, h⟩ := h
  refine v_putR (pc := 172) (dk dt_X12_init_2 4 rfl) fl_X12_75 (Or.inr ⟨rfl, rfl⟩) v122 ?_
  generalize hG123 : (sfd G121 12 28 l0 q118) = G123
  replace h := h G123 hG123.symm
  refine v_aload_n (pc := 175) (dk dt_X12_init_2 5 rfl) rfl rfl ?_
  refine v_bipush (pc := 176) (dk dt_X12_init_2 6 rfl) (by decide) ⟨by decide, by decide⟩ ?_
  obtain ⟨v125, h⟩ := h
  obtain ⟨v126, h⟩ := h
  refine v_newa (t := 17) (i := 2) (ty := .boolean) (pc := 178) (dk dt_X12_init_2 7 rfl) ac_boolean rfl (Or.inr (Or.inr ⟨rfl, rfl, rfl⟩)) (by decide) (by decide) v125 v126 (fun q124 hq124 gq124 => ?_)
  replace h := h q124 hq124 gq124
  generalize hG127 : (newa G123 q124 17 10) = G127
  replace h := h G127 hG127.symm
  obtain ⟨v128, h⟩ := h
  refine v_putR (pc := 180) (dk dt_X12_init_2 8 rfl) fl_X12_78 (Or.inr ⟨rfl, rfl⟩) v128 ?_
  generalize hG129 : (sfd G127 12 29 l0 q124) = G129
  replace h := h G129 hG129.symm
  refine v_aload_n (pc := 183) (dk dt_X12_init_2 9 rfl) rfl rfl ?_
  refine v_bipush (pc := 184) (dk dt_X12_init_2 10 rfl) (by decide) ⟨by decide, by decide⟩ ?_
  obtain ⟨v131, h⟩ := h
  obtain ⟨v132, h⟩ := h
  refine v_newa (t := 15) (i := 0) (ty := .int) (pc := 186) (dk dt_X12_init_2 11 rfl) ac_int rfl (Or.inl ⟨rfl, rfl, rfl⟩) (by decide) (by decide) v131 v132 (fun q130 hq130 gq130 => ?_)
  replace h := h q130 hq130 gq130
  generalize hG133 : (newa G129 q130 15 10) = G133
  replace h := h G133 hG133.symm
  obtain ⟨v134, h⟩ := h
  refine v_putR (pc := 188) (dk dt_X12_init_2 12 rfl) fl_X12_81 (Or.inr ⟨rfl, rfl⟩) v134 ?_
  generalize hG135 : (sfd G133 12 30 l0 q130) = G135
  replace h := h G135 hG135.symm
  refine v_aload_n (pc := 191) (dk dt_X12_init_2 13 rfl) rfl rfl ?_
  refine v_bipush (pc := 192) (dk dt_X12_init_2 14 rfl) (by decide) ⟨by decide, by decide⟩ ?_
  obtain ⟨v137, h⟩ := h
  obtain ⟨v138, h⟩ := h
  refine v_newa (t := 15) (i := 0) (ty := .int) (pc := 194) (dk dt_X12_init_2 15 rfl) ac_int rfl (Or.inl ⟨rfl, rfl, rfl⟩) (by decide) (by decide) v137 v138 (fun q136 hq136 gq136 => ?_)
  replace h := h q136 hq136 gq136
  generalize hG139 : (newa G135 q136 15 120) = G139
  replace h := h G139 hG139.symm
  obtain ⟨v140, h⟩ := h
  refine v_putR (pc := 196) (dk dt_X12_init_2 16 rfl) fl_X12_84 (Or.inr ⟨rfl, rfl⟩) v140 ?_
  generalize hG141 : (sfd G139 12 31 l0 q136) = G141
  replace h := h G141 hG141.symm
  refine v_aload_n (pc := 199) (dk dt_X12_init_2 17 rfl) rfl rfl ?_
  refine v_bipush (pc := 200) (dk dt_X12_init_2 18 rfl) (by decide) ⟨by decide, by decide⟩ ?_
  obtain ⟨v143, h⟩ := h
  obtain ⟨v144, h⟩ := h
  refine v_newa (t := 16) (i := 1) (ty := .long) (pc := 202) (dk dt_X12_init_2 19 rfl) ac_long rfl (Or.inr (Or.inl ⟨rfl, rfl, rfl⟩)) (by decide) (by decide) v143 v144 (fun q142 hq142 gq142 => ?_)
  replace h := h q142 hq142 gq142
  generalize hG145 : (newa G141 q142 16 120) = G145
  replace h := h G145 hG145.symm
  obtain ⟨v146, h⟩ := h
  refine v_putR (pc := 204) (dk dt_X12_init_2 20 rfl) fl_X12_87 (Or.inr ⟨rfl, rfl⟩) v146 ?_
  generalize hG147 : (sfd G145 12 32 l0 q142) = G147
  replace h := h G147 hG147.symm
  refine v_aload_n (pc := 207) (dk dt_X12_init_2 21 rfl) rfl rfl ?_
  refine v_bipush (pc := 208) (dk dt_X12_init_2 22 rfl) (by decide) ⟨by decide, by decide⟩ ?_
  obtain ⟨v149, h⟩ := h
  obtain ⟨v150, h⟩ := h
  refine v_newa (t := 15) (i := 0) (ty := .int) (pc := 210) (dk dt_X12_init_2 23 rfl) ac_int rfl (Or.inl ⟨rfl, rfl, rfl⟩) (by decide) (by decide) v149 v150 (fun q148 hq148 gq148 => ?_)
  replace h := h q148 hq148 gq148
  generalize hG151 : (newa G147 q148 15 12) = G151
  replace h := h G151 hG151.symm
  obtain ⟨v152, h⟩ := h
  refine v_putR (pc := 212) (dk dt_X12_init_2 24 rfl) fl_X12_91 (Or.inr ⟨rfl, rfl⟩) v152 ?_
  generalize hG153 : (sfd G151 12 36 l0 q148) = G153
  replace h := h G153 hG153.symm
  refine v_aload_n (pc := 215) (dk dt_X12_init_2 25 rfl) rfl rfl ?_
  refine v_bipush (pc := 216) (dk dt_X12_init_2 26 rfl) (by decide) ⟨by decide, by decide⟩ ?_
  obtain ⟨v155, h⟩ := h
  obtain ⟨v156, h⟩ := h
  refine v_newa (t := 16) (i := 1) (ty := .long) (pc := 218) (dk dt_X12_init_2 27 rfl) ac_long rfl (Or.inr (Or.inl ⟨rfl, rfl, rfl⟩)) (by decide) (by decide) v155 v156 (fun q154 hq154 gq154 => ?_)
  replace h := h q154 hq154 gq154
  generalize hG157 : (newa G153 q154 16 12) = G157
  replace h := h G157 hG157.symm
  obtain ⟨v158, h⟩ := h
  refine v_putR (pc := 220) (dk dt_X12_init_2 28 rfl) fl_X12_94 (Or.inr ⟨rfl, rfl⟩) v158 ?_
  generalize hG159 : (sfd G157 12 37 l0 q154) = G159
  replace h := h G159 hG159.symm
  refine v_aload_n (pc := 223) (dk dt_X12_init_2 29 rfl) rfl rfl ?_
  refine v_bipush (pc := 224) (dk dt_X12_init_2 30 rfl) (by decide) ⟨by decide, by decide⟩ ?_
  obtain ⟨v161, h⟩ := h
  obtain ⟨v162, h⟩ := h
  refine v_newa (t := 15) (i := 0) (ty := .int) (pc := 226) (dk dt_X12_init_2 31 rfl) ac_int rfl (Or.inl ⟨rfl, rfl, rfl⟩) (by decide) (by decide) v161 v162 (fun q160 hq160 gq160 => ?_)
  replace h := h q160 hq160 gq160
  generalize hG163 : (newa G159 q160 15 8) = G163
  replace h := h G163 hG163.symm
  obtain ⟨v164, h⟩ := h
  refine v_putR (pc := 228) (dk dt_X12_init_2 32 rfl) fl_X12_97 (Or.inr ⟨rfl, rfl⟩) v164 ?_
  generalize hG165 : (sfd G163 12 38 l0 q160) = G165
  replace h := h G165 hG165.symm
  refine v_aload_n (pc := 231) (dk dt_X12_init_2 33 rfl) rfl rfl ?_
  refine v_sipush (pc := 232) (dk dt_X12_init_2 34 rfl) (by decide) ⟨by decide, by decide⟩ ?_
  obtain ⟨v167, h⟩ := h
  obtain ⟨v168, h⟩ := h
  refine v_newa (t := 15) (i := 0) (ty := .int) (pc := 235) (dk dt_X12_init_2 35 rfl) ac_int rfl (Or.inl ⟨rfl, rfl, rfl⟩) (by decide) (by decide) v167 v168 (fun q166 hq166 gq166 => ?_)
  replace h := h q166 hq166 gq166
  generalize hG169 : (newa G165 q166 15 192) = G169
  replace h := h G169 hG169.symm
  obtain ⟨v170, h⟩ := h
  refine v_putR (pc := 237) (dk dt_X12_init_2 36 rfl) fl_X12_100 (Or.inr ⟨rfl, rfl⟩) v170 ?_
  generalize hG171 : (sfd G169 12 39 l0 q166) = G171
  replace h := h G171 hG171.symm
  refine v_aload_n (pc := 240) (dk dt_X12_init_2 37 rfl) rfl rfl ?_
  refine v_sipush (pc := 241) (dk dt_X12_init_2 38 rfl) (by decide) ⟨by decide, by decide⟩ ?_
  obtain ⟨v173, h⟩ := h
  obtain ⟨v174, h⟩ := h
  refine v_newa (t := 15) (i := 0) (ty := .int) (pc := 244) (dk dt_X12_init_2 39 rfl) ac_int rfl (Or.inl ⟨rfl, rfl, rfl⟩) (by decide) (by decide) v173 v174 (fun q172 hq172 gq172 => ?_)
  replace h := h q172 hq172 gq172
  generalize hG175 : (newa G171 q172 15 192) = G175
  replace h := h G175 hG175.symm
  obtain ⟨v176, h⟩ := h
  refine v_putR (pc := 246) (dk dt_X12_init_3 0 rfl) fl_X12_103 (Or.inr ⟨rfl, rfl⟩) v176 ?_
  generalize hG177 : (sfd G175 12 40 l0 q172) = G177
  replace h := h G177 hG177.symm
  refine v_aload_n (pc := 249) (dk dt_X12_init_3 1 rfl) rfl rfl ?_
  refine v_sipush (pc := 250) (dk dt_X12_init_3 2 rfl) (by decide) ⟨by decide, by decide⟩ ?_
  obtain ⟨v179, h⟩ := h
  obtain ⟨v180, h⟩ := h
  refine v_newa (t := 15) (i := 0) (ty := .int) (pc := 253) (dk dt_X12_init_3 3 rfl) ac_int rfl (Or.inl ⟨rfl, rfl, rfl⟩) (by decide) (by decide) v179 v180 (fun q178 hq178 gq178 => ?_)
  replace h := h q178 hq178 gq178
  generalize hG181 : (newa G177 q178 15 192) = G181
  replace h := h G181 hG181.symm
  obtain ⟨v182, h⟩ := h
  refine v_putR (pc := 255) (dk dt_X12_init_3 4 rfl) fl_X12_106 (Or.inr ⟨rfl, rfl⟩) v182 ?_
  generalize hG183 : (sfd G181 12 41 l0 q178) = G183
  replace h := h G183 hG183.symm
  refine v_aload_n (pc := 258) (dk dt_X12_init_3 5 rfl) rfl rfl ?_
  refine v_sipush (pc := 259) (dk dt_X12_init_3 6 rfl) (by decide) ⟨by decide, by decide⟩ ?_
  obtain ⟨v185, h⟩ := h
  obtain ⟨v186, h⟩ := h
  refine v_newa (t := 15) (i := 0) (ty := .int) (pc := 262) (dk dt_X12_init_3 7 rfl) ac_int rfl (Or.inl ⟨rfl, rfl, rfl⟩) (by decide) (by decide) v185 v186 (fun q184 hq184 gq184 => ?_)
  replace h := h q184 hq184 gq184
  generalize hG187 : (newa G183 q184 15 192) = G187
  replace h := h G187 hG187.symm
  obtain ⟨v188, h⟩ := h
  refine v_putR (pc := 264) (dk dt_X12_init_3 8 rfl) fl_X12_109 (Or.inr ⟨rfl, rfl⟩) v188 ?_
  generalize hG189 : (sfd G187 12 42 l0 q184) = G189
  replace h := h G189 hG189.symm
  refine v_aload_n (pc := 267) (dk dt_X12_init_3 9 rfl) rfl rfl ?_
  refine v_sipush (pc := 268) (dk dt_X12_init_3 10 rfl) (by decide) ⟨by decide, by decide⟩ ?_
  obtain ⟨v191, h⟩ := h
  obtain ⟨v192, h⟩ := h
  refine v_newa (t := 17) (i := 2) (ty := .boolean) (pc := 271) (dk dt_X12_init_3 11 rfl) ac_boolean rfl (Or.inr (Or.inr ⟨rfl, rfl, rfl⟩)) (by decide) (by decide) v191 v192 (fun q190 hq190 gq190 => ?_)
  replace h := h q190 hq190 gq190
  generalize hG193 : (newa G189 q190 17 192) = G193
  replace h := h G193 hG193.symm
  obtain ⟨v194, h⟩ := h
  refine v_putR (pc := 273) (dk dt_X12_init_3 12 rfl) fl_X12_112 (Or.inr ⟨rfl, rfl⟩) v194 ?_
  generalize hG195 : (sfd G193 12 43 l0 q190) = G195
  replace h := h G195 hG195.symm
  refine v_aload_n (pc := 276) (dk dt_X12_init_3 13 rfl) rfl rfl ?_
  refine v_bipush (pc := 277) (dk dt_X12_init_3 14 rfl) (by decide) ⟨by decide, by decide⟩ ?_
  obtain ⟨v197, h⟩ := h
  obtain ⟨v198, h⟩ := h
  refine v_newa (t := 15) (i := 0) (ty := .int) (pc := 279) (dk dt_X12_init_3 15 rfl) ac_int rfl (Or.inl ⟨rfl, rfl, rfl⟩) (by decide) (by decide) v197 v198 (fun q196 hq196 gq196 => ?_)
  replace h := h q196 hq196 gq196
  generalize hG199 : (newa G195 q196 15 40) = G199
  replace h := h G199 hG199.symm
  obtain ⟨v200, h⟩ := h
  refine v_putR (pc := 281) (dk dt_X12_init_3 16 rfl) fl_X12_115 (Or.inr ⟨rfl, rfl⟩) v200 ?_
  generalize hG201 : (sfd G199 12 44 l0 q196) = G201
  replace h := h G201 hG201.symm
  refine v_aload_n (pc := 284) (dk dt_X12_init_3 17 rfl) rfl rfl ?_
  refine v_sipush (pc := 285) (dk dt_X12_init_3 18 rfl) (by decide) ⟨by decide, by decide⟩ ?_
  obtain ⟨v203, h⟩ := h
  obtain ⟨v204, h⟩ := h
  refine v_newa (t := 15) (i := 0) (ty := .int) (pc := 288) (dk dt_X12_init_3 19 rfl) ac_int rfl (Or.inl ⟨rfl, rfl, rfl⟩) (by decide) (by decide) v203 v204 (fun q202 hq202 gq202 => ?_)
  replace h := h q202 hq202 gq202
  generalize hG205 : (newa G201 q202 15 180) = G205
  replace h := h G205 hG205.symm
  obtain ⟨v206, h⟩ := h
  refine v_putR (pc := 290) (dk dt_X12_init_3 20 rfl) fl_X12_118 (Or.inr ⟨rfl, rfl⟩) v206 ?_
  generalize hG207 : (sfd G205 12 47 l0 q202) = G207
  replace h := h G207 hG207.symm
  refine v_aload_n (pc := 293) (dk dt_X12_init_3 21 rfl) rfl rfl ?_
  refine v_bipush (pc := 294) (dk dt_X12_init_3 22 rfl) (by decide) ⟨by decide, by decide⟩ ?_
  obtain ⟨v209, h⟩ := h
  obtain ⟨v210, h⟩ := h
  refine v_newa (t := 16) (i := 1) (ty := .long) (pc := 296) (dk dt_X12_init_3 23 rfl) ac_long rfl (Or.inr (Or.inl ⟨rfl, rfl, rfl⟩)) (by decide) (by decide) v209 v210 (fun q208 hq208 gq208 => ?_)
  replace h := h q208 hq208 gq208
  generalize hG211 : (newa G207 q208 16 12) = G211
  replace h := h G211 hG211.symm
  obtain ⟨v212, h⟩ := h
  refine v_putR (pc := 298) (dk dt_X12_init_3 24 rfl) fl_X12_121 (Or.inr ⟨rfl, rfl⟩) v212 ?_
  generalize hG213 : (sfd G211 12 49 l0 q208) = G213
  replace h := h G213 hG213.symm
  refine v_aload_n (pc := 301) (dk dt_X12_init_3 25 rfl) rfl rfl ?_
  refine v_bipush (pc := 302) (dk dt_X12_init_3 26 rfl) (by decide) ⟨by decide, by decide⟩ ?_
  obtain ⟨v215, h⟩ := h
  obtain ⟨v216, h⟩ := h
  refine v_newa (t := 15) (i := 0) (ty := .int) (pc := 304) (dk dt_X12_init_3 27 rfl) ac_int rfl (Or.inl ⟨rfl, rfl, rfl⟩) (by decide) (by decide) v215 v216 (fun q214 hq214 gq214 => ?_)
  replace h := h q214 hq214 gq214
  generalize hG217 : (newa G213 q214 15 12) = G217
  replace h := h G217 hG217.symm
  obtain ⟨v218, h⟩ := h
  refine v_putR (pc := 306) (dk dt_X12_init_3 28 rfl) fl_X12_124 (Or.inr ⟨rfl, rfl⟩) v218 ?_
  generalize hG219 : (sfd G217 12 50 l0 q214) = G219
  replace h := h G219 hG219.symm
  refine v_iconst (pc := 309) (dk dt_X12_init_3 29 rfl) ⟨by decide, by decide⟩ ?_
  refine v_istore_n (pc := 310) (ls' := [some (rv l0), some (iv 0)]) (dk dt_X12_init_3 30 rfl) rfl (Nat.le_of_ble_eq_true rfl) rfl ?_
  exact h
set_option maxRecDepth 20000 in
theorem i_X12_init {E : EE} {l0 : Int} {G : Gt} {c s : Nat} {Q X : Int → Gt → Prop} (h : (0 ≤ l0 ∧ gcl G l0 = 13 ∧ ∀ G3 : Gt, G3 = (sfd G 12 2 l0 1000) → 1 ≤ c ∧ (12 : Int).toNat ≤ s ∧ ∀ q4 : Int, gcl G3 q4 = 0 → (eb E : Int) ≤ q4 → ∀ G7 : Gt, G7 = (newa G3 q4 15 12) → gcl G7 l0 = 13 ∧ ∀ G9 : Gt, G9 = (sfd G7 12 3 l0 q4) → 1 ≤ (c - 1) ∧ (12 : Int).toNat ≤ (s - (12 : Int).toNat) ∧ ∀ q10 : Int, gcl G9 q10 = 0 → (eb E : Int) ≤ q10 → ∀ G13 : Gt, G13 = (newa G9 q10 15 12) → gcl G13 l0 = 13 ∧ ∀ G15 : Gt, G15 = (sfd G13 12 4 l0 q10) → 1 ≤ ((c - 1) - 1) ∧ (12 : Int).toNat ≤ ((s - (12 : Int).toNat) - (12 : Int).toNat) ∧ ∀ q16 : Int, gcl G15 q16 = 0 → (eb E : Int) ≤ q16 → ∀ G19 : Gt, G19 = (newa G15 q16 15 12) → gcl G19 l0 = 13 ∧ ∀ G21 : Gt, G21 = (sfd G19 12 5 l0 q16) → 1 ≤ (((c - 1) - 1) - 1) ∧ (40000 : Int).toNat ≤ (((s - (12 : Int).toNat) - (12 : Int).toNat) - (12 : Int).toNat) ∧ ∀ q22 : Int, gcl G21 q22 = 0 → (eb E : Int) ≤ q22 → ∀ G25 : Gt, G25 = (newa G21 q22 15 40000) → gcl G25 l0 = 13 ∧ ∀ G27 : Gt, G27 = (sfd G25 12 7 l0 q22) → 1 ≤ ((((c - 1) - 1) - 1) - 1) ∧ (40000 : Int).toNat ≤ ((((s - (12 : Int).toNat) - (12 : Int).toNat) - (12 : Int).toNat) - (40000 : Int).toNat) ∧ ∀ q28 : Int, gcl G27 q28 = 0 → (eb E : Int) ≤ q28 → ∀ G31 : Gt, G31 = (newa G27 q28 15 40000) → gcl G31 l0 = 13 ∧ ∀ G33 : Gt, G33 = (sfd G31 12 8 l0 q28) → 1 ≤ (((((c - 1) - 1) - 1) - 1) - 1) ∧ (40000 : Int).toNat ≤ (((((s - (12 : Int).toNat) - (12 : Int).toNat) - (12 : Int).toNat) - (40000 : Int).toNat) - (40000 : Int).toNat) ∧ ∀ q34 : Int, gcl G33 q34 = 0 → (eb E : Int) ≤ q34 → ∀ G37 : Gt, G37 = (newa G33 q34 15 40000) → gcl G37 l0 = 13 ∧ ∀ G39 : Gt, G39 = (sfd G37 12 9 l0 q34) → 1 ≤ ((((((c - 1) - 1) - 1) - 1) - 1) - 1) ∧ (40000 : Int).toNat ≤ ((((((s - (12 : Int).toNat) - (12 : Int).toNat) - (12 : Int).toNat) - (40000 : Int).toNat) - (40000 : Int).toNat) - (40000 : Int).toNat) ∧ ∀ q40 : Int, gcl G39 q40 = 0 → (eb E : Int) ≤ q40 → ∀ G43 : Gt, G43 = (newa G39 q40 15 40000) → gcl G43 l0 = 13 ∧ ∀ G45 : Gt, G45 = (sfd G43 12 10 l0 q40) → 1 ≤ (((((((c - 1) - 1) - 1) - 1) - 1) - 1) - 1) ∧ (40000 : Int).toNat ≤ (((((((s - (12 : Int).toNat) - (12 : Int).toNat) - (12 : Int).toNat) - (40000 : Int).toNat) - (40000 : Int).toNat) - (40000 : Int).toNat) - (40000 : Int).toNat) ∧ ∀ q46 : Int, gcl G45 q46 = 0 → (eb E : Int) ≤ q46 → ∀ G49 : Gt, G49 = (newa G45 q46 17 40000) → gcl G49 l0 = 13 ∧ ∀ G51 : Gt, G51 = (sfd G49 12 11 l0 q46) → 1 ≤ ((((((((c - 1) - 1) - 1) - 1) - 1) - 1) - 1) - 1) ∧ (40000 : Int).toNat ≤ ((((((((s - (12 : Int).toNat) - (12 : Int).toNat) - (12 : Int).toNat) - (40000 : Int).toNat) - (40000 : Int).toNat) - (40000 : Int).toNat) - (40000 : Int).toNat) - (40000 : Int).toNat) ∧ ∀ q52 : Int, gcl G51 q52 = 0 → (eb E : Int) ≤ q52 → ∀ G55 : Gt, G55 = (newa G51 q52 15 40000) → gcl G55 l0 = 13 ∧ ∀ G57 : Gt, G57 = (sfd G55 12 13 l0 q52) → 1 ≤ (((((((((c - 1) - 1) - 1) - 1) - 1) - 1) - 1) - 1) - 1) ∧ (600 : Int).toNat ≤ (((((((((s - (12 : Int).toNat) - (12 : Int).toNat) - (12 : Int).toNat) - (40000 : Int).toNat) - (40000 : Int).toNat) - (40000 : Int).toNat) - (40000 : Int).toNat) - (40000 : Int).toNat) - (40000 : Int).toNat) ∧ ∀ q58 : Int, gcl G57 q58 = 0 → (eb E : Int) ≤ q58 → ∀ G61 : Gt, G61 = (newa G57 q58 15 600) → gcl G61 l0 = 13 ∧ ∀ G63 : Gt, G63 = (sfd G61 12 16 l0 q58) → 1 ≤ ((((((((((c - 1) - 1) - 1) - 1) - 1) - 1) - 1) - 1) - 1) - 1) ∧ (600 : Int).toNat ≤ ((((((((((s - (12 : Int).toNat) - (12 : Int).toNat) - (12 : Int).toNat) - (40000 : Int).toNat) - (40000 : Int).toNat) - (40000 : Int).toNat) - (40000 : Int).toNat) - (40000 : Int).toNat) - (40000 : Int).toNat) - (600 : Int).toNat) ∧ ∀ q64 : Int, gcl G63 q64 = 0 → (eb E : Int) ≤ q64 → ∀ G67 : Gt, G67 = (newa G63 q64 15 600) → gcl G67 l0 = 13 ∧ ∀ G69 : Gt, G69 = (sfd G67 12 17 l0 q64) → 1 ≤ (((((((((((c - 1) - 1) - 1) - 1) - 1) - 1) - 1) - 1) - 1) - 1) - 1) ∧ (600 : Int).toNat ≤ (((((((((((s - (12 : Int).toNat) - (12 : Int).toNat) - (12 : Int).toNat) - (40000 : Int).toNat) - (40000 : Int).toNat) - (40000 : Int).toNat) - (40000 : Int).toNat) - (40000 : Int).toNat) - (40000 : Int).toNat) - (600 : Int).toNat) - (600 : Int).toNat) ∧ ∀ q70 : Int, gcl G69 q70 = 0 → (eb E : Int) ≤ q70 → ∀ G73 : Gt, G73 = (newa G69 q70 15 600) → gcl G73 l0 = 13 ∧ ∀ G75 : Gt, G75 = (sfd G73 12 18 l0 q70) → 1 ≤ ((((((((((((c - 1) - 1) - 1) - 1) - 1) - 1) - 1) - 1) - 1) - 1) - 1) - 1) ∧ (12 : Int).toNat ≤ ((((((((((((s - (12 : Int).toNat) - (12 : Int).toNat) - (12 : Int).toNat) - (40000 : Int).toNat) - (40000 : Int).toNat) - (40000 : Int).toNat) - (40000 : Int).toNat) - (40000 : Int).toNat) - (40000 : Int).toNat) - (600 : Int).toNat) - (600 : Int).toNat) - (600 : Int).toNat) ∧ ∀ q76 : Int, gcl G75 q76 = 0 → (eb E : Int) ≤ q76 → ∀ G79 : Gt, G79 = (newa G75 q76 15 12) → gcl G79 l0 = 13 ∧ ∀ G81 : Gt, G81 = (sfd G79 12 20 l0 q76) → 1 ≤ (((((((((((((c - 1) - 1) - 1) - 1) - 1) - 1) - 1) - 1) - 1) - 1) - 1) - 1) - 1) ∧ (540 : Int).toNat ≤ (((((((((((((s - (12 : Int).toNat) - (12 : Int).toNat) - (12 : Int).toNat) - (40000 : Int).toNat) - (40000 : Int).toNat) - (40000 : Int).toNat) - (40000 : Int).toNat) - (40000 : Int).toNat) - (40000 : Int).toNat) - (600 : Int).toNat) - (600 : Int).toNat) - (600 : Int).toNat) - (12 : Int).toNat) ∧ ∀ q82 : Int, gcl G81 q82 = 0 → (eb E : Int) ≤ q82 → ∀ G85 : Gt, G85 = (newa G81 q82 15 540) → gcl G85 l0 = 13 ∧ ∀ G87 : Gt, G87 = (sfd G85 12 21 l0 q82) → 1 ≤ ((((((((((((((c - 1) - 1) - 1) - 1) - 1) - 1) - 1) - 1) - 1) - 1) - 1) - 1) - 1) - 1) ∧ (9 : Int).toNat ≤ ((((((((((((((s - (12 : Int).toNat) - (12 : Int).toNat) - (12 : Int).toNat) - (40000 : Int).toNat) - (40000 : Int).toNat) - (40000 : Int).toNat) - (40000 : Int).toNat) - (40000 : Int).toNat) - (40000 : Int).toNat) - (600 : Int).toNat) - (600 : Int).toNat) - (600 : Int).toNat) - (12 : Int).toNat) - (540 : Int).toNat) ∧ ∀ q88 : Int, gcl G87 q88 = 0 → (eb E : Int) ≤ q88 → ∀ G91 : Gt, G91 = (newa G87 q88 15 9) → gcl G91 l0 = 13 ∧ ∀ G93 : Gt, G93 = (sfd G91 12 22 l0 q88) → 1 ≤ (((((((((((((((c - 1) - 1) - 1) - 1) - 1) - 1) - 1) - 1) - 1) - 1) - 1) - 1) - 1) - 1) - 1) ∧ (8 : Int).toNat ≤ (((((((((((((((s - (12 : Int).toNat) - (12 : Int).toNat) - (12 : Int).toNat) - (40000 : Int).toNat) - (40000 : Int).toNat) - (40000 : Int).toNat) - (40000 : Int).toNat) - (40000 : Int).toNat) - (40000 : Int).toNat) - (600 : Int).toNat) - (600 : Int).toNat) - (600 : Int).toNat) - (12 : Int).toNat) - (540 : Int).toNat) - (9 : Int).toNat) ∧ ∀ q94 : Int, gcl G93 q94 = 0 → (eb E : Int) ≤ q94 → ∀ G97 : Gt, G97 = (newa G93 q94 17 8) → gcl G97 l0 = 13 ∧ ∀ G99 : Gt, G99 = (sfd G97 12 24 l0 q94) → 1 ≤ ((((((((((((((((c - 1) - 1) - 1) - 1) - 1) - 1) - 1) - 1) - 1) - 1) - 1) - 1) - 1) - 1) - 1) - 1) ∧ (8 : Int).toNat ≤ ((((((((((((((((s - (12 : Int).toNat) - (12 : Int).toNat) - (12 : Int).toNat) - (40000 : Int).toNat) - (40000 : Int).toNat) - (40000 : Int).toNat) - (40000 : Int).toNat) - (40000 : Int).toNat) - (40000 : Int).toNat) - (600 : Int).toNat) - (600 : Int).toNat) - (600 : Int).toNat) - (12 : Int).toNat) - (540 : Int).toNat) - (9 : Int).toNat) - (8 : Int).toNat) ∧ ∀ q100 : Int, gcl G99 q100 = 0 → (eb E : Int) ≤ q100 → ∀ G103 : Gt, G103 = (newa G99 q100 15 8) → gcl G103 l0 = 13 ∧ ∀ G105 : Gt, G105 = (sfd G103 12 25 l0 q100) → 1 ≤ (((((((((((((((((c - 1) - 1) - 1) - 1) - 1) - 1) - 1) - 1) - 1) - 1) - 1) - 1) - 1) - 1) - 1) - 1) - 1) ∧ (8 : Int).toNat ≤ (((((((((((((((((s - (12 : Int).toNat) - (12 : Int).toNat) - (12 : Int).toNat) - (40000 : Int).toNat) - (40000 : Int).toNat) - (40000 : Int).toNat) - (40000 : Int).toNat) - (40000 : Int).toNat) - (40000 : Int).toNat) - (600 : Int).toNat) - (600 : Int).toNat) - (600 : Int).toNat) - (12 : Int).toNat) - (540 : Int).toNat) - (9 : Int).toNat) - (8 : Int).toNat) - (8 : Int).toNat) ∧ ∀ q106 : Int, gcl G105 q106 = 0 → (eb E : Int) ≤ q106 → ∀ G109 : Gt, G109 = (newa G105 q106 15 8) → gcl G109 l0 = 13 ∧ ∀ G111 : Gt, G111 = (sfd G109 12 26 l0 q106) → 1 ≤ ((((((((((((((((((c - 1) - 1) - 1) - 1) - 1) - 1) - 1) - 1) - 1) - 1) - 1) - 1) - 1) - 1) - 1) - 1) - 1) - 1) ∧ (8 : Int).toNat ≤ ((((((((((((((((((s - (12 : Int).toNat) - (12 : Int).toNat) - (12 : Int).toNat) - (40000 : Int).toNat) - (40000 : Int).toNat) - (40000 : Int).toNat) - (40000 : Int).toNat) - (40000 : Int).toNat) - (40000 : Int).toNat) - (600 : Int).toNat) - (600 : Int).toNat) - (600 : Int).toNat) - (12 : Int).toNat) - (540 : Int).toNat) - (9 : Int).toNat) - (8 : Int).toNat) - (8 : Int).toNat) - (8 : Int).toNat) ∧ ∀ q112 : Int, gcl G111 q112 = 0 → (eb E : Int) ≤ q112 → ∀ G115 : Gt, G115 = (newa G111 q112 15 8) → gcl G115 l0 = 13 ∧ ∀ G117 : Gt, G117 = (sfd G115 12 27 l0 q112) → 1 ≤ (((((((((((((((((((c - 1) - 1) - 1) - 1) - 1) - 1) - 1) - 1) - 1) - 1) - 1) - 1) - 1) - 1) - 1) - 1) - 1) - 1) - 1) ∧ (8 : Int).toNat ≤ (((((((((((((((((((s - (12 : Int).toNat) - (12 : Int).toNat) - (12 : Int).toNat) - (40000 : Int).toNat) - (40000 : Int).toNat) - (40000 : Int).toNat) - (40000 : Int).toNat) - (40000 : Int).toNat) - (40000 : Int).toNat) - (600 : Int).toNat) - (600 : Int).toNat) - (600 : Int).toNat) - (12 : Int).toNat) - (540 : Int).toNat) - (9 : Int).toNat) - (8 : Int).toNat) - (8 : Int).toNat) - (8 : Int).toNat) - (8 : Int).toNat) ∧ ∀ q118 : Int, gcl G117 q118 = 0 → (eb E : Int) ≤ q118 → ∀ G121 : Gt, G121 = (newa G117 q118 15 8) → gcl G121 l0 = 13 ∧ ∀ G123 : Gt, G123 = (sfd G121 12 28 l0 q118) → 1 ≤ ((((((((((((((((((((c - 1) - 1) - 1) - 1) - 1) - 1) - 1) - 1) - 1) - 1) - 1) - 1) - 1) - 1) - 1) - 1) - 1) - 1) - 1) - 1) ∧ (10 : Int).toNat ≤ ((((((((((((((((((((s - (12 : Int).toNat) - (12 : Int).toNat) - (12 : Int).toNat) - (40000 : Int).toNat) - (40000 : Int).toNat) - (40000 : Int).toNat) - (40000 : Int).toNat) - (40000 : Int).toNat) - (40000 : Int).toNat) - (600 : Int).toNat) - (600 : Int).toNat) - (600 : Int).toNat) - (12 : Int).toNat) - (540 : Int).toNat) - (9 : Int).toNat) - (8 : Int).toNat) - (8 : Int).toNat) - (8 : Int).toNat) - (8 : Int).toNat) - (8 : Int).toNat) ∧ ∀ q124 : Int, gcl G123 q124 = 0 → (eb E : Int) ≤ q124 → ∀ G127 : Gt, G127 = (newa G123 q124 17 10) → gcl G127 l0 = 13 ∧ ∀ G129 : Gt, G129 = (sfd G127 12 29 l0 q124) → 1 ≤ (((((((((((((((((((((c - 1) - 1) - 1) - 1) - 1) - 1) - 1) - 1) - 1) - 1) - 1) - 1) - 1) - 1) - 1) - 1) - 1) - 1) - 1) - 1) - 1) ∧ (10 : Int).toNat ≤ (((((((((((((((((((((s - (12 : Int).toNat) - (12 : Int).toNat) - (12 : Int).toNat) - (40000 : Int).toNat) - (40000 : Int).toNat) - (40000 : Int).toNat) - (40000 : Int).toNat) - (40000 : Int).toNat) - (40000 : Int).toNat) - (600 : Int).toNat) - (600 : Int).toNat) - (600 : Int).toNat) - (12 : Int).toNat) - (540 : Int).toNat) - (9 : Int).toNat) - (8 : Int).toNat) - (8 : Int).toNat) - (8 : Int).toNat) - (8 : Int).toNat) - (8 : Int).toNat) - (10 : Int).toNat) ∧ ∀ q130 : Int, gcl G129 q130 = 0 → (eb E : Int) ≤ q130 → ∀ G133 : Gt, G133 = (newa G129 q130 15 10) → gcl G133 l0 = 13 ∧ ∀ G135 : Gt, G135 = (sfd G133 12 30 l0 q130) → 1 ≤ ((((((((((((((((((((((c - 1) - 1) - 1) - 1) - 1) - 1) - 1) - 1) - 1) - 1) - 1) - 1) - 1) - 1) - 1) - 1) - 1) - 1) - 1) - 1) - 1) - 1) ∧ (120 : Int).toNat ≤ ((((((((((((((((((((((s - (12 : Int).toNat) - (12 : Int).toNat) - (12 : Int).toNat) - (40000 : Int).toNat) - (40000 : Int).toNat) - (40000 : Int).toNat) - (40000 : Int).toNat) - (40000 : Int).toNat) - (40000 : Int).toNat) - (600 : Int).toNat) - (600 : Int).toNat) - (600 : Int).toNat) - (12 : Int).toNat) - (540 : Int).toNat) - (9 : Int).toNat) - (8 : Int).toNat) - (8 : Int).toNat) - (8 : Int).toNat) - (8 : Int).toNat) - (8 : Int).toNat) - (10 : Int).toNat) - (10 : Int).toNat) ∧ ∀ q136 : Int, gcl G135 q136 = 0 → (eb E : Int) ≤ q136 → ∀ G139 : Gt, G139 = (newa G135 q136 15 120) → gcl G139 l0 = 13 ∧ ∀ G141 : Gt, G141 = (sfd G139 12 31 l0 q136) → 1 ≤ (((((((((((((((((((((((c - 1) - 1) - 1) - 1) - 1) - 1) - 1) - 1) - 1) - 1) - 1) - 1) - 1) - 1) - 1) - 1) - 1) - 1) - 1) - 1) - 1) - 1) - 1) ∧ (120 : Int).toNat ≤ (((((((((((((((((((((((s - (12 : Int).toNat) - (12 : Int).toNat) - (12 : Int).toNat) - (40000 : Int).toNat) - (40000 : Int).toNat) - (40000 : Int).toNat) - (40000 : Int).toNat) - (40000 : Int).toNat) - (40000 : Int).toNat) - (600 : Int).toNat) - (600 : Int).toNat) - (600 : Int).toNat) - (12 : Int).toNat) - (540 : Int).toNat) - (9 : Int).toNat) - (8 : Int).toNat) - (8 : Int).toNat) - (8 : Int).toNat) - (8 : Int).toNat) - (8 : Int).toNat) - (10 : Int).toNat) - (10 : Int).toNat) - (120 : Int).toNat) ∧ ∀ q142 : Int, gcl G141 q142 = 0 → (eb E : Int) ≤ q142 → ∀ G145 : Gt, G145 = (newa G141 q142 16 120) → gcl G145 l0 = 13 ∧ ∀ G147 : Gt, G147 = (sfd G145 12 32 l0 q142) → 1 ≤ ((((((((((((((((((((((((c - 1) - 1) - 1) - 1) - 1) - 1) - 1) - 1) - 1) - 1) - 1) - 1) - 1) - 1) - 1) - 1) - 1) - 1) - 1) - 1) - 1) - 1) - 1) - 1) ∧ (12 : Int).toNat ≤ ((((((((((((((((((((((((s - (12 : Int).toNat) - (12 : Int).toNat) - (12 : Int).toNat) - (40000 : Int).toNat) - (40000 : Int).toNat) - (40000 : Int).toNat) - (40000 : Int).toNat) - (40000 : Int).toNat) - (40000 : Int).toNat) - (600 : Int).toNat) - (600 : Int).toNat) - (600 : Int).toNat) - (12 : Int).toNat) - (540 : Int).toNat) - (9 : Int).toNat) - (8 : Int).toNat) - (8 : Int).toNat) - (8 : Int).toNat) - (8 : Int).toNat) - (8 : Int).toNat) - (10 : Int).toNat) - (10 : Int).toNat) - (120 : Int).toNat) - (120 : Int).toNat) ∧ ∀ q148 : Int, gcl G147 q148 = 0 → (eb E : Int) ≤ q148 → ∀ G151 : Gt, G151 = (newa G147 q148 15 12) → gcl G151 l0 = 13 ∧ ∀ G153 : Gt, G153 = (sfd G151 12 36 l0 q148) → 1 ≤ (((((((((((((((((((((((((c - 1) - 1) - 1) - 1) - 1) - 1) - 1) - 1) - 1) - 1) - 1) - 1) - 1) - 1) - 1) - 1) - 1) - 1) - 1) - 1) - 1) - 1) - 1) - 1) - 1) ∧ (12 : Int).toNat ≤ (((((((((((((((((((((((((s - (12 : Int).toNat) - (12 : Int).toNat) - (12 : Int).toNat) - (40000 : Int).toNat) - (40000 : Int).toNat) - (40000 : Int).toNat) - (40000 : Int).toNat) - (40000 : Int).toNat) - (40000 : Int).toNat) - (600 : Int).toNat) - (600 : Int).toNat) - (600 : Int).toNat) - (12 : Int).toNat) - (540 : Int).toNat) - (9 : Int).toNat) - (8 : Int).toNat) - (8 : Int).toNat) - (8 : Int).toNat) - (8 : Int).toNat) - (8 : Int).toNat) - (10 : Int).toNat) - (10 : Int).toNat) - (120 : Int).toNat) - (120 : Int).toNat) - (12 : Int).toNat) ∧ ∀ q154 : Int, gcl G153 q154 = 0 → (eb E : Int) ≤ q154 → ∀ G157 : Gt, G157 = (newa G153 q154 16 12) → gcl G157 l0 = 13 ∧ ∀ G159 : Gt, G159 = (sfd G157 12 37 l0 q154) → 1 ≤ ((((((((((((((((((((((((((c - 1) - 1) - 1) - 1) - 1) - 1) - 1) - 1) - 1) - 1) - 1) - 1) - 1) - 1) - 1) - 1) - 1) - 1) - 1) - 1) - 1) - 1) - 1) - 1) - 1) - 1) ∧ (8 : Int).toNat ≤ ((((((((((((((((((((((((((s - (12 : Int).toNat) - (12 : Int).toNat) - (12 : Int).toNat) - (40000 : Int).toNat) - (40000 : Int).toNat) - (40000 : Int).toNat) - (40000 : Int).toNat) - (40000 : Int).toNat) - (40000 : Int).toNat) - (600 : Int).toNat) - (600 : Int).toNat) - (600 : Int).toNat) - (12 : Int).toNat) - (540 : Int).toNat) - (9 : Int).toNat) - (8 : Int).toNat) - (8 : Int).toNat) - (8 : Int).toNat) - (8 : Int).toNat) - (8 : Int).toNat) - (10 : Int).toNat) - (10 : Int).toNat) - (120 : Int).toNat) - (120 : Int).toNat) - (12 : Int).toNat) - (12 : Int).toNat) ∧ ∀ q160 : Int, gcl G159 q160 = 0 → (eb E : Int) ≤ q160 → ∀ G163 : Gt, G163 = (newa G159 q160 15 8) → gcl G163 l0 = 13 ∧ ∀ G165 : Gt, G165 = (sfd G163 12 38 l0 q160) → 1 ≤ (((((((((((((((((((((((((((c - 1) - 1) - 1) - 1) - 1) - 1) - 1) - 1) - 1) - 1) - 1) - 1) - 1) - 1) - 1) - 1) - 1) - 1) - 1) - 1) - 1) - 1) - 1) - 1) - 1) - 1) - 1) ∧ (192 : Int).toNat ≤ (((((((((((((((((((((((((((s - (12 : Int).toNat) - (12 : Int).toNat) - (12 : Int).toNat) - (40000 : Int).toNat) - (40000 : Int).toNat) - (40000 : Int).toNat) - (40000 : Int).toNat) - (40000 : Int).toNat) - (40000 : Int).toNat) - (600 : Int).toNat) - (600 : Int).toNat) - (600 : Int).toNat) - (12 : Int).toNat) - (540 : Int).toNat) - (9 : Int).toNat) - (8 : Int).toNat) - (8 : Int).toNat) - (8 : Int).toNat) - (8 : Int).toNat) - (8 : Int).toNat) - (10 : Int).toNat) - (10 : Int).toNat) - (120 : Int).toNat) - (120 : Int).toNat) - (12 : Int).toNat) - (12 : Int).toNat) - (8 : Int).toNat) ∧ ∀ q166 : Int, gcl G165 q166 = 0 → (eb E : Int) ≤ q166 → ∀ G169 : Gt, G169 = (newa G165 q166 15 192) → gcl G169 l0 = 13 ∧ ∀ G171 : Gt, G171 = (sfd G169 12 39 l0 q166) → 1 ≤ ((((((((((((((((((((((((((((c - 1) - 1) - 1) - 1) - 1) - 1) - 1) - 1) - 1) - 1) - 1) - 1) - 1) - 1) - 1) - 1) - 1) - 1) - 1) - 1) - 1) - 1) - 1) - 1) - 1) - 1) - 1) - 1) ∧ (192 : Int).toNat ≤ ((((((((((((((((((((((((((((s - (12 : Int).toNat) - (12 : Int).toNat) - (12 : Int).toNat) - (40000 : Int).toNat) - (40000 : Int).toNat) - (40000 : Int).toNat) - (40000 : Int).toNat) - (40000 : Int).toNat) - (40000 : Int).toNat) - (600 : Int).toNat) - (600 : Int).toNat) - (600 : Int).toNat) - (12 : Int).toNat) - (540 : Int).toNat) - (9 : Int).toNat) - (8 : Int).toNat) - (8 : Int).toNat) - (8 : Int).toNat) - (8 : Int).toNat) - (8 : Int).toNat) - (10 : Int).toNat) - (10 : Int).toNat) - (120 : Int).toNat) - (120 : Int).toNat) - (12 : Int).toNat) - (12 : Int).toNat) - (8 : Int).toNat) - (192 : Int).toNat) ∧ ∀ q172 : Int, gcl G171 q172 = 0 → (eb E : Int) ≤ q172 → ∀ G175 : Gt, G175 = (newa G171 q172 15 192) → gcl G175 l0 = 13 ∧ ∀ G177 : Gt, G177 = (sfd G175 12 40 l0 q172) → 1 ≤ (((((((((((((((((((((((((((((c - 1) - 1) - 1) - 1) - 1) - 1) - 1) - 1) - 1) - 1) - 1) - 1) - 1) - 1) - 1) - 1) - 1) - 1) - 1) - 1) - 1) - 1) - 1) - 1) - 1) - 1) - 1) - 1) - 1) ∧ (192 : Int).toNat ≤ (((((((((((((((((((((((((((((s - (12 : Int).toNat) - (12 : Int).toNat) - (12 : Int).toNat) - (40000 : Int).toNat) - (40000 : Int).toNat) - (40000 : Int).toNat) - (40000 : Int).toNat) - (40000 : Int).toNat) - (40000 : Int).toNat) - (600 : Int).toNat) - (600 : Int).toNat) - (600 : Int).toNat) - (12 : Int).toNat) - (540 : Int).toNat) - (9 : Int).toNat) - (8 : Int).toNat) - (8 : Int).toNat) - (8 : Int).toNat) - (8 : Int).toNat) - (8 : Int).toNat) - (10 : Int).toNat) - (10 : Int).toNat) - (120 : Int).toNat) - (120 : Int).toNat) - (12 : Int).toNat) - (12 : Int).toNat) - (8 : Int).toNat) - (192 : Int).toNat) - (192 : Int).toNat) ∧ ∀ q178 : Int, gcl G177 q178 = 0 → (eb E : Int) ≤ q178 → ∀ G181 : Gt, G181 = (newa G177 q178 15 192) → gcl G181 l0 = 13 ∧ ∀ G183 : Gt, G183 = (sfd G181 12 41 l0 q178) → 1 ≤ ((((((((((((((((((((((((((((((c - 1) - 1) - 1) - 1) - 1) - 1) - 1) - 1) - 1) - 1) - 1) - 1) - 1) - 1) - 1) - 1) - 1) - 1) - 1) - 1) - 1) - 1) - 1) - 1) - 1) - 1) - 1) - 1) - 1) - 1) ∧ (192 : Int).toNat ≤ ((((((((((((((((((((((((((((((s - (12 : Int).toNat) - (12 : Int).toNat) - (12 : Int).toNat) - (40000 : Int).toNat) - (40000 : Int).toNat) - (40000 : Int).toNat) - (40000 : Int).toNat) - (40000 : Int).toNat) - (40000 : Int).toNat) - (600 : Int).toNat) - (600 : Int).toNat) - (600 : Int).toNat) - (12 : Int).toNat) - (540 : Int).toNat) - (9 : Int).toNat) - (8 : Int).toNat) - (8 : Int).toNat) - (8 : Int).toNat) - (8 : Int).toNat) - (8 : Int).toNat) - (10 : Int).toNat) - (10 : Int).toNat) - (120 : Int).toNat) - (120 : Int).toNat) - (12 : Int).toNat) - (12 : Int).toNat) - (8 : Int).toNat) - (192 : Int).toNat) - (192 : Int).toNat) - (192 : Int).toNat) ∧ ∀ q184 : Int, gcl G183 q184 = 0 → (eb E : Int) ≤ q184 → ∀ G187 : Gt, G187 = (newa G183 q184 15 192) → gcl G187 l0 = 13 ∧ ∀ G189 : Gt, G189 = (sfd G187 12 42 l0 q184) → 1 ≤ (((((((((((((((((((((((((((((((c - 1) - 1) - 1) - 1) - 1) - 1) - 1) - 1) - 1) - 1) - 1) - 1) - 1) - 1) - 1) - 1) - 1) - 1) - 1) - 1) - 1) - 1) - 1) - 1) - 1) - 1) - 1) - 1) - 1) - 1) - 1) ∧ (192 : Int).toNat ≤ (((((((((((((((((((((((((((((((s - (12 : Int).toNat) - (12 : Int).toNat) - (12 : Int).toNat) - (40000 : Int).toNat) - (40000 : Int).toNat) - (40000 : Int).toNat) - (40000 : Int).toNat) - (40000 : Int).toNat) - (40000 : Int).toNat) - (600 : Int).toNat) - (600 : Int).toNat) - (600 : Int).toNat) - (12 : Int).toNat) - (540 : Int).toNat) - (9 : Int).toNat) - (8 : Int).toNat) - (8 : Int).toNat) - (8 : Int).toNat) - (8 : Int).toNat) - (8 : Int).toNat) - (10 : Int).toNat) - (10 : Int).toNat) - (120 : Int).toNat) - (120 : Int).toNat) - (12 : Int).toNat) - (12 : Int).toNat) - (8 : Int).toNat) - (192 : Int).toNat) - (192 : Int).toNat) - (192 : Int).toNat) - (192 : Int).toNat) ∧ ∀ q190 : Int, gcl G189 q190 = 0 → (eb E : Int) ≤ q190 → ∀ G193 : Gt, G193 = (newa G189 q190 17 192) → gcl G193 l0 = 13 ∧ ∀ G195 : Gt, G195 = (sfd G193 12 43 l0 q190) → 1 ≤ ((((((((((((((((((((((((((((((((c - 1) - 1) - 1) - 1) - 1) - 1) - 1) - 1) - 1) - 1) - 1) - 1) - 1) - 1) - 1) - 1) - 1) - 1) - 1) - 1) - 1) - 1) - 1) - 1) - 1) - 1) - 1) - 1) - 1) - 1) - 1) - 1) ∧ (40 : Int).toNat ≤ ((((((((((((((((((((((((((((((((s - (12 : Int).toNat) - (12 : Int).toNat) - (12 : Int).toNat) - (40000 : Int).toNat) - (40000 : Int).toNat) - (40000 : Int).toNat) - (40000 : Int).toNat) - (40000 : Int).toNat) - (40000 : Int).toNat) - (600 : Int).toNat) - (600 : Int).toNat) - (600 : Int).toNat) - (12 : Int).toNat) - (540 : Int).toNat) - (9 : Int).toNat) - (8 : Int).toNat) - (8 : Int).toNat) - (8 : Int).toNat) - (8 : Int).toNat) - (8 : Int).toNat) - (10 : Int).toNat) - (10 : Int).toNat) - (120 : Int).toNat) - (120 : Int).toNat) - (12 : Int).toNat) - (12 : Int).toNat) - (8 : Int).toNat) - (192 : Int).toNat) - (192 : Int).toNat) - (192 : Int).toNat) - (192 : Int).toNat) - (192 : Int).toNat) ∧ ∀ q196 : Int, gcl G195 q196 = 0 → (eb E : Int) ≤ q196 → ∀ G199 : Gt, G199 = (newa G195 q196 15 40) → gcl G199 l0 = 13 ∧ ∀ G201 : Gt, G201 = (sfd G199 12 44 l0 q196) → 1 ≤ (((((((((((((((((((((((((((((((((c - 1) - 1) - 1) - 1) - 1) - 1) - 1) - 1) - 1) - 1) - 1) - 1) - 1) - 1) - 1) - 1) - 1) - 1) - 1) - 1) - 1) - 1) - 1) - 1) - 1) - 1) - 1) - 1) - 1) - 1) - 1) - 1) - 1) ∧ (180 : Int).toNat ≤ (((((((((((((((((((((((((((((((((s - (12 : Int).toNat) - (12 : Int).toNat) - (12 : Int).toNat) - (40000 : Int).toNat) - (40000 : Int).toNat) - (40000 : Int).toNat) - (40000 : Int).toNat) - (40000 : Int).toNat) - (40000 : Int).toNat) - (600 : Int).toNat) - (600 : Int).toNat) - (600 : Int).toNat) - (12 : Int).toNat) - (540 : Int).toNat) - (9 : Int).toNat) - (8 : Int).toNat) - (8 : Int).toNat) - (8 : Int).toNat) - (8 : Int).toNat) - (8 : Int).toNat) - (10 : Int).toNat) - (10 : Int).toNat) - (120 : Int).toNat) - (120 : Int).toNat) - (12 : Int).toNat) - (12 : Int).toNat) - (8 : Int).toNat) - (192 : Int).toNat) - (192 : Int).toNat) - (192 : Int).toNat) - (192 : Int).toNat) - (192 : Int).toNat) - (40 : Int).toNat) ∧ ∀ q202 : Int, gcl G201 q202 = 0 → (eb E : Int) ≤ q202 → ∀ G205 : Gt, G205 = (newa G201 q202 15 180) → gcl G205 l0 = 13 ∧ ∀ G207 : Gt, G207 = (sfd G205 12 47 l0 q202) → 1 ≤ ((((((((((((((((((((((((((((((((((c - 1) - 1) - 1) - 1) - 1) - 1) - 1) - 1) - 1) - 1) - 1) - 1) - 1) - 1) - 1) - 1) - 1) - 1) - 1) - 1) - 1) - 1) - 1) - 1) - 1) - 1) - 1) - 1) - 1) - 1) - 1) - 1) - 1) - 1) ∧ (12 : Int).toNat ≤ ((((((((((((((((((((((((((((((((((s - (12 : Int).toNat) - (12 : Int).toNat) - (12 : Int).toNat) - (40000 : Int).toNat) - (40000 : Int).toNat) - (40000 : Int).toNat) - (40000 : Int).toNat) - (40000 : Int).toNat) - (40000 : Int).toNat) - (600 : Int).toNat) - (600 : Int).toNat) - (600 : Int).toNat) - (12 : Int).toNat) - (540 : Int).toNat) - (9 : Int).toNat) - (8 : Int).toNat) - (8 : Int).toNat) - (8 : Int).toNat) - (8 : Int).toNat) - (8 : Int).toNat) - (10 : Int).toNat) - (10 : Int).toNat) - (120 : Int).toNat) - (120 : Int).toNat) - (12 : Int).toNat) - (12 : Int).toNat) - (8 : Int).toNat) - (192 : Int).toNat) - (192 : Int).toNat) - (192 : Int).toNat) - (192 : Int).toNat) - (192 : Int).toNat) - (40 : Int).toNat) - (180 : Int).toNat) ∧ ∀ q208 : Int, gcl G207 q208 = 0 → (eb E : Int) ≤ q208 → ∀ G211 : Gt, G211 = (newa G207 q208 16 12) → gcl G211 l0 = 13 ∧ ∀ G213 : Gt, G213 = (sfd G211 12 49 l0 q208) → 1 ≤ (((((((((((((((((((((((((((((((((((c - 1) - 1) - 1) - 1) - 1) - 1) - 1) - 1) - 1) - 1) - 1) - 1) - 1) - 1) - 1) - 1) - 1) - 1) - 1) - 1) - 1) - 1) - 1) - 1) - 1) - 1) - 1) - 1) - 1) - 1) - 1) - 1) - 1) - 1) - 1) ∧ (12 : Int).toNat ≤ (((((((((((((((((((((((((((((((((((s - (12 : Int).toNat) - (12 : Int).toNat) - (12 : Int).toNat) - (40000 : Int).toNat) - (40000 : Int).toNat) - (40000 : Int).toNat) - (40000 : Int).toNat) - (40000 : Int).toNat) - (40000 : Int).toNat) - (600 : Int).toNat) - (600 : Int).toNat) - (600 : Int).toNat) - (12 : Int).toNat) - (540 : Int).toNat) - (9 : Int).toNat) - (8 : Int).toNat) - (8 : Int).toNat) - (8 : Int).toNat) - (8 : Int).toNat) - (8 : Int).toNat) - (10 : Int).toNat) - (10 : Int).toNat) - (120 : Int).toNat) - (120 : Int).toNat) - (12 : Int).toNat) - (12 : Int).toNat) - (8 : Int).toNat) - (192 : Int).toNat) - (192 : Int).toNat) - (192 : Int).toNat) - (192 : Int).toNat) - (192 : Int).toNat) - (40 : Int).toNat) - (180 : Int).toNat) - (12 : Int).toNat) ∧ ∀ q214 : Int, gcl G213 q214 = 0 → (eb E : Int) ≤ q214 → ∀ G217 : Gt, G217 = (newa G213 q214 15 12) → gcl G217 l0 = 13 ∧ ∀ G219 : Gt, G219 = (sfd G217 12 50 l0 q214) → V E M_X12_init 311 [some (rv l0), some (iv 0)] [] G219 ((((((((((((((((((((((((((((((((((((c - 1) - 1) - 1) - 1) - 1) - 1) - 1) - 1) - 1) - 1) - 1) - 1) - 1) - 1) - 1) - 1) - 1) - 1) - 1) - 1) - 1) - 1) - 1) - 1) - 1) - 1) - 1) - 1) - 1) - 1) - 1) - 1) - 1) - 1) - 1) - 1) ((((((((((((((((((((((((((((((((((((s - (12 : Int).toNat) - (12 : Int).toNat) - (12 : Int).toNat) - (40000 : Int).toNat) - (40000 : Int).toNat) - (40000 : Int).toNat) - (40000 : Int).toNat) - (40000 : Int).toNat) - (40000 : Int).toNat) - (600 : Int).toNat) - (600 : Int).toNat) - (600 : Int).toNat) - (12 : Int).toNat) - (540 : Int).toNat) - (9 : Int).toNat) - (8 : Int).toNat) - (8 : Int).toNat) - (8 : Int).toNat) - (8 : Int).toNat) - (8 : Int).toNat) - (10 : Int).toNat) - (10 : Int).toNat) - (120 : Int).toNat) - (120 : Int).toNat) - (12 : Int).toNat) - (12 : Int).toNat) - (8 : Int).toNat) - (192 : Int).toNat) - (192 : Int).toNat) - (192 : Int).toNat) - (192 : Int).toNat) - (192 : Int).toNat) - (40 : Int).toNat) - (180 : Int).toNat) - (12 : Int).toNat) - (12 : Int).toNat) Q X)) : Ok E M_X12_init [rv l0] G c s Q X := Ok.intro (k := 1) rfl rfl (Nat.le_of_ble_eq_true rfl) rfl (b_X12_init_0 h)
set_option maxRecDepth 20000 in
theorem b_X12_init_311 {E : EE} {l0 l1 : Int} {G : Gt} {c s : Nat} {Q X : Int → Gt → Prop} (h : ((12 ≤ l1 → V E M_X12_init 333 [some (rv l0), some (iv 0)] [] G c s Q X) ∧ (l1 < 12 → (gcl G l0 = 13 ∧ gcl G (gfd G 12 20 l0) = 15 ∧ 0 ≤ l1 ∧ l1 < gln G (gfd G 12 20 l0) ∧ ∀ G6 : Gt, G6 = (sel G (gfd G 12 20 l0) l1 127) → i32 (l1 + 1) ∧ V E M_X12_init 311 [some (rv l0), some (iv (l1 + 1))] [] G6 c s Q X)))) : V E M_X12_init 311 [some (rv l0), some (iv l1)] [] G c s Q X := by
  refine v_iload_n (pc := 311) (dk dt_X12_init_3 31 rfl) rfl rfl ?_
  refine v_bipush (pc := 312) (dk dt_X12_init_3 32 rfl) (by decide) ⟨by decide, by decide⟩ ?_
  refine v_icmp_ge (pc := 314) (tgt := 331) (dk dt_X12_init_3 33 rfl) (by decide) (fun c1 => ?_) (fun c1 => ?_)
  · replace h := h.1 c1
    refine v_iconst (pc := 331) (dk dt_X12_init_4 1 rfl) ⟨by decide, by decide⟩ ?_
    refine v_istore_n (pc := 332) (ls' := [some (rv l0), some (iv 0)]) (dk dt_X12_init_4 2 rfl) rfl (Nat.le_of_ble_eq_true rfl) rfl ?_
    exact h
  · replace h := h.2 c1
    refine v_aload_n (pc := 317) (dk dt_X12_init_3 34 rfl) rfl rfl ?_
    obtain ⟨v2, h⟩ := h
    refine v_getR (pc := 318) (dk dt_X12_init_3 35 rfl) fl_X12_54 v2 (fun _ => ?_)
    refine v_iload_n (pc := 321) (dk dt_X12_init_3 36 rfl) rfl rfl ?_
    refine v_bipush (pc := 322) (dk dt_X12_init_3 37 rfl) (by decide) ⟨by decide, by decide⟩ ?_
    obtain ⟨v3, h⟩ := h
    obtain ⟨v4, h⟩ := h
    obtain ⟨v5, h⟩ := h
    refine v_iast (pc := 324) (dk dt_X12_init_3 38 rfl) v3 v4 v5 ?_
    generalize hG6 : (sel G (gfd G 12 20 l0) l1 127) = G6
    replace h := h G6 hG6.symm
    obtain ⟨v7, h⟩ := h
    refine v_iinc (pc := 325) (ls' := [some (rv l0), some (iv (l1 + 1))]) (dk dt_X12_init_3 39 rfl) (Nat.le_of_ble_eq_true rfl) rfl v7 rfl ?_
    refine v_goto (pc := 328) (tgt := 311) (dk dt_X12_init_4 0 rfl) (by decide) ?_
    exact h
set_option maxRecDepth 20000 in
theorem b_X12_init_333 {E : EE} {l0 l1 : Int} {G : Gt} {c s : Nat} {Q X : Int → Gt → Prop} (h : ((8 ≤ l1 → Q 0 G) ∧ (l1 < 8 → (gcl G l0 = 13 ∧ gcl G (gfd G 12 28 l0) = 15 ∧ 0 ≤ l1 ∧ l1 < gln G (gfd G 12 28 l0) ∧ ∀ G6 : Gt, G6 = (sel G (gfd G 12 28 l0) l1 (-1)) → i32 (l1 + 1) ∧ V E M_X12_init 333 [some (rv l0), some (iv (l1 + 1))] [] G6 c s Q X)))) : V E M_X12_init 333 [some (rv l0), some (iv l1)] [] G c s Q X := by
  refine v_iload_n (pc := 333) (dk dt_X12_init_4 3 rfl) rfl rfl ?_
  refine v_bipush (pc := 334) (dk dt_X12_init_4 4 rfl) (by decide) ⟨by decide, by decide⟩ ?_
  refine v_icmp_ge (pc := 336) (tgt := 352) (dk dt_X12_init_4 5 rfl) (by decide) (fun c1 => ?_) (fun c1 => ?_)
  · replace h := h.1 c1
    exact v_vret (pc := 352) (dk dt_X12_init_4 13 rfl) rfl h
  · replace h := h.2 c1
    refine v_aload_n (pc := 339) (dk dt_X12_init_4 6 rfl) rfl rfl ?_
    obtain ⟨v2, h⟩ := h
    refine v_getR (pc := 340) (dk dt_X12_init_4 7 rfl) fl_X12_75 v2 (fun _ => ?_)
    refine v_iload_n (pc := 343) (dk dt_X12_init_4 8 rfl) rfl rfl ?_
    refine v_iconst (pc := 344) (dk dt_X12_init_4 9 rfl) ⟨by decide, by decide⟩ ?_
    obtain ⟨v3, h⟩ := h
    obtain ⟨v4, h⟩ := h
    obtain ⟨v5, h⟩ := h
    refine v_iast (pc := 345) (dk dt_X12_init_4 10 rfl) v3 v4 v5 ?_
    generalize hG6 : (sel G (gfd G 12 28 l0) l1 (-1)) = G6
    replace h := h G6 hG6.symm
    obtain ⟨v7, h⟩ := h
    refine v_iinc (pc := 346) (ls' := [some (rv l0), some (iv (l1 + 1))]) (dk dt_X12_init_4 11 rfl) (Nat.le_of_ble_eq_true rfl) rfl v7 rfl ?_
    refine v_goto (pc := 349) (tgt := 333) (dk dt_X12_init_4 12 rfl) (by decide) ?_
    exact h
set_option maxRecDepth 20000 in
theorem b_X12_thrown_0 {E : EE} {l0 : Int} {G : Gt} {c s : Nat} {Q X : Int → Gt → Prop} (h : (gcl G l0 = 13 ∧ Q (gfd G 12 0 l0) G)) : V E M_X12_thrown 0 [some (rv l0)] [] G c s Q X := by
  refine v_aload_n (pc := 0) (dk dt_X12_thrown 0 rfl) rfl rfl ?_
  obtain ⟨v1, h⟩ := h
  refine v_getI (pc := 1) (dk dt_X12_thrown 1 rfl) fl_X12_127 v1 (fun _ => ?_)
  exact v_iret (pc := 4) (dk dt_X12_thrown 2 rfl) rfl h
set_option maxRecDepth 20000 in
theorem i_X12_thrown {E : EE} {l0 : Int} {G : Gt} {c s : Nat} {Q X : Int → Gt → Prop} (h : (gcl G l0 = 13 ∧ Q (gfd G 12 0 l0) G)) : Ok E M_X12_thrown [rv l0] G c s Q X := Ok.intro (k := 0) rfl rfl (Nat.le_of_ble_eq_true rfl) rfl (b_X12_thrown_0 h)
set_option maxRecDepth 20000 in
theorem b_X12_in_0 {E : EE} {l0 l1 l2 : Int} {G : Gt} {c s : Nat} {Q X : Int → Gt → Prop} (h : (((if l0 < l1 then (0 : Int) else (if l2 < l0 then (0 : Int) else 1)) = 0 ∨ (if l0 < l1 then (0 : Int) else (if l2 < l0 then (0 : Int) else 1)) = 1) ∧ Q (if l0 < l1 then (0 : Int) else (if l2 < l0 then (0 : Int) else 1)) G)) : V E M_X12_in 0 [some (iv l0), some (iv l1), some (iv l2)] [] G c s Q X := by
  refine v_iload_n (pc := 0) (dk dt_X12_in 0 rfl) rfl rfl ?_
  refine v_iload_n (pc := 1) (dk dt_X12_in 1 rfl) rfl rfl ?_
  suffices k4 : V E M_X12_in 15 [none, none, none] [iv (if l0 < l1 then (0 : Int) else (if l2 < l0 then (0 : Int) else 1))] G c s Q X by
    refine v_icmp_lt (pc := 2) (tgt := 14) (dk dt_X12_in 2 rfl) (by decide) (fun c1 => ?_) (fun c1 => ?_)
    · refine v_iconst (pc := 14) (dk dt_X12_in 8 rfl) ⟨by decide, by decide⟩ ?_
      exact v_less2 (ls' := [none, none, none]) trivial (by have hk9 := k4; try simp only [if_pos c1] at hk9 ⊢; exact hk9)
    · refine v_iload_n (pc := 5) (dk dt_X12_in 3 rfl) rfl rfl ?_
      refine v_iload_n (pc := 6) (dk dt_X12_in 4 rfl) rfl rfl ?_
      refine v_icmp_gt (pc := 7) (tgt := 14) (dk dt_X12_in 5 rfl) (by decide) (fun c2 => ?_) (fun c2 => ?_)
      · refine v_iconst (pc := 14) (dk dt_X12_in 8 rfl) ⟨by decide, by decide⟩ ?_
        exact v_less2 (ls' := [none, none, none]) trivial (by have hk9 := k4; try simp only [if_neg (Int.not_lt.mpr c1)] at hk9 ⊢; try simp only [if_pos c2] at hk9 ⊢; exact hk9)
      · refine v_iconst (pc := 10) (dk dt_X12_in 6 rfl) ⟨by decide, by decide⟩ ?_
        refine v_goto (pc := 11) (tgt := 15) (dk dt_X12_in 7 rfl) (by decide) ?_
        exact v_less2 (ls' := [none, none, none]) trivial (by have hk9 := k4; try simp only [if_neg (Int.not_lt.mpr c1)] at hk9 ⊢; try simp only [if_neg (Int.not_lt.mpr c2)] at hk9 ⊢; exact hk9)
  obtain ⟨v3, h⟩ := h
  exact v_zret (pc := 15) (dk dt_X12_in 9 rfl) rfl v3 h
set_option maxRecDepth 20000 in
theorem i_X12_in {E : EE} {l0 l1 l2 : Int} {G : Gt} {c s : Nat} {Q X : Int → Gt → Prop} (h : (((if l0 < l1 then (0 : Int) else (if l2 < l0 then (0 : Int) else 1)) = 0 ∨ (if l0 < l1 then (0 : Int) else (if l2 < l0 then (0 : Int) else 1)) = 1) ∧ Q (if l0 < l1 then (0 : Int) else (if l2 < l0 then (0 : Int) else 1)) G)) : Ok E M_X12_in [iv l0, iv l1, iv l2] G c s Q X := Ok.intro (k := 0) rfl rfl (Nat.le_of_ble_eq_true rfl) rfl (b_X12_in_0 h)
set_option maxRecDepth 20000 in
theorem b_X12_codeOf_0 {E : EE} {l0 l1 l2 : Int} {G : Gt} {c s : Nat} {Q X : Int → Gt → Prop} (h : (i32 (100 * l0) ∧ i32 (10 * l1) ∧ i32 ((100 * l0) + (10 * l1)) ∧ i32 (((100 * l0) + (10 * l1)) + l2) ∧ Q (((100 * l0) + (10 * l1)) + l2) G)) : V E M_X12_codeOf 0 [some (iv l0), some (iv l1), some (iv l2)] [] G c s Q X := by
  refine v_bipush (pc := 0) (dk dt_X12_codeOf 0 rfl) (by decide) ⟨by decide, by decide⟩ ?_
  refine v_iload_n (pc := 2) (dk dt_X12_codeOf 1 rfl) rfl rfl ?_
  obtain ⟨v1, h⟩ := h
  refine v_imul (pc := 3) (dk dt_X12_codeOf 2 rfl) v1 ?_
  refine v_bipush (pc := 4) (dk dt_X12_codeOf 3 rfl) (by decide) ⟨by decide, by decide⟩ ?_
  refine v_iload_n (pc := 6) (dk dt_X12_codeOf 4 rfl) rfl rfl ?_
  obtain ⟨v2, h⟩ := h
  refine v_imul (pc := 7) (dk dt_X12_codeOf 5 rfl) v2 ?_
  obtain ⟨v3, h⟩ := h
  refine v_iadd (pc := 8) (dk dt_X12_codeOf 6 rfl) v3 ?_
  refine v_iload_n (pc := 9) (dk dt_X12_codeOf 7 rfl) rfl rfl ?_
  obtain ⟨v4, h⟩ := h
  refine v_iadd (pc := 10) (dk dt_X12_codeOf 8 rfl) v4 ?_
  exact v_iret (pc := 11) (dk dt_X12_codeOf 9 rfl) rfl h
set_option maxRecDepth 20000 in
theorem i_X12_codeOf {E : EE} {l0 l1 l2 : Int} {G : Gt} {c s : Nat} {Q X : Int → Gt → Prop} (h : (i32 (100 * l0) ∧ i32 (10 * l1) ∧ i32 ((100 * l0) + (10 * l1)) ∧ i32 (((100 * l0) + (10 * l1)) + l2) ∧ Q (((100 * l0) + (10 * l1)) + l2) G)) : Ok E M_X12_codeOf [iv l0, iv l1, iv l2] G c s Q X := Ok.intro (k := 0) rfl rfl (Nat.le_of_ble_eq_true rfl) rfl (b_X12_codeOf_0 h)
set_option maxRecDepth 20000 in
theorem b_X12_codeOfSeries_0 {E : EE} {l0 l1 : Int} {G : Gt} {c s : Nat} {Q X : Int → Gt → Prop} (h : (gcl G l0 = 13 ∧ gcl G (gfd G 12 3 l0) = 15 ∧ 0 ≤ l1 ∧ l1 < gln G (gfd G 12 3 l0) ∧ gcl G l0 = 13 ∧ gcl G (gfd G 12 4 l0) = 15 ∧ 0 ≤ l1 ∧ l1 < gln G (gfd G 12 4 l0) ∧ gcl G l0 = 13 ∧ gcl G (gfd G 12 5 l0) = 15 ∧ 0 ≤ l1 ∧ l1 < gln G (gfd G 12 5 l0) ∧ OkP E M_X12_codeOf [iv (gel G (gfd G 12 3 l0) l1), iv (gel G (gfd G 12 4 l0) l1), iv (gel G (gfd G 12 5 l0) l1)] G (wCode (gel G (gfd G 12 3 l0) l1) (gel G (gfd G 12 4 l0) l1) (gel G (gfd G 12 5 l0) l1)) ∧ Q (wCode (gel G (gfd G 12 3 l0) l1) (gel G (gfd G 12 4 l0) l1) (gel G (gfd G 12 5 l0) l1)) G)) : V E M_X12_codeOfSeries 0 [some (rv l0), some (iv l1)] [] G c s Q X := by
  refine v_aload_n (pc := 0) (dk dt_X12_codeOfSeries 0 rfl) rfl rfl ?_
  obtain ⟨v1, h⟩ := h
  refine v_getR (pc := 1) (dk dt_X12_codeOfSeries 1 rfl) fl_X12_15 v1 (fun _ => ?_)
  refine v_iload_n (pc := 4) (dk dt_X12_codeOfSeries 2 rfl) rfl rfl ?_
  obtain ⟨v2, h⟩ := h
  obtain ⟨v3, h⟩ := h
  obtain ⟨v4, h⟩ := h
  refine v_iald (pc := 5) (dk dt_X12_codeOfSeries 3 rfl) (Or.inl v2) v3 v4 (fun _ => ?_)
  refine v_aload_n (pc := 6) (dk dt_X12_codeOfSeries 4 rfl) rfl rfl ?_
  obtain ⟨v5, h⟩ := h
  refine v_getR (pc := 7) (dk dt_X12_codeOfSeries 5 rfl) fl_X12_19 v5 (fun _ => ?_)
  refine v_iload_n (pc := 10) (dk dt_X12_codeOfSeries 6 rfl) rfl rfl ?_
  obtain ⟨v6, h⟩ := h
  obtain ⟨v7, h⟩ := h
  obtain ⟨v8, h⟩ := h
  refine v_iald (pc := 11) (dk dt_X12_codeOfSeries 7 rfl) (Or.inl v6) v7 v8 (fun _ => ?_)
  refine v_aload_n (pc := 12) (dk dt_X12_codeOfSeries 8 rfl) rfl rfl ?_
  obtain ⟨v9, h⟩ := h
  refine v_getR (pc := 13) (dk dt_X12_codeOfSeries 9 rfl) fl_X12_22 v9 (fun _ => ?_)
  refine v_iload_n (pc := 16) (dk dt_X12_codeOfSeries 10 rfl) rfl rfl ?_
  obtain ⟨v10, h⟩ := h
  obtain ⟨v11, h⟩ := h
  obtain ⟨v12, h⟩ := h
  refine v_iald (pc := 17) (dk dt_X12_codeOfSeries 11 rfl) (Or.inl v10) v11 v12 (fun _ => ?_)
  obtain ⟨v13, h⟩ := h
  refine v_csPI (v := (wCode (gel G (gfd G 12 3 l0) l1) (gel G (gfd G 12 4 l0) l1) (gel G (gfd G 12 5 l0) l1))) (As := [iv (gel G (gfd G 12 3 l0) l1), iv (gel G (gfd G 12 4 l0) l1), iv (gel G (gfd G 12 5 l0) l1)]) (stk := []) (pc := 18) (dk dt_X12_codeOfSeries 12 rfl) ml_X12_130 rfl rfl (Nat.le_of_ble_eq_true rfl) rfl rfl v13 ?_
  exact v_iret (pc := 21) (dk dt_X12_codeOfSeries 13 rfl) rfl h
set_option maxRecDepth 20000 in
theorem i_X12_codeOfSeries {E : EE} {l0 l1 : Int} {G : Gt} {c s : Nat} {Q X : Int → Gt → Prop} (h : (gcl G l0 = 13 ∧ gcl G (gfd G 12 3 l0) = 15 ∧ 0 ≤ l1 ∧ l1 < gln G (gfd G 12 3 l0) ∧ gcl G l0 = 13 ∧ gcl G (gfd G 12 4 l0) = 15 ∧ 0 ≤ l1 ∧ l1 < gln G (gfd G 12 4 l0) ∧ gcl G l0 = 13 ∧ gcl G (gfd G 12 5 l0) = 15 ∧ 0 ≤ l1 ∧ l1 < gln G (gfd G 12 5 l0) ∧ OkP E M_X12_codeOf [iv (gel G (gfd G 12 3 l0) l1), iv (gel G (gfd G 12 4 l0) l1), iv (gel G (gfd G 12 5 l0) l1)] G (wCode (gel G (gfd G 12 3 l0) l1) (gel G (gfd G 12 4 l0) l1) (gel G (gfd G 12 5 l0) l1)) ∧ Q (wCode (gel G (gfd G 12 3 l0) l1) (gel G (gfd G 12 4 l0) l1) (gel G (gfd G 12 5 l0) l1)) G)) : Ok E M_X12_codeOfSeries [rv l0, iv l1] G c s Q X := Ok.intro (k := 0) rfl rfl (Nat.le_of_ble_eq_true rfl) rfl (b_X12_codeOfSeries_0 h)
set_option maxRecDepth 20000 in
theorem b_X12_isIn_0 {E : EE} {l0 l1 l2 l3 : Int} {G : Gt} {c s : Nat} {Q X : Int → Gt → Prop} (h : (((if (and32 (shr32 l0 (Int.tdiv l3 100)) 1) = 1 then ((if (and32 (shr32 l1 (Int.tmod (Int.tdiv l3 10) 10)) 1) = 1 then ((if (and32 (shr32 l2 (Int.tmod l3 10)) 1) = 1 then (1 : Int) else 0) : Int) else 0) : Int) else 0) = 0 ∨ (if (and32 (shr32 l0 (Int.tdiv l3 100)) 1) = 1 then ((if (and32 (shr32 l1 (Int.tmod (Int.tdiv l3 10) 10)) 1) = 1 then ((if (and32 (shr32 l2 (Int.tmod l3 10)) 1) = 1 then (1 : Int) else 0) : Int) else 0) : Int) else 0) = 1) ∧ Q (if (and32 (shr32 l0 (Int.tdiv l3 100)) 1) = 1 then ((if (and32 (shr32 l1 (Int.tmod (Int.tdiv l3 10) 10)) 1) = 1 then ((if (and32 (shr32 l2 (Int.tmod l3 10)) 1) = 1 then (1 : Int) else 0) : Int) else 0) : Int) else 0) G)) : V E M_X12_isIn 0 [some (iv l0), some (iv l1), some (iv l2), some (iv l3)] [] G c s Q X := by
  refine v_iload_n (pc := 0) (dk dt_X12_isIn 0 rfl) rfl rfl ?_
  refine v_iload_n (pc := 1) (dk dt_X12_isIn 1 rfl) rfl rfl ?_
  refine v_bipush (pc := 2) (dk dt_X12_isIn 2 rfl) (by decide) ⟨by decide, by decide⟩ ?_
  refine v_idivP (pc := 4) (dk dt_X12_isIn 3 rfl) (by decide) ?_
  refine v_ishr (pc := 5) (dk dt_X12_isIn 4 rfl) ?_
  refine v_iconst (pc := 6) (dk dt_X12_isIn 5 rfl) ⟨by decide, by decide⟩ ?_
  refine v_iand (pc := 7) (dk dt_X12_isIn 6 rfl) ?_
  refine v_iconst (pc := 8) (dk dt_X12_isIn 7 rfl) ⟨by decide, by decide⟩ ?_
  suffices k5 : V E M_X12_isIn 44 [none, none, none, none] [iv (if (and32 (shr32 l0 (Int.tdiv l3 100)) 1) = 1 then ((if (and32 (shr32 l1 (Int.tmod (Int.tdiv l3 10) 10)) 1) = 1 then ((if (and32 (shr32 l2 (Int.tmod l3 10)) 1) = 1 then (1 : Int) else 0) : Int) else 0) : Int) else 0)] G c s Q X by
    refine v_icmp_ne (pc := 9) (tgt := 43) (dk dt_X12_isIn 8 rfl) (by decide) (fun c1 => ?_) (fun c1 => ?_)
    · refine v_iconst (pc := 43) (dk dt_X12_isIn 31 rfl) ⟨by decide, by decide⟩ ?_
      exact v_less2 (ls' := [none, none, none, none]) trivial (by have hk9 := k5; try simp only [if_neg c1] at hk9 ⊢; exact hk9)
    · refine v_iload_n (pc := 12) (dk dt_X12_isIn 9 rfl) rfl rfl ?_
      refine v_iload_n (pc := 13) (dk dt_X12_isIn 10 rfl) rfl rfl ?_
      refine v_bipush (pc := 14) (dk dt_X12_isIn 11 rfl) (by decide) ⟨by decide, by decide⟩ ?_
      refine v_idivP (pc := 16) (dk dt_X12_isIn 12 rfl) (by decide) ?_
      refine v_bipush (pc := 17) (dk dt_X12_isIn 13 rfl) (by decide) ⟨by decide, by decide⟩ ?_
      refine v_iremP (pc := 19) (dk dt_X12_isIn 14 rfl) (by decide) ?_
      refine v_ishr (pc := 20) (dk dt_X12_isIn 15 rfl) ?_
      refine v_iconst (pc := 21) (dk dt_X12_isIn 16 rfl) ⟨by decide, by decide⟩ ?_
      refine v_iand (pc := 22) (dk dt_X12_isIn 17 rfl) ?_
      refine v_iconst (pc := 23) (dk dt_X12_isIn 18 rfl) ⟨by decide, by decide⟩ ?_
      refine v_icmp_ne (pc := 24) (tgt := 43) (dk dt_X12_isIn 19 rfl) (by decide) (fun c2 => ?_) (fun c2 => ?_)
      · refine v_iconst (pc := 43) (dk dt_X12_isIn 31 rfl) ⟨by decide, by decide⟩ ?_
        exact v_less2 (ls' := [none, none, none, none]) trivial (by have hk9 := k5; try simp only [if_pos c1] at hk9 ⊢; try simp only [if_neg c2] at hk9 ⊢; exact hk9)
      · refine v_iload_n (pc := 27) (dk dt_X12_isIn 20 rfl) rfl rfl ?_
        refine v_iload_n (pc := 28) (dk dt_X12_isIn 21 rfl) rfl rfl ?_
        refine v_bipush (pc := 29) (dk dt_X12_isIn 22 rfl) (by decide) ⟨by decide, by decide⟩ ?_
        refine v_iremP (pc := 31) (dk dt_X12_isIn 23 rfl) (by decide) ?_
        refine v_ishr (pc := 32) (dk dt_X12_isIn 24 rfl) ?_
        refine v_iconst (pc := 33) (dk dt_X12_isIn 25 rfl) ⟨by decide, by decide⟩ ?_
        refine v_iand (pc := 34) (dk dt_X12_isIn 26 rfl) ?_
        refine v_iconst (pc := 35) (dk dt_X12_isIn 27 rfl) ⟨by decide, by decide⟩ ?_
        refine v_icmp_ne (pc := 36) (tgt := 43) (dk dt_X12_isIn 28 rfl) (by decide) (fun c3 => ?_) (fun c3 => ?_)
        · refine v_iconst (pc := 43) (dk dt_X12_isIn 31 rfl) ⟨by decide, by decide⟩ ?_
          exact v_less2 (ls' := [none, none, none, none]) trivial (by have hk9 := k5; try simp only [if_pos c1] at hk9 ⊢; try simp only [if_pos c2] at hk9 ⊢; try simp only [if_neg c3] at hk9 ⊢; exact hk9)
        · refine v_iconst (pc := 39) (dk dt_X12_isIn 29 rfl) ⟨by decide, by decide⟩ ?_
          refine v_goto (pc := 40) (tgt := 44) (dk dt_X12_isIn 30 rfl) (by decide) ?_
          exact v_less2 (ls' := [none, none, none, none]) trivial (by have hk9 := k5; try simp only [if_pos c1] at hk9 ⊢; try simp only [if_pos c2] at hk9 ⊢; try simp only [if_pos c3] at hk9 ⊢; exact hk9)
  obtain ⟨v4, h⟩ := h
  exact v_zret (pc := 44) (dk dt_X12_isIn 32 rfl) rfl v4 h
set_option maxRecDepth 20000 in
theorem i_X12_isIn {E : EE} {l0 l1 l2 l3 : Int} {G : Gt} {c s : Nat} {Q X : Int → Gt → Prop} (h : (((if (and32 (shr32 l0 (Int.tdiv l3 100)) 1) = 1 then ((if (and32 (shr32 l1 (Int.tmod (Int.tdiv l3 10) 10)) 1) = 1 then ((if (and32 (shr32 l2 (Int.tmod l3 10)) 1) = 1 then (1 : Int) else 0) : Int) else 0) : Int) else 0) = 0 ∨ (if (and32 (shr32 l0 (Int.tdiv l3 100)) 1) = 1 then ((if (and32 (shr32 l1 (Int.tmod (Int.tdiv l3 10) 10)) 1) = 1 then ((if (and32 (shr32 l2 (Int.tmod l3 10)) 1) = 1 then (1 : Int) else 0) : Int) else 0) : Int) else 0) = 1) ∧ Q (if (and32 (shr32 l0 (Int.tdiv l3 100)) 1) = 1 then ((if (and32 (shr32 l1 (Int.tmod (Int.tdiv l3 10) 10)) 1) = 1 then ((if (and32 (shr32 l2 (Int.tmod l3 10)) 1) = 1 then (1 : Int) else 0) : Int) else 0) : Int) else 0) G)) : Ok E M_X12_isIn [iv l0, iv l1, iv l2, iv l3] G c s Q X := Ok.intro (k := 0) rfl rfl (Nat.le_of_ble_eq_true rfl) rfl (b_X12_isIn_0 h)
set_option maxRecDepth 20000 in
theorem b_X12_isSelected_0 {E : EE} {l0 l1 l2 : Int} {G : Gt} {c s : Nat} {Q X : Int → Gt → Prop} (h : (gcl G l0 = 13 ∧ i32 (3 * l1) ∧ gcl G (gfd G 12 20 l0) = 15 ∧ 0 ≤ (3 * l1) ∧ (3 * l1) < gln G (gfd G 12 20 l0) ∧ gcl G l0 = 13 ∧ i32 (3 * l1) ∧ i32 ((3 * l1) + 1) ∧ gcl G (gfd G 12 20 l0) = 15 ∧ 0 ≤ ((3 * l1) + 1) ∧ ((3 * l1) + 1) < gln G (gfd G 12 20 l0) ∧ gcl G l0 = 13 ∧ i32 (3 * l1) ∧ i32 ((3 * l1) + 2) ∧ gcl G (gfd G 12 20 l0) = 15 ∧ 0 ≤ ((3 * l1) + 2) ∧ ((3 * l1) + 2) < gln G (gfd G 12 20 l0) ∧ gcl G l0 = 13 ∧ OkP E M_X12_codeOfSeries [rv l0, iv l2] G (mCode G l0 l2) ∧ OkP E M_X12_isIn [iv (gel G (gfd G 12 20 l0) (3 * l1)), iv (gel G (gfd G 12 20 l0) ((3 * l1) + 1)), iv (gel G (gfd G 12 20 l0) ((3 * l1) + 2)), iv (mCode G l0 l2)] G (mIn (gel G (gfd G 12 20 l0) (3 * l1)) (gel G (gfd G 12 20 l0) ((3 * l1) + 1)) (gel G (gfd G 12 20 l0) ((3 * l1) + 2)) (mCode G l0 l2)) ∧ ((mIn (gel G (gfd G 12 20 l0) (3 * l1)) (gel G (gfd G 12 20 l0) ((3 * l1) + 1)) (gel G (gfd G 12 20 l0) ((3 * l1) + 2)) (mCode G l0 l2)) = 0 ∨ (mIn (gel G (gfd G 12 20 l0) (3 * l1)) (gel G (gfd G 12 20 l0) ((3 * l1) + 1)) (gel G (gfd G 12 20 l0) ((3 * l1) + 2)) (mCode G l0 l2)) = 1) ∧ Q (mIn (gel G (gfd G 12 20 l0) (3 * l1)) (gel G (gfd G 12 20 l0) ((3 * l1) + 1)) (gel G (gfd G 12 20 l0) ((3 * l1) + 2)) (mCode G l0 l2)) G)) : V E M_X12_isSelected 0 [some (rv l0), some (iv l1), some (iv l2)] [] G c s Q X := by
  refine v_aload_n (pc := 0) (dk dt_X12_isSelected 0 rfl) rfl rfl ?_
  obtain ⟨v1, h⟩ := h
  refine v_getR (pc := 1) (dk dt_X12_isSelected 1 rfl) fl_X12_54 v1 (fun _ => ?_)
  refine v_iconst (pc := 4) (dk dt_X12_isSelected 2 rfl) ⟨by decide, by decide⟩ ?_
  refine v_iload_n (pc := 5) (dk dt_X12_isSelected 3 rfl) rfl rfl ?_
  obtain ⟨v2, h⟩ := h
  refine v_imul (pc := 6) (dk dt_X12_isSelected 4 rfl) v2 ?_
  obtain ⟨v3, h⟩ := h
  obtain ⟨v4, h⟩ := h
  obtain ⟨v5, h⟩ := h
  refine v_iald (pc := 7) (dk dt_X12_isSelected 5 rfl) (Or.inl v3) v4 v5 (fun _ => ?_)
  refine v_aload_n (pc := 8) (dk dt_X12_isSelected 6 rfl) rfl rfl ?_
  obtain ⟨v6, h⟩ := h
  refine v_getR (pc := 9) (dk dt_X12_isSelected 7 rfl) fl_X12_54 v6 (fun _ => ?_)
  refine v_iconst (pc := 12) (dk dt_X12_isSelected 8 rfl) ⟨by decide, by decide⟩ ?_
  refine v_iload_n (pc := 13) (dk dt_X12_isSelected 9 rfl) rfl rfl ?_
  obtain ⟨v7, h⟩ := h
  refine v_imul (pc := 14) (dk dt_X12_isSelected 10 rfl) v7 ?_
  refine v_iconst (pc := 15) (dk dt_X12_isSelected 11 rfl) ⟨by decide, by decide⟩ ?_
  obtain ⟨v8, h⟩ := h
  refine v_iadd (pc := 16) (dk dt_X12_isSelected 12 rfl) v8 ?_
  obtain ⟨v9, h⟩ := h
  obtain ⟨v10, h⟩ := h
  obtain ⟨v11, h⟩ := h
  refine v_iald (pc := 17) (dk dt_X12_isSelected 13 rfl) (Or.inl v9) v10 v11 (fun _ => ?_)
  refine v_aload_n (pc := 18) (dk dt_X12_isSelected 14 rfl) rfl rfl ?_
  obtain ⟨v12, h⟩ := h
  refine v_getR (pc := 19) (dk dt_X12_isSelected 15 rfl) fl_X12_54 v12 (fun _ => ?_)
  refine v_iconst (pc := 22) (dk dt_X12_isSelected 16 rfl) ⟨by decide, by decide⟩ ?_
  refine v_iload_n (pc := 23) (dk dt_X12_isSelected 17 rfl) rfl rfl ?_
  obtain ⟨v13, h⟩ := h
  refine v_imul (pc := 24) (dk dt_X12_isSelected 18 rfl) v13 ?_
  refine v_iconst (pc := 25) (dk dt_X12_isSelected 19 rfl) ⟨by decide, by decide⟩ ?_
  obtain ⟨v14, h⟩ := h
  refine v_iadd (pc := 26) (dk dt_X12_isSelected 20 rfl) v14 ?_
  obtain ⟨v15, h⟩ := h
  obtain ⟨v16, h⟩ := h
  obtain ⟨v17, h⟩ := h
  refine v_iald (pc := 27) (dk dt_X12_isSelected 21 rfl) (Or.inl v15) v16 v17 (fun _ => ?_)
  refine v_aload_n (pc := 28) (dk dt_X12_isSelected 22 rfl) rfl rfl ?_
  refine v_iload_n (pc := 29) (dk dt_X12_isSelected 23 rfl) rfl rfl ?_
  obtain ⟨v18, h⟩ := h
  obtain ⟨v19, h⟩ := h
  refine v_cvPI (c := 12) (v := (mCode G l0 l2)) (As := [iv l2]) (stk := [iv (gel G (gfd G 12 20 l0) ((3 * l1) + 2)), iv (gel G (gfd G 12 20 l0) ((3 * l1) + 1)), iv (gel G (gfd G 12 20 l0) (3 * l1))]) (pc := 30) (dk dt_X12_isSelected 24 rfl) ml_X12_134 rfl rfl (Nat.le_of_ble_eq_true rfl) rfl ⟨by decide, rfl⟩ v18 rfl v19 ?_
  obtain ⟨v20, h⟩ := h
  refine v_csPZ (v := (mIn (gel G (gfd G 12 20 l0) (3 * l1)) (gel G (gfd G 12 20 l0) ((3 * l1) + 1)) (gel G (gfd G 12 20 l0) ((3 * l1) + 2)) (mCode G l0 l2))) (As := [iv (gel G (gfd G 12 20 l0) (3 * l1)), iv (gel G (gfd G 12 20 l0) ((3 * l1) + 1)), iv (gel G (gfd G 12 20 l0) ((3 * l1) + 2)), iv (mCode G l0 l2)]) (stk := []) (pc := 33) (dk dt_X12_isSelected 25 rfl) ml_X12_138 rfl rfl (Nat.le_of_ble_eq_true rfl) rfl rfl v20 ?_
  obtain ⟨v21, h⟩ := h
  exact v_zret (pc := 36) (dk dt_X12_isSelected 26 rfl) rfl v21 h
set_option maxRecDepth 20000 in
theorem i_X12_isSelected {E : EE} {l0 l1 l2 : Int} {G : Gt} {c s : Nat} {Q X : Int → Gt → Prop} (h : (gcl G l0 = 13 ∧ i32 (3 * l1) ∧ gcl G (gfd G 12 20 l0) = 15 ∧ 0 ≤ (3 * l1) ∧ (3 * l1) < gln G (gfd G 12 20 l0) ∧ gcl G l0 = 13 ∧ i32 (3 * l1) ∧ i32 ((3 * l1) + 1) ∧ gcl G (gfd G 12 20 l0) = 15 ∧ 0 ≤ ((3 * l1) + 1) ∧ ((3 * l1) + 1) < gln G (gfd G 12 20 l0) ∧ gcl G l0 = 13 ∧ i32 (3 * l1) ∧ i32 ((3 * l1) + 2) ∧ gcl G (gfd G 12 20 l0) = 15 ∧ 0 ≤ ((3 * l1) + 2) ∧ ((3 * l1) + 2) < gln G (gfd G 12 20 l0) ∧ gcl G l0 = 13 ∧ OkP E M_X12_codeOfSeries [rv l0, iv l2] G (mCode G l0 l2) ∧ OkP E M_X12_isIn [iv (gel G (gfd G 12 20 l0) (3 * l1)), iv (gel G (gfd G 12 20 l0) ((3 * l1) + 1)), iv (gel G (gfd G 12 20 l0) ((3 * l1) + 2)), iv (mCode G l0 l2)] G (mIn (gel G (gfd G 12 20 l0) (3 * l1)) (gel G (gfd G 12 20 l0) ((3 * l1) + 1)) (gel G (gfd G 12 20 l0) ((3 * l1) + 2)) (mCode G l0 l2)) ∧ ((mIn (gel G (gfd G 12 20 l0) (3 * l1)) (gel G (gfd G 12 20 l0) ((3 * l1) + 1)) (gel G (gfd G 12 20 l0) ((3 * l1) + 2)) (mCode G l0 l2)) = 0 ∨ (mIn (gel G (gfd G 12 20 l0) (3 * l1)) (gel G (gfd G 12 20 l0) ((3 * l1) + 1)) (gel G (gfd G 12 20 l0) ((3 * l1) + 2)) (mCode G l0 l2)) = 1) ∧ Q (mIn (gel G (gfd G 12 20 l0) (3 * l1)) (gel G (gfd G 12 20 l0) ((3 * l1) + 1)) (gel G (gfd G 12 20 l0) ((3 * l1) + 2)) (mCode G l0 l2)) G)) : Ok E M_X12_isSelected [rv l0, iv l1, iv l2] G c s Q X := Ok.intro (k := 0) rfl rfl (Nat.le_of_ble_eq_true rfl) rfl (b_X12_isSelected_0 h)
set_option maxRecDepth 20000 in
theorem b_X12_isSeen_0 {E : EE} {l0 l1 : Int} {G : Gt} {c s : Nat} {Q X : Int → Gt → Prop} (h : (gcl G l0 = 13 ∧ gcl G (gfd G 12 10 l0) = 15 ∧ 0 ≤ l1 ∧ l1 < gln G (gfd G 12 10 l0) ∧ ((if (gel G (gfd G 12 10 l0) l1) = 0 then (1 : Int) else 0) = 0 ∨ (if (gel G (gfd G 12 10 l0) l1) = 0 then (1 : Int) else 0) = 1) ∧ Q (if (gel G (gfd G 12 10 l0) l1) = 0 then (1 : Int) else 0) G)) : V E M_X12_isSeen 0 [some (rv l0), some (iv l1)] [] G c s Q X := by
  refine v_aload_n (pc := 0) (dk dt_X12_isSeen 0 rfl) rfl rfl ?_
  obtain ⟨v1, h⟩ := h
  refine v_getR (pc := 1) (dk dt_X12_isSeen 1 rfl) fl_X12_35 v1 (fun _ => ?_)
  refine v_iload_n (pc := 4) (dk dt_X12_isSeen 2 rfl) rfl rfl ?_
  obtain ⟨v2, h⟩ := h
  obtain ⟨v3, h⟩ := h
  obtain ⟨v4, h⟩ := h
  refine v_iald (pc := 5) (dk dt_X12_isSeen 3 rfl) (Or.inl v2) v3 v4 (fun _ => ?_)
  suffices k7 : V E M_X12_isSeen 14 [none, none] [iv (if (gel G (gfd G 12 10 l0) l1) = 0 then (1 : Int) else 0)] G c s Q X by
    refine v_if_ne (pc := 6) (tgt := 13) (dk dt_X12_isSeen 4 rfl) (by decide) (fun c5 => ?_) (fun c5 => ?_)
    · refine v_iconst (pc := 13) (dk dt_X12_isSeen 7 rfl) ⟨by decide, by decide⟩ ?_
      exact v_less2 (ls' := [none, none]) trivial (by have hk9 := k7; try simp only [if_neg c5] at hk9 ⊢; exact hk9)
    · refine v_iconst (pc := 9) (dk dt_X12_isSeen 5 rfl) ⟨by decide, by decide⟩ ?_
      refine v_goto (pc := 10) (tgt := 14) (dk dt_X12_isSeen 6 rfl) (by decide) ?_
      exact v_less2 (ls' := [none, none]) trivial (by have hk9 := k7; try simp only [if_pos c5] at hk9 ⊢; exact hk9)
  obtain ⟨v6, h⟩ := h
  exact v_zret (pc := 14) (dk dt_X12_isSeen 8 rfl) rfl v6 h
set_option maxRecDepth 20000 in
theorem i_X12_isSeen {E : EE} {l0 l1 : Int} {G : Gt} {c s : Nat} {Q X : Int → Gt → Prop} (h : (gcl G l0 = 13 ∧ gcl G (gfd G 12 10 l0) = 15 ∧ 0 ≤ l1 ∧ l1 < gln G (gfd G 12 10 l0) ∧ ((if (gel G (gfd G 12 10 l0) l1) = 0 then (1 : Int) else 0) = 0 ∨ (if (gel G (gfd G 12 10 l0) l1) = 0 then (1 : Int) else 0) = 1) ∧ Q (if (gel G (gfd G 12 10 l0) l1) = 0 then (1 : Int) else 0) G)) : Ok E M_X12_isSeen [rv l0, iv l1] G c s Q X := Ok.intro (k := 0) rfl rfl (Nat.le_of_ble_eq_true rfl) rfl (b_X12_isSeen_0 h)
set_option maxRecDepth 20000 in
theorem b_X12_find_0 {E : EE} {l0 l1 l2 l3 : Int} {G : Gt} {c s : Nat} {Q X : Int → Gt → Prop} (h : V E M_X12_find 6 [some (rv l0), some (iv l1), some (iv l2), some (iv l3), some (iv (-1)), some (iv 0)] [] G c s Q X) : V E M_X12_find 0 [some (rv l0), some (iv l1), some (iv l2), some (iv l3), none, none] [] G c s Q X := by
  refine v_iconst (pc := 0) (dk dt_X12_find 0 rfl) ⟨by decide, by decide⟩ ?_
  refine v_istore (pc := 1) (ls' := [some (rv l0), some (iv l1), some (iv l2), some (iv l3), some (iv (-1)), none]) (dk dt_X12_find 1 rfl) (Nat.le_of_ble_eq_true rfl) rfl ?_
  refine v_iconst (pc := 3) (dk dt_X12_find 2 rfl) ⟨by decide, by decide⟩ ?_
  refine v_istore (pc := 4) (ls' := [some (rv l0), some (iv l1), some (iv l2), some (iv l3), some (iv (-1)), some (iv 0)]) (dk dt_X12_find 3 rfl) (Nat.le_of_ble_eq_true rfl) rfl ?_
  exact h
set_option maxRecDepth 20000 in
theorem i_X12_find {E : EE} {l0 l1 l2 l3 : Int} {G : Gt} {c s : Nat} {Q X : Int → Gt → Prop} (h : V E M_X12_find 6 [some (rv l0), some (iv l1), some (iv l2), some (iv l3), some (iv (-1)), some (iv 0)] [] G c s Q X) : Ok E M_X12_find [rv l0, iv l1, iv l2, iv l3] G c s Q X := Ok.intro (k := 2) rfl rfl (Nat.le_of_ble_eq_true rfl) rfl (b_X12_find_0 h)
set_option maxRecDepth 20000 in
theorem b_X12_find_6 {E : EE} {l0 l1 l2 l3 l4 l5 : Int} {G : Gt} {c s : Nat} {Q X : Int → Gt → Prop} (h : (gcl G l0 = 13 ∧ (((gfd G 12 6 l0) ≤ l5 → Q l4 G) ∧ (l5 < (gfd G 12 6 l0) → (gcl G l0 = 13 ∧ gcl G (gfd G 12 3 l0) = 15 ∧ 0 ≤ l5 ∧ l5 < gln G (gfd G 12 3 l0) ∧ ((gel G (gfd G 12 3 l0) l5) = l1 → gcl G l0 = 13) ∧ ((gel G (gfd G 12 3 l0) l5) = l1 → gcl G (gfd G 12 4 l0) = 15) ∧ ((gel G (gfd G 12 3 l0) l5) = l1 → 0 ≤ l5) ∧ ((gel G (gfd G 12 3 l0) l5) = l1 → l5 < gln G (gfd G 12 4 l0)) ∧ ((gel G (gfd G 12 3 l0) l5) = l1 → (gel G (gfd G 12 4 l0) l5) = l2 → gcl G l0 = 13) ∧ ((gel G (gfd G 12 3 l0) l5) = l1 → (gel G (gfd G 12 4 l0) l5) = l2 → gcl G (gfd G 12 5 l0) = 15) ∧ ((gel G (gfd G 12 3 l0) l5) = l1 → (gel G (gfd G 12 4 l0) l5) = l2 → 0 ≤ l5) ∧ ((gel G (gfd G 12 3 l0) l5) = l1 → (gel G (gfd G 12 4 l0) l5) = l2 → l5 < gln G (gfd G 12 5 l0)) ∧ i32 (l5 + 1) ∧ V E M_X12_find 6 [some (rv l0), some (iv l1), some (iv l2), some (iv l3), some (iv (if (gel G (gfd G 12 3 l0) l5) = l1 then ((if (gel G (gfd G 12 4 l0) l5) = l2 then ((if (gel G (gfd G 12 5 l0) l5) = l3 then (l5 : Int) else l4) : Int) else l4) : Int) else l4)), some (iv (l5 + 1))] [] G c s Q X))))) : V E M_X12_find 6 [some (rv l0), some (iv l1), some (iv l2), some (iv l3), some (iv l4), some (iv l5)] [] G c s Q X := by
  refine v_iload (pc := 6) (dk dt_X12_find 4 rfl) rfl ?_
  refine v_aload_n (pc := 8) (dk dt_X12_find 5 rfl) rfl rfl ?_
  obtain ⟨v1, h⟩ := h
  refine v_getI (pc := 9) (dk dt_X12_find 6 rfl) fl_X12_142 v1 (fun _ => ?_)
  refine v_icmp_ge (pc := 12) (tgt := 63) (dk dt_X12_find 7 rfl) (by decide) (fun c2 => ?_) (fun c2 => ?_)
  · replace h := h.1 c2
    refine v_iload (pc := 63) (dk dt_X12_find 32 rfl) rfl ?_
    exact v_iret (pc := 65) (dk dt_X12_find 33 rfl) rfl h
  · replace h := h.2 c2
    refine v_aload_n (pc := 15) (dk dt_X12_find 8 rfl) rfl rfl ?_
    obtain ⟨v3, h⟩ := h
    refine v_getR (pc := 16) (dk dt_X12_find 9 rfl) fl_X12_15 v3 (fun _ => ?_)
    refine v_iload (pc := 19) (dk dt_X12_find 10 rfl) rfl ?_
    obtain ⟨v4, h⟩ := h
    obtain ⟨v5, h⟩ := h
    obtain ⟨v6, h⟩ := h
    refine v_iald (pc := 21) (dk dt_X12_find 11 rfl) (Or.inl v4) v5 v6 (fun _ => ?_)
    refine v_iload_n (pc := 22) (dk dt_X12_find 12 rfl) rfl rfl ?_
    obtain ⟨v8, v9, v10, v11, v13, v14, v15, v16, h⟩ := h
    suffices k19 : V E M_X12_find 55 [some (rv l0), some (iv l1), some (iv l2), some (iv l3), none, some (iv l5)] [iv (if (gel G (gfd G 12 3 l0) l5) = l1 then ((if (gel G (gfd G 12 4 l0) l5) = l2 then ((if (gel G (gfd G 12 5 l0) l5) = l3 then (l5 : Int) else l4) : Int) else l4) : Int) else l4)] G c s Q X by
      refine v_icmp_ne (pc := 23) (tgt := 53) (dk dt_X12_find 13 rfl) (by decide) (fun c7 => ?_) (fun c7 => ?_)
      · refine v_iload (pc := 53) (dk dt_X12_find 28 rfl) rfl ?_
        exact v_less2 (ls' := [some (rv l0), some (iv l1), some (iv l2), some (iv l3), none, some (iv l5)]) ⟨rfl, rfl, rfl, rfl, rfl, trivial⟩ (by have hk9 := k19; try simp only [if_neg c7] at hk9 ⊢; exact hk9)
      · refine v_aload_n (pc := 26) (dk dt_X12_find 14 rfl) rfl rfl ?_
        refine v_getR (pc := 27) (dk dt_X12_find 15 rfl) fl_X12_19 (v8 c7) (fun _ => ?_)
        refine v_iload (pc := 30) (dk dt_X12_find 16 rfl) rfl ?_
        refine v_iald (pc := 32) (dk dt_X12_find 17 rfl) (Or.inl (v9 c7)) (v10 c7) (v11 c7) (fun _ => ?_)
        refine v_iload_n (pc := 33) (dk dt_X12_find 18 rfl) rfl rfl ?_
        refine v_icmp_ne (pc := 34) (tgt := 53) (dk dt_X12_find 19 rfl) (by decide) (fun c12 => ?_) (fun c12 => ?_)
        · refine v_iload (pc := 53) (dk dt_X12_find 28 rfl) rfl ?_
          exact v_less2 (ls' := [some (rv l0), some (iv l1), some (iv l2), some (iv l3), none, some (iv l5)]) ⟨rfl, rfl, rfl, rfl, rfl, trivial⟩ (by have hk9 := k19; try simp only [if_pos c7] at hk9 ⊢; try simp only [if_neg c12] at hk9 ⊢; exact hk9)
        · refine v_aload_n (pc := 37) (dk dt_X12_find 20 rfl) rfl rfl ?_
          refine v_getR (pc := 38) (dk dt_X12_find 21 rfl) fl_X12_22 (v13 c7 c12) (fun _ => ?_)
          refine v_iload (pc := 41) (dk dt_X12_find 22 rfl) rfl ?_
          refine v_iald (pc := 43) (dk dt_X12_find 23 rfl) (Or.inl (v14 c7 c12)) (v15 c7 c12) (v16 c7 c12) (fun _ => ?_)
          refine v_iload_n (pc := 44) (dk dt_X12_find 24 rfl) rfl rfl ?_
          refine v_icmp_ne (pc := 45) (tgt := 53) (dk dt_X12_find 25 rfl) (by decide) (fun c17 => ?_) (fun c17 => ?_)
          · refine v_iload (pc := 53) (dk dt_X12_find 28 rfl) rfl ?_
            exact v_less2 (ls' := [some (rv l0), some (iv l1), some (iv l2), some (iv l3), none, some (iv l5)]) ⟨rfl, rfl, rfl, rfl, rfl, trivial⟩ (by have hk9 := k19; try simp only [if_pos c7] at hk9 ⊢; try simp only [if_pos c12] at hk9 ⊢; try simp only [if_neg c17] at hk9 ⊢; exact hk9)
          · refine v_iload (pc := 48) (dk dt_X12_find 26 rfl) rfl ?_
            refine v_goto (pc := 50) (tgt := 55) (dk dt_X12_find 27 rfl) (by decide) ?_
            exact v_less2 (ls' := [some (rv l0), some (iv l1), some (iv l2), some (iv l3), none, some (iv l5)]) ⟨rfl, rfl, rfl, rfl, rfl, trivial⟩ (by have hk9 := k19; try simp only [if_pos c7] at hk9 ⊢; try simp only [if_pos c12] at hk9 ⊢; try simp only [if_pos c17] at hk9 ⊢; exact hk9)
    refine v_istore (pc := 55) (ls' := [some (rv l0), some (iv l1), some (iv l2), some (iv l3), some (iv (if (gel G (gfd G 12 3 l0) l5) = l1 then ((if (gel G (gfd G 12 4 l0) l5) = l2 then ((if (gel G (gfd G 12 5 l0) l5) = l3 then (l5 : Int) else l4) : Int) else l4) : Int) else l4)), some (iv l5)]) (dk dt_X12_find 29 rfl) (Nat.le_of_ble_eq_true rfl) rfl ?_
    obtain ⟨v18, h⟩ := h
    refine v_iinc (pc := 57) (ls' := [some (rv l0), some (iv l1), some (iv l2), some (iv l3), some (iv (if (gel G (gfd G 12 3 l0) l5) = l1 then ((if (gel G (gfd G 12 4 l0) l5) = l2 then ((if (gel G (gfd G 12 5 l0) l5) = l3 then (l5 : Int) else l4) : Int) else l4) : Int) else l4)), some (iv (l5 + 1))]) (dk dt_X12_find 30 rfl) (Nat.le_of_ble_eq_true rfl) rfl v18 rfl ?_
    refine v_goto (pc := 60) (tgt := 6) (dk dt_X12_find 31 rfl) (by decide) ?_
    exact h
set_option maxRecDepth 20000 in
theorem b_X12_longer_0 {E : EE} {l0 : Int} {G : Gt} {c s : Nat} {Q X : Int → Gt → Prop} (h : (15 ≤ gcl G l0 ∧ i32 (2 * (gln G l0)) ∧ 0 ≤ (2 * (gln G l0)) ∧ (2 * (gln G l0)) ≤ 60000000 ∧ 1 ≤ c ∧ ((2 * (gln G l0)) : Int).toNat ≤ s ∧ ∀ q3 : Int, gcl G q3 = 0 → (eb E : Int) ≤ q3 → ∀ G8 : Gt, G8 = (newa G q3 15 (2 * (gln G l0))) → 15 ≤ gcl G8 l0 ∧ (gcl G8 q3 = 15 ∨ gcl G8 q3 = 17 ∨ gcl G8 q3 = 18) ∧ gcl G8 l0 = gcl G8 q3 ∧ (eb E : Int) ≤ l0 ∧ (eb E : Int) ≤ q3 ∧ 0 ≤ (gln G8 l0) ∧ 0 + (gln G8 l0) ≤ gln G8 l0 ∧ 0 + (gln G8 l0) ≤ gln G8 q3 ∧ ∀ G17 : Gt, G17 = (cpy G8 l0 q3 0 0 (gln G8 l0)) → Q q3 G17)) : V E M_X12_longer 0 [some (rv l0), none] [] G c s Q X := by
  refine v_iconst (pc := 0) (dk dt_X12_longer 0 rfl) ⟨by decide, by decide⟩ ?_
  refine v_aload_n (pc := 1) (dk dt_X12_longer 1 rfl) rfl rfl ?_
  obtain ⟨v1, h⟩ := h
  refine v_alen (pc := 2) (dk dt_X12_longer 2 rfl) v1 (fun _ => ?_)
  obtain ⟨v2, h⟩ := h
  refine v_imul (pc := 3) (dk dt_X12_longer 3 rfl) v2 ?_
  obtain ⟨v4, h⟩ := h
  obtain ⟨v5, h⟩ := h
  obtain ⟨v6, h⟩ := h
  obtain ⟨v7, h⟩ := h
  refine v_newa (t := 15) (i := 0) (ty := .int) (pc := 4) (dk dt_X12_longer 4 rfl) ac_int rfl (Or.inl ⟨rfl, rfl, rfl⟩) v4 v5 v6 v7 (fun q3 hq3 gq3 => ?_)
  replace h := h q3 hq3 gq3
  generalize hG8 : (newa G q3 15 (2 * (gln G l0))) = G8
  replace h := h G8 hG8.symm
  refine v_astore_n (pc := 6) (ls' := [some (rv l0), some (rv q3)]) (dk dt_X12_longer 5 rfl) rfl (Nat.le_of_ble_eq_true rfl) rfl ?_
  refine v_aload_n (pc := 7) (dk dt_X12_longer 6 rfl) rfl rfl ?_
  refine v_iconst (pc := 8) (dk dt_X12_longer 7 rfl) ⟨by decide, by decide⟩ ?_
  refine v_aload_n (pc := 9) (dk dt_X12_longer 8 rfl) rfl rfl ?_
  refine v_iconst (pc := 10) (dk dt_X12_longer 9 rfl) ⟨by decide, by decide⟩ ?_
  refine v_aload_n (pc := 11) (dk dt_X12_longer 10 rfl) rfl rfl ?_
  obtain ⟨v9, h⟩ := h
  refine v_alen (pc := 12) (dk dt_X12_longer 11 rfl) v9 (fun _ => ?_)
  obtain ⟨v10, h⟩ := h
  obtain ⟨v11, h⟩ := h
  obtain ⟨v12, h⟩ := h
  obtain ⟨v13, h⟩ := h
  obtain ⟨v14, h⟩ := h
  obtain ⟨v15, h⟩ := h
  obtain ⟨v16, h⟩ := h
  refine v_acopy (pc := 13) (dk dt_X12_longer 12 rfl) mw_X12_145 (Nat.le_of_ble_eq_true rfl) (Nat.le_of_ble_eq_true rfl) (Nat.le_of_ble_eq_true rfl) v10 v11 v12 v13 (by decide) (by decide) v14 v15 v16 ?_
  generalize hG17 : (cpy G8 l0 q3 0 0 (gln G8 l0)) = G17
  replace h := h G17 hG17.symm
  refine v_aload_n (pc := 16) (dk dt_X12_longer 13 rfl) rfl rfl ?_
  exact v_aret (pc := 17) (dk dt_X12_longer 14 rfl) rfl (by first | exact Or.inl ⟨_, rfl⟩ | exact Or.inr ⟨_, rfl⟩) h
set_option maxRecDepth 20000 in
theorem i_X12_longer {E : EE} {l0 : Int} {G : Gt} {c s : Nat} {Q X : Int → Gt → Prop} (h : (15 ≤ gcl G l0 ∧ i32 (2 * (gln G l0)) ∧ 0 ≤ (2 * (gln G l0)) ∧ (2 * (gln G l0)) ≤ 60000000 ∧ 1 ≤ c ∧ ((2 * (gln G l0)) : Int).toNat ≤ s ∧ ∀ q3 : Int, gcl G q3 = 0 → (eb E : Int) ≤ q3 → ∀ G8 : Gt, G8 = (newa G q3 15 (2 * (gln G l0))) → 15 ≤ gcl G8 l0 ∧ (gcl G8 q3 = 15 ∨ gcl G8 q3 = 17 ∨ gcl G8 q3 = 18) ∧ gcl G8 l0 = gcl G8 q3 ∧ (eb E : Int) ≤ l0 ∧ (eb E : Int) ≤ q3 ∧ 0 ≤ (gln G8 l0) ∧ 0 + (gln G8 l0) ≤ gln G8 l0 ∧ 0 + (gln G8 l0) ≤ gln G8 q3 ∧ ∀ G17 : Gt, G17 = (cpy G8 l0 q3 0 0 (gln G8 l0)) → Q q3 G17)) : Ok E M_X12_longer [rv l0] G c s Q X := Ok.intro (k := 1) rfl rfl (Nat.le_of_ble_eq_true rfl) rfl (b_X12_longer_0 h)
set_option maxRecDepth 20000 in
theorem b_X12_take_0 {E : EE} {l0 l1 l2 l3 l4 l5 : Int} {G : Gt} {c s : Nat} {Q X : Int → Gt → Prop} (h : (gcl G l0 = 13 ∧ Call E M_X12_find [rv l0, iv l1, iv l2, iv l3] G c s X (fun r2 G3 c4 s5 => ((r2 ≠ (-1) → V E M_X12_take 35 [some (rv l0), some (iv l1), some (iv l2), some (iv l3), some (iv l4), some (iv l5), some (iv r2), some (iv (-1)), some (iv 0), some (iv 0), none] [] G3 c4 s5 Q X) ∧ (r2 = (-1) → (gcl G3 l0 = 13 ∧ (((gfd G3 12 6 l0) ≠ 12 → V E M_X12_take 35 [some (rv l0), some (iv l1), some (iv l2), some (iv l3), some (iv l4), some (iv l5), some (iv r2), some (iv (-1)), some (iv 0), some (iv 0), none] [] G3 c4 s5 Q X) ∧ ((gfd G3 12 6 l0) = 12 → Q 1 G3)))))))) : V E M_X12_take 0 [some (rv l0), some (iv l1), some (iv l2), some (iv l3), some (iv l4), some (iv l5), none, none, none, none, none] [] G c s Q X := by
  refine v_aload_n (pc := 0) (dk dt_X12_take 0 rfl) rfl rfl ?_
  refine v_iload_n (pc := 1) (dk dt_X12_take 1 rfl) rfl rfl ?_
  refine v_iload_n (pc := 2) (dk dt_X12_take 2 rfl) rfl rfl ?_
  refine v_iload_n (pc := 3) (dk dt_X12_take 3 rfl) rfl rfl ?_
  obtain ⟨v1, h⟩ := h
  refine v_cvI (c := 12) (As := [iv l1, iv l2, iv l3]) (stk := []) (pc := 4) (dk dt_X12_take 4 rfl) ml_X12_151 rfl rfl (Nat.le_of_ble_eq_true rfl) rfl ⟨by decide, rfl⟩ v1 rfl (Call.mono h (fun r2 G3 c4 s5 h => ?_))
  refine v_istore (pc := 7) (ls' := [some (rv l0), some (iv l1), some (iv l2), some (iv l3), some (iv l4), some (iv l5), some (iv r2), none, none, none, none]) (dk dt_X12_take 5 rfl) (Nat.le_of_ble_eq_true rfl) rfl ?_
  refine v_iload (pc := 9) (dk dt_X12_take 6 rfl) rfl ?_
  refine v_iconst (pc := 11) (dk dt_X12_take 7 rfl) ⟨by decide, by decide⟩ ?_
  refine v_icmp_ne (pc := 12) (tgt := 26) (dk dt_X12_take 8 rfl) (by decide) (fun c6 => ?_) (fun c6 => ?_)
  · replace h := h.1 c6
    refine v_iconst (pc := 26) (dk dt_X12_take 15 rfl) ⟨by decide, by decide⟩ ?_
    refine v_istore (pc := 27) (ls' := [some (rv l0), some (iv l1), some (iv l2), some (iv l3), some (iv l4), some (iv l5), some (iv r2), some (iv (-1)), none, none, none]) (dk dt_X12_take 16 rfl) (Nat.le_of_ble_eq_true rfl) rfl ?_
    refine v_iconst (pc := 29) (dk dt_X12_take 17 rfl) ⟨by decide, by decide⟩ ?_
    refine v_istore (pc := 30) (ls' := [some (rv l0), some (iv l1), some (iv l2), some (iv l3), some (iv l4), some (iv l5), some (iv r2), some (iv (-1)), some (iv 0), none, none]) (dk dt_X12_take 18 rfl) (Nat.le_of_ble_eq_true rfl) rfl ?_
    refine v_iconst (pc := 32) (dk dt_X12_take 19 rfl) ⟨by decide, by decide⟩ ?_
    refine v_istore (pc := 33) (ls' := [some (rv l0), some (iv l1), some (iv l2), some (iv l3), some (iv l4), some (iv l5), some (iv r2), some (iv (-1)), some (iv 0), some (iv 0), none]) (dk dt_X12_take 20 rfl) (Nat.le_of_ble_eq_true rfl) rfl ?_
    exact h
  · replace h := h.2 c6
    refine v_aload_n (pc := 15) (dk dt_X12_take 9 rfl) rfl rfl ?_
    obtain ⟨v7, h⟩ := h
    refine v_getI (pc := 16) (dk dt_X12_take 10 rfl) fl_X12_142 v7 (fun _ => ?_)
    refine v_bipush (pc := 19) (dk dt_X12_take 11 rfl) (by decide) ⟨by decide, by decide⟩ ?_
    refine v_icmp_ne (pc := 21) (tgt := 26) (dk dt_X12_take 12 rfl) (by decide) (fun c8 => ?_) (fun c8 => ?_)
    · replace h := h.1 c8
      refine v_iconst (pc := 26) (dk dt_X12_take 15 rfl) ⟨by decide, by decide⟩ ?_
      refine v_istore (pc := 27) (ls' := [some (rv l0), some (iv l1), some (iv l2), some (iv l3), some (iv l4), some (iv l5), some (iv r2), some (iv (-1)), none, none, none]) (dk dt_X12_take 16 rfl) (Nat.le_of_ble_eq_true rfl) rfl ?_
      refine v_iconst (pc := 29) (dk dt_X12_take 17 rfl) ⟨by decide, by decide⟩ ?_
      refine v_istore (pc := 30) (ls' := [some (rv l0), some (iv l1), some (iv l2), some (iv l3), some (iv l4), some (iv l5), some (iv r2), some (iv (-1)), some (iv 0), none, none]) (dk dt_X12_take 18 rfl) (Nat.le_of_ble_eq_true rfl) rfl ?_
      refine v_iconst (pc := 32) (dk dt_X12_take 19 rfl) ⟨by decide, by decide⟩ ?_
      refine v_istore (pc := 33) (ls' := [some (rv l0), some (iv l1), some (iv l2), some (iv l3), some (iv l4), some (iv l5), some (iv r2), some (iv (-1)), some (iv 0), some (iv 0), none]) (dk dt_X12_take 20 rfl) (Nat.le_of_ble_eq_true rfl) rfl ?_
      exact h
    · replace h := h.2 c8
      refine v_iconst (pc := 24) (dk dt_X12_take 13 rfl) ⟨by decide, by decide⟩ ?_
      exact v_iret (pc := 25) (dk dt_X12_take 14 rfl) rfl h
set_option maxRecDepth 20000 in
theorem i_X12_take {E : EE} {l0 l1 l2 l3 l4 l5 : Int} {G : Gt} {c s : Nat} {Q X : Int → Gt → Prop} (h : (gcl G l0 = 13 ∧ Call E M_X12_find [rv l0, iv l1, iv l2, iv l3] G c s X (fun r2 G3 c4 s5 => ((r2 ≠ (-1) → V E M_X12_take 35 [some (rv l0), some (iv l1), some (iv l2), some (iv l3), some (iv l4), some (iv l5), some (iv r2), some (iv (-1)), some (iv 0), some (iv 0), none] [] G3 c4 s5 Q X) ∧ (r2 = (-1) → (gcl G3 l0 = 13 ∧ (((gfd G3 12 6 l0) ≠ 12 → V E M_X12_take 35 [some (rv l0), some (iv l1), some (iv l2), some (iv l3), some (iv l4), some (iv l5), some (iv r2), some (iv (-1)), some (iv 0), some (iv 0), none] [] G3 c4 s5 Q X) ∧ ((gfd G3 12 6 l0) = 12 → Q 1 G3)))))))) : Ok E M_X12_take [rv l0, iv l1, iv l2, iv l3, iv l4, iv l5] G c s Q X := Ok.intro (k := 5) rfl rfl (Nat.le_of_ble_eq_true rfl) rfl (b_X12_take_0 h)
set_option maxRecDepth 20000 in
theorem b_X12_take_35 {E : EE} {l0 l1 l2 l3 l4 l5 l6 l7 l8 l9 : Int} {G : Gt} {c s : Nat} {Q X : Int → Gt → Prop} (h : (gcl G l0 = 13 ∧ (((gfd G 12 12 l0) ≤ l9 → (i32 (l7 - 100) ∧ (((l7 - 100) ≤ l4 → ((l8 < 60 → (∀ J6 : Int → Gt → Nat → Nat → Prop, (∀ (x7 : Int) (G8 : Gt) (c9 s10 : Nat), (gcl G8 l0 = 13 ∧ gcl G8 l0 = 13 ∧ 15 ≤ gcl G8 (gfd G8 12 8 l0) ∧ ∀ J14 : Gt → Nat → Nat → Prop, (∀ (G15 : Gt) (c16 s17 : Nat), (gcl G15 l0 = 13 ∧ gcl G15 l0 = 13 ∧ gcl G15 (gfd G15 12 7 l0) = 15 ∧ 0 ≤ (gfd G15 12 12 l0) ∧ (gfd G15 12 12 l0) < gln G15 (gfd G15 12 7 l0) ∧ ∀ G23 : Gt, G23 = (sel G15 (gfd G15 12 7 l0) (gfd G15 12 12 l0) x7) → gcl G23 l0 = 13 ∧ gcl G23 l0 = 13 ∧ gcl G23 (gfd G23 12 8 l0) = 15 ∧ 0 ≤ (gfd G23 12 12 l0) ∧ (gfd G23 12 12 l0) < gln G23 (gfd G23 12 8 l0) ∧ ∀ G29 : Gt, G29 = (sel G23 (gfd G23 12 8 l0) (gfd G23 12 12 l0) l4) → gcl G29 l0 = 13 ∧ gcl G29 l0 = 13 ∧ gcl G29 (gfd G29 12 9 l0) = 15 ∧ 0 ≤ (gfd G29 12 12 l0) ∧ (gfd G29 12 12 l0) < gln G29 (gfd G29 12 9 l0) ∧ ∀ G35 : Gt, G35 = (sel G29 (gfd G29 12 9 l0) (gfd G29 12 12 l0) l5) → gcl G35 l0 = 13 ∧ gcl G35 l0 = 13 ∧ gcl G35 (gfd G35 12 10 l0) = 15 ∧ 0 ≤ (gfd G35 12 12 l0) ∧ (gfd G35 12 12 l0) < gln G35 (gfd G35 12 10 l0) ∧ ∀ G41 : Gt, G41 = (sel G35 (gfd G35 12 10 l0) (gfd G35 12 12 l0) 0) → gcl G41 l0 = 13 ∧ gcl G41 l0 = 13 ∧ gcl G41 l0 = 13 ∧ gcl G41 (gfd G41 12 11 l0) = 17 ∧ 0 ≤ (gfd G41 12 12 l0) ∧ (gfd G41 12 12 l0) < gln G41 (gfd G41 12 11 l0) ∧ ((if (gfd G41 12 48 l0) = 0 then (1 : Int) else 0) = 0 ∨ (if (gfd G41 12 48 l0) = 0 then (1 : Int) else 0) = 1) ∧ ∀ G50 : Gt, G50 = (sel G41 (gfd G41 12 11 l0) (gfd G41 12 12 l0) (if (gfd G41 12 48 l0) = 0 then (1 : Int) else 0)) → gcl G50 l0 = 13 ∧ i32 ((gfd G50 12 12 l0) + 1) ∧ gcl G50 l0 = 13 ∧ ∀ G54 : Gt, G54 = (sfd G50 12 12 l0 ((gfd G50 12 12 l0) + 1)) → gcl G54 l0 = 13 ∧ gcl G54 l0 = 13 ∧ 15 ≤ gcl G54 (gfd G54 12 13 l0) ∧ ∀ J58 : Int → Gt → Nat → Nat → Prop, (∀ (x59 : Int) (G60 : Gt) (c61 s62 : Nat), (gcl G60 l0 = 13 ∧ ∀ G64 : Gt, G64 = (sfd G60 12 13 l0 x59) → gcl G64 l0 = 13 ∧ gcl G64 l0 = 13 ∧ gcl G64 (gfd G64 12 13 l0) = 15 ∧ 0 ≤ (gfd G64 12 14 l0) ∧ (gfd G64 12 14 l0) < gln G64 (gfd G64 12 13 l0) ∧ ∀ G70 : Gt, G70 = (sel G64 (gfd G64 12 13 l0) (gfd G64 12 14 l0) 0) → gcl G70 l0 = 13 ∧ i32 ((gfd G70 12 14 l0) + 1) ∧ gcl G70 l0 = 13 ∧ ∀ G74 : Gt, G74 = (sfd G70 12 14 l0 ((gfd G70 12 14 l0) + 1)) → Q 0 G74) → J58 x59 G60 c61 s62) → (((gfd G54 12 14 l0) ≠ (gln G54 (gfd G54 12 13 l0)) → (gcl G54 l0 = 13 ∧ J58 (gfd G54 12 13 l0) G54 c16 s17)) ∧ ((gfd G54 12 14 l0) = (gln G54 (gfd G54 12 13 l0)) → (gcl G54 l0 = 13 ∧ Call E M_X12_longer [rv (gfd G54 12 13 l0)] G54 c16 s17 X (fun r78 G79 c80 s81 => J58 r78 G79 c80 s81))))) → J14 G15 c16 s17) → (((gfd G8 12 12 l0) ≠ (gln G8 (gfd G8 12 8 l0)) → J14 G8 c9 s10) ∧ ((gfd G8 12 12 l0) = (gln G8 (gfd G8 12 8 l0)) → (gcl G8 l0 = 13 ∧ Call E M_X12_longer [rv (gfd G8 12 7 l0)] G8 c9 s10 X (fun r84 G85 c86 s87 => gcl G85 l0 = 13 ∧ ∀ G89 : Gt, G89 = (sfd G85 12 7 l0 r84) → gcl G89 l0 = 13 ∧ Call E M_X12_longer [rv (gfd G89 12 8 l0)] G89 c86 s87 X (fun r91 G92 c93 s94 => gcl G92 l0 = 13 ∧ ∀ G96 : Gt, G96 = (sfd G92 12 8 l0 r91) → gcl G96 l0 = 13 ∧ Call E M_X12_longer [rv (gfd G96 12 9 l0)] G96 c93 s94 X (fun r98 G99 c100 s101 => gcl G99 l0 = 13 ∧ ∀ G103 : Gt, G103 = (sfd G99 12 9 l0 r98) → gcl G103 l0 = 13 ∧ Call E M_X12_longer [rv (gfd G103 12 10 l0)] G103 c100 s101 X (fun r105 G106 c107 s108 => gcl G106 l0 = 13 ∧ ∀ G110 : Gt, G110 = (sfd G106 12 10 l0 r105) → gcl G110 l0 = 13 ∧ 15 ≤ gcl G110 (gfd G110 12 11 l0) ∧ i32 (2 * (gln G110 (gfd G110 12 11 l0))) ∧ 0 ≤ (2 * (gln G110 (gfd G110 12 11 l0))) ∧ (2 * (gln G110 (gfd G110 12 11 l0))) ≤ 60000000 ∧ 1 ≤ c107 ∧ ((2 * (gln G110 (gfd G110 12 11 l0))) : Int).toNat ≤ s108 ∧ ∀ q114 : Int, gcl G110 q114 = 0 → (eb E : Int) ≤ q114 → ∀ G119 : Gt, G119 = (newa G110 q114 17 (2 * (gln G110 (gfd G110 12 11 l0)))) → gcl G119 l0 = 13 ∧ gcl G119 l0 = 13 ∧ (gcl G119 q114 = 15 ∨ gcl G119 q114 = 17 ∨ gcl G119 q114 = 18) ∧ gcl G119 (gfd G119 12 11 l0) = gcl G119 q114 ∧ (eb E : Int) ≤ (gfd G119 12 11 l0) ∧ (eb E : Int) ≤ q114 ∧ 0 ≤ (gfd G119 12 12 l0) ∧ 0 + (gfd G119 12 12 l0) ≤ gln G119 (gfd G119 12 11 l0) ∧ 0 + (gfd G119 12 12 l0) ≤ gln G119 q114 ∧ ∀ G129 : Gt, G129 = (cpy G119 (gfd G119 12 11 l0) q114 0 0 (gfd G119 12 12 l0)) → gcl G129 l0 = 13 ∧ ∀ G131 : Gt, G131 = (sfd G129 12 11 l0 q114) → J14 G131 (c107 - 1) (s108 - ((2 * (gln G110 (gfd G110 12 11 l0))) : Int).toNat))))))))) → J6 x7 G8 c9 s10) → ((l6 ≠ (-1) → J6 l6 G c s) ∧ (l6 = (-1) → (gcl G l0 = 13 ∧ gcl G l0 = 13 ∧ gcl G (gfd G 12 3 l0) = 15 ∧ 0 ≤ (gfd G 12 6 l0) ∧ (gfd G 12 6 l0) < gln G (gfd G 12 3 l0) ∧ ∀ G138 : Gt, G138 = (sel G (gfd G 12 3 l0) (gfd G 12 6 l0) l1) → gcl G138 l0 = 13 ∧ gcl G138 (gfd G138 12 4 l0) = 15 ∧ 0 ≤ (gfd G 12 6 l0) ∧ (gfd G 12 6 l0) < gln G138 (gfd G138 12 4 l0) ∧ ∀ G143 : Gt, G143 = (sel G138 (gfd G138 12 4 l0) (gfd G 12 6 l0) l2) → gcl G143 l0 = 13 ∧ gcl G143 (gfd G143 12 5 l0) = 15 ∧ 0 ≤ (gfd G 12 6 l0) ∧ (gfd G 12 6 l0) < gln G143 (gfd G143 12 5 l0) ∧ ∀ G148 : Gt, G148 = (sel G143 (gfd G143 12 5 l0) (gfd G 12 6 l0) l3) → gcl G148 l0 = 13 ∧ i32 ((gfd G148 12 6 l0) + 1) ∧ gcl G148 l0 = 13 ∧ ∀ G152 : Gt, G152 = (sfd G148 12 6 l0 ((gfd G148 12 6 l0) + 1)) → J6 (gfd G 12 6 l0) G152 c s))))) ∧ (60 ≤ l8 → Q 5 G))) ∧ (l4 < (l7 - 100) → Q 4 G)))) ∧ (l9 < (gfd G 12 12 l0) → (gcl G l0 = 13 ∧ OkP E M_X12_isSeen [rv l0, iv l9] G (mSeen G l0 l9) ∧ (((mSeen G l0 l9) = 0 → (i32 (l9 + 1) ∧ V E M_X12_take 35 [some (rv l0), some (iv l1), some (iv l2), some (iv l3), some (iv l4), some (iv l5), some (iv l6), some (iv l7), some (iv l8), some (iv (l9 + 1)), none] [] G c s Q X)) ∧ ((mSeen G l0 l9) ≠ 0 → (gcl G l0 = 13 ∧ gcl G (gfd G 12 7 l0) = 15 ∧ 0 ≤ l9 ∧ l9 < gln G (gfd G 12 7 l0) ∧ ∀ J162 : Prop, ((((if (gel G (gfd G 12 7 l0) l9) = l6 then (1 : Int) else 0) ≠ 0 → gcl G l0 = 13) ∧ ((if (gel G (gfd G 12 7 l0) l9) = l6 then (1 : Int) else 0) ≠ 0 → gcl G (gfd G 12 8 l0) = 15) ∧ ((if (gel G (gfd G 12 7 l0) l9) = l6 then (1 : Int) else 0) ≠ 0 → 0 ≤ l9) ∧ ((if (gel G (gfd G 12 7 l0) l9) = l6 then (1 : Int) else 0) ≠ 0 → l9 < gln G (gfd G 12 8 l0)) ∧ ((if (gel G (gfd G 12 7 l0) l9) = l6 then (1 : Int) else 0) ≠ 0 → l7 < (gel G (gfd G 12 8 l0) l9) → gcl G l0 = 13) ∧ ((if (gel G (gfd G 12 7 l0) l9) = l6 then (1 : Int) else 0) ≠ 0 → l7 < (gel G (gfd G 12 8 l0) l9) → gcl G (gfd G 12 8 l0) = 15) ∧ ((if (gel G (gfd G 12 7 l0) l9) = l6 then (1 : Int) else 0) ≠ 0 → l7 < (gel G (gfd G 12 8 l0) l9) → 0 ≤ l9) ∧ ((if (gel G (gfd G 12 7 l0) l9) = l6 then (1 : Int) else 0) ≠ 0 → l7 < (gel G (gfd G 12 8 l0) l9) → l9 < gln G (gfd G 12 8 l0)) ∧ gcl G l0 = 13 ∧ gcl G l0 = 13 ∧ gcl G (gfd G 12 7 l0) = 15 ∧ 0 ≤ l9 ∧ l9 < gln G (gfd G 12 7 l0) ∧ gcl G (gfd G 12 3 l0) = 15 ∧ 0 ≤ (gel G (gfd G 12 7 l0) l9) ∧ (gel G (gfd G 12 7 l0) l9) < gln G (gfd G 12 3 l0) ∧ i32 (l8 + (if (gel G (gfd G 12 3 l0) (gel G (gfd G 12 7 l0) l9)) = l1 then (1 : Int) else 0)) ∧ i32 (l9 + 1) ∧ V E M_X12_take 35 [some (rv l0), some (iv l1), some (iv l2), some (iv l3), some (iv l4), some (iv l5), some (iv l6), some (iv (if (if (gel G (gfd G 12 7 l0) l9) = l6 then (1 : Int) else 0) = 0 then (l7 : Int) else (if (gel G (gfd G 12 8 l0) l9) ≤ l7 then (l7 : Int) else (gel G (gfd G 12 8 l0) l9)))), some (iv (l8 + (if (gel G (gfd G 12 3 l0) (gel G (gfd G 12 7 l0) l9)) = l1 then (1 : Int) else 0))), some (iv (l9 + 1)), none] [] G c s Q X) → J162) → (((if (gel G (gfd G 12 7 l0) l9) = l6 then (1 : Int) else 0) = 0 → J162) ∧ ((if (gel G (gfd G 12 7 l0) l9) = l6 then (1 : Int) else 0) ≠ 0 → (gcl G l0 = 13 ∧ gcl G (gfd G 12 8 l0) = 15 ∧ 0 ≤ l9 ∧ l9 < gln G (gfd G 12 8 l0) ∧ (((gel G (gfd G 12 8 l0) l9) ≠ l4 → J162) ∧ ((gel G (gfd G 12 8 l0) l9) = l4 → (gcl G l0 = 13 ∧ gcl G (gfd G 12 9 l0) = 15 ∧ 0 ≤ l9 ∧ l9 < gln G (gfd G 12 9 l0) ∧ Q (if (gel G (gfd G 12 9 l0) l9) = l5 then (2 : Int) else 3) G)))))))))))))) : V E M_X12_take 35 [some (rv l0), some (iv l1), some (iv l2), some (iv l3), some (iv l4), some (iv l5), some (iv l6), some (iv l7), some (iv l8), some (iv l9), none] [] G c s Q X := by
  refine v_iload (pc := 35) (dk dt_X12_take 21 rfl) rfl ?_
  refine v_aload_n (pc := 37) (dk dt_X12_take 22 rfl) rfl rfl ?_
  obtain ⟨v1, h⟩ := h
  refine v_getI (pc := 38) (dk dt_X12_take 23 rfl) fl_X12_154 v1 (fun _ => ?_)
  refine v_icmp_ge (pc := 41) (tgt := 170) (dk dt_X12_take 24 rfl) (by decide) (fun c2 => ?_) (fun c2 => ?_)
  · replace h := h.1 c2
    refine v_iload (pc := 170) (dk dt_X12_take_2 9 rfl) rfl ?_
    refine v_iload (pc := 172) (dk dt_X12_take_2 10 rfl) rfl ?_
    refine v_bipush (pc := 174) (dk dt_X12_take_2 11 rfl) (by decide) ⟨by decide, by decide⟩ ?_
    obtain ⟨v3, h⟩ := h
    refine v_isub (pc := 176) (dk dt_X12_take_2 12 rfl) v3 ?_
    refine v_icmp_ge (pc := 177) (tgt := 182) (dk dt_X12_take_2 13 rfl) (by decide) (fun c4 => ?_) (fun c4 => ?_)
    · replace h := h.1 c4
      refine v_iload (pc := 182) (dk dt_X12_take_2 16 rfl) rfl ?_
      refine v_bipush (pc := 184) (dk dt_X12_take_2 17 rfl) (by decide) ⟨by decide, by decide⟩ ?_
      refine v_icmp_lt (pc := 186) (tgt := 191) (dk dt_X12_take_2 18 rfl) (by decide) (fun c5 => ?_) (fun c5 => ?_)
      · replace h := h.1 c5
        refine v_iload (pc := 191) (dk dt_X12_take_2 21 rfl) rfl ?_
        refine v_iconst (pc := 193) (dk dt_X12_take_2 22 rfl) ⟨by decide, by decide⟩ ?_
        obtain ⟨J6, dJ6⟩ : ∃ J9 : Int → Gt → Nat → Nat → Prop, J9 = fun x7 G8 c9 s10 => V E M_X12_take 237 [some (rv l0), none, none, none, some (iv l4), some (iv l5), some (iv x7), none, none, none, none] [] G8 c9 s10 Q X := ⟨_, rfl⟩
        have hJ6 : ∀ (x7 : Int) (G8 : Gt) (c9 s10 : Nat), (gcl G8 l0 = 13 ∧ gcl G8 l0 = 13 ∧ 15 ≤ gcl G8 (gfd G8 12 8 l0) ∧ ∀ J14 : Gt → Nat → Nat → Prop, (∀ (G15 : Gt) (c16 s17 : Nat), (gcl G15 l0 = 13 ∧ gcl G15 l0 = 13 ∧ gcl G15 (gfd G15 12 7 l0) = 15 ∧ 0 ≤ (gfd G15 12 12 l0) ∧ (gfd G15 12 12 l0) < gln G15 (gfd G15 12 7 l0) ∧ ∀ G23 : Gt, G23 = (sel G15 (gfd G15 12 7 l0) (gfd G15 12 12 l0) x7) → gcl G23 l0 = 13 ∧ gcl G23 l0 = 13 ∧ gcl G23 (gfd G23 12 8 l0) = 15 ∧ 0 ≤ (gfd G23 12 12 l0) ∧ (gfd G23 12 12 l0) < gln G23 (gfd G23 12 8 l0) ∧ ∀ G29 : Gt, G29 = (sel G23 (gfd G23 12 8 l0) (gfd G23 12 12 l0) l4) → gcl G29 l0 = 13 ∧ gcl G29 l0 = 13 ∧ gcl G29 (gfd G29 12 9 l0) = 15 ∧ 0 ≤ (gfd G29 12 12 l0) ∧ (gfd G29 12 12 l0) < gln G29 (gfd G29 12 9 l0) ∧ ∀ G35 : Gt, G35 = (sel G29 (gfd G29 12 9 l0) (gfd G29 12 12 l0) l5) → gcl G35 l0 = 13 ∧ gcl G35 l0 = 13 ∧ gcl G35 (gfd G35 12 10 l0) = 15 ∧ 0 ≤ (gfd G35 12 12 l0) ∧ (gfd G35 12 12 l0) < gln G35 (gfd G35 12 10 l0) ∧ ∀ G41 : Gt, G41 = (sel G35 (gfd G35 12 10 l0) (gfd G35 12 12 l0) 0) → gcl G41 l0 = 13 ∧ gcl G41 l0 = 13 ∧ gcl G41 l0 = 13 ∧ gcl G41 (gfd G41 12 11 l0) = 17 ∧ 0 ≤ (gfd G41 12 12 l0) ∧ (gfd G41 12 12 l0) < gln G41 (gfd G41 12 11 l0) ∧ ((if (gfd G41 12 48 l0) = 0 then (1 : Int) else 0) = 0 ∨ (if (gfd G41 12 48 l0) = 0 then (1 : Int) else 0) = 1) ∧ ∀ G50 : Gt, G50 = (sel G41 (gfd G41 12 11 l0) (gfd G41 12 12 l0) (if (gfd G41 12 48 l0) = 0 then (1 : Int) else 0)) → gcl G50 l0 = 13 ∧ i32 ((gfd G50 12 12 l0) + 1) ∧ gcl G50 l0 = 13 ∧ ∀ G54 : Gt, G54 = (sfd G50 12 12 l0 ((gfd G50 12 12 l0) + 1)) → gcl G54 l0 = 13 ∧ gcl G54 l0 = 13 ∧ 15 ≤ gcl G54 (gfd G54 12 13 l0) ∧ ∀ J58 : Int → Gt → Nat → Nat → Prop, (∀ (x59 : Int) (G60 : Gt) (c61 s62 : Nat), (gcl G60 l0 = 13 ∧ ∀ G64 : Gt, G64 = (sfd G60 12 13 l0 x59) → gcl G64 l0 = 13 ∧ gcl G64 l0 = 13 ∧ gcl G64 (gfd G64 12 13 l0) = 15 ∧ 0 ≤ (gfd G64 12 14 l0) ∧ (gfd G64 12 14 l0) < gln G64 (gfd G64 12 13 l0) ∧ ∀ G70 : Gt, G70 = (sel G64 (gfd G64 12 13 l0) (gfd G64 12 14 l0) 0) → gcl G70 l0 = 13 ∧ i32 ((gfd G70 12 14 l0) + 1) ∧ gcl G70 l0 = 13 ∧ ∀ G74 : Gt, G74 = (sfd G70 12 14 l0 ((gfd G70 12 14 l0) + 1)) → Q 0 G74) → J58 x59 G60 c61 s62) → (((gfd G54 12 14 l0) ≠ (gln G54 (gfd G54 12 13 l0)) → (gcl G54 l0 = 13 ∧ J58 (gfd G54 12 13 l0) G54 c16 s17)) ∧ ((gfd G54 12 14 l0) = (gln G54 (gfd G54 12 13 l0)) → (gcl G54 l0 = 13 ∧ Call E M_X12_longer [rv (gfd G54 12 13 l0)] G54 c16 s17 X (fun r78 G79 c80 s81 => J58 r78 G79 c80 s81))))) → J14 G15 c16 s17) → (((gfd G8 12 12 l0) ≠ (gln G8 (gfd G8 12 8 l0)) → J14 G8 c9 s10) ∧ ((gfd G8 12 12 l0) = (gln G8 (gfd G8 12 8 l0)) → (gcl G8 l0 = 13 ∧ Call E M_X12_longer [rv (gfd G8 12 7 l0)] G8 c9 s10 X (fun r84 G85 c86 s87 => gcl G85 l0 = 13 ∧ ∀ G89 : Gt, G89 = (sfd G85 12 7 l0 r84) → gcl G89 l0 = 13 ∧ Call E M_X12_longer [rv (gfd G89 12 8 l0)] G89 c86 s87 X (fun r91 G92 c93 s94 => gcl G92 l0 = 13 ∧ ∀ G96 : Gt, G96 = (sfd G92 12 8 l0 r91) → gcl G96 l0 = 13 ∧ Call E M_X12_longer [rv (gfd G96 12 9 l0)] G96 c93 s94 X (fun r98 G99 c100 s101 => gcl G99 l0 = 13 ∧ ∀ G103 : Gt, G103 = (sfd G99 12 9 l0 r98) → gcl G103 l0 = 13 ∧ Call E M_X12_longer [rv (gfd G103 12 10 l0)] G103 c100 s101 X (fun r105 G106 c107 s108 => gcl G106 l0 = 13 ∧ ∀ G110 : Gt, G110 = (sfd G106 12 10 l0 r105) → gcl G110 l0 = 13 ∧ 15 ≤ gcl G110 (gfd G110 12 11 l0) ∧ i32 (2 * (gln G110 (gfd G110 12 11 l0))) ∧ 0 ≤ (2 * (gln G110 (gfd G110 12 11 l0))) ∧ (2 * (gln G110 (gfd G110 12 11 l0))) ≤ 60000000 ∧ 1 ≤ c107 ∧ ((2 * (gln G110 (gfd G110 12 11 l0))) : Int).toNat ≤ s108 ∧ ∀ q114 : Int, gcl G110 q114 = 0 → (eb E : Int) ≤ q114 → ∀ G119 : Gt, G119 = (newa G110 q114 17 (2 * (gln G110 (gfd G110 12 11 l0)))) → gcl G119 l0 = 13 ∧ gcl G119 l0 = 13 ∧ (gcl G119 q114 = 15 ∨ gcl G119 q114 = 17 ∨ gcl G119 q114 = 18) ∧ gcl G119 (gfd G119 12 11 l0) = gcl G119 q114 ∧ (eb E : Int) ≤ (gfd G119 12 11 l0) ∧ (eb E : Int) ≤ q114 ∧ 0 ≤ (gfd G119 12 12 l0) ∧ 0 + (gfd G119 12 12 l0) ≤ gln G119 (gfd G119 12 11 l0) ∧ 0 + (gfd G119 12 12 l0) ≤ gln G119 q114 ∧ ∀ G129 : Gt, G129 = (cpy G119 (gfd G119 12 11 l0) q114 0 0 (gfd G119 12 12 l0)) → gcl G129 l0 = 13 ∧ ∀ G131 : Gt, G131 = (sfd G129 12 11 l0 q114) → J14 G131 (c107 - 1) (s108 - ((2 * (gln G110 (gfd G110 12 11 l0))) : Int).toNat))))))))) → J6 x7 G8 c9 s10 := by
          intro x7 G8 c9 s10 h
          rw [dJ6]
          refine v_aload_n (pc := 237) (dk dt_X12_take_3 8 rfl) rfl rfl ?_
          obtain ⟨v11, h⟩ := h
          refine v_getI (pc := 238) (dk dt_X12_take_3 9 rfl) fl_X12_154 v11 (fun _ => ?_)
          refine v_aload_n (pc := 241) (dk dt_X12_take_3 10 rfl) rfl rfl ?_
          obtain ⟨v12, h⟩ := h
          refine v_getR (pc := 242) (dk dt_X12_take_3 11 rfl) fl_X12_29 v12 (fun _ => ?_)
          obtain ⟨v13, h⟩ := h
          refine v_alen (pc := 245) (dk dt_X12_take_3 12 rfl) v13 (fun _ => ?_)
          obtain ⟨J14, dJ14⟩ : ∃ J9 : Gt → Nat → Nat → Prop, J9 = fun G15 c16 s17 => V E M_X12_take 325 [some (rv l0), none, none, none, some (iv l4), some (iv l5), some (iv x7), none, none, none, none] [] G15 c16 s17 Q X := ⟨_, rfl⟩
          have hJ14 : ∀ (G15 : Gt) (c16 s17 : Nat), (gcl G15 l0 = 13 ∧ gcl G15 l0 = 13 ∧ gcl G15 (gfd G15 12 7 l0) = 15 ∧ 0 ≤ (gfd G15 12 12 l0) ∧ (gfd G15 12 12 l0) < gln G15 (gfd G15 12 7 l0) ∧ ∀ G23 : Gt, G23 = (sel G15 (gfd G15 12 7 l0) (gfd G15 12 12 l0) x7) → gcl G23 l0 = 13 ∧ gcl G23 l0 = 13 ∧ gcl G23 (gfd G23 12 8 l0) = 15 ∧ 0 ≤ (gfd G23 12 12 l0) ∧ (gfd G23 12 12 l0) < gln G23 (gfd G23 12 8 l0) ∧ ∀ G29 : Gt, G29 = (sel G23 (gfd G23 12 8 l0) (gfd G23 12 12 l0) l4) → gcl G29 l0 = 13 ∧ gcl G29 l0 = 13 ∧ gcl G29 (gfd G29 12 9 l0) = 15 ∧ 0 ≤ (gfd G29 12 12 l0) ∧ (gfd G29 12 12 l0) < gln G29 (gfd G29 12 9 l0) ∧ ∀ G35 : Gt, G35 = (sel G29 (gfd G29 12 9 l0) (gfd G29 12 12 l0) l5) → gcl G35 l0 = 13 ∧ gcl G35 l0 = 13 ∧ gcl G35 (gfd G35 12 10 l0) = 15 ∧ 0 ≤ (gfd G35 12 12 l0) ∧ (gfd G35 12 12 l0) < gln G35 (gfd G35 12 10 l0) ∧ ∀ G41 : Gt, G41 = (sel G35 (gfd G35 12 10 l0) (gfd G35 12 12 l0) 0) → gcl G41 l0 = 13 ∧ gcl G41 l0 = 13 ∧ gcl G41 l0 = 13 ∧ gcl G41 (gfd G41 12 11 l0) = 17 ∧ 0 ≤ (gfd G41 12 12 l0) ∧ (gfd G41 12 12 l0) < gln G41 (gfd G41 12 11 l0) ∧ ((if (gfd G41 12 48 l0) = 0 then (1 : Int) else 0) = 0 ∨ (if (gfd G41 12 48 l0) = 0 then (1 : Int) else 0) = 1) ∧ ∀ G50 : Gt, G50 = (sel G41 (gfd G41 12 11 l0) (gfd G41 12 12 l0) (if (gfd G41 12 48 l0) = 0 then (1 : Int) else 0)) → gcl G50 l0 = 13 ∧ i32 ((gfd G50 12 12 l0) + 1) ∧ gcl G50 l0 = 13 ∧ ∀ G54 : Gt, G54 = (sfd G50 12 12 l0 ((gfd G50 12 12 l0) + 1)) → gcl G54 l0 = 13 ∧ gcl G54 l0 = 13 ∧ 15 ≤ gcl G54 (gfd G54 12 13 l0) ∧ ∀ J58 : Int → Gt → Nat → Nat → Prop, (∀ (x59 : Int) (G60 : Gt) (c61 s62 : Nat), (gcl G60 l0 = 13 ∧ ∀ G64 : Gt, G64 = (sfd G60 12 13 l0 x59) → gcl G64 l0 = 13 ∧ gcl G64 l0 = 13 ∧ gcl G64 (gfd G64 12 13 l0) = 15 ∧ 0 ≤ (gfd G64 12 14 l0) ∧ (gfd G64 12 14 l0) < gln G64 (gfd G64 12 13 l0) ∧ ∀ G70 : Gt, G70 = (sel G64 (gfd G64 12 13 l0) (gfd G64 12 14 l0) 0) → gcl G70 l0 = 13 ∧ i32 ((gfd G70 12 14 l0) + 1) ∧ gcl G70 l0 = 13 ∧ ∀ G74 : Gt, G74 = (sfd G70 12 14 l0 ((gfd G70 12 14 l0) + 1)) → Q 0 G74) → J58 x59 G60 c61 s62) → (((gfd G54 12 14 l0) ≠ (gln G54 (gfd G54 12 13 l0)) → (gcl G54 l0 = 13 ∧ J58 (gfd G54 12 13 l0) G54 c16 s17)) ∧ ((gfd G54 12 14 l0) = (gln G54 (gfd G54 12 13 l0)) → (gcl G54 l0 = 13 ∧ Call E M_X12_longer [rv (gfd G54 12 13 l0)] G54 c16 s17 X (fun r78 G79 c80 s81 => J58 r78 G79 c80 s81))))) → J14 G15 c16 s17 := by
            intro G15 c16 s17 h
            rw [dJ14]
            refine v_aload_n (pc := 325) (dk dt_X12_take_4 12 rfl) rfl rfl ?_
            obtain ⟨v18, h⟩ := h
            refine v_getR (pc := 326) (dk dt_X12_take_4 13 rfl) fl_X12_26 v18 (fun _ => ?_)
            refine v_aload_n (pc := 329) (dk dt_X12_take_4 14 rfl) rfl rfl ?_
            obtain ⟨v19, h⟩ := h
            refine v_getI (pc := 330) (dk dt_X12_take_4 15 rfl) fl_X12_154 v19 (fun _ => ?_)
            refine v_iload (pc := 333) (dk dt_X12_take_4 16 rfl) rfl ?_
            obtain ⟨v20, h⟩ := h
            obtain ⟨v21, h⟩ := h
            obtain ⟨v22, h⟩ := h
            refine v_iast (pc := 335) (dk dt_X12_take_4 17 rfl) v20 v21 v22 ?_
            generalize hG23 : (sel G15 (gfd G15 12 7 l0) (gfd G15 12 12 l0) x7) = G23
            replace h := h G23 hG23.symm
            refine v_aload_n (pc := 336) (dk dt_X12_take_4 18 rfl) rfl rfl ?_
            obtain ⟨v24, h⟩ := h
            refine v_getR (pc := 337) (dk dt_X12_take_4 19 rfl) fl_X12_29 v24 (fun _ => ?_)
            refine v_aload_n (pc := 340) (dk dt_X12_take_4 20 rfl) rfl rfl ?_
            obtain ⟨v25, h⟩ := h
            refine v_getI (pc := 341) (dk dt_X12_take_4 21 rfl) fl_X12_154 v25 (fun _ => ?_)
            refine v_iload (pc := 344) (dk dt_X12_take_4 22 rfl) rfl ?_
            obtain ⟨v26, h⟩ := h
            obtain ⟨v27, h⟩ := h
            obtain ⟨v28, h⟩ := h
            refine v_iast (pc := 346) (dk dt_X12_take_4 23 rfl) v26 v27 v28 ?_
            generalize hG29 : (sel G23 (gfd G23 12 8 l0) (gfd G23 12 12 l0) l4) = G29
            replace h := h G29 hG29.symm
            refine v_aload_n (pc := 347) (dk dt_X12_take_4 24 rfl) rfl rfl ?_
            obtain ⟨v30, h⟩ := h
            refine v_getR (pc := 348) (dk dt_X12_take_4 25 rfl) fl_X12_32 v30 (fun _ => ?_)
            refine v_aload_n (pc := 351) (dk dt_X12_take_4 26 rfl) rfl rfl ?_
            obtain ⟨v31, h⟩ := h
            refine v_getI (pc := 352) (dk dt_X12_take_4 27 rfl) fl_X12_154 v31 (fun _ => ?_)
            refine v_iload (pc := 355) (dk dt_X12_take_4 28 rfl) rfl ?_
            obtain ⟨v32, h⟩ := h
            obtain ⟨v33, h⟩ := h
            obtain ⟨v34, h⟩ := h
            refine v_iast (pc := 357) (dk dt_X12_take_4 29 rfl) v32 v33 v34 ?_
            generalize hG35 : (sel G29 (gfd G29 12 9 l0) (gfd G29 12 12 l0) l5) = G35
            replace h := h G35 hG35.symm
            refine v_aload_n (pc := 358) (dk dt_X12_take_4 30 rfl) rfl rfl ?_
            obtain ⟨v36, h⟩ := h
            refine v_getR (pc := 359) (dk dt_X12_take_4 31 rfl) fl_X12_35 v36 (fun _ => ?_)
            refine v_aload_n (pc := 362) (dk dt_X12_take_4 32 rfl) rfl rfl ?_
            obtain ⟨v37, h⟩ := h
            refine v_getI (pc := 363) (dk dt_X12_take_4 33 rfl) fl_X12_154 v37 (fun _ => ?_)
            refine v_iconst (pc := 366) (dk dt_X12_take_4 34 rfl) ⟨by decide, by decide⟩ ?_
            obtain ⟨v38, h⟩ := h
            obtain ⟨v39, h⟩ := h
            obtain ⟨v40, h⟩ := h
            refine v_iast (pc := 367) (dk dt_X12_take_4 35 rfl) v38 v39 v40 ?_
            generalize hG41 : (sel G35 (gfd G35 12 10 l0) (gfd G35 12 12 l0) 0) = G41
            replace h := h G41 hG41.symm
            refine v_aload_n (pc := 368) (dk dt_X12_take_4 36 rfl) rfl rfl ?_
            obtain ⟨v42, h⟩ := h
            refine v_getR (pc := 369) (dk dt_X12_take_4 37 rfl) fl_X12_38 v42 (fun _ => ?_)
            refine v_aload_n (pc := 372) (dk dt_X12_take_4 38 rfl) rfl rfl ?_
            obtain ⟨v43, h⟩ := h
            refine v_getI (pc := 373) (dk dt_X12_take_4 39 rfl) fl_X12_154 v43 (fun _ => ?_)
            refine v_aload_n (pc := 376) (dk dt_X12_take_5 0 rfl) rfl rfl ?_
            obtain ⟨v44, h⟩ := h
            refine v_getZ (pc := 377) (dk dt_X12_take_5 1 rfl) fl_X12_165 v44 (fun _ => ?_)
            suffices k195 : V E M_X12_take 388 [some (rv l0), none, none, none, none, none, none, none, none, none, none] [iv (if (gfd G41 12 48 l0) = 0 then (1 : Int) else 0), iv (gfd G41 12 12 l0), rv (gfd G41 12 11 l0)] G41 c16 s17 Q X by
              refine v_if_ne (pc := 380) (tgt := 387) (dk dt_X12_take_5 2 rfl) (by decide) (fun c45 => ?_) (fun c45 => ?_)
              · refine v_iconst (pc := 387) (dk dt_X12_take_5 5 rfl) ⟨by decide, by decide⟩ ?_
                exact v_less2 (ls' := [some (rv l0), none, none, none, none, none, none, none, none, none, none]) ⟨rfl, trivial⟩ (by have hk9 := k195; try simp only [if_neg c45] at hk9 ⊢; exact hk9)
              · refine v_iconst (pc := 383) (dk dt_X12_take_5 3 rfl) ⟨by decide, by decide⟩ ?_
                refine v_goto (pc := 384) (tgt := 388) (dk dt_X12_take_5 4 rfl) (by decide) ?_
                exact v_less2 (ls' := [some (rv l0), none, none, none, none, none, none, none, none, none, none]) ⟨rfl, trivial⟩ (by have hk9 := k195; try simp only [if_pos c45] at hk9 ⊢; exact hk9)
            obtain ⟨v46, h⟩ := h
            obtain ⟨v47, h⟩ := h
            obtain ⟨v48, h⟩ := h
            obtain ⟨v49, h⟩ := h
            refine v_zast (pc := 388) (dk dt_X12_take_5 6 rfl) v46 v47 v48 v49 ?_
            generalize hG50 : (sel G41 (gfd G41 12 11 l0) (gfd G41 12 12 l0) (if (gfd G41 12 48 l0) = 0 then (1 : Int) else 0)) = G50
            replace h := h G50 hG50.symm
            refine v_aload_n (pc := 389) (dk dt_X12_take_5 7 rfl) rfl rfl ?_
            refine v_dup (pc := 390) (dk dt_X12_take_5 8 rfl) (by intro h9; cases h9) ?_
            obtain ⟨v51, h⟩ := h
            refine v_getI (pc := 391) (dk dt_X12_take_5 9 rfl) fl_X12_154 v51 (fun _ => ?_)
            refine v_iconst (pc := 394) (dk dt_X12_take_5 10 rfl) ⟨by decide, by decide⟩ ?_
            obtain ⟨v52, h⟩ := h
            refine v_iadd (pc := 395) (dk dt_X12_take_5 11 rfl) v52 ?_
            obtain ⟨v53, h⟩ := h
            refine v_putI (pc := 396) (dk dt_X12_take_5 12 rfl) fl_X12_154 (Or.inl rfl) v53 ?_
            generalize hG54 : (sfd G50 12 12 l0 ((gfd G50 12 12 l0) + 1)) = G54
            replace h := h G54 hG54.symm
            refine v_aload_n (pc := 399) (dk dt_X12_take_5 13 rfl) rfl rfl ?_
            refine v_aload_n (pc := 400) (dk dt_X12_take_5 14 rfl) rfl rfl ?_
            obtain ⟨v55, h⟩ := h
            refine v_getI (pc := 401) (dk dt_X12_take_5 15 rfl) fl_X12_169 v55 (fun _ => ?_)
            refine v_aload_n (pc := 404) (dk dt_X12_take_5 16 rfl) rfl rfl ?_
            obtain ⟨v56, h⟩ := h
            refine v_getR (pc := 405) (dk dt_X12_take_5 17 rfl) fl_X12_42 v56 (fun _ => ?_)
            obtain ⟨v57, h⟩ := h
            refine v_alen (pc := 408) (dk dt_X12_take_5 18 rfl) v57 (fun _ => ?_)
            obtain ⟨J58, dJ58⟩ : ∃ J9 : Int → Gt → Nat → Nat → Prop, J9 = fun x59 G60 c61 s62 => V E M_X12_take 426 [some (rv l0), none, none, none, none, none, none, none, none, none, none] [rv x59, rv l0] G60 c61 s62 Q X := ⟨_, rfl⟩
            have hJ58 : ∀ (x59 : Int) (G60 : Gt) (c61 s62 : Nat), (gcl G60 l0 = 13 ∧ ∀ G64 : Gt, G64 = (sfd G60 12 13 l0 x59) → gcl G64 l0 = 13 ∧ gcl G64 l0 = 13 ∧ gcl G64 (gfd G64 12 13 l0) = 15 ∧ 0 ≤ (gfd G64 12 14 l0) ∧ (gfd G64 12 14 l0) < gln G64 (gfd G64 12 13 l0) ∧ ∀ G70 : Gt, G70 = (sel G64 (gfd G64 12 13 l0) (gfd G64 12 14 l0) 0) → gcl G70 l0 = 13 ∧ i32 ((gfd G70 12 14 l0) + 1) ∧ gcl G70 l0 = 13 ∧ ∀ G74 : Gt, G74 = (sfd G70 12 14 l0 ((gfd G70 12 14 l0) + 1)) → Q 0 G74) → J58 x59 G60 c61 s62 := by
              intro x59 G60 c61 s62 h
              rw [dJ58]
              obtain ⟨v63, h⟩ := h
              refine v_putR (pc := 426) (dk dt_X12_take_5 26 rfl) fl_X12_42 (Or.inl rfl) v63 ?_
              generalize hG64 : (sfd G60 12 13 l0 x59) = G64
              replace h := h G64 hG64.symm
              refine v_aload_n (pc := 429) (dk dt_X12_take_5 27 rfl) rfl rfl ?_
              obtain ⟨v65, h⟩ := h
              refine v_getR (pc := 430) (dk dt_X12_take_5 28 rfl) fl_X12_42 v65 (fun _ => ?_)
              refine v_aload_n (pc := 433) (dk dt_X12_take_5 29 rfl) rfl rfl ?_
              obtain ⟨v66, h⟩ := h
              refine v_getI (pc := 434) (dk dt_X12_take_5 30 rfl) fl_X12_169 v66 (fun _ => ?_)
              refine v_iconst (pc := 437) (dk dt_X12_take_5 31 rfl) ⟨by decide, by decide⟩ ?_
              obtain ⟨v67, h⟩ := h
              obtain ⟨v68, h⟩ := h
              obtain ⟨v69, h⟩ := h
              refine v_iast (pc := 438) (dk dt_X12_take_5 32 rfl) v67 v68 v69 ?_
              generalize hG70 : (sel G64 (gfd G64 12 13 l0) (gfd G64 12 14 l0) 0) = G70
              replace h := h G70 hG70.symm
              refine v_aload_n (pc := 439) (dk dt_X12_take_5 33 rfl) rfl rfl ?_
              refine v_dup (pc := 440) (dk dt_X12_take_5 34 rfl) (by intro h9; cases h9) ?_
              obtain ⟨v71, h⟩ := h
              refine v_getI (pc := 441) (dk dt_X12_take_5 35 rfl) fl_X12_169 v71 (fun _ => ?_)
              refine v_iconst (pc := 444) (dk dt_X12_take_5 36 rfl) ⟨by decide, by decide⟩ ?_
              obtain ⟨v72, h⟩ := h
              refine v_iadd (pc := 445) (dk dt_X12_take_5 37 rfl) v72 ?_
              obtain ⟨v73, h⟩ := h
              refine v_putI (pc := 446) (dk dt_X12_take_5 38 rfl) fl_X12_169 (Or.inl rfl) v73 ?_
              generalize hG74 : (sfd G70 12 14 l0 ((gfd G70 12 14 l0) + 1)) = G74
              replace h := h G74 hG74.symm
              refine v_iconst (pc := 449) (dk dt_X12_take_5 39 rfl) ⟨by decide, by decide⟩ ?_
              exact v_iret (pc := 450) (dk dt_X12_take_6 0 rfl) rfl h
            replace h := h _ hJ58
            refine v_icmp_ne (pc := 409) (tgt := 422) (dk dt_X12_take_5 19 rfl) (by decide) (fun c75 => ?_) (fun c75 => ?_)
            · replace h := h.1 c75
              refine v_aload_n (pc := 422) (dk dt_X12_take_5 24 rfl) rfl rfl ?_
              obtain ⟨v76, h⟩ := h
              refine v_getR (pc := 423) (dk dt_X12_take_5 25 rfl) fl_X12_42 v76 (fun _ => ?_)
              rw [dJ58] at h
              exact h
            · replace h := h.2 c75
              refine v_aload_n (pc := 412) (dk dt_X12_take_5 20 rfl) rfl rfl ?_
              obtain ⟨v77, h⟩ := h
              refine v_getR (pc := 413) (dk dt_X12_take_5 21 rfl) fl_X12_42 v77 (fun _ => ?_)
              refine v_csR (As := [rv (gfd G54 12 13 l0)]) (stk := [rv l0]) (pc := 416) (dk dt_X12_take_5 22 rfl) ml_X12_161 rfl rfl (Nat.le_of_ble_eq_true rfl) rfl rfl (Call.mono h (fun r78 G79 c80 s81 h => ?_))
              refine v_goto (pc := 419) (tgt := 426) (dk dt_X12_take_5 23 rfl) (by decide) ?_
              rw [dJ58] at h
              exact h
          replace h := h _ hJ14
          refine v_icmp_ne (pc := 246) (tgt := 325) (dk dt_X12_take_3 13 rfl) (by decide) (fun c82 => ?_) (fun c82 => ?_)
          · replace h := h.1 c82
            rw [dJ14] at h
            exact h
          · replace h := h.2 c82
            refine v_aload_n (pc := 249) (dk dt_X12_take_3 14 rfl) rfl rfl ?_
            refine v_aload_n (pc := 250) (dk dt_X12_take_3 15 rfl) rfl rfl ?_
            obtain ⟨v83, h⟩ := h
            refine v_getR (pc := 251) (dk dt_X12_take_3 16 rfl) fl_X12_26 v83 (fun _ => ?_)
            refine v_csR (As := [rv (gfd G8 12 7 l0)]) (stk := [rv l0]) (pc := 254) (dk dt_X12_take_3 17 rfl) ml_X12_161 rfl rfl (Nat.le_of_ble_eq_true rfl) rfl rfl (Call.mono h (fun r84 G85 c86 s87 h => ?_))
            obtain ⟨v88, h⟩ := h
            refine v_putR (pc := 257) (dk dt_X12_take_3 18 rfl) fl_X12_26 (Or.inl rfl) v88 ?_
            generalize hG89 : (sfd G85 12 7 l0 r84) = G89
            replace h := h G89 hG89.symm
            refine v_aload_n (pc := 260) (dk dt_X12_take_3 19 rfl) rfl rfl ?_
            refine v_aload_n (pc := 261) (dk dt_X12_take_3 20 rfl) rfl rfl ?_
            obtain ⟨v90, h⟩ := h
            refine v_getR (pc := 262) (dk dt_X12_take_3 21 rfl) fl_X12_29 v90 (fun _ => ?_)
            refine v_csR (As := [rv (gfd G89 12 8 l0)]) (stk := [rv l0]) (pc := 265) (dk dt_X12_take_3 22 rfl) ml_X12_161 rfl rfl (Nat.le_of_ble_eq_true rfl) rfl rfl (Call.mono h (fun r91 G92 c93 s94 h => ?_))
            obtain ⟨v95, h⟩ := h
            refine v_putR (pc := 268) (dk dt_X12_take_3 23 rfl) fl_X12_29 (Or.inl rfl) v95 ?_
            generalize hG96 : (sfd G92 12 8 l0 r91) = G96
            replace h := h G96 hG96.symm
            refine v_aload_n (pc := 271) (dk dt_X12_take_3 24 rfl) rfl rfl ?_
            refine v_aload_n (pc := 272) (dk dt_X12_take_3 25 rfl) rfl rfl ?_
            obtain ⟨v97, h⟩ := h
            refine v_getR (pc := 273) (dk dt_X12_take_3 26 rfl) fl_X12_32 v97 (fun _ => ?_)
            refine v_csR (As := [rv (gfd G96 12 9 l0)]) (stk := [rv l0]) (pc := 276) (dk dt_X12_take_3 27 rfl) ml_X12_161 rfl rfl (Nat.le_of_ble_eq_true rfl) rfl rfl (Call.mono h (fun r98 G99 c100 s101 h => ?_))
            obtain ⟨v102, h⟩ := h
            refine v_putR (pc := 279) (dk dt_X12_take_3 28 rfl) fl_X12_32 (Or.inl rfl) v102 ?_
            generalize hG103 : (sfd G99 12 9 l0 r98) = G103
            replace h := h G103 hG103.symm
            refine v_aload_n (pc := 282) (dk dt_X12_take_3 29 rfl) rfl rfl ?_
            refine v_aload_n (pc := 283) (dk dt_X12_take_3 30 rfl) rfl rfl ?_
            obtain ⟨v104, h⟩ := h
            refine v_getR (pc := 284) (dk dt_X12_take_3 31 rfl) fl_X12_35 v104 (fun _ => ?_)
            refine v_csR (As := [rv (gfd G103 12 10 l0)]) (stk := [rv l0]) (pc := 287) (dk dt_X12_take_3 32 rfl) ml_X12_161 rfl rfl (Nat.le_of_ble_eq_true rfl) rfl rfl (Call.mono h (fun r105 G106 c107 s108 h => ?_))
            obtain ⟨v109, h⟩ := h
            refine v_putR (pc := 290) (dk dt_X12_take_3 33 rfl) fl_X12_35 (Or.inl rfl) v109 ?_
            generalize hG110 : (sfd G106 12 10 l0 r105) = G110
            replace h := h G110 hG110.symm
            refine v_iconst (pc := 293) (dk dt_X12_take_3 34 rfl) ⟨by decide, by decide⟩ ?_
            refine v_aload_n (pc := 294) (dk dt_X12_take_3 35 rfl) rfl rfl ?_
            obtain ⟨v111, h⟩ := h
            refine v_getR (pc := 295) (dk dt_X12_take_3 36 rfl) fl_X12_38 v111 (fun _ => ?_)
            obtain ⟨v112, h⟩ := h
            refine v_alen (pc := 298) (dk dt_X12_take_3 37 rfl) v112 (fun _ => ?_)
            obtain ⟨v113, h⟩ := h
            refine v_imul (pc := 299) (dk dt_X12_take_3 38 rfl) v113 ?_
            obtain ⟨v115, h⟩ := h
            obtain ⟨v116, h⟩ := h
            obtain ⟨v117, h⟩ := h
            obtain ⟨v118, h⟩ := h
            refine v_newa (t := 17) (i := 2) (ty := .boolean) (pc := 300) (dk dt_X12_take_3 39 rfl) ac_boolean rfl (Or.inr (Or.inr ⟨rfl, rfl, rfl⟩)) v115 v116 v117 v118 (fun q114 hq114 gq114 => ?_)
            replace h := h q114 hq114 gq114
            generalize hG119 : (newa G110 q114 17 (2 * (gln G110 (gfd G110 12 11 l0)))) = G119
            replace h := h G119 hG119.symm
            refine v_astore (pc := 302) (ls' := [some (rv l0), none, none, none, some (iv l4), some (iv l5), some (iv x7), none, none, some (rv q114), none]) (dk dt_X12_take_4 0 rfl) (Nat.le_of_ble_eq_true rfl) rfl ?_
            refine v_aload_n (pc := 304) (dk dt_X12_take_4 1 rfl) rfl rfl ?_
            obtain ⟨v120, h⟩ := h
            refine v_getR (pc := 305) (dk dt_X12_take_4 2 rfl) fl_X12_38 v120 (fun _ => ?_)
            refine v_iconst (pc := 308) (dk dt_X12_take_4 3 rfl) ⟨by decide, by decide⟩ ?_
            refine v_aload (pc := 309) (dk dt_X12_take_4 4 rfl) rfl ?_
            refine v_iconst (pc := 311) (dk dt_X12_take_4 5 rfl) ⟨by decide, by decide⟩ ?_
            refine v_aload_n (pc := 312) (dk dt_X12_take_4 6 rfl) rfl rfl ?_
            obtain ⟨v121, h⟩ := h
            refine v_getI (pc := 313) (dk dt_X12_take_4 7 rfl) fl_X12_154 v121 (fun _ => ?_)
            obtain ⟨v122, h⟩ := h
            obtain ⟨v123, h⟩ := h
            obtain ⟨v124, h⟩ := h
            obtain ⟨v125, h⟩ := h
            obtain ⟨v126, h⟩ := h
            obtain ⟨v127, h⟩ := h
            obtain ⟨v128, h⟩ := h
            refine v_acopy (pc := 316) (dk dt_X12_take_4 8 rfl) mw_X12_145 (Nat.le_of_ble_eq_true rfl) (Nat.le_of_ble_eq_true rfl) (Nat.le_of_ble_eq_true rfl) v122 v123 v124 v125 (by decide) (by decide) v126 v127 v128 ?_
            generalize hG129 : (cpy G119 (gfd G119 12 11 l0) q114 0 0 (gfd G119 12 12 l0)) = G129
            replace h := h G129 hG129.symm
            refine v_aload_n (pc := 319) (dk dt_X12_take_4 9 rfl) rfl rfl ?_
            refine v_aload (pc := 320) (dk dt_X12_take_4 10 rfl) rfl ?_
            obtain ⟨v130, h⟩ := h
            refine v_putR (pc := 322) (dk dt_X12_take_4 11 rfl) fl_X12_38 (Or.inl rfl) v130 ?_
            generalize hG131 : (sfd G129 12 11 l0 q114) = G131
            replace h := h G131 hG131.symm
            rw [dJ14] at h
            exact v_less2 (ls' := [some (rv l0), none, none, none, some (iv l4), some (iv l5), some (iv x7), none, none, none, none]) ⟨rfl, rfl, rfl, rfl, trivial⟩ h
        replace h := h _ hJ6
        refine v_icmp_ne (pc := 194) (tgt := 237) (dk dt_X12_take_2 23 rfl) (by decide) (fun c132 => ?_) (fun c132 => ?_)
        · replace h := h.1 c132
          rw [dJ6] at h
          exact v_less2 (ls' := [some (rv l0), none, none, none, some (iv l4), some (iv l5), some (iv l6), none, none, none, none]) ⟨rfl, rfl, rfl, rfl, trivial⟩ h
        · replace h := h.2 c132
          refine v_aload_n (pc := 197) (dk dt_X12_take_2 24 rfl) rfl rfl ?_
          obtain ⟨v133, h⟩ := h
          refine v_getI (pc := 198) (dk dt_X12_take_2 25 rfl) fl_X12_142 v133 (fun _ => ?_)
          refine v_istore (pc := 201) (ls' := [some (rv l0), some (iv l1), some (iv l2), some (iv l3), some (iv l4), some (iv l5), some (iv (gfd G 12 6 l0)), some (iv l7), some (iv l8), some (iv l9), none]) (dk dt_X12_take_2 26 rfl) (Nat.le_of_ble_eq_true rfl) rfl ?_
          refine v_aload_n (pc := 203) (dk dt_X12_take_2 27 rfl) rfl rfl ?_
          obtain ⟨v134, h⟩ := h
          refine v_getR (pc := 204) (dk dt_X12_take_2 28 rfl) fl_X12_15 v134 (fun _ => ?_)
          refine v_iload (pc := 207) (dk dt_X12_take_2 29 rfl) rfl ?_
          refine v_iload_n (pc := 209) (dk dt_X12_take_2 30 rfl) rfl rfl ?_
          obtain ⟨v135, h⟩ := h
          obtain ⟨v136, h⟩ := h
          obtain ⟨v137, h⟩ := h
          refine v_iast (pc := 210) (dk dt_X12_take_2 31 rfl) v135 v136 v137 ?_
          generalize hG138 : (sel G (gfd G 12 3 l0) (gfd G 12 6 l0) l1) = G138
          replace h := h G138 hG138.symm
          refine v_aload_n (pc := 211) (dk dt_X12_take_2 32 rfl) rfl rfl ?_
          obtain ⟨v139, h⟩ := h
          refine v_getR (pc := 212) (dk dt_X12_take_2 33 rfl) fl_X12_19 v139 (fun _ => ?_)
          refine v_iload (pc := 215) (dk dt_X12_take_2 34 rfl) rfl ?_
          refine v_iload_n (pc := 217) (dk dt_X12_take_2 35 rfl) rfl rfl ?_
          obtain ⟨v140, h⟩ := h
          obtain ⟨v141, h⟩ := h
          obtain ⟨v142, h⟩ := h
          refine v_iast (pc := 218) (dk dt_X12_take_2 36 rfl) v140 v141 v142 ?_
          generalize hG143 : (sel G138 (gfd G138 12 4 l0) (gfd G 12 6 l0) l2) = G143
          replace h := h G143 hG143.symm
          refine v_aload_n (pc := 219) (dk dt_X12_take_2 37 rfl) rfl rfl ?_
          obtain ⟨v144, h⟩ := h
          refine v_getR (pc := 220) (dk dt_X12_take_2 38 rfl) fl_X12_22 v144 (fun _ => ?_)
          refine v_iload (pc := 223) (dk dt_X12_take_2 39 rfl) rfl ?_
          refine v_iload_n (pc := 225) (dk dt_X12_take_3 0 rfl) rfl rfl ?_
          obtain ⟨v145, h⟩ := h
          obtain ⟨v146, h⟩ := h
          obtain ⟨v147, h⟩ := h
          refine v_iast (pc := 226) (dk dt_X12_take_3 1 rfl) v145 v146 v147 ?_
          generalize hG148 : (sel G143 (gfd G143 12 5 l0) (gfd G 12 6 l0) l3) = G148
          replace h := h G148 hG148.symm
          refine v_aload_n (pc := 227) (dk dt_X12_take_3 2 rfl) rfl rfl ?_
          refine v_dup (pc := 228) (dk dt_X12_take_3 3 rfl) (by intro h9; cases h9) ?_
          obtain ⟨v149, h⟩ := h
          refine v_getI (pc := 229) (dk dt_X12_take_3 4 rfl) fl_X12_142 v149 (fun _ => ?_)
          refine v_iconst (pc := 232) (dk dt_X12_take_3 5 rfl) ⟨by decide, by decide⟩ ?_
          obtain ⟨v150, h⟩ := h
          refine v_iadd (pc := 233) (dk dt_X12_take_3 6 rfl) v150 ?_
          obtain ⟨v151, h⟩ := h
          refine v_putI (pc := 234) (dk dt_X12_take_3 7 rfl) fl_X12_142 (Or.inl rfl) v151 ?_
          generalize hG152 : (sfd G148 12 6 l0 ((gfd G148 12 6 l0) + 1)) = G152
          replace h := h G152 hG152.symm
          rw [dJ6] at h
          exact v_less2 (ls' := [some (rv l0), none, none, none, some (iv l4), some (iv l5), some (iv (gfd G 12 6 l0)), none, none, none, none]) ⟨rfl, rfl, rfl, rfl, trivial⟩ h
      · replace h := h.2 c5
        refine v_iconst (pc := 189) (dk dt_X12_take_2 19 rfl) ⟨by decide, by decide⟩ ?_
        exact v_iret (pc := 190) (dk dt_X12_take_2 20 rfl) rfl h
    · replace h := h.2 c4
      refine v_iconst (pc := 180) (dk dt_X12_take_2 14 rfl) ⟨by decide, by decide⟩ ?_
      exact v_iret (pc := 181) (dk dt_X12_take_2 15 rfl) rfl h
  · replace h := h.2 c2
    refine v_aload_n (pc := 44) (dk dt_X12_take 25 rfl) rfl rfl ?_
    refine v_iload (pc := 45) (dk dt_X12_take 26 rfl) rfl ?_
    obtain ⟨v153, h⟩ := h
    obtain ⟨v154, h⟩ := h
    refine v_cvPZ (c := 12) (v := (mSeen G l0 l9)) (As := [iv l9]) (stk := []) (pc := 47) (dk dt_X12_take 27 rfl) ml_X12_157 rfl rfl (Nat.le_of_ble_eq_true rfl) rfl ⟨by decide, rfl⟩ v153 rfl v154 ?_
    refine v_if_eq (pc := 50) (tgt := 164) (dk dt_X12_take 28 rfl) (by decide) (fun c155 => ?_) (fun c155 => ?_)
    · replace h := h.1 c155
      obtain ⟨v156, h⟩ := h
      refine v_iinc (pc := 164) (ls' := [some (rv l0), some (iv l1), some (iv l2), some (iv l3), some (iv l4), some (iv l5), some (iv l6), some (iv l7), some (iv l8), some (iv (l9 + 1)), none]) (dk dt_X12_take_2 7 rfl) (Nat.le_of_ble_eq_true rfl) rfl v156 rfl ?_
      refine v_goto (pc := 167) (tgt := 35) (dk dt_X12_take_2 8 rfl) (by decide) ?_
      exact h
    · replace h := h.2 c155
      refine v_aload_n (pc := 53) (dk dt_X12_take 29 rfl) rfl rfl ?_
      obtain ⟨v157, h⟩ := h
      refine v_getR (pc := 54) (dk dt_X12_take 30 rfl) fl_X12_26 v157 (fun _ => ?_)
      refine v_iload (pc := 57) (dk dt_X12_take 31 rfl) rfl ?_
      obtain ⟨v158, h⟩ := h
      obtain ⟨v159, h⟩ := h
      obtain ⟨v160, h⟩ := h
      refine v_iald (pc := 59) (dk dt_X12_take 32 rfl) (Or.inl v158) v159 v160 (fun _ => ?_)
      refine v_iload (pc := 60) (dk dt_X12_take 33 rfl) rfl ?_
      suffices k196 : V E M_X12_take 70 [some (rv l0), some (iv l1), some (iv l2), some (iv l3), some (iv l4), some (iv l5), some (iv l6), some (iv l7), some (iv l8), some (iv l9), none] [iv (if (gel G (gfd G 12 7 l0) l9) = l6 then (1 : Int) else 0)] G c s Q X by
        refine v_icmp_ne (pc := 62) (tgt := 69) (dk dt_X12_take 34 rfl) (by decide) (fun c161 => ?_) (fun c161 => ?_)
        · refine v_iconst (pc := 69) (dk dt_X12_take 37 rfl) ⟨by decide, by decide⟩ ?_
          exact v_less2 (ls' := [some (rv l0), some (iv l1), some (iv l2), some (iv l3), some (iv l4), some (iv l5), some (iv l6), some (iv l7), some (iv l8), some (iv l9), none]) ⟨rfl, rfl, rfl, rfl, rfl, rfl, rfl, rfl, rfl, rfl, trivial⟩ (by have hk9 := k196; try simp only [if_neg c161] at hk9 ⊢; exact hk9)
        · refine v_iconst (pc := 65) (dk dt_X12_take 35 rfl) ⟨by decide, by decide⟩ ?_
          refine v_goto (pc := 66) (tgt := 70) (dk dt_X12_take 36 rfl) (by decide) ?_
          exact v_less2 (ls' := [some (rv l0), some (iv l1), some (iv l2), some (iv l3), some (iv l4), some (iv l5), some (iv l6), some (iv l7), some (iv l8), some (iv l9), none]) ⟨rfl, rfl, rfl, rfl, rfl, rfl, rfl, rfl, rfl, rfl, trivial⟩ (by have hk9 := k196; try simp only [if_pos c161] at hk9 ⊢; exact hk9)
      refine v_istore (pc := 70) (ls' := [some (rv l0), some (iv l1), some (iv l2), some (iv l3), some (iv l4), some (iv l5), some (iv l6), some (iv l7), some (iv l8), some (iv l9), some (iv (if (gel G (gfd G 12 7 l0) l9) = l6 then (1 : Int) else 0))]) (dk dt_X12_take 38 rfl) (Nat.le_of_ble_eq_true rfl) rfl ?_
      refine v_iload (pc := 72) (dk dt_X12_take 39 rfl) rfl ?_
      obtain ⟨J162, dJ162⟩ : ∃ J9 : Prop, J9 = V E M_X12_take 107 [some (rv l0), some (iv l1), some (iv l2), some (iv l3), some (iv l4), some (iv l5), some (iv l6), some (iv l7), some (iv l8), some (iv l9), some (iv (if (gel G (gfd G 12 7 l0) l9) = l6 then (1 : Int) else 0))] [] G c s Q X := ⟨_, rfl⟩
      have hJ162 : (((if (gel G (gfd G 12 7 l0) l9) = l6 then (1 : Int) else 0) ≠ 0 → gcl G l0 = 13) ∧ ((if (gel G (gfd G 12 7 l0) l9) = l6 then (1 : Int) else 0) ≠ 0 → gcl G (gfd G 12 8 l0) = 15) ∧ ((if (gel G (gfd G 12 7 l0) l9) = l6 then (1 : Int) else 0) ≠ 0 → 0 ≤ l9) ∧ ((if (gel G (gfd G 12 7 l0) l9) = l6 then (1 : Int) else 0) ≠ 0 → l9 < gln G (gfd G 12 8 l0)) ∧ ((if (gel G (gfd G 12 7 l0) l9) = l6 then (1 : Int) else 0) ≠ 0 → l7 < (gel G (gfd G 12 8 l0) l9) → gcl G l0 = 13) ∧ ((if (gel G (gfd G 12 7 l0) l9) = l6 then (1 : Int) else 0) ≠ 0 → l7 < (gel G (gfd G 12 8 l0) l9) → gcl G (gfd G 12 8 l0) = 15) ∧ ((if (gel G (gfd G 12 7 l0) l9) = l6 then (1 : Int) else 0) ≠ 0 → l7 < (gel G (gfd G 12 8 l0) l9) → 0 ≤ l9) ∧ ((if (gel G (gfd G 12 7 l0) l9) = l6 then (1 : Int) else 0) ≠ 0 → l7 < (gel G (gfd G 12 8 l0) l9) → l9 < gln G (gfd G 12 8 l0)) ∧ gcl G l0 = 13 ∧ gcl G l0 = 13 ∧ gcl G (gfd G 12 7 l0) = 15 ∧ 0 ≤ l9 ∧ l9 < gln G (gfd G 12 7 l0) ∧ gcl G (gfd G 12 3 l0) = 15 ∧ 0 ≤ (gel G (gfd G 12 7 l0) l9) ∧ (gel G (gfd G 12 7 l0) l9) < gln G (gfd G 12 3 l0) ∧ i32 (l8 + (if (gel G (gfd G 12 3 l0) (gel G (gfd G 12 7 l0) l9)) = l1 then (1 : Int) else 0)) ∧ i32 (l9 + 1) ∧ V E M_X12_take 35 [some (rv l0), some (iv l1), some (iv l2), some (iv l3), some (iv l4), some (iv l5), some (iv l6), some (iv (if (if (gel G (gfd G 12 7 l0) l9) = l6 then (1 : Int) else 0) = 0 then (l7 : Int) else (if (gel G (gfd G 12 8 l0) l9) ≤ l7 then (l7 : Int) else (gel G (gfd G 12 8 l0) l9)))), some (iv (l8 + (if (gel G (gfd G 12 3 l0) (gel G (gfd G 12 7 l0) l9)) = l1 then (1 : Int) else 0))), some (iv (l9 + 1)), none] [] G c s Q X) → J162 := by
        intro h
        rw [dJ162]
        refine v_iload (pc := 107) (dk dt_X12_take_1 17 rfl) rfl ?_
        obtain ⟨v164, v165, v166, v167, v169, v170, v171, v172, h⟩ := h
        suffices k197 : V E M_X12_take 136 [some (rv l0), some (iv l1), some (iv l2), some (iv l3), some (iv l4), some (iv l5), some (iv l6), none, some (iv l8), some (iv l9), none] [iv (if (if (gel G (gfd G 12 7 l0) l9) = l6 then (1 : Int) else 0) = 0 then (l7 : Int) else (if (gel G (gfd G 12 8 l0) l9) ≤ l7 then (l7 : Int) else (gel G (gfd G 12 8 l0) l9)))] G c s Q X by
          refine v_if_eq (pc := 109) (tgt := 134) (dk dt_X12_take_1 18 rfl) (by decide) (fun c163 => ?_) (fun c163 => ?_)
          · refine v_iload (pc := 134) (dk dt_X12_take_1 30 rfl) rfl ?_
            exact v_less2 (ls' := [some (rv l0), some (iv l1), some (iv l2), some (iv l3), some (iv l4), some (iv l5), some (iv l6), none, some (iv l8), some (iv l9), none]) ⟨rfl, rfl, rfl, rfl, rfl, rfl, rfl, rfl, rfl, trivial⟩ (by have hk9 := k197; try simp only [if_pos c163] at hk9 ⊢; exact hk9)
          · refine v_aload_n (pc := 112) (dk dt_X12_take_1 19 rfl) rfl rfl ?_
            refine v_getR (pc := 113) (dk dt_X12_take_1 20 rfl) fl_X12_29 (v164 c163) (fun _ => ?_)
            refine v_iload (pc := 116) (dk dt_X12_take_1 21 rfl) rfl ?_
            refine v_iald (pc := 118) (dk dt_X12_take_1 22 rfl) (Or.inl (v165 c163)) (v166 c163) (v167 c163) (fun _ => ?_)
            refine v_iload (pc := 119) (dk dt_X12_take_1 23 rfl) rfl ?_
            refine v_icmp_le (pc := 121) (tgt := 134) (dk dt_X12_take_1 24 rfl) (by decide) (fun c168 => ?_) (fun c168 => ?_)
            · refine v_iload (pc := 134) (dk dt_X12_take_1 30 rfl) rfl ?_
              exact v_less2 (ls' := [some (rv l0), some (iv l1), some (iv l2), some (iv l3), some (iv l4), some (iv l5), some (iv l6), none, some (iv l8), some (iv l9), none]) ⟨rfl, rfl, rfl, rfl, rfl, rfl, rfl, rfl, rfl, trivial⟩ (by have hk9 := k197; try simp only [if_neg c163] at hk9 ⊢; try simp only [if_pos c168] at hk9 ⊢; exact hk9)
            · refine v_aload_n (pc := 124) (dk dt_X12_take_1 25 rfl) rfl rfl ?_
              refine v_getR (pc := 125) (dk dt_X12_take_1 26 rfl) fl_X12_29 (v169 c163 c168) (fun _ => ?_)
              refine v_iload (pc := 128) (dk dt_X12_take_1 27 rfl) rfl ?_
              refine v_iald (pc := 130) (dk dt_X12_take_1 28 rfl) (Or.inl (v170 c163 c168)) (v171 c163 c168) (v172 c163 c168) (fun _ => ?_)
              refine v_goto (pc := 131) (tgt := 136) (dk dt_X12_take_1 29 rfl) (by decide) ?_
              exact v_less2 (ls' := [some (rv l0), some (iv l1), some (iv l2), some (iv l3), some (iv l4), some (iv l5), some (iv l6), none, some (iv l8), some (iv l9), none]) ⟨rfl, rfl, rfl, rfl, rfl, rfl, rfl, rfl, rfl, trivial⟩ (by have hk9 := k197; try simp only [if_neg c163] at hk9 ⊢; try simp only [if_neg (Int.not_le.mpr c168)] at hk9 ⊢; exact hk9)
        refine v_istore (pc := 136) (ls' := [some (rv l0), some (iv l1), some (iv l2), some (iv l3), some (iv l4), some (iv l5), some (iv l6), some (iv (if (if (gel G (gfd G 12 7 l0) l9) = l6 then (1 : Int) else 0) = 0 then (l7 : Int) else (if (gel G (gfd G 12 8 l0) l9) ≤ l7 then (l7 : Int) else (gel G (gfd G 12 8 l0) l9)))), some (iv l8), some (iv l9), none]) (dk dt_X12_take_1 31 rfl) (Nat.le_of_ble_eq_true rfl) rfl ?_
        refine v_iload (pc := 138) (dk dt_X12_take_1 32 rfl) rfl ?_
        refine v_aload_n (pc := 140) (dk dt_X12_take_1 33 rfl) rfl rfl ?_
        obtain ⟨v173, h⟩ := h
        refine v_getR (pc := 141) (dk dt_X12_take_1 34 rfl) fl_X12_15 v173 (fun _ => ?_)
        refine v_aload_n (pc := 144) (dk dt_X12_take_1 35 rfl) rfl rfl ?_
        obtain ⟨v174, h⟩ := h
        refine v_getR (pc := 145) (dk dt_X12_take_1 36 rfl) fl_X12_26 v174 (fun _ => ?_)
        refine v_iload (pc := 148) (dk dt_X12_take_1 37 rfl) rfl ?_
        obtain ⟨v175, h⟩ := h
        obtain ⟨v176, h⟩ := h
        obtain ⟨v177, h⟩ := h
        refine v_iald (pc := 150) (dk dt_X12_take_1 38 rfl) (Or.inl v175) v176 v177 (fun _ => ?_)
        obtain ⟨v178, h⟩ := h
        obtain ⟨v179, h⟩ := h
        obtain ⟨v180, h⟩ := h
        refine v_iald (pc := 151) (dk dt_X12_take_1 39 rfl) (Or.inl v178) v179 v180 (fun _ => ?_)
        refine v_iload_n (pc := 152) (dk dt_X12_take_2 0 rfl) rfl rfl ?_
        suffices k198 : V E M_X12_take 161 [some (rv l0), some (iv l1), some (iv l2), some (iv l3), some (iv l4), some (iv l5), some (iv l6), some (iv (if (if (gel G (gfd G 12 7 l0) l9) = l6 then (1 : Int) else 0) = 0 then (l7 : Int) else (if (gel G (gfd G 12 8 l0) l9) ≤ l7 then (l7 : Int) else (gel G (gfd G 12 8 l0) l9)))), none, some (iv l9), none] [iv (if (gel G (gfd G 12 3 l0) (gel G (gfd G 12 7 l0) l9)) = l1 then (1 : Int) else 0), iv l8] G c s Q X by
          refine v_icmp_ne (pc := 153) (tgt := 160) (dk dt_X12_take_2 1 rfl) (by decide) (fun c181 => ?_) (fun c181 => ?_)
          · refine v_iconst (pc := 160) (dk dt_X12_take_2 4 rfl) ⟨by decide, by decide⟩ ?_
            exact v_less2 (ls' := [some (rv l0), some (iv l1), some (iv l2), some (iv l3), some (iv l4), some (iv l5), some (iv l6), some (iv (if (if (gel G (gfd G 12 7 l0) l9) = l6 then (1 : Int) else 0) = 0 then (l7 : Int) else (if (gel G (gfd G 12 8 l0) l9) ≤ l7 then (l7 : Int) else (gel G (gfd G 12 8 l0) l9)))), none, some (iv l9), none]) ⟨rfl, rfl, rfl, rfl, rfl, rfl, rfl, rfl, rfl, trivial⟩ (by have hk9 := k198; try simp only [if_neg c181] at hk9 ⊢; exact hk9)
          · refine v_iconst (pc := 156) (dk dt_X12_take_2 2 rfl) ⟨by decide, by decide⟩ ?_
            refine v_goto (pc := 157) (tgt := 161) (dk dt_X12_take_2 3 rfl) (by decide) ?_
            exact v_less2 (ls' := [some (rv l0), some (iv l1), some (iv l2), some (iv l3), some (iv l4), some (iv l5), some (iv l6), some (iv (if (if (gel G (gfd G 12 7 l0) l9) = l6 then (1 : Int) else 0) = 0 then (l7 : Int) else (if (gel G (gfd G 12 8 l0) l9) ≤ l7 then (l7 : Int) else (gel G (gfd G 12 8 l0) l9)))), none, some (iv l9), none]) ⟨rfl, rfl, rfl, rfl, rfl, rfl, rfl, rfl, rfl, trivial⟩ (by have hk9 := k198; try simp only [if_pos c181] at hk9 ⊢; exact hk9)
        obtain ⟨v182, h⟩ := h
        refine v_iadd (pc := 161) (dk dt_X12_take_2 5 rfl) v182 ?_
        refine v_istore (pc := 162) (ls' := [some (rv l0), some (iv l1), some (iv l2), some (iv l3), some (iv l4), some (iv l5), some (iv l6), some (iv (if (if (gel G (gfd G 12 7 l0) l9) = l6 then (1 : Int) else 0) = 0 then (l7 : Int) else (if (gel G (gfd G 12 8 l0) l9) ≤ l7 then (l7 : Int) else (gel G (gfd G 12 8 l0) l9)))), some (iv (l8 + (if (gel G (gfd G 12 3 l0) (gel G (gfd G 12 7 l0) l9)) = l1 then (1 : Int) else 0))), some (iv l9), none]) (dk dt_X12_take_2 6 rfl) (Nat.le_of_ble_eq_true rfl) rfl ?_
        obtain ⟨v183, h⟩ := h
        refine v_iinc (pc := 164) (ls' := [some (rv l0), some (iv l1), some (iv l2), some (iv l3), some (iv l4), some (iv l5), some (iv l6), some (iv (if (if (gel G (gfd G 12 7 l0) l9) = l6 then (1 : Int) else 0) = 0 then (l7 : Int) else (if (gel G (gfd G 12 8 l0) l9) ≤ l7 then (l7 : Int) else (gel G (gfd G 12 8 l0) l9)))), some (iv (l8 + (if (gel G (gfd G 12 3 l0) (gel G (gfd G 12 7 l0) l9)) = l1 then (1 : Int) else 0))), some (iv (l9 + 1)), none]) (dk dt_X12_take_2 7 rfl) (Nat.le_of_ble_eq_true rfl) rfl v183 rfl ?_
        refine v_goto (pc := 167) (tgt := 35) (dk dt_X12_take_2 8 rfl) (by decide) ?_
        exact h
      replace h := h _ hJ162
      refine v_if_eq (pc := 74) (tgt := 107) (dk dt_X12_take_1 0 rfl) (by decide) (fun c184 => ?_) (fun c184 => ?_)
      · replace h := h.1 c184
        rw [dJ162] at h
        exact h
      · replace h := h.2 c184
        refine v_aload_n (pc := 77) (dk dt_X12_take_1 1 rfl) rfl rfl ?_
        obtain ⟨v185, h⟩ := h
        refine v_getR (pc := 78) (dk dt_X12_take_1 2 rfl) fl_X12_29 v185 (fun _ => ?_)
        refine v_iload (pc := 81) (dk dt_X12_take_1 3 rfl) rfl ?_
        obtain ⟨v186, h⟩ := h
        obtain ⟨v187, h⟩ := h
        obtain ⟨v188, h⟩ := h
        refine v_iald (pc := 83) (dk dt_X12_take_1 4 rfl) (Or.inl v186) v187 v188 (fun _ => ?_)
        refine v_iload (pc := 84) (dk dt_X12_take_1 5 rfl) rfl ?_
        refine v_icmp_ne (pc := 86) (tgt := 107) (dk dt_X12_take_1 6 rfl) (by decide) (fun c189 => ?_) (fun c189 => ?_)
        · replace h := h.1 c189
          rw [dJ162] at h
          exact h
        · replace h := h.2 c189
          refine v_aload_n (pc := 89) (dk dt_X12_take_1 7 rfl) rfl rfl ?_
          obtain ⟨v190, h⟩ := h
          refine v_getR (pc := 90) (dk dt_X12_take_1 8 rfl) fl_X12_32 v190 (fun _ => ?_)
          refine v_iload (pc := 93) (dk dt_X12_take_1 9 rfl) rfl ?_
          obtain ⟨v191, h⟩ := h
          obtain ⟨v192, h⟩ := h
          obtain ⟨v193, h⟩ := h
          refine v_iald (pc := 95) (dk dt_X12_take_1 10 rfl) (Or.inl v191) v192 v193 (fun _ => ?_)
          refine v_iload (pc := 96) (dk dt_X12_take_1 11 rfl) rfl ?_
          suffices k199 : V E M_X12_take 106 [none, none, none, none, none, none, none, none, none, none, none] [iv (if (gel G (gfd G 12 9 l0) l9) = l5 then (2 : Int) else 3)] G c s Q X by
            refine v_icmp_ne (pc := 98) (tgt := 105) (dk dt_X12_take_1 12 rfl) (by decide) (fun c194 => ?_) (fun c194 => ?_)
            · refine v_iconst (pc := 105) (dk dt_X12_take_1 15 rfl) ⟨by decide, by decide⟩ ?_
              exact v_less2 (ls' := [none, none, none, none, none, none, none, none, none, none, none]) trivial (by have hk9 := k199; try simp only [if_neg c194] at hk9 ⊢; exact hk9)
            · refine v_iconst (pc := 101) (dk dt_X12_take_1 13 rfl) ⟨by decide, by decide⟩ ?_
              refine v_goto (pc := 102) (tgt := 106) (dk dt_X12_take_1 14 rfl) (by decide) ?_
              exact v_less2 (ls' := [none, none, none, none, none, none, none, none, none, none, none]) trivial (by have hk9 := k199; try simp only [if_pos c194] at hk9 ⊢; exact hk9)
          exact v_iret (pc := 106) (dk dt_X12_take_1 16 rfl) rfl h
set_option maxRecDepth 20000 in
theorem b_X12_write_0 {E : EE} {l0 l1 l2 l3 l4 l5 : Int} {G : Gt} {c s : Nat} {Q X : Int → Gt → Prop} (h : (OkP E M_X12_in [iv l1, iv 0, iv 6] G (wIn l1 0 6) ∧ ((wIn l1 0 6) ≠ 0 → OkP E M_X12_in [iv l2, iv 0, iv 6] G (wIn l2 0 6)) ∧ ((wIn l1 0 6) ≠ 0 → (wIn l2 0 6) ≠ 0 → OkP E M_X12_in [iv l3, iv 0, iv 6] G (wIn l3 0 6)) ∧ ((wIn l1 0 6) ≠ 0 → (wIn l2 0 6) ≠ 0 → (wIn l3 0 6) ≠ 0 → gcl G l0 = 13) ∧ ((wIn l1 0 6) ≠ 0 → (wIn l2 0 6) ≠ 0 → (wIn l3 0 6) ≠ 0 → OkP E M_X12_in [iv l4, iv 0, iv (gfd G 12 1 l0)] G (wIn l4 0 (gfd G 12 1 l0))) ∧ ((wIn l1 0 6) ≠ 0 → (wIn l2 0 6) ≠ 0 → (wIn l3 0 6) ≠ 0 → (wIn l4 0 (gfd G 12 1 l0)) ≠ 0 → l5 ≠ (-2147483648) → OkP E M_X12_in [iv l5, iv (-1000000), iv 1000000] G (wIn l5 (-1000000) 1000000)) ∧ gcl G l0 = 13 ∧ ∀ G15 : Gt, G15 = (sfd G 12 0 l0 (if (if (wIn l1 0 6) = 0 then (0 : Int) else (if (wIn l2 0 6) = 0 then (0 : Int) else (if (wIn l3 0 6) = 0 then (0 : Int) else (if (wIn l4 0 (gfd G 12 1 l0)) = 0 then (0 : Int) else (if l5 = (-2147483648) then (1 : Int) else (if (wIn l5 (-1000000) 1000000) = 0 then (0 : Int) else 1)))))) = 0 then (1 : Int) else 0)) → gcl G15 l0 = 13 ∧ (((gfd G15 12 0 l0) ≤ 0 → (gcl G15 l0 = 13 ∧ Call E M_X12_take [rv l0, iv l1, iv l2, iv l3, iv l4, iv l5] G15 c s X (fun r19 G20 c21 s22 => Q r19 G20))) ∧ (0 < (gfd G15 12 0 l0) → Q 0 G15)))) : V E M_X12_write 0 [some (rv l0), some (iv l1), some (iv l2), some (iv l3), some (iv l4), some (iv l5), none] [] G c s Q X := by
  refine v_iload_n (pc := 0) (dk dt_X12_write 0 rfl) rfl rfl ?_
  refine v_iconst (pc := 1) (dk dt_X12_write 1 rfl) ⟨by decide, by decide⟩ ?_
  refine v_bipush (pc := 2) (dk dt_X12_write 2 rfl) (by decide) ⟨by decide, by decide⟩ ?_
  obtain ⟨v1, h⟩ := h
  refine v_csPZ (v := (wIn l1 0 6)) (As := [iv l1, iv 0, iv 6]) (stk := []) (pc := 4) (dk dt_X12_write 3 rfl) ml_X12_172 rfl rfl (Nat.le_of_ble_eq_true rfl) rfl rfl v1 ?_
  obtain ⟨v3, v5, v7, v8, v11, h⟩ := h
  suffices k23 : V E M_X12_write 67 [some (rv l0), some (iv l1), some (iv l2), some (iv l3), some (iv l4), some (iv l5), none] [iv (if (wIn l1 0 6) = 0 then (0 : Int) else (if (wIn l2 0 6) = 0 then (0 : Int) else (if (wIn l3 0 6) = 0 then (0 : Int) else (if (wIn l4 0 (gfd G 12 1 l0)) = 0 then (0 : Int) else (if l5 = (-2147483648) then (1 : Int) else (if (wIn l5 (-1000000) 1000000) = 0 then (0 : Int) else 1))))))] G c s Q X by
    refine v_if_eq (pc := 7) (tgt := 66) (dk dt_X12_write 4 rfl) (by decide) (fun c2 => ?_) (fun c2 => ?_)
    · refine v_iconst (pc := 66) (dk dt_X12_write 31 rfl) ⟨by decide, by decide⟩ ?_
      exact v_less2 (ls' := [some (rv l0), some (iv l1), some (iv l2), some (iv l3), some (iv l4), some (iv l5), none]) ⟨rfl, rfl, rfl, rfl, rfl, rfl, trivial⟩ (by have hk9 := k23; try simp only [if_pos c2] at hk9 ⊢; exact hk9)
    · refine v_iload_n (pc := 10) (dk dt_X12_write 5 rfl) rfl rfl ?_
      refine v_iconst (pc := 11) (dk dt_X12_write 6 rfl) ⟨by decide, by decide⟩ ?_
      refine v_bipush (pc := 12) (dk dt_X12_write 7 rfl) (by decide) ⟨by decide, by decide⟩ ?_
      refine v_csPZ (v := (wIn l2 0 6)) (As := [iv l2, iv 0, iv 6]) (stk := []) (pc := 14) (dk dt_X12_write 8 rfl) ml_X12_172 rfl rfl (Nat.le_of_ble_eq_true rfl) rfl rfl (v3 c2) ?_
      refine v_if_eq (pc := 17) (tgt := 66) (dk dt_X12_write 9 rfl) (by decide) (fun c4 => ?_) (fun c4 => ?_)
      · refine v_iconst (pc := 66) (dk dt_X12_write 31 rfl) ⟨by decide, by decide⟩ ?_
        exact v_less2 (ls' := [some (rv l0), some (iv l1), some (iv l2), some (iv l3), some (iv l4), some (iv l5), none]) ⟨rfl, rfl, rfl, rfl, rfl, rfl, trivial⟩ (by have hk9 := k23; try simp only [if_neg c2] at hk9 ⊢; try simp only [if_pos c4] at hk9 ⊢; exact hk9)
      · refine v_iload_n (pc := 20) (dk dt_X12_write 10 rfl) rfl rfl ?_
        refine v_iconst (pc := 21) (dk dt_X12_write 11 rfl) ⟨by decide, by decide⟩ ?_
        refine v_bipush (pc := 22) (dk dt_X12_write 12 rfl) (by decide) ⟨by decide, by decide⟩ ?_
        refine v_csPZ (v := (wIn l3 0 6)) (As := [iv l3, iv 0, iv 6]) (stk := []) (pc := 24) (dk dt_X12_write 13 rfl) ml_X12_172 rfl rfl (Nat.le_of_ble_eq_true rfl) rfl rfl (v5 c2 c4) ?_
        refine v_if_eq (pc := 27) (tgt := 66) (dk dt_X12_write 14 rfl) (by decide) (fun c6 => ?_) (fun c6 => ?_)
        · refine v_iconst (pc := 66) (dk dt_X12_write 31 rfl) ⟨by decide, by decide⟩ ?_
          exact v_less2 (ls' := [some (rv l0), some (iv l1), some (iv l2), some (iv l3), some (iv l4), some (iv l5), none]) ⟨rfl, rfl, rfl, rfl, rfl, rfl, trivial⟩ (by have hk9 := k23; try simp only [if_neg c2] at hk9 ⊢; try simp only [if_neg c4] at hk9 ⊢; try simp only [if_pos c6] at hk9 ⊢; exact hk9)
        · refine v_iload (pc := 30) (dk dt_X12_write 15 rfl) rfl ?_
          refine v_iconst (pc := 32) (dk dt_X12_write 16 rfl) ⟨by decide, by decide⟩ ?_
          refine v_aload_n (pc := 33) (dk dt_X12_write 17 rfl) rfl rfl ?_
          refine v_getI (pc := 34) (dk dt_X12_write 18 rfl) fl_X12_176 (v7 c2 c4 c6) (fun _ => ?_)
          refine v_csPZ (v := (wIn l4 0 (gfd G 12 1 l0))) (As := [iv l4, iv 0, iv (gfd G 12 1 l0)]) (stk := []) (pc := 37) (dk dt_X12_write 19 rfl) ml_X12_172 rfl rfl (Nat.le_of_ble_eq_true rfl) rfl rfl (v8 c2 c4 c6) ?_
          refine v_if_eq (pc := 40) (tgt := 66) (dk dt_X12_write 20 rfl) (by decide) (fun c9 => ?_) (fun c9 => ?_)
          · refine v_iconst (pc := 66) (dk dt_X12_write 31 rfl) ⟨by decide, by decide⟩ ?_
            exact v_less2 (ls' := [some (rv l0), some (iv l1), some (iv l2), some (iv l3), some (iv l4), some (iv l5), none]) ⟨rfl, rfl, rfl, rfl, rfl, rfl, trivial⟩ (by have hk9 := k23; try simp only [if_neg c2] at hk9 ⊢; try simp only [if_neg c4] at hk9 ⊢; try simp only [if_neg c6] at hk9 ⊢; try simp only [if_pos c9] at hk9 ⊢; exact hk9)
          · refine v_iload (pc := 43) (dk dt_X12_write 21 rfl) rfl ?_
            refine v_ldc (pc := 45) (dk dt_X12_write 22 rfl) co_X12_179 ⟨by decide, by decide⟩ ?_
            refine v_icmp_eq (pc := 47) (tgt := 62) (dk dt_X12_write 23 rfl) (by decide) (fun c10 => ?_) (fun c10 => ?_)
            · refine v_iconst (pc := 62) (dk dt_X12_write 29 rfl) ⟨by decide, by decide⟩ ?_
              refine v_goto (pc := 63) (tgt := 67) (dk dt_X12_write 30 rfl) (by decide) ?_
              exact v_less2 (ls' := [some (rv l0), some (iv l1), some (iv l2), some (iv l3), some (iv l4), some (iv l5), none]) ⟨rfl, rfl, rfl, rfl, rfl, rfl, trivial⟩ (by have hk9 := k23; try simp only [if_neg c2] at hk9 ⊢; try simp only [if_neg c4] at hk9 ⊢; try simp only [if_neg c6] at hk9 ⊢; try simp only [if_neg c9] at hk9 ⊢; try simp only [if_pos c10] at hk9 ⊢; exact hk9)
            · refine v_iload (pc := 50) (dk dt_X12_write 24 rfl) rfl ?_
              refine v_ldc (pc := 52) (dk dt_X12_write 25 rfl) co_X12_180 ⟨by decide, by decide⟩ ?_
              refine v_ldc (pc := 54) (dk dt_X12_write 26 rfl) co_X12_181 ⟨by decide, by decide⟩ ?_
              refine v_csPZ (v := (wIn l5 (-1000000) 1000000)) (As := [iv l5, iv (-1000000), iv 1000000]) (stk := []) (pc := 56) (dk dt_X12_write 27 rfl) ml_X12_172 rfl rfl (Nat.le_of_ble_eq_true rfl) rfl rfl (v11 c2 c4 c6 c9 c10) ?_
              refine v_if_eq (pc := 59) (tgt := 66) (dk dt_X12_write 28 rfl) (by decide) (fun c12 => ?_) (fun c12 => ?_)
              · refine v_iconst (pc := 66) (dk dt_X12_write 31 rfl) ⟨by decide, by decide⟩ ?_
                exact v_less2 (ls' := [some (rv l0), some (iv l1), some (iv l2), some (iv l3), some (iv l4), some (iv l5), none]) ⟨rfl, rfl, rfl, rfl, rfl, rfl, trivial⟩ (by have hk9 := k23; try simp only [if_neg c2] at hk9 ⊢; try simp only [if_neg c4] at hk9 ⊢; try simp only [if_neg c6] at hk9 ⊢; try simp only [if_neg c9] at hk9 ⊢; try simp only [if_neg c10] at hk9 ⊢; try simp only [if_pos c12] at hk9 ⊢; exact hk9)
              · refine v_iconst (pc := 62) (dk dt_X12_write 29 rfl) ⟨by decide, by decide⟩ ?_
                refine v_goto (pc := 63) (tgt := 67) (dk dt_X12_write 30 rfl) (by decide) ?_
                exact v_less2 (ls' := [some (rv l0), some (iv l1), some (iv l2), some (iv l3), some (iv l4), some (iv l5), none]) ⟨rfl, rfl, rfl, rfl, rfl, rfl, trivial⟩ (by have hk9 := k23; try simp only [if_neg c2] at hk9 ⊢; try simp only [if_neg c4] at hk9 ⊢; try simp only [if_neg c6] at hk9 ⊢; try simp only [if_neg c9] at hk9 ⊢; try simp only [if_neg c10] at hk9 ⊢; try simp only [if_neg c12] at hk9 ⊢; exact hk9)
  refine v_istore (pc := 67) (ls' := [some (rv l0), some (iv l1), some (iv l2), some (iv l3), some (iv l4), some (iv l5), some (iv (if (wIn l1 0 6) = 0 then (0 : Int) else (if (wIn l2 0 6) = 0 then (0 : Int) else (if (wIn l3 0 6) = 0 then (0 : Int) else (if (wIn l4 0 (gfd G 12 1 l0)) = 0 then (0 : Int) else (if l5 = (-2147483648) then (1 : Int) else (if (wIn l5 (-1000000) 1000000) = 0 then (0 : Int) else 1)))))))]) (dk dt_X12_write 32 rfl) (Nat.le_of_ble_eq_true rfl) rfl ?_
  refine v_aload_n (pc := 69) (dk dt_X12_write 33 rfl) rfl rfl ?_
  refine v_iload (pc := 70) (dk dt_X12_write 34 rfl) rfl ?_
  suffices k24 : V E M_X12_write 80 [some (rv l0), some (iv l1), some (iv l2), some (iv l3), some (iv l4), some (iv l5), none] [iv (if (if (wIn l1 0 6) = 0 then (0 : Int) else (if (wIn l2 0 6) = 0 then (0 : Int) else (if (wIn l3 0 6) = 0 then (0 : Int) else (if (wIn l4 0 (gfd G 12 1 l0)) = 0 then (0 : Int) else (if l5 = (-2147483648) then (1 : Int) else (if (wIn l5 (-1000000) 1000000) = 0 then (0 : Int) else 1)))))) = 0 then (1 : Int) else 0), rv l0] G c s Q X by
    refine v_if_eq (pc := 72) (tgt := 79) (dk dt_X12_write 35 rfl) (by decide) (fun c13 => ?_) (fun c13 => ?_)
    · refine v_iconst (pc := 79) (dk dt_X12_write 38 rfl) ⟨by decide, by decide⟩ ?_
      exact v_less2 (ls' := [some (rv l0), some (iv l1), some (iv l2), some (iv l3), some (iv l4), some (iv l5), none]) ⟨rfl, rfl, rfl, rfl, rfl, rfl, trivial⟩ (by have hk9 := k24; try simp only [if_pos c13] at hk9 ⊢; exact hk9)
    · refine v_iconst (pc := 75) (dk dt_X12_write 36 rfl) ⟨by decide, by decide⟩ ?_
      refine v_goto (pc := 76) (tgt := 80) (dk dt_X12_write 37 rfl) (by decide) ?_
      exact v_less2 (ls' := [some (rv l0), some (iv l1), some (iv l2), some (iv l3), some (iv l4), some (iv l5), none]) ⟨rfl, rfl, rfl, rfl, rfl, rfl, trivial⟩ (by have hk9 := k24; try simp only [if_neg c13] at hk9 ⊢; exact hk9)
  obtain ⟨v14, h⟩ := h
  refine v_putI (pc := 80) (dk dt_X12_write 39 rfl) fl_X12_127 (Or.inl rfl) v14 ?_
  generalize hG15 : (sfd G 12 0 l0 (if (if (wIn l1 0 6) = 0 then (0 : Int) else (if (wIn l2 0 6) = 0 then (0 : Int) else (if (wIn l3 0 6) = 0 then (0 : Int) else (if (wIn l4 0 (gfd G 12 1 l0)) = 0 then (0 : Int) else (if l5 = (-2147483648) then (1 : Int) else (if (wIn l5 (-1000000) 1000000) = 0 then (0 : Int) else 1)))))) = 0 then (1 : Int) else 0)) = G15
  replace h := h G15 hG15.symm
  refine v_aload_n (pc := 83) (dk dt_X12_write_1 0 rfl) rfl rfl ?_
  obtain ⟨v16, h⟩ := h
  refine v_getI (pc := 84) (dk dt_X12_write_1 1 rfl) fl_X12_127 v16 (fun _ => ?_)
  refine v_if_le (pc := 87) (tgt := 94) (dk dt_X12_write_1 2 rfl) (by decide) (fun c17 => ?_) (fun c17 => ?_)
  · replace h := h.1 c17
    refine v_aload_n (pc := 94) (dk dt_X12_write_1 5 rfl) rfl rfl ?_
    refine v_iload_n (pc := 95) (dk dt_X12_write_1 6 rfl) rfl rfl ?_
    refine v_iload_n (pc := 96) (dk dt_X12_write_1 7 rfl) rfl rfl ?_
    refine v_iload_n (pc := 97) (dk dt_X12_write_1 8 rfl) rfl rfl ?_
    refine v_iload (pc := 98) (dk dt_X12_write_1 9 rfl) rfl ?_
    refine v_iload (pc := 100) (dk dt_X12_write_1 10 rfl) rfl ?_
    obtain ⟨v18, h⟩ := h
    refine v_cvI (c := 12) (As := [iv l1, iv l2, iv l3, iv l4, iv l5]) (stk := []) (pc := 102) (dk dt_X12_write_1 11 rfl) ml_X12_182 rfl rfl (Nat.le_of_ble_eq_true rfl) rfl ⟨by decide, rfl⟩ v18 rfl (Call.mono h (fun r19 G20 c21 s22 h => ?_))
    exact v_iret (pc := 105) (dk dt_X12_write_1 12 rfl) rfl h
  · replace h := h.2 c17
    refine v_iconst (pc := 90) (dk dt_X12_write_1 3 rfl) ⟨by decide, by decide⟩ ?_
    refine v_goto (pc := 91) (tgt := 105) (dk dt_X12_write_1 4 rfl) (by decide) ?_
    exact v_iret (pc := 105) (dk dt_X12_write_1 12 rfl) rfl h
set_option maxRecDepth 20000 in
theorem i_X12_write {E : EE} {l0 l1 l2 l3 l4 l5 : Int} {G : Gt} {c s : Nat} {Q X : Int → Gt → Prop} (h : (OkP E M_X12_in [iv l1, iv 0, iv 6] G (wIn l1 0 6) ∧ ((wIn l1 0 6) ≠ 0 → OkP E M_X12_in [iv l2, iv 0, iv 6] G (wIn l2 0 6)) ∧ ((wIn l1 0 6) ≠ 0 → (wIn l2 0 6) ≠ 0 → OkP E M_X12_in [iv l3, iv 0, iv 6] G (wIn l3 0 6)) ∧ ((wIn l1 0 6) ≠ 0 → (wIn l2 0 6) ≠ 0 → (wIn l3 0 6) ≠ 0 → gcl G l0 = 13) ∧ ((wIn l1 0 6) ≠ 0 → (wIn l2 0 6) ≠ 0 → (wIn l3 0 6) ≠ 0 → OkP E M_X12_in [iv l4, iv 0, iv (gfd G 12 1 l0)] G (wIn l4 0 (gfd G 12 1 l0))) ∧ ((wIn l1 0 6) ≠ 0 → (wIn l2 0 6) ≠ 0 → (wIn l3 0 6) ≠ 0 → (wIn l4 0 (gfd G 12 1 l0)) ≠ 0 → l5 ≠ (-2147483648) → OkP E M_X12_in [iv l5, iv (-1000000), iv 1000000] G (wIn l5 (-1000000) 1000000)) ∧ gcl G l0 = 13 ∧ ∀ G15 : Gt, G15 = (sfd G 12 0 l0 (if (if (wIn l1 0 6) = 0 then (0 : Int) else (if (wIn l2 0 6) = 0 then (0 : Int) else (if (wIn l3 0 6) = 0 then (0 : Int) else (if (wIn l4 0 (gfd G 12 1 l0)) = 0 then (0 : Int) else (if l5 = (-2147483648) then (1 : Int) else (if (wIn l5 (-1000000) 1000000) = 0 then (0 : Int) else 1)))))) = 0 then (1 : Int) else 0)) → gcl G15 l0 = 13 ∧ (((gfd G15 12 0 l0) ≤ 0 → (gcl G15 l0 = 13 ∧ Call E M_X12_take [rv l0, iv l1, iv l2, iv l3, iv l4, iv l5] G15 c s X (fun r19 G20 c21 s22 => Q r19 G20))) ∧ (0 < (gfd G15 12 0 l0) → Q 0 G15)))) : Ok E M_X12_write [rv l0, iv l1, iv l2, iv l3, iv l4, iv l5] G c s Q X := Ok.intro (k := 1) rfl rfl (Nat.le_of_ble_eq_true rfl) rfl (b_X12_write_0 h)
set_option maxRecDepth 20000 in
theorem b_X12_series_0 {E : EE} {l0 : Int} {G : Gt} {c s : Nat} {Q X : Int → Gt → Prop} (h : (gcl G l0 = 13 ∧ ∀ G2 : Gt, G2 = (sfd G 12 0 l0 0) → gcl G2 l0 = 13 ∧ Q (gfd G2 12 6 l0) G2)) : V E M_X12_series 0 [some (rv l0)] [] G c s Q X := by
  refine v_aload_n (pc := 0) (dk dt_X12_series 0 rfl) rfl rfl ?_
  refine v_iconst (pc := 1) (dk dt_X12_series 1 rfl) ⟨by decide, by decide⟩ ?_
  obtain ⟨v1, h⟩ := h
  refine v_putI (pc := 2) (dk dt_X12_series 2 rfl) fl_X12_127 (Or.inl rfl) v1 ?_
  generalize hG2 : (sfd G 12 0 l0 0) = G2
  replace h := h G2 hG2.symm
  refine v_aload_n (pc := 5) (dk dt_X12_series 3 rfl) rfl rfl ?_
  obtain ⟨v3, h⟩ := h
  refine v_getI (pc := 6) (dk dt_X12_series 4 rfl) fl_X12_142 v3 (fun _ => ?_)
  exact v_iret (pc := 9) (dk dt_X12_series 5 rfl) rfl h
set_option maxRecDepth 20000 in
theorem i_X12_series {E : EE} {l0 : Int} {G : Gt} {c s : Nat} {Q X : Int → Gt → Prop} (h : (gcl G l0 = 13 ∧ ∀ G2 : Gt, G2 = (sfd G 12 0 l0 0) → gcl G2 l0 = 13 ∧ Q (gfd G2 12 6 l0) G2)) : Ok E M_X12_series [rv l0] G c s Q X := Ok.intro (k := 0) rfl rfl (Nat.le_of_ble_eq_true rfl) rfl (b_X12_series_0 h)
set_option maxRecDepth 20000 in
theorem b_X12_isSeries_0 {E : EE} {l0 l1 : Int} {G : Gt} {c s : Nat} {Q X : Int → Gt → Prop} (h : (gcl G l0 = 13 ∧ i32 ((gfd G 12 6 l0) - 1) ∧ OkP E M_X12_in [iv l1, iv 0, iv ((gfd G 12 6 l0) - 1)] G (wIn l1 0 ((gfd G 12 6 l0) - 1)) ∧ ((wIn l1 0 ((gfd G 12 6 l0) - 1)) = 0 ∨ (wIn l1 0 ((gfd G 12 6 l0) - 1)) = 1) ∧ Q (wIn l1 0 ((gfd G 12 6 l0) - 1)) G)) : V E M_X12_isSeries 0 [some (rv l0), some (iv l1)] [] G c s Q X := by
  refine v_iload_n (pc := 0) (dk dt_X12_isSeries 0 rfl) rfl rfl ?_
  refine v_iconst (pc := 1) (dk dt_X12_isSeries 1 rfl) ⟨by decide, by decide⟩ ?_
  refine v_aload_n (pc := 2) (dk dt_X12_isSeries 2 rfl) rfl rfl ?_
  obtain ⟨v1, h⟩ := h
  refine v_getI (pc := 3) (dk dt_X12_isSeries 3 rfl) fl_X12_142 v1 (fun _ => ?_)
  refine v_iconst (pc := 6) (dk dt_X12_isSeries 4 rfl) ⟨by decide, by decide⟩ ?_
  obtain ⟨v2, h⟩ := h
  refine v_isub (pc := 7) (dk dt_X12_isSeries 5 rfl) v2 ?_
  obtain ⟨v3, h⟩ := h
  refine v_csPZ (v := (wIn l1 0 ((gfd G 12 6 l0) - 1))) (As := [iv l1, iv 0, iv ((gfd G 12 6 l0) - 1)]) (stk := []) (pc := 8) (dk dt_X12_isSeries 6 rfl) ml_X12_172 rfl rfl (Nat.le_of_ble_eq_true rfl) rfl rfl v3 ?_
  obtain ⟨v4, h⟩ := h
  exact v_zret (pc := 11) (dk dt_X12_isSeries 7 rfl) rfl v4 h
set_option maxRecDepth 20000 in
theorem i_X12_isSeries {E : EE} {l0 l1 : Int} {G : Gt} {c s : Nat} {Q X : Int → Gt → Prop} (h : (gcl G l0 = 13 ∧ i32 ((gfd G 12 6 l0) - 1) ∧ OkP E M_X12_in [iv l1, iv 0, iv ((gfd G 12 6 l0) - 1)] G (wIn l1 0 ((gfd G 12 6 l0) - 1)) ∧ ((wIn l1 0 ((gfd G 12 6 l0) - 1)) = 0 ∨ (wIn l1 0 ((gfd G 12 6 l0) - 1)) = 1) ∧ Q (wIn l1 0 ((gfd G 12 6 l0) - 1)) G)) : Ok E M_X12_isSeries [rv l0, iv l1] G c s Q X := Ok.intro (k := 0) rfl rfl (Nat.le_of_ble_eq_true rfl) rfl (b_X12_isSeries_0 h)
set_option maxRecDepth 20000 in
theorem b_X12_labels_0 {E : EE} {l0 l1 : Int} {G : Gt} {c s : Nat} {Q X : Int → Gt → Prop} (h : (gcl G l0 = 13 ∧ OkP E M_X12_isSeries [rv l0, iv l1] G (wIn l1 0 (gfd G 12 6 l0 - 1)) ∧ gcl G l0 = 13 ∧ ∀ G5 : Gt, G5 = (sfd G 12 0 l0 (if (wIn l1 0 (gfd G 12 6 l0 - 1)) = 0 then (1 : Int) else 0)) → gcl G5 l0 = 13 ∧ ((gfd G5 12 0 l0) ≤ 0 → gcl G5 l0 = 13) ∧ ((gfd G5 12 0 l0) ≤ 0 → OkP E M_X12_codeOfSeries [rv l0, iv l1] G5 (mCode G5 l0 l1)) ∧ Q (if (gfd G5 12 0 l0) ≤ 0 then ((mCode G5 l0 l1) : Int) else 0) G5)) : V E M_X12_labels 0 [some (rv l0), some (iv l1)] [] G c s Q X := by
  refine v_aload_n (pc := 0) (dk dt_X12_labels 0 rfl) rfl rfl ?_
  refine v_aload_n (pc := 1) (dk dt_X12_labels 1 rfl) rfl rfl ?_
  refine v_iload_n (pc := 2) (dk dt_X12_labels 2 rfl) rfl rfl ?_
  obtain ⟨v1, h⟩ := h
  obtain ⟨v2, h⟩ := h
  refine v_cvPZ (c := 12) (v := (wIn l1 0 (gfd G 12 6 l0 - 1))) (As := [iv l1]) (stk := [rv l0]) (pc := 3) (dk dt_X12_labels 3 rfl) ml_X12_186 rfl rfl (Nat.le_of_ble_eq_true rfl) rfl ⟨by decide, rfl⟩ v1 rfl v2 ?_
  suffices k10 : V E M_X12_labels 14 [some (rv l0), some (iv l1)] [iv (if (wIn l1 0 (gfd G 12 6 l0 - 1)) = 0 then (1 : Int) else 0), rv l0] G c s Q X by
    refine v_if_eq (pc := 6) (tgt := 13) (dk dt_X12_labels 4 rfl) (by decide) (fun c3 => ?_) (fun c3 => ?_)
    · refine v_iconst (pc := 13) (dk dt_X12_labels 7 rfl) ⟨by decide, by decide⟩ ?_
      exact v_less2 (ls' := [some (rv l0), some (iv l1)]) ⟨rfl, rfl, trivial⟩ (by have hk9 := k10; try simp only [if_pos c3] at hk9 ⊢; exact hk9)
    · refine v_iconst (pc := 9) (dk dt_X12_labels 5 rfl) ⟨by decide, by decide⟩ ?_
      refine v_goto (pc := 10) (tgt := 14) (dk dt_X12_labels 6 rfl) (by decide) ?_
      exact v_less2 (ls' := [some (rv l0), some (iv l1)]) ⟨rfl, rfl, trivial⟩ (by have hk9 := k10; try simp only [if_neg c3] at hk9 ⊢; exact hk9)
  obtain ⟨v4, h⟩ := h
  refine v_putI (pc := 14) (dk dt_X12_labels 8 rfl) fl_X12_127 (Or.inl rfl) v4 ?_
  generalize hG5 : (sfd G 12 0 l0 (if (wIn l1 0 (gfd G 12 6 l0 - 1)) = 0 then (1 : Int) else 0)) = G5
  replace h := h G5 hG5.symm
  refine v_aload_n (pc := 17) (dk dt_X12_labels 9 rfl) rfl rfl ?_
  obtain ⟨v6, h⟩ := h
  refine v_getI (pc := 18) (dk dt_X12_labels 10 rfl) fl_X12_127 v6 (fun _ => ?_)
  obtain ⟨v8, v9, h⟩ := h
  suffices k11 : V E M_X12_labels 33 [none, none] [iv (if (gfd G5 12 0 l0) ≤ 0 then ((mCode G5 l0 l1) : Int) else 0)] G5 c s Q X by
    refine v_if_le (pc := 21) (tgt := 28) (dk dt_X12_labels 11 rfl) (by decide) (fun c7 => ?_) (fun c7 => ?_)
    · refine v_aload_n (pc := 28) (dk dt_X12_labels 14 rfl) rfl rfl ?_
      refine v_iload_n (pc := 29) (dk dt_X12_labels 15 rfl) rfl rfl ?_
      refine v_cvPI (c := 12) (v := (mCode G5 l0 l1)) (As := [iv l1]) (stk := []) (pc := 30) (dk dt_X12_labels 16 rfl) ml_X12_134 rfl rfl (Nat.le_of_ble_eq_true rfl) rfl ⟨by decide, rfl⟩ (v8 c7) rfl (v9 c7) ?_
      exact v_less2 (ls' := [none, none]) trivial (by have hk9 := k11; try simp only [if_pos c7] at hk9 ⊢; exact hk9)
    · refine v_iconst (pc := 24) (dk dt_X12_labels 12 rfl) ⟨by decide, by decide⟩ ?_
      refine v_goto (pc := 25) (tgt := 33) (dk dt_X12_labels 13 rfl) (by decide) ?_
      exact v_less2 (ls' := [none, none]) trivial (by have hk9 := k11; try simp only [if_neg (Int.not_le.mpr c7)] at hk9 ⊢; exact hk9)
  exact v_iret (pc := 33) (dk dt_X12_labels 17 rfl) rfl h
set_option maxRecDepth 20000 in
theorem i_X12_labels {E : EE} {l0 l1 : Int} {G : Gt} {c s : Nat} {Q X : Int → Gt → Prop} (h : (gcl G l0 = 13 ∧ OkP E M_X12_isSeries [rv l0, iv l1] G (wIn l1 0 (gfd G 12 6 l0 - 1)) ∧ gcl G l0 = 13 ∧ ∀ G5 : Gt, G5 = (sfd G 12 0 l0 (if (wIn l1 0 (gfd G 12 6 l0 - 1)) = 0 then (1 : Int) else 0)) → gcl G5 l0 = 13 ∧ ((gfd G5 12 0 l0) ≤ 0 → gcl G5 l0 = 13) ∧ ((gfd G5 12 0 l0) ≤ 0 → OkP E M_X12_codeOfSeries [rv l0, iv l1] G5 (mCode G5 l0 l1)) ∧ Q (if (gfd G5 12 0 l0) ≤ 0 then ((mCode G5 l0 l1) : Int) else 0) G5)) : Ok E M_X12_labels [rv l0, iv l1] G c s Q X := Ok.intro (k := 0) rfl rfl (Nat.le_of_ble_eq_true rfl) rfl (b_X12_labels_0 h)
set_option maxRecDepth 20000 in
theorem b_X12_samples_0 {E : EE} {l0 l1 : Int} {G : Gt} {c s : Nat} {Q X : Int → Gt → Prop} (h : (gcl G l0 = 13 ∧ OkP E M_X12_isSeries [rv l0, iv l1] G (wIn l1 0 (gfd G 12 6 l0 - 1)) ∧ gcl G l0 = 13 ∧ ∀ G5 : Gt, G5 = (sfd G 12 0 l0 (if (wIn l1 0 (gfd G 12 6 l0 - 1)) = 0 then (1 : Int) else 0)) → V E M_X12_samples 21 [some (rv l0), some (iv l1), some (iv 0), some (iv 0)] [] G5 c s Q X)) : V E M_X12_samples 0 [some (rv l0), some (iv l1), none, none] [] G c s Q X := by
  refine v_aload_n (pc := 0) (dk dt_X12_samples 0 rfl) rfl rfl ?_
  refine v_aload_n (pc := 1) (dk dt_X12_samples 1 rfl) rfl rfl ?_
  refine v_iload_n (pc := 2) (dk dt_X12_samples 2 rfl) rfl rfl ?_
  obtain ⟨v1, h⟩ := h
  obtain ⟨v2, h⟩ := h
  refine v_cvPZ (c := 12) (v := (wIn l1 0 (gfd G 12 6 l0 - 1))) (As := [iv l1]) (stk := [rv l0]) (pc := 3) (dk dt_X12_samples 3 rfl) ml_X12_186 rfl rfl (Nat.le_of_ble_eq_true rfl) rfl ⟨by decide, rfl⟩ v1 rfl v2 ?_
  suffices k6 : V E M_X12_samples 14 [some (rv l0), some (iv l1), none, none] [iv (if (wIn l1 0 (gfd G 12 6 l0 - 1)) = 0 then (1 : Int) else 0), rv l0] G c s Q X by
    refine v_if_eq (pc := 6) (tgt := 13) (dk dt_X12_samples 4 rfl) (by decide) (fun c3 => ?_) (fun c3 => ?_)
    · refine v_iconst (pc := 13) (dk dt_X12_samples 7 rfl) ⟨by decide, by decide⟩ ?_
      exact v_less2 (ls' := [some (rv l0), some (iv l1), none, none]) ⟨rfl, rfl, trivial⟩ (by have hk9 := k6; try simp only [if_pos c3] at hk9 ⊢; exact hk9)
    · refine v_iconst (pc := 9) (dk dt_X12_samples 5 rfl) ⟨by decide, by decide⟩ ?_
      refine v_goto (pc := 10) (tgt := 14) (dk dt_X12_samples 6 rfl) (by decide) ?_
      exact v_less2 (ls' := [some (rv l0), some (iv l1), none, none]) ⟨rfl, rfl, trivial⟩ (by have hk9 := k6; try simp only [if_neg c3] at hk9 ⊢; exact hk9)
  obtain ⟨v4, h⟩ := h
  refine v_putI (pc := 14) (dk dt_X12_samples 8 rfl) fl_X12_127 (Or.inl rfl) v4 ?_
  generalize hG5 : (sfd G 12 0 l0 (if (wIn l1 0 (gfd G 12 6 l0 - 1)) = 0 then (1 : Int) else 0)) = G5
  replace h := h G5 hG5.symm
  refine v_iconst (pc := 17) (dk dt_X12_samples 9 rfl) ⟨by decide, by decide⟩ ?_
  refine v_istore_n (pc := 18) (ls' := [some (rv l0), some (iv l1), some (iv 0), none]) (dk dt_X12_samples 10 rfl) rfl (Nat.le_of_ble_eq_true rfl) rfl ?_
  refine v_iconst (pc := 19) (dk dt_X12_samples 11 rfl) ⟨by decide, by decide⟩ ?_
  refine v_istore_n (pc := 20) (ls' := [some (rv l0), some (iv l1), some (iv 0), some (iv 0)]) (dk dt_X12_samples 12 rfl) rfl (Nat.le_of_ble_eq_true rfl) rfl ?_
  exact h
set_option maxRecDepth 20000 in
theorem i_X12_samples {E : EE} {l0 l1 : Int} {G : Gt} {c s : Nat} {Q X : Int → Gt → Prop} (h : (gcl G l0 = 13 ∧ OkP E M_X12_isSeries [rv l0, iv l1] G (wIn l1 0 (gfd G 12 6 l0 - 1)) ∧ gcl G l0 = 13 ∧ ∀ G5 : Gt, G5 = (sfd G 12 0 l0 (if (wIn l1 0 (gfd G 12 6 l0 - 1)) = 0 then (1 : Int) else 0)) → V E M_X12_samples 21 [some (rv l0), some (iv l1), some (iv 0), some (iv 0)] [] G5 c s Q X)) : Ok E M_X12_samples [rv l0, iv l1] G c s Q X := Ok.intro (k := 2) rfl rfl (Nat.le_of_ble_eq_true rfl) rfl (b_X12_samples_0 h)
set_option maxRecDepth 20000 in
theorem b_X12_samples_21 {E : EE} {l0 l1 l2 l3 : Int} {G : Gt} {c s : Nat} {Q X : Int → Gt → Prop} (h : (gcl G l0 = 13 ∧ (((gfd G 12 12 l0) ≤ l3 → (gcl G l0 = 13 ∧ Q (if (gfd G 12 0 l0) ≤ 0 then (l2 : Int) else 0) G)) ∧ (l3 < (gfd G 12 12 l0) → (gcl G l0 = 13 ∧ OkP E M_X12_isSeen [rv l0, iv l3] G (mSeen G l0 l3) ∧ ((mSeen G l0 l3) ≠ 0 → gcl G l0 = 13) ∧ ((mSeen G l0 l3) ≠ 0 → gcl G (gfd G 12 7 l0) = 15) ∧ ((mSeen G l0 l3) ≠ 0 → 0 ≤ l3) ∧ ((mSeen G l0 l3) ≠ 0 → l3 < gln G (gfd G 12 7 l0)) ∧ i32 (l2 + (if (mSeen G l0 l3) = 0 then (0 : Int) else (if (gel G (gfd G 12 7 l0) l3) = l1 then (1 : Int) else 0))) ∧ i32 (l3 + 1) ∧ V E M_X12_samples 21 [some (rv l0), some (iv l1), some (iv (l2 + (if (mSeen G l0 l3) = 0 then (0 : Int) else (if (gel G (gfd G 12 7 l0) l3) = l1 then (1 : Int) else 0)))), some (iv (l3 + 1))] [] G c s Q X))))) : V E M_X12_samples 21 [some (rv l0), some (iv l1), some (iv l2), some (iv l3)] [] G c s Q X := by
  refine v_iload_n (pc := 21) (dk dt_X12_samples 13 rfl) rfl rfl ?_
  refine v_aload_n (pc := 22) (dk dt_X12_samples 14 rfl) rfl rfl ?_
  obtain ⟨v1, h⟩ := h
  refine v_getI (pc := 23) (dk dt_X12_samples 15 rfl) fl_X12_154 v1 (fun _ => ?_)
  refine v_icmp_ge (pc := 26) (tgt := 61) (dk dt_X12_samples 16 rfl) (by decide) (fun c2 => ?_) (fun c2 => ?_)
  · replace h := h.1 c2
    refine v_aload_n (pc := 61) (dk dt_X12_samples 35 rfl) rfl rfl ?_
    obtain ⟨v3, h⟩ := h
    refine v_getI (pc := 62) (dk dt_X12_samples 36 rfl) fl_X12_127 v3 (fun _ => ?_)
    suffices k15 : V E M_X12_samples 73 [none, none, none, none] [iv (if (gfd G 12 0 l0) ≤ 0 then (l2 : Int) else 0)] G c s Q X by
      refine v_if_le (pc := 65) (tgt := 72) (dk dt_X12_samples 37 rfl) (by decide) (fun c4 => ?_) (fun c4 => ?_)
      · refine v_iload_n (pc := 72) (dk dt_X12_samples_1 0 rfl) rfl rfl ?_
        exact v_less2 (ls' := [none, none, none, none]) trivial (by have hk9 := k15; try simp only [if_pos c4] at hk9 ⊢; exact hk9)
      · refine v_iconst (pc := 68) (dk dt_X12_samples 38 rfl) ⟨by decide, by decide⟩ ?_
        refine v_goto (pc := 69) (tgt := 73) (dk dt_X12_samples 39 rfl) (by decide) ?_
        exact v_less2 (ls' := [none, none, none, none]) trivial (by have hk9 := k15; try simp only [if_neg (Int.not_le.mpr c4)] at hk9 ⊢; exact hk9)
    exact v_iret (pc := 73) (dk dt_X12_samples_1 1 rfl) rfl h
  · replace h := h.2 c2
    refine v_iload_n (pc := 29) (dk dt_X12_samples 17 rfl) rfl rfl ?_
    refine v_aload_n (pc := 30) (dk dt_X12_samples 18 rfl) rfl rfl ?_
    refine v_iload_n (pc := 31) (dk dt_X12_samples 19 rfl) rfl rfl ?_
    obtain ⟨v5, h⟩ := h
    obtain ⟨v6, h⟩ := h
    refine v_cvPZ (c := 12) (v := (mSeen G l0 l3)) (As := [iv l3]) (stk := [iv l2]) (pc := 32) (dk dt_X12_samples 20 rfl) ml_X12_157 rfl rfl (Nat.le_of_ble_eq_true rfl) rfl ⟨by decide, rfl⟩ v5 rfl v6 ?_
    obtain ⟨v8, v9, v10, v11, h⟩ := h
    suffices k16 : V E M_X12_samples 53 [some (rv l0), some (iv l1), none, some (iv l3)] [iv (if (mSeen G l0 l3) = 0 then (0 : Int) else (if (gel G (gfd G 12 7 l0) l3) = l1 then (1 : Int) else 0)), iv l2] G c s Q X by
      refine v_if_eq (pc := 35) (tgt := 52) (dk dt_X12_samples 21 rfl) (by decide) (fun c7 => ?_) (fun c7 => ?_)
      · refine v_iconst (pc := 52) (dk dt_X12_samples 30 rfl) ⟨by decide, by decide⟩ ?_
        exact v_less2 (ls' := [some (rv l0), some (iv l1), none, some (iv l3)]) ⟨rfl, rfl, rfl, trivial⟩ (by have hk9 := k16; try simp only [if_pos c7] at hk9 ⊢; exact hk9)
      · refine v_aload_n (pc := 38) (dk dt_X12_samples 22 rfl) rfl rfl ?_
        refine v_getR (pc := 39) (dk dt_X12_samples 23 rfl) fl_X12_26 (v8 c7) (fun _ => ?_)
        refine v_iload_n (pc := 42) (dk dt_X12_samples 24 rfl) rfl rfl ?_
        refine v_iald (pc := 43) (dk dt_X12_samples 25 rfl) (Or.inl (v9 c7)) (v10 c7) (v11 c7) (fun _ => ?_)
        refine v_iload_n (pc := 44) (dk dt_X12_samples 26 rfl) rfl rfl ?_
        refine v_icmp_ne (pc := 45) (tgt := 52) (dk dt_X12_samples 27 rfl) (by decide) (fun c12 => ?_) (fun c12 => ?_)
        · refine v_iconst (pc := 52) (dk dt_X12_samples 30 rfl) ⟨by decide, by decide⟩ ?_
          exact v_less2 (ls' := [some (rv l0), some (iv l1), none, some (iv l3)]) ⟨rfl, rfl, rfl, trivial⟩ (by have hk9 := k16; try simp only [if_neg c7] at hk9 ⊢; try simp only [if_neg c12] at hk9 ⊢; exact hk9)
        · refine v_iconst (pc := 48) (dk dt_X12_samples 28 rfl) ⟨by decide, by decide⟩ ?_
          refine v_goto (pc := 49) (tgt := 53) (dk dt_X12_samples 29 rfl) (by decide) ?_
          exact v_less2 (ls' := [some (rv l0), some (iv l1), none, some (iv l3)]) ⟨rfl, rfl, rfl, trivial⟩ (by have hk9 := k16; try simp only [if_neg c7] at hk9 ⊢; try simp only [if_pos c12] at hk9 ⊢; exact hk9)
    obtain ⟨v13, h⟩ := h
    refine v_iadd (pc := 53) (dk dt_X12_samples 31 rfl) v13 ?_
    refine v_istore_n (pc := 54) (ls' := [some (rv l0), some (iv l1), some (iv (l2 + (if (mSeen G l0 l3) = 0 then (0 : Int) else (if (gel G (gfd G 12 7 l0) l3) = l1 then (1 : Int) else 0)))), some (iv l3)]) (dk dt_X12_samples 32 rfl) rfl (Nat.le_of_ble_eq_true rfl) rfl ?_
    obtain ⟨v14, h⟩ := h
    refine v_iinc (pc := 55) (ls' := [some (rv l0), some (iv l1), some (iv (l2 + (if (mSeen G l0 l3) = 0 then (0 : Int) else (if (gel G (gfd G 12 7 l0) l3) = l1 then (1 : Int) else 0)))), some (iv (l3 + 1))]) (dk dt_X12_samples 33 rfl) (Nat.le_of_ble_eq_true rfl) rfl v14 rfl ?_
    refine v_goto (pc := 58) (tgt := 21) (dk dt_X12_samples 34 rfl) (by decide) ?_
    exact h
set_option maxRecDepth 20000 in
theorem b_X12_erase_0 {E : EE} {l0 l1 l2 l3 : Int} {G : Gt} {c s : Nat} {Q X : Int → Gt → Prop} (h : (OkP E M_X12_in [iv l1, iv 0, iv 3] G (wIn l1 0 3) ∧ ((wIn l1 0 3) ≠ 0 → OkP E M_X12_in [iv l2, iv 0, iv 100000] G (wIn l2 0 100000)) ∧ ((wIn l1 0 3) ≠ 0 → (wIn l2 0 100000) ≠ 0 → OkP E M_X12_in [iv l3, iv l2, iv 100000] G (wIn l3 l2 100000)) ∧ gcl G l0 = 13 ∧ ∀ G8 : Gt, G8 = (sfd G 12 0 l0 (if (wIn l1 0 3) = 0 then (1 : Int) else (if (wIn l2 0 100000) = 0 then (2 : Int) else (if (wIn l3 l2 100000) = 0 then (2 : Int) else 0)))) → gcl G8 l0 = 13 ∧ (((gfd G8 12 0 l0) ≤ 0 → (gcl G8 l0 = 13 ∧ i32 ((gfd G8 12 15 l0) + 1) ∧ gcl G8 l0 = 13 ∧ ∀ G14 : Gt, G14 = (sfd G8 12 15 l0 ((gfd G8 12 15 l0) + 1)) → gcl G14 l0 = 13 ∧ gcl G14 l0 = 13 ∧ 15 ≤ gcl G14 (gfd G14 12 13 l0) ∧ ∀ J18 : Int → Gt → Nat → Nat → Prop, (∀ (x19 : Int) (G20 : Gt) (c21 s22 : Nat), (gcl G20 l0 = 13 ∧ ∀ G24 : Gt, G24 = (sfd G20 12 13 l0 x19) → gcl G24 l0 = 13 ∧ gcl G24 l0 = 13 ∧ gcl G24 l0 = 13 ∧ gcl G24 (gfd G24 12 13 l0) = 15 ∧ 0 ≤ (gfd G24 12 14 l0) ∧ (gfd G24 12 14 l0) < gln G24 (gfd G24 12 13 l0) ∧ ∀ G31 : Gt, G31 = (sel G24 (gfd G24 12 13 l0) (gfd G24 12 14 l0) (gfd G24 12 15 l0)) → gcl G31 l0 = 13 ∧ i32 ((gfd G31 12 14 l0) + 1) ∧ gcl G31 l0 = 13 ∧ ∀ G35 : Gt, G35 = (sfd G31 12 14 l0 ((gfd G31 12 14 l0) + 1)) → V E M_X12_erase 120 [some (rv l0), some (iv l1), some (iv l2), some (iv l3), some (iv 0), some (iv 0)] [] G35 c21 s22 Q X) → J18 x19 G20 c21 s22) → (((gfd G14 12 14 l0) ≠ (gln G14 (gfd G14 12 13 l0)) → (gcl G14 l0 = 13 ∧ J18 (gfd G14 12 13 l0) G14 c s)) ∧ ((gfd G14 12 14 l0) = (gln G14 (gfd G14 12 13 l0)) → (gcl G14 l0 = 13 ∧ Call E M_X12_longer [rv (gfd G14 12 13 l0)] G14 c s X (fun r39 G40 c41 s42 => J18 r39 G40 c41 s42)))))) ∧ (0 < (gfd G8 12 0 l0) → Q 0 G8)))) : V E M_X12_erase 0 [some (rv l0), some (iv l1), some (iv l2), some (iv l3), none, none] [] G c s Q X := by
  refine v_aload_n (pc := 0) (dk dt_X12_erase 0 rfl) rfl rfl ?_
  refine v_iload_n (pc := 1) (dk dt_X12_erase 1 rfl) rfl rfl ?_
  refine v_iconst (pc := 2) (dk dt_X12_erase 2 rfl) ⟨by decide, by decide⟩ ?_
  refine v_iconst (pc := 3) (dk dt_X12_erase 3 rfl) ⟨by decide, by decide⟩ ?_
  obtain ⟨v1, h⟩ := h
  refine v_csPZ (v := (wIn l1 0 3)) (As := [iv l1, iv 0, iv 3]) (stk := [rv l0]) (pc := 4) (dk dt_X12_erase 4 rfl) ml_X12_172 rfl rfl (Nat.le_of_ble_eq_true rfl) rfl rfl v1 ?_
  obtain ⟨v3, v5, h⟩ := h
  suffices k43 : V E M_X12_erase 39 [some (rv l0), some (iv l1), some (iv l2), some (iv l3), none, none] [iv (if (wIn l1 0 3) = 0 then (1 : Int) else (if (wIn l2 0 100000) = 0 then (2 : Int) else (if (wIn l3 l2 100000) = 0 then (2 : Int) else 0))), rv l0] G c s Q X by
    refine v_if_ne (pc := 7) (tgt := 14) (dk dt_X12_erase 5 rfl) (by decide) (fun c2 => ?_) (fun c2 => ?_)
    · refine v_iload_n (pc := 14) (dk dt_X12_erase 8 rfl) rfl rfl ?_
      refine v_iconst (pc := 15) (dk dt_X12_erase 9 rfl) ⟨by decide, by decide⟩ ?_
      refine v_ldc (pc := 16) (dk dt_X12_erase 10 rfl) co_X12_189 ⟨by decide, by decide⟩ ?_
      refine v_csPZ (v := (wIn l2 0 100000)) (As := [iv l2, iv 0, iv 100000]) (stk := [rv l0]) (pc := 18) (dk dt_X12_erase 11 rfl) ml_X12_172 rfl rfl (Nat.le_of_ble_eq_true rfl) rfl rfl (v3 c2) ?_
      refine v_if_eq (pc := 21) (tgt := 38) (dk dt_X12_erase 12 rfl) (by decide) (fun c4 => ?_) (fun c4 => ?_)
      · refine v_iconst (pc := 38) (dk dt_X12_erase 20 rfl) ⟨by decide, by decide⟩ ?_
        exact v_less2 (ls' := [some (rv l0), some (iv l1), some (iv l2), some (iv l3), none, none]) ⟨rfl, rfl, rfl, rfl, trivial⟩ (by have hk9 := k43; try simp only [if_neg c2] at hk9 ⊢; try simp only [if_pos c4] at hk9 ⊢; exact hk9)
      · refine v_iload_n (pc := 24) (dk dt_X12_erase 13 rfl) rfl rfl ?_
        refine v_iload_n (pc := 25) (dk dt_X12_erase 14 rfl) rfl rfl ?_
        refine v_ldc (pc := 26) (dk dt_X12_erase 15 rfl) co_X12_189 ⟨by decide, by decide⟩ ?_
        refine v_csPZ (v := (wIn l3 l2 100000)) (As := [iv l3, iv l2, iv 100000]) (stk := [rv l0]) (pc := 28) (dk dt_X12_erase 16 rfl) ml_X12_172 rfl rfl (Nat.le_of_ble_eq_true rfl) rfl rfl (v5 c2 c4) ?_
        refine v_if_eq (pc := 31) (tgt := 38) (dk dt_X12_erase 17 rfl) (by decide) (fun c6 => ?_) (fun c6 => ?_)
        · refine v_iconst (pc := 38) (dk dt_X12_erase 20 rfl) ⟨by decide, by decide⟩ ?_
          exact v_less2 (ls' := [some (rv l0), some (iv l1), some (iv l2), some (iv l3), none, none]) ⟨rfl, rfl, rfl, rfl, trivial⟩ (by have hk9 := k43; try simp only [if_neg c2] at hk9 ⊢; try simp only [if_neg c4] at hk9 ⊢; try simp only [if_pos c6] at hk9 ⊢; exact hk9)
        · refine v_iconst (pc := 34) (dk dt_X12_erase 18 rfl) ⟨by decide, by decide⟩ ?_
          refine v_goto (pc := 35) (tgt := 39) (dk dt_X12_erase 19 rfl) (by decide) ?_
          exact v_less2 (ls' := [some (rv l0), some (iv l1), some (iv l2), some (iv l3), none, none]) ⟨rfl, rfl, rfl, rfl, trivial⟩ (by have hk9 := k43; try simp only [if_neg c2] at hk9 ⊢; try simp only [if_neg c4] at hk9 ⊢; try simp only [if_neg c6] at hk9 ⊢; exact hk9)
    · refine v_iconst (pc := 10) (dk dt_X12_erase 6 rfl) ⟨by decide, by decide⟩ ?_
      refine v_goto (pc := 11) (tgt := 39) (dk dt_X12_erase 7 rfl) (by decide) ?_
      exact v_less2 (ls' := [some (rv l0), some (iv l1), some (iv l2), some (iv l3), none, none]) ⟨rfl, rfl, rfl, rfl, trivial⟩ (by have hk9 := k43; try simp only [if_pos c2] at hk9 ⊢; exact hk9)
  obtain ⟨v7, h⟩ := h
  refine v_putI (pc := 39) (dk dt_X12_erase 21 rfl) fl_X12_127 (Or.inl rfl) v7 ?_
  generalize hG8 : (sfd G 12 0 l0 (if (wIn l1 0 3) = 0 then (1 : Int) else (if (wIn l2 0 100000) = 0 then (2 : Int) else (if (wIn l3 l2 100000) = 0 then (2 : Int) else 0)))) = G8
  replace h := h G8 hG8.symm
  refine v_aload_n (pc := 42) (dk dt_X12_erase 22 rfl) rfl rfl ?_
  obtain ⟨v9, h⟩ := h
  refine v_getI (pc := 43) (dk dt_X12_erase 23 rfl) fl_X12_127 v9 (fun _ => ?_)
  refine v_if_le (pc := 46) (tgt := 51) (dk dt_X12_erase 24 rfl) (by decide) (fun c10 => ?_) (fun c10 => ?_)
  · replace h := h.1 c10
    refine v_aload_n (pc := 51) (dk dt_X12_erase 27 rfl) rfl rfl ?_
    refine v_dup (pc := 52) (dk dt_X12_erase 28 rfl) (by intro h9; cases h9) ?_
    obtain ⟨v11, h⟩ := h
    refine v_getI (pc := 53) (dk dt_X12_erase 29 rfl) fl_X12_190 v11 (fun _ => ?_)
    refine v_iconst (pc := 56) (dk dt_X12_erase 30 rfl) ⟨by decide, by decide⟩ ?_
    obtain ⟨v12, h⟩ := h
    refine v_iadd (pc := 57) (dk dt_X12_erase 31 rfl) v12 ?_
    obtain ⟨v13, h⟩ := h
    refine v_putI (pc := 58) (dk dt_X12_erase 32 rfl) fl_X12_190 (Or.inl rfl) v13 ?_
    generalize hG14 : (sfd G8 12 15 l0 ((gfd G8 12 15 l0) + 1)) = G14
    replace h := h G14 hG14.symm
    refine v_aload_n (pc := 61) (dk dt_X12_erase 33 rfl) rfl rfl ?_
    refine v_aload_n (pc := 62) (dk dt_X12_erase 34 rfl) rfl rfl ?_
    obtain ⟨v15, h⟩ := h
    refine v_getI (pc := 63) (dk dt_X12_erase 35 rfl) fl_X12_169 v15 (fun _ => ?_)
    refine v_aload_n (pc := 66) (dk dt_X12_erase 36 rfl) rfl rfl ?_
    obtain ⟨v16, h⟩ := h
    refine v_getR (pc := 67) (dk dt_X12_erase 37 rfl) fl_X12_42 v16 (fun _ => ?_)
    obtain ⟨v17, h⟩ := h
    refine v_alen (pc := 70) (dk dt_X12_erase 38 rfl) v17 (fun _ => ?_)
    obtain ⟨J18, dJ18⟩ : ∃ J9 : Int → Gt → Nat → Nat → Prop, J9 = fun x19 G20 c21 s22 => V E M_X12_erase 88 [some (rv l0), some (iv l1), some (iv l2), some (iv l3), none, none] [rv x19, rv l0] G20 c21 s22 Q X := ⟨_, rfl⟩
    have hJ18 : ∀ (x19 : Int) (G20 : Gt) (c21 s22 : Nat), (gcl G20 l0 = 13 ∧ ∀ G24 : Gt, G24 = (sfd G20 12 13 l0 x19) → gcl G24 l0 = 13 ∧ gcl G24 l0 = 13 ∧ gcl G24 l0 = 13 ∧ gcl G24 (gfd G24 12 13 l0) = 15 ∧ 0 ≤ (gfd G24 12 14 l0) ∧ (gfd G24 12 14 l0) < gln G24 (gfd G24 12 13 l0) ∧ ∀ G31 : Gt, G31 = (sel G24 (gfd G24 12 13 l0) (gfd G24 12 14 l0) (gfd G24 12 15 l0)) → gcl G31 l0 = 13 ∧ i32 ((gfd G31 12 14 l0) + 1) ∧ gcl G31 l0 = 13 ∧ ∀ G35 : Gt, G35 = (sfd G31 12 14 l0 ((gfd G31 12 14 l0) + 1)) → V E M_X12_erase 120 [some (rv l0), some (iv l1), some (iv l2), some (iv l3), some (iv 0), some (iv 0)] [] G35 c21 s22 Q X) → J18 x19 G20 c21 s22 := by
      intro x19 G20 c21 s22 h
      rw [dJ18]
      obtain ⟨v23, h⟩ := h
      refine v_putR (pc := 88) (dk dt_X12_erase_1 6 rfl) fl_X12_42 (Or.inl rfl) v23 ?_
      generalize hG24 : (sfd G20 12 13 l0 x19) = G24
      replace h := h G24 hG24.symm
      refine v_aload_n (pc := 91) (dk dt_X12_erase_1 7 rfl) rfl rfl ?_
      obtain ⟨v25, h⟩ := h
      refine v_getR (pc := 92) (dk dt_X12_erase_1 8 rfl) fl_X12_42 v25 (fun _ => ?_)
      refine v_aload_n (pc := 95) (dk dt_X12_erase_1 9 rfl) rfl rfl ?_
      obtain ⟨v26, h⟩ := h
      refine v_getI (pc := 96) (dk dt_X12_erase_1 10 rfl) fl_X12_169 v26 (fun _ => ?_)
      refine v_aload_n (pc := 99) (dk dt_X12_erase_1 11 rfl) rfl rfl ?_
      obtain ⟨v27, h⟩ := h
      refine v_getI (pc := 100) (dk dt_X12_erase_1 12 rfl) fl_X12_190 v27 (fun _ => ?_)
      obtain ⟨v28, h⟩ := h
      obtain ⟨v29, h⟩ := h
      obtain ⟨v30, h⟩ := h
      refine v_iast (pc := 103) (dk dt_X12_erase_1 13 rfl) v28 v29 v30 ?_
      generalize hG31 : (sel G24 (gfd G24 12 13 l0) (gfd G24 12 14 l0) (gfd G24 12 15 l0)) = G31
      replace h := h G31 hG31.symm
      refine v_aload_n (pc := 104) (dk dt_X12_erase_1 14 rfl) rfl rfl ?_
      refine v_dup (pc := 105) (dk dt_X12_erase_1 15 rfl) (by intro h9; cases h9) ?_
      obtain ⟨v32, h⟩ := h
      refine v_getI (pc := 106) (dk dt_X12_erase_1 16 rfl) fl_X12_169 v32 (fun _ => ?_)
      refine v_iconst (pc := 109) (dk dt_X12_erase_1 17 rfl) ⟨by decide, by decide⟩ ?_
      obtain ⟨v33, h⟩ := h
      refine v_iadd (pc := 110) (dk dt_X12_erase_1 18 rfl) v33 ?_
      obtain ⟨v34, h⟩ := h
      refine v_putI (pc := 111) (dk dt_X12_erase_1 19 rfl) fl_X12_169 (Or.inl rfl) v34 ?_
      generalize hG35 : (sfd G31 12 14 l0 ((gfd G31 12 14 l0) + 1)) = G35
      replace h := h G35 hG35.symm
      refine v_iconst (pc := 114) (dk dt_X12_erase_1 20 rfl) ⟨by decide, by decide⟩ ?_
      refine v_istore (pc := 115) (ls' := [some (rv l0), some (iv l1), some (iv l2), some (iv l3), some (iv 0), none]) (dk dt_X12_erase_1 21 rfl) (Nat.le_of_ble_eq_true rfl) rfl ?_
      refine v_iconst (pc := 117) (dk dt_X12_erase_1 22 rfl) ⟨by decide, by decide⟩ ?_
      refine v_istore (pc := 118) (ls' := [some (rv l0), some (iv l1), some (iv l2), some (iv l3), some (iv 0), some (iv 0)]) (dk dt_X12_erase_1 23 rfl) (Nat.le_of_ble_eq_true rfl) rfl ?_
      exact h
    replace h := h _ hJ18
    refine v_icmp_ne (pc := 71) (tgt := 84) (dk dt_X12_erase 39 rfl) (by decide) (fun c36 => ?_) (fun c36 => ?_)
    · replace h := h.1 c36
      refine v_aload_n (pc := 84) (dk dt_X12_erase_1 4 rfl) rfl rfl ?_
      obtain ⟨v37, h⟩ := h
      refine v_getR (pc := 85) (dk dt_X12_erase_1 5 rfl) fl_X12_42 v37 (fun _ => ?_)
      rw [dJ18] at h
      exact h
    · replace h := h.2 c36
      refine v_aload_n (pc := 74) (dk dt_X12_erase_1 0 rfl) rfl rfl ?_
      obtain ⟨v38, h⟩ := h
      refine v_getR (pc := 75) (dk dt_X12_erase_1 1 rfl) fl_X12_42 v38 (fun _ => ?_)
      refine v_csR (As := [rv (gfd G14 12 13 l0)]) (stk := [rv l0]) (pc := 78) (dk dt_X12_erase_1 2 rfl) ml_X12_161 rfl rfl (Nat.le_of_ble_eq_true rfl) rfl rfl (Call.mono h (fun r39 G40 c41 s42 h => ?_))
      refine v_goto (pc := 81) (tgt := 88) (dk dt_X12_erase_1 3 rfl) (by decide) ?_
      rw [dJ18] at h
      exact h
  · replace h := h.2 c10
    refine v_iconst (pc := 49) (dk dt_X12_erase 25 rfl) ⟨by decide, by decide⟩ ?_
    exact v_iret (pc := 50) (dk dt_X12_erase 26 rfl) rfl h
set_option maxRecDepth 20000 in
theorem i_X12_erase {E : EE} {l0 l1 l2 l3 : Int} {G : Gt} {c s : Nat} {Q X : Int → Gt → Prop} (h : (OkP E M_X12_in [iv l1, iv 0, iv 3] G (wIn l1 0 3) ∧ ((wIn l1 0 3) ≠ 0 → OkP E M_X12_in [iv l2, iv 0, iv 100000] G (wIn l2 0 100000)) ∧ ((wIn l1 0 3) ≠ 0 → (wIn l2 0 100000) ≠ 0 → OkP E M_X12_in [iv l3, iv l2, iv 100000] G (wIn l3 l2 100000)) ∧ gcl G l0 = 13 ∧ ∀ G8 : Gt, G8 = (sfd G 12 0 l0 (if (wIn l1 0 3) = 0 then (1 : Int) else (if (wIn l2 0 100000) = 0 then (2 : Int) else (if (wIn l3 l2 100000) = 0 then (2 : Int) else 0)))) → gcl G8 l0 = 13 ∧ (((gfd G8 12 0 l0) ≤ 0 → (gcl G8 l0 = 13 ∧ i32 ((gfd G8 12 15 l0) + 1) ∧ gcl G8 l0 = 13 ∧ ∀ G14 : Gt, G14 = (sfd G8 12 15 l0 ((gfd G8 12 15 l0) + 1)) → gcl G14 l0 = 13 ∧ gcl G14 l0 = 13 ∧ 15 ≤ gcl G14 (gfd G14 12 13 l0) ∧ ∀ J18 : Int → Gt → Nat → Nat → Prop, (∀ (x19 : Int) (G20 : Gt) (c21 s22 : Nat), (gcl G20 l0 = 13 ∧ ∀ G24 : Gt, G24 = (sfd G20 12 13 l0 x19) → gcl G24 l0 = 13 ∧ gcl G24 l0 = 13 ∧ gcl G24 l0 = 13 ∧ gcl G24 (gfd G24 12 13 l0) = 15 ∧ 0 ≤ (gfd G24 12 14 l0) ∧ (gfd G24 12 14 l0) < gln G24 (gfd G24 12 13 l0) ∧ ∀ G31 : Gt, G31 = (sel G24 (gfd G24 12 13 l0) (gfd G24 12 14 l0) (gfd G24 12 15 l0)) → gcl G31 l0 = 13 ∧ i32 ((gfd G31 12 14 l0) + 1) ∧ gcl G31 l0 = 13 ∧ ∀ G35 : Gt, G35 = (sfd G31 12 14 l0 ((gfd G31 12 14 l0) + 1)) → V E M_X12_erase 120 [some (rv l0), some (iv l1), some (iv l2), some (iv l3), some (iv 0), some (iv 0)] [] G35 c21 s22 Q X) → J18 x19 G20 c21 s22) → (((gfd G14 12 14 l0) ≠ (gln G14 (gfd G14 12 13 l0)) → (gcl G14 l0 = 13 ∧ J18 (gfd G14 12 13 l0) G14 c s)) ∧ ((gfd G14 12 14 l0) = (gln G14 (gfd G14 12 13 l0)) → (gcl G14 l0 = 13 ∧ Call E M_X12_longer [rv (gfd G14 12 13 l0)] G14 c s X (fun r39 G40 c41 s42 => J18 r39 G40 c41 s42)))))) ∧ (0 < (gfd G8 12 0 l0) → Q 0 G8)))) : Ok E M_X12_erase [rv l0, iv l1, iv l2, iv l3] G c s Q X := Ok.intro (k := 2) rfl rfl (Nat.le_of_ble_eq_true rfl) rfl (b_X12_erase_0 h)
set_option maxRecDepth 20000 in
theorem b_X12_erase_120 {E : EE} {l0 l1 l2 l3 l4 l5 : Int} {G : Gt} {c s : Nat} {Q X : Int → Gt → Prop} (h : (gcl G l0 = 13 ∧ (((gfd G 12 12 l0) ≤ l5 → Q l4 G) ∧ (l5 < (gfd G 12 12 l0) → (gcl G l0 = 13 ∧ OkP E M_X12_isSeen [rv l0, iv l5] G (mSeen G l0 l5) ∧ (((mSeen G l0 l5) = 0 → (i32 (l5 + 1) ∧ V E M_X12_erase 120 [some (rv l0), some (iv l1), some (iv l2), some (iv l3), some (iv l4), some (iv (l5 + 1))] [] G c s Q X)) ∧ ((mSeen G l0 l5) ≠ 0 → (gcl G l0 = 13 ∧ gcl G (gfd G 12 8 l0) = 15 ∧ 0 ≤ l5 ∧ l5 < gln G (gfd G 12 8 l0) ∧ OkP E M_X12_in [iv (gel G (gfd G 12 8 l0) l5), iv l2, iv l3] G (wIn (gel G (gfd G 12 8 l0) l5) l2 l3) ∧ (((wIn (gel G (gfd G 12 8 l0) l5) l2 l3) = 0 → (i32 (l5 + 1) ∧ V E M_X12_erase 120 [some (rv l0), some (iv l1), some (iv l2), some (iv l3), some (iv l4), some (iv (l5 + 1))] [] G c s Q X)) ∧ ((wIn (gel G (gfd G 12 8 l0) l5) l2 l3) ≠ 0 → (gcl G l0 = 13 ∧ gcl G (gfd G 12 7 l0) = 15 ∧ 0 ≤ l5 ∧ l5 < gln G (gfd G 12 7 l0) ∧ gcl G l0 = 13 ∧ OkP E M_X12_isSelected [rv l0, iv l1, iv (gel G (gfd G 12 7 l0) l5)] G (mSel G l0 l1 (gel G (gfd G 12 7 l0) l5)) ∧ (((mSel G l0 l1 (gel G (gfd G 12 7 l0) l5)) = 0 → (i32 (l5 + 1) ∧ V E M_X12_erase 120 [some (rv l0), some (iv l1), some (iv l2), some (iv l3), some (iv l4), some (iv (l5 + 1))] [] G c s Q X)) ∧ ((mSel G l0 l1 (gel G (gfd G 12 7 l0) l5)) ≠ 0 → (gcl G l0 = 13 ∧ gcl G l0 = 13 ∧ gcl G (gfd G 12 10 l0) = 15 ∧ 0 ≤ l5 ∧ l5 < gln G (gfd G 12 10 l0) ∧ ∀ G27 : Gt, G27 = (sel G (gfd G 12 10 l0) l5 (gfd G 12 15 l0)) → i32 (l4 + 1) ∧ i32 (l5 + 1) ∧ V E M_X12_erase 120 [some (rv l0), some (iv l1), some (iv l2), some (iv l3), some (iv (l4 + 1)), some (iv (l5 + 1))] [] G27 c s Q X)))))))))))))) : V E M_X12_erase 120 [some (rv l0), some (iv l1), some (iv l2), some (iv l3), some (iv l4), some (iv l5)] [] G c s Q X := by
  refine v_iload (pc := 120) (dk dt_X12_erase_1 24 rfl) rfl ?_
  refine v_aload_n (pc := 122) (dk dt_X12_erase_1 25 rfl) rfl rfl ?_
  obtain ⟨v1, h⟩ := h
  refine v_getI (pc := 123) (dk dt_X12_erase_1 26 rfl) fl_X12_154 v1 (fun _ => ?_)
  refine v_icmp_ge (pc := 126) (tgt := 188) (dk dt_X12_erase_1 27 rfl) (by decide) (fun c2 => ?_) (fun c2 => ?_)
  · replace h := h.1 c2
    refine v_iload (pc := 188) (dk dt_X12_erase_2 17 rfl) rfl ?_
    exact v_iret (pc := 190) (dk dt_X12_erase_2 18 rfl) rfl h
  · replace h := h.2 c2
    refine v_aload_n (pc := 129) (dk dt_X12_erase_1 28 rfl) rfl rfl ?_
    refine v_iload (pc := 130) (dk dt_X12_erase_1 29 rfl) rfl ?_
    obtain ⟨v3, h⟩ := h
    obtain ⟨v4, h⟩ := h
    refine v_cvPZ (c := 12) (v := (mSeen G l0 l5)) (As := [iv l5]) (stk := []) (pc := 132) (dk dt_X12_erase_1 30 rfl) ml_X12_157 rfl rfl (Nat.le_of_ble_eq_true rfl) rfl ⟨by decide, rfl⟩ v3 rfl v4 ?_
    refine v_if_eq (pc := 135) (tgt := 182) (dk dt_X12_erase_1 31 rfl) (by decide) (fun c5 => ?_) (fun c5 => ?_)
    · replace h := h.1 c5
      obtain ⟨v6, h⟩ := h
      refine v_iinc (pc := 182) (ls' := [some (rv l0), some (iv l1), some (iv l2), some (iv l3), some (iv l4), some (iv (l5 + 1))]) (dk dt_X12_erase_2 15 rfl) (Nat.le_of_ble_eq_true rfl) rfl v6 rfl ?_
      refine v_goto (pc := 185) (tgt := 120) (dk dt_X12_erase_2 16 rfl) (by decide) ?_
      exact h
    · replace h := h.2 c5
      refine v_aload_n (pc := 138) (dk dt_X12_erase_1 32 rfl) rfl rfl ?_
      obtain ⟨v7, h⟩ := h
      refine v_getR (pc := 139) (dk dt_X12_erase_1 33 rfl) fl_X12_29 v7 (fun _ => ?_)
      refine v_iload (pc := 142) (dk dt_X12_erase_1 34 rfl) rfl ?_
      obtain ⟨v8, h⟩ := h
      obtain ⟨v9, h⟩ := h
      obtain ⟨v10, h⟩ := h
      refine v_iald (pc := 144) (dk dt_X12_erase_1 35 rfl) (Or.inl v8) v9 v10 (fun _ => ?_)
      refine v_iload_n (pc := 145) (dk dt_X12_erase_1 36 rfl) rfl rfl ?_
      refine v_iload_n (pc := 146) (dk dt_X12_erase_1 37 rfl) rfl rfl ?_
      obtain ⟨v11, h⟩ := h
      refine v_csPZ (v := (wIn (gel G (gfd G 12 8 l0) l5) l2 l3)) (As := [iv (gel G (gfd G 12 8 l0) l5), iv l2, iv l3]) (stk := []) (pc := 147) (dk dt_X12_erase_1 38 rfl) ml_X12_172 rfl rfl (Nat.le_of_ble_eq_true rfl) rfl rfl v11 ?_
      refine v_if_eq (pc := 150) (tgt := 182) (dk dt_X12_erase_1 39 rfl) (by decide) (fun c12 => ?_) (fun c12 => ?_)
      · replace h := h.1 c12
        obtain ⟨v13, h⟩ := h
        refine v_iinc (pc := 182) (ls' := [some (rv l0), some (iv l1), some (iv l2), some (iv l3), some (iv l4), some (iv (l5 + 1))]) (dk dt_X12_erase_2 15 rfl) (Nat.le_of_ble_eq_true rfl) rfl v13 rfl ?_
        refine v_goto (pc := 185) (tgt := 120) (dk dt_X12_erase_2 16 rfl) (by decide) ?_
        exact h
      · replace h := h.2 c12
        refine v_aload_n (pc := 153) (dk dt_X12_erase_2 0 rfl) rfl rfl ?_
        refine v_iload_n (pc := 154) (dk dt_X12_erase_2 1 rfl) rfl rfl ?_
        refine v_aload_n (pc := 155) (dk dt_X12_erase_2 2 rfl) rfl rfl ?_
        obtain ⟨v14, h⟩ := h
        refine v_getR (pc := 156) (dk dt_X12_erase_2 3 rfl) fl_X12_26 v14 (fun _ => ?_)
        refine v_iload (pc := 159) (dk dt_X12_erase_2 4 rfl) rfl ?_
        obtain ⟨v15, h⟩ := h
        obtain ⟨v16, h⟩ := h
        obtain ⟨v17, h⟩ := h
        refine v_iald (pc := 161) (dk dt_X12_erase_2 5 rfl) (Or.inl v15) v16 v17 (fun _ => ?_)
        obtain ⟨v18, h⟩ := h
        obtain ⟨v19, h⟩ := h
        refine v_cvPZ (c := 12) (v := (mSel G l0 l1 (gel G (gfd G 12 7 l0) l5))) (As := [iv l1, iv (gel G (gfd G 12 7 l0) l5)]) (stk := []) (pc := 162) (dk dt_X12_erase_2 6 rfl) ml_X12_193 rfl rfl (Nat.le_of_ble_eq_true rfl) rfl ⟨by decide, rfl⟩ v18 rfl v19 ?_
        refine v_if_eq (pc := 165) (tgt := 182) (dk dt_X12_erase_2 7 rfl) (by decide) (fun c20 => ?_) (fun c20 => ?_)
        · replace h := h.1 c20
          obtain ⟨v21, h⟩ := h
          refine v_iinc (pc := 182) (ls' := [some (rv l0), some (iv l1), some (iv l2), some (iv l3), some (iv l4), some (iv (l5 + 1))]) (dk dt_X12_erase_2 15 rfl) (Nat.le_of_ble_eq_true rfl) rfl v21 rfl ?_
          refine v_goto (pc := 185) (tgt := 120) (dk dt_X12_erase_2 16 rfl) (by decide) ?_
          exact h
        · replace h := h.2 c20
          refine v_aload_n (pc := 168) (dk dt_X12_erase_2 8 rfl) rfl rfl ?_
          obtain ⟨v22, h⟩ := h
          refine v_getR (pc := 169) (dk dt_X12_erase_2 9 rfl) fl_X12_35 v22 (fun _ => ?_)
          refine v_iload (pc := 172) (dk dt_X12_erase_2 10 rfl) rfl ?_
          refine v_aload_n (pc := 174) (dk dt_X12_erase_2 11 rfl) rfl rfl ?_
          obtain ⟨v23, h⟩ := h
          refine v_getI (pc := 175) (dk dt_X12_erase_2 12 rfl) fl_X12_190 v23 (fun _ => ?_)
          obtain ⟨v24, h⟩ := h
          obtain ⟨v25, h⟩ := h
          obtain ⟨v26, h⟩ := h
          refine v_iast (pc := 178) (dk dt_X12_erase_2 13 rfl) v24 v25 v26 ?_
          generalize hG27 : (sel G (gfd G 12 10 l0) l5 (gfd G 12 15 l0)) = G27
          replace h := h G27 hG27.symm
          obtain ⟨v28, h⟩ := h
          refine v_iinc (pc := 179) (ls' := [some (rv l0), some (iv l1), some (iv l2), some (iv l3), some (iv (l4 + 1)), some (iv l5)]) (dk dt_X12_erase_2 14 rfl) (Nat.le_of_ble_eq_true rfl) rfl v28 rfl ?_
          obtain ⟨v29, h⟩ := h
          refine v_iinc (pc := 182) (ls' := [some (rv l0), some (iv l1), some (iv l2), some (iv l3), some (iv (l4 + 1)), some (iv (l5 + 1))]) (dk dt_X12_erase_2 15 rfl) (Nat.le_of_ble_eq_true rfl) rfl v29 rfl ?_
          refine v_goto (pc := 185) (tgt := 120) (dk dt_X12_erase_2 16 rfl) (by decide) ?_
          exact h
set_option maxRecDepth 20000 in
theorem b_X12_pass_0 {E : EE} {l0 l1 : Int} {G : Gt} {c s : Nat} {Q X : Int → Gt → Prop} (h : (OkP E M_X12_in [iv l1, iv 1, iv 100] G (wIn l1 1 100) ∧ ((wIn l1 1 100) ≠ 0 → gcl G l0 = 13) ∧ ((wIn l1 1 100) ≠ 0 → i32 ((gfd G 12 1 l0) + l1)) ∧ gcl G l0 = 13 ∧ ∀ G7 : Gt, G7 = (sfd G 12 0 l0 (if (wIn l1 1 100) = 0 then (1 : Int) else (if ((gfd G 12 1 l0) + l1) ≤ 100000 then (0 : Int) else 2))) → gcl G7 l0 = 13 ∧ (((gfd G7 12 0 l0) ≤ 0 → V E M_X12_pass 45 [some (rv l0), some (iv l1), some (iv 0), none] [] G7 c s Q X) ∧ (0 < (gfd G7 12 0 l0) → Q 0 G7)))) : V E M_X12_pass 0 [some (rv l0), some (iv l1), none, none] [] G c s Q X := by
  refine v_aload_n (pc := 0) (dk dt_X12_pass 0 rfl) rfl rfl ?_
  refine v_iload_n (pc := 1) (dk dt_X12_pass 1 rfl) rfl rfl ?_
  refine v_iconst (pc := 2) (dk dt_X12_pass 2 rfl) ⟨by decide, by decide⟩ ?_
  refine v_bipush (pc := 3) (dk dt_X12_pass 3 rfl) (by decide) ⟨by decide, by decide⟩ ?_
  obtain ⟨v1, h⟩ := h
  refine v_csPZ (v := (wIn l1 1 100)) (As := [iv l1, iv 1, iv 100]) (stk := [rv l0]) (pc := 5) (dk dt_X12_pass 4 rfl) ml_X12_172 rfl rfl (Nat.le_of_ble_eq_true rfl) rfl rfl v1 ?_
  obtain ⟨v3, v4, h⟩ := h
  suffices k10 : V E M_X12_pass 31 [some (rv l0), some (iv l1), none, none] [iv (if (wIn l1 1 100) = 0 then (1 : Int) else (if ((gfd G 12 1 l0) + l1) ≤ 100000 then (0 : Int) else 2)), rv l0] G c s Q X by
    refine v_if_ne (pc := 8) (tgt := 15) (dk dt_X12_pass 5 rfl) (by decide) (fun c2 => ?_) (fun c2 => ?_)
    · refine v_aload_n (pc := 15) (dk dt_X12_pass 8 rfl) rfl rfl ?_
      refine v_getI (pc := 16) (dk dt_X12_pass 9 rfl) fl_X12_176 (v3 c2) (fun _ => ?_)
      refine v_iload_n (pc := 19) (dk dt_X12_pass 10 rfl) rfl rfl ?_
      refine v_iadd (pc := 20) (dk dt_X12_pass 11 rfl) (v4 c2) ?_
      refine v_ldc (pc := 21) (dk dt_X12_pass 12 rfl) co_X12_189 ⟨by decide, by decide⟩ ?_
      refine v_icmp_le (pc := 23) (tgt := 30) (dk dt_X12_pass 13 rfl) (by decide) (fun c5 => ?_) (fun c5 => ?_)
      · refine v_iconst (pc := 30) (dk dt_X12_pass 16 rfl) ⟨by decide, by decide⟩ ?_
        exact v_less2 (ls' := [some (rv l0), some (iv l1), none, none]) ⟨rfl, rfl, trivial⟩ (by have hk9 := k10; try simp only [if_neg c2] at hk9 ⊢; try simp only [if_pos c5] at hk9 ⊢; exact hk9)
      · refine v_iconst (pc := 26) (dk dt_X12_pass 14 rfl) ⟨by decide, by decide⟩ ?_
        refine v_goto (pc := 27) (tgt := 31) (dk dt_X12_pass 15 rfl) (by decide) ?_
        exact v_less2 (ls' := [some (rv l0), some (iv l1), none, none]) ⟨rfl, rfl, trivial⟩ (by have hk9 := k10; try simp only [if_neg c2] at hk9 ⊢; try simp only [if_neg (Int.not_le.mpr c5)] at hk9 ⊢; exact hk9)
    · refine v_iconst (pc := 11) (dk dt_X12_pass 6 rfl) ⟨by decide, by decide⟩ ?_
      refine v_goto (pc := 12) (tgt := 31) (dk dt_X12_pass 7 rfl) (by decide) ?_
      exact v_less2 (ls' := [some (rv l0), some (iv l1), none, none]) ⟨rfl, rfl, trivial⟩ (by have hk9 := k10; try simp only [if_pos c2] at hk9 ⊢; exact hk9)
  obtain ⟨v6, h⟩ := h
  refine v_putI (pc := 31) (dk dt_X12_pass 17 rfl) fl_X12_127 (Or.inl rfl) v6 ?_
  generalize hG7 : (sfd G 12 0 l0 (if (wIn l1 1 100) = 0 then (1 : Int) else (if ((gfd G 12 1 l0) + l1) ≤ 100000 then (0 : Int) else 2))) = G7
  replace h := h G7 hG7.symm
  refine v_aload_n (pc := 34) (dk dt_X12_pass 18 rfl) rfl rfl ?_
  obtain ⟨v8, h⟩ := h
  refine v_getI (pc := 35) (dk dt_X12_pass 19 rfl) fl_X12_127 v8 (fun _ => ?_)
  refine v_if_le (pc := 38) (tgt := 43) (dk dt_X12_pass 20 rfl) (by decide) (fun c9 => ?_) (fun c9 => ?_)
  · replace h := h.1 c9
    refine v_iconst (pc := 43) (dk dt_X12_pass 23 rfl) ⟨by decide, by decide⟩ ?_
    refine v_istore_n (pc := 44) (ls' := [some (rv l0), some (iv l1), some (iv 0), none]) (dk dt_X12_pass 24 rfl) rfl (Nat.le_of_ble_eq_true rfl) rfl ?_
    exact h
  · replace h := h.2 c9
    refine v_iconst (pc := 41) (dk dt_X12_pass 21 rfl) ⟨by decide, by decide⟩ ?_
    exact v_iret (pc := 42) (dk dt_X12_pass 22 rfl) rfl h
set_option maxRecDepth 20000 in
theorem i_X12_pass {E : EE} {l0 l1 : Int} {G : Gt} {c s : Nat} {Q X : Int → Gt → Prop} (h : (OkP E M_X12_in [iv l1, iv 1, iv 100] G (wIn l1 1 100) ∧ ((wIn l1 1 100) ≠ 0 → gcl G l0 = 13) ∧ ((wIn l1 1 100) ≠ 0 → i32 ((gfd G 12 1 l0) + l1)) ∧ gcl G l0 = 13 ∧ ∀ G7 : Gt, G7 = (sfd G 12 0 l0 (if (wIn l1 1 100) = 0 then (1 : Int) else (if ((gfd G 12 1 l0) + l1) ≤ 100000 then (0 : Int) else 2))) → gcl G7 l0 = 13 ∧ (((gfd G7 12 0 l0) ≤ 0 → V E M_X12_pass 45 [some (rv l0), some (iv l1), some (iv 0), none] [] G7 c s Q X) ∧ (0 < (gfd G7 12 0 l0) → Q 0 G7)))) : Ok E M_X12_pass [rv l0, iv l1] G c s Q X := Ok.intro (k := 2) rfl rfl (Nat.le_of_ble_eq_true rfl) rfl (b_X12_pass_0 h)
set_option maxRecDepth 20000 in
theorem b_X12_pass_45 {E : EE} {l0 l1 l2 : Int} {G : Gt} {c s : Nat} {Q X : Int → Gt → Prop} (h : ((l1 ≤ l2 → (gcl G l0 = 13 ∧ Q (gfd G 12 1 l0) G)) ∧ (l2 < l1 → (gcl G l0 = 13 ∧ i32 ((gfd G 12 1 l0) + 1) ∧ gcl G l0 = 13 ∧ ∀ G6 : Gt, G6 = (sfd G 12 1 l0 ((gfd G 12 1 l0) + 1)) → V E M_X12_pass 62 [some (rv l0), some (iv l1), some (iv l2), some (iv 0)] [] G6 c s Q X)))) : V E M_X12_pass 45 [some (rv l0), some (iv l1), some (iv l2), none] [] G c s Q X := by
  refine v_iload_n (pc := 45) (dk dt_X12_pass 25 rfl) rfl rfl ?_
  refine v_iload_n (pc := 46) (dk dt_X12_pass 26 rfl) rfl rfl ?_
  refine v_icmp_ge (pc := 47) (tgt := 132) (dk dt_X12_pass 27 rfl) (by decide) (fun c1 => ?_) (fun c1 => ?_)
  · replace h := h.1 c1
    refine v_aload_n (pc := 132) (dk dt_X12_pass_1 31 rfl) rfl rfl ?_
    obtain ⟨v2, h⟩ := h
    refine v_getI (pc := 133) (dk dt_X12_pass_1 32 rfl) fl_X12_176 v2 (fun _ => ?_)
    exact v_iret (pc := 136) (dk dt_X12_pass_1 33 rfl) rfl h
  · replace h := h.2 c1
    refine v_aload_n (pc := 50) (dk dt_X12_pass 28 rfl) rfl rfl ?_
    refine v_dup (pc := 51) (dk dt_X12_pass 29 rfl) (by intro h9; cases h9) ?_
    obtain ⟨v3, h⟩ := h
    refine v_getI (pc := 52) (dk dt_X12_pass 30 rfl) fl_X12_176 v3 (fun _ => ?_)
    refine v_iconst (pc := 55) (dk dt_X12_pass 31 rfl) ⟨by decide, by decide⟩ ?_
    obtain ⟨v4, h⟩ := h
    refine v_iadd (pc := 56) (dk dt_X12_pass 32 rfl) v4 ?_
    obtain ⟨v5, h⟩ := h
    refine v_putI (pc := 57) (dk dt_X12_pass 33 rfl) fl_X12_176 (Or.inl rfl) v5 ?_
    generalize hG6 : (sfd G 12 1 l0 ((gfd G 12 1 l0) + 1)) = G6
    replace h := h G6 hG6.symm
    refine v_iconst (pc := 60) (dk dt_X12_pass 34 rfl) ⟨by decide, by decide⟩ ?_
    refine v_istore_n (pc := 61) (ls' := [some (rv l0), some (iv l1), some (iv l2), some (iv 0)]) (dk dt_X12_pass 35 rfl) rfl (Nat.le_of_ble_eq_true rfl) rfl ?_
    exact h
set_option maxRecDepth 20000 in
theorem b_X12_pass_62 {E : EE} {l0 l1 l2 l3 : Int} {G : Gt} {c s : Nat} {Q X : Int → Gt → Prop} (h : (gcl G l0 = 13 ∧ (((gfd G 12 23 l0) ≤ l3 → (i32 (l2 + 1) ∧ V E M_X12_pass 45 [some (rv l0), some (iv l1), some (iv (l2 + 1)), none] [] G c s Q X)) ∧ (l3 < (gfd G 12 23 l0) → (gcl G l0 = 13 ∧ (((Int.tmod (gfd G 12 1 l0) 10) ≠ 0 → (i32 (l2 + 1) ∧ V E M_X12_pass 45 [some (rv l0), some (iv l1), some (iv (l2 + 1)), none] [] G c s Q X)) ∧ ((Int.tmod (gfd G 12 1 l0) 10) = 0 → (i32 (l3 + 1) ∧ gcl G l0 = 13 ∧ gcl G l0 = 13 ∧ Call E M_X12_run [rv l0, iv (l3 + 1), iv (gfd G 12 1 l0)] G c s X (fun r10 G11 c12 s13 => gcl G11 l0 = 13 ∧ gcl G11 (gfd G11 12 24 l0) = 17 ∧ 0 ≤ l3 ∧ l3 < gln G11 (gfd G11 12 24 l0) ∧ (((gel G11 (gfd G11 12 24 l0) l3) = 0 → (gcl G11 l0 = 13 ∧ (((gfd G11 12 34 l0) ≠ 0 → (i32 (l3 + 1) ∧ V E M_X12_pass 62 [some (rv l0), some (iv l1), some (iv l2), some (iv (l3 + 1))] [] G11 c12 s13 Q X)) ∧ ((gfd G11 12 34 l0) = 0 → (gcl G11 l0 = 13 ∧ Call E M_X12_notes [rv l0, iv l3] G11 c12 s13 X (fun r23 G24 c25 s26 => i32 (l3 + 1) ∧ V E M_X12_pass 62 [some (rv l0), some (iv l1), some (iv l2), some (iv (l3 + 1))] [] G24 c25 s26 Q X)))))) ∧ ((gel G11 (gfd G11 12 24 l0) l3) ≠ 0 → (gcl G11 l0 = 13 ∧ Call E M_X12_looks [rv l0, iv l3] G11 c12 s13 X (fun r29 G30 c31 s32 => i32 (l3 + 1) ∧ V E M_X12_pass 62 [some (rv l0), some (iv l1), some (iv l2), some (iv (l3 + 1))] [] G30 c31 s32 Q X))))))))))))) : V E M_X12_pass 62 [some (rv l0), some (iv l1), some (iv l2), some (iv l3)] [] G c s Q X := by
  refine v_iload_n (pc := 62) (dk dt_X12_pass 36 rfl) rfl rfl ?_
  refine v_aload_n (pc := 63) (dk dt_X12_pass 37 rfl) rfl rfl ?_
  obtain ⟨v1, h⟩ := h
  refine v_getI (pc := 64) (dk dt_X12_pass 38 rfl) fl_X12_197 v1 (fun _ => ?_)
  refine v_icmp_ge (pc := 67) (tgt := 126) (dk dt_X12_pass 39 rfl) (by decide) (fun c2 => ?_) (fun c2 => ?_)
  · replace h := h.1 c2
    obtain ⟨v3, h⟩ := h
    refine v_iinc (pc := 126) (ls' := [some (rv l0), some (iv l1), some (iv (l2 + 1)), some (iv l3)]) (dk dt_X12_pass_1 29 rfl) (Nat.le_of_ble_eq_true rfl) rfl v3 rfl ?_
    refine v_goto (pc := 129) (tgt := 45) (dk dt_X12_pass_1 30 rfl) (by decide) ?_
    exact v_less2 (ls' := [some (rv l0), some (iv l1), some (iv (l2 + 1)), none]) ⟨rfl, rfl, rfl, trivial⟩ h
  · replace h := h.2 c2
    refine v_aload_n (pc := 70) (dk dt_X12_pass_1 0 rfl) rfl rfl ?_
    obtain ⟨v4, h⟩ := h
    refine v_getI (pc := 71) (dk dt_X12_pass_1 1 rfl) fl_X12_176 v4 (fun _ => ?_)
    refine v_bipush (pc := 74) (dk dt_X12_pass_1 2 rfl) (by decide) ⟨by decide, by decide⟩ ?_
    refine v_iremP (pc := 76) (dk dt_X12_pass_1 3 rfl) (by decide) ?_
    refine v_if_ne (pc := 77) (tgt := 126) (dk dt_X12_pass_1 4 rfl) (by decide) (fun c5 => ?_) (fun c5 => ?_)
    · replace h := h.1 c5
      obtain ⟨v6, h⟩ := h
      refine v_iinc (pc := 126) (ls' := [some (rv l0), some (iv l1), some (iv (l2 + 1)), some (iv l3)]) (dk dt_X12_pass_1 29 rfl) (Nat.le_of_ble_eq_true rfl) rfl v6 rfl ?_
      refine v_goto (pc := 129) (tgt := 45) (dk dt_X12_pass_1 30 rfl) (by decide) ?_
      exact v_less2 (ls' := [some (rv l0), some (iv l1), some (iv (l2 + 1)), none]) ⟨rfl, rfl, rfl, trivial⟩ h
    · replace h := h.2 c5
      refine v_aload_n (pc := 80) (dk dt_X12_pass_1 5 rfl) rfl rfl ?_
      refine v_iload_n (pc := 81) (dk dt_X12_pass_1 6 rfl) rfl rfl ?_
      refine v_iconst (pc := 82) (dk dt_X12_pass_1 7 rfl) ⟨by decide, by decide⟩ ?_
      obtain ⟨v7, h⟩ := h
      refine v_iadd (pc := 83) (dk dt_X12_pass_1 8 rfl) v7 ?_
      refine v_aload_n (pc := 84) (dk dt_X12_pass_1 9 rfl) rfl rfl ?_
      obtain ⟨v8, h⟩ := h
      refine v_getI (pc := 85) (dk dt_X12_pass_1 10 rfl) fl_X12_176 v8 (fun _ => ?_)
      obtain ⟨v9, h⟩ := h
      refine v_cvV (c := 12) (As := [iv (l3 + 1), iv (gfd G 12 1 l0)]) (stk := []) (pc := 88) (dk dt_X12_pass_1 11 rfl) ml_X12_200 rfl rfl (Nat.le_of_ble_eq_true rfl) rfl ⟨by decide, rfl⟩ v9 rfl (Call.mono h (fun r10 G11 c12 s13 h => ?_))
      refine v_aload_n (pc := 91) (dk dt_X12_pass_1 12 rfl) rfl rfl ?_
      obtain ⟨v14, h⟩ := h
      refine v_getR (pc := 92) (dk dt_X12_pass_1 13 rfl) fl_X12_63 v14 (fun _ => ?_)
      refine v_iload_n (pc := 95) (dk dt_X12_pass_1 14 rfl) rfl rfl ?_
      obtain ⟨v15, h⟩ := h
      obtain ⟨v16, h⟩ := h
      obtain ⟨v17, h⟩ := h
      refine v_zald (pc := 96) (dk dt_X12_pass_1 15 rfl) v15 v16 v17 (fun _ => ?_)
      refine v_if_eq (pc := 97) (tgt := 108) (dk dt_X12_pass_1 16 rfl) (by decide) (fun c18 => ?_) (fun c18 => ?_)
      · replace h := h.1 c18
        refine v_aload_n (pc := 108) (dk dt_X12_pass_1 21 rfl) rfl rfl ?_
        obtain ⟨v19, h⟩ := h
        refine v_getZ (pc := 109) (dk dt_X12_pass_1 22 rfl) fl_X12_208 v19 (fun _ => ?_)
        refine v_if_ne (pc := 112) (tgt := 120) (dk dt_X12_pass_1 23 rfl) (by decide) (fun c20 => ?_) (fun c20 => ?_)
        · replace h := h.1 c20
          obtain ⟨v21, h⟩ := h
          refine v_iinc (pc := 120) (ls' := [some (rv l0), some (iv l1), some (iv l2), some (iv (l3 + 1))]) (dk dt_X12_pass_1 27 rfl) (Nat.le_of_ble_eq_true rfl) rfl v21 rfl ?_
          refine v_goto (pc := 123) (tgt := 62) (dk dt_X12_pass_1 28 rfl) (by decide) ?_
          exact h
        · replace h := h.2 c20
          refine v_aload_n (pc := 115) (dk dt_X12_pass_1 24 rfl) rfl rfl ?_
          refine v_iload_n (pc := 116) (dk dt_X12_pass_1 25 rfl) rfl rfl ?_
          obtain ⟨v22, h⟩ := h
          refine v_cvV (c := 12) (As := [iv l3]) (stk := []) (pc := 117) (dk dt_X12_pass_1 26 rfl) ml_X12_211 rfl rfl (Nat.le_of_ble_eq_true rfl) rfl ⟨by decide, rfl⟩ v22 rfl (Call.mono h (fun r23 G24 c25 s26 h => ?_))
          obtain ⟨v27, h⟩ := h
          refine v_iinc (pc := 120) (ls' := [some (rv l0), some (iv l1), some (iv l2), some (iv (l3 + 1))]) (dk dt_X12_pass_1 27 rfl) (Nat.le_of_ble_eq_true rfl) rfl v27 rfl ?_
          refine v_goto (pc := 123) (tgt := 62) (dk dt_X12_pass_1 28 rfl) (by decide) ?_
          exact h
      · replace h := h.2 c18
        refine v_aload_n (pc := 100) (dk dt_X12_pass_1 17 rfl) rfl rfl ?_
        refine v_iload_n (pc := 101) (dk dt_X12_pass_1 18 rfl) rfl rfl ?_
        obtain ⟨v28, h⟩ := h
        refine v_cvV (c := 12) (As := [iv l3]) (stk := []) (pc := 102) (dk dt_X12_pass_1 19 rfl) ml_X12_204 rfl rfl (Nat.le_of_ble_eq_true rfl) rfl ⟨by decide, rfl⟩ v28 rfl (Call.mono h (fun r29 G30 c31 s32 h => ?_))
        refine v_goto (pc := 105) (tgt := 120) (dk dt_X12_pass_1 20 rfl) (by decide) ?_
        obtain ⟨v33, h⟩ := h
        refine v_iinc (pc := 120) (ls' := [some (rv l0), some (iv l1), some (iv l2), some (iv (l3 + 1))]) (dk dt_X12_pass_1 27 rfl) (Nat.le_of_ble_eq_true rfl) rfl v33 rfl ?_
        refine v_goto (pc := 123) (tgt := 62) (dk dt_X12_pass_1 28 rfl) (by decide) ?_
        exact h
set_option maxRecDepth 20000 in
theorem b_X12_retain_0 {E : EE} {l0 l1 : Int} {G : Gt} {c s : Nat} {Q X : Int → Gt → Prop} (h : (OkP E M_X12_in [iv l1, iv 1, iv 100000] G (wIn l1 1 100000) ∧ gcl G l0 = 13 ∧ ∀ G4 : Gt, G4 = (sfd G 12 0 l0 (if (wIn l1 1 100000) = 0 then (1 : Int) else 0)) → gcl G4 l0 = 13 ∧ (((gfd G4 12 0 l0) ≤ 0 → (gcl G4 l0 = 13 ∧ gcl G4 l0 = 13 ∧ ∀ G9 : Gt, G9 = (sfd G4 12 2 l0 l1) → Q (gfd G4 12 2 l0) G9)) ∧ (0 < (gfd G4 12 0 l0) → Q 0 G4)))) : V E M_X12_retain 0 [some (rv l0), some (iv l1), none] [] G c s Q X := by
  refine v_aload_n (pc := 0) (dk dt_X12_retain 0 rfl) rfl rfl ?_
  refine v_iload_n (pc := 1) (dk dt_X12_retain 1 rfl) rfl rfl ?_
  refine v_iconst (pc := 2) (dk dt_X12_retain 2 rfl) ⟨by decide, by decide⟩ ?_
  refine v_ldc (pc := 3) (dk dt_X12_retain 3 rfl) co_X12_189 ⟨by decide, by decide⟩ ?_
  obtain ⟨v1, h⟩ := h
  refine v_csPZ (v := (wIn l1 1 100000)) (As := [iv l1, iv 1, iv 100000]) (stk := [rv l0]) (pc := 5) (dk dt_X12_retain 4 rfl) ml_X12_172 rfl rfl (Nat.le_of_ble_eq_true rfl) rfl rfl v1 ?_
  suffices k10 : V E M_X12_retain 16 [some (rv l0), some (iv l1), none] [iv (if (wIn l1 1 100000) = 0 then (1 : Int) else 0), rv l0] G c s Q X by
    refine v_if_eq (pc := 8) (tgt := 15) (dk dt_X12_retain 5 rfl) (by decide) (fun c2 => ?_) (fun c2 => ?_)
    · refine v_iconst (pc := 15) (dk dt_X12_retain 8 rfl) ⟨by decide, by decide⟩ ?_
      exact v_less2 (ls' := [some (rv l0), some (iv l1), none]) ⟨rfl, rfl, trivial⟩ (by have hk9 := k10; try simp only [if_pos c2] at hk9 ⊢; exact hk9)
    · refine v_iconst (pc := 11) (dk dt_X12_retain 6 rfl) ⟨by decide, by decide⟩ ?_
      refine v_goto (pc := 12) (tgt := 16) (dk dt_X12_retain 7 rfl) (by decide) ?_
      exact v_less2 (ls' := [some (rv l0), some (iv l1), none]) ⟨rfl, rfl, trivial⟩ (by have hk9 := k10; try simp only [if_neg c2] at hk9 ⊢; exact hk9)
  obtain ⟨v3, h⟩ := h
  refine v_putI (pc := 16) (dk dt_X12_retain 9 rfl) fl_X12_127 (Or.inl rfl) v3 ?_
  generalize hG4 : (sfd G 12 0 l0 (if (wIn l1 1 100000) = 0 then (1 : Int) else 0)) = G4
  replace h := h G4 hG4.symm
  refine v_aload_n (pc := 19) (dk dt_X12_retain 10 rfl) rfl rfl ?_
  obtain ⟨v5, h⟩ := h
  refine v_getI (pc := 20) (dk dt_X12_retain 11 rfl) fl_X12_127 v5 (fun _ => ?_)
  refine v_if_le (pc := 23) (tgt := 28) (dk dt_X12_retain 12 rfl) (by decide) (fun c6 => ?_) (fun c6 => ?_)
  · replace h := h.1 c6
    refine v_aload_n (pc := 28) (dk dt_X12_retain 15 rfl) rfl rfl ?_
    obtain ⟨v7, h⟩ := h
    refine v_getI (pc := 29) (dk dt_X12_retain 16 rfl) fl_X12_9 v7 (fun _ => ?_)
    refine v_istore_n (pc := 32) (ls' := [some (rv l0), some (iv l1), some (iv (gfd G4 12 2 l0))]) (dk dt_X12_retain 17 rfl) rfl (Nat.le_of_ble_eq_true rfl) rfl ?_
    refine v_aload_n (pc := 33) (dk dt_X12_retain 18 rfl) rfl rfl ?_
    refine v_iload_n (pc := 34) (dk dt_X12_retain 19 rfl) rfl rfl ?_
    obtain ⟨v8, h⟩ := h
    refine v_putI (pc := 35) (dk dt_X12_retain 20 rfl) fl_X12_9 (Or.inl rfl) v8 ?_
    generalize hG9 : (sfd G4 12 2 l0 l1) = G9
    replace h := h G9 hG9.symm
    refine v_iload_n (pc := 38) (dk dt_X12_retain 21 rfl) rfl rfl ?_
    exact v_iret (pc := 39) (dk dt_X12_retain 22 rfl) rfl h
  · replace h := h.2 c6
    refine v_iconst (pc := 26) (dk dt_X12_retain 13 rfl) ⟨by decide, by decide⟩ ?_
    exact v_iret (pc := 27) (dk dt_X12_retain 14 rfl) rfl h
set_option maxRecDepth 20000 in
theorem i_X12_retain {E : EE} {l0 l1 : Int} {G : Gt} {c s : Nat} {Q X : Int → Gt → Prop} (h : (OkP E M_X12_in [iv l1, iv 1, iv 100000] G (wIn l1 1 100000) ∧ gcl G l0 = 13 ∧ ∀ G4 : Gt, G4 = (sfd G 12 0 l0 (if (wIn l1 1 100000) = 0 then (1 : Int) else 0)) → gcl G4 l0 = 13 ∧ (((gfd G4 12 0 l0) ≤ 0 → (gcl G4 l0 = 13 ∧ gcl G4 l0 = 13 ∧ ∀ G9 : Gt, G9 = (sfd G4 12 2 l0 l1) → Q (gfd G4 12 2 l0) G9)) ∧ (0 < (gfd G4 12 0 l0) → Q 0 G4)))) : Ok E M_X12_retain [rv l0, iv l1] G c s Q X := Ok.intro (k := 1) rfl rfl (Nat.le_of_ble_eq_true rfl) rfl (b_X12_retain_0 h)
set_option maxRecDepth 20000 in
theorem b_X12_flush_0 {E : EE} {l0 : Int} {G : Gt} {c s : Nat} {Q X : Int → Gt → Prop} (h : (gcl G l0 = 13 ∧ ∀ G2 : Gt, G2 = (sfd G 12 0 l0 0) → V E M_X12_flush 9 [some (rv l0), some (iv 0), some (iv 0), none] [] G2 c s Q X)) : V E M_X12_flush 0 [some (rv l0), none, none, none] [] G c s Q X := by
  refine v_aload_n (pc := 0) (dk dt_X12_flush 0 rfl) rfl rfl ?_
  refine v_iconst (pc := 1) (dk dt_X12_flush 1 rfl) ⟨by decide, by decide⟩ ?_
  obtain ⟨v1, h⟩ := h
  refine v_putI (pc := 2) (dk dt_X12_flush 2 rfl) fl_X12_127 (Or.inl rfl) v1 ?_
  generalize hG2 : (sfd G 12 0 l0 0) = G2
  replace h := h G2 hG2.symm
  refine v_iconst (pc := 5) (dk dt_X12_flush 3 rfl) ⟨by decide, by decide⟩ ?_
  refine v_istore_n (pc := 6) (ls' := [some (rv l0), some (iv 0), none, none]) (dk dt_X12_flush 4 rfl) rfl (Nat.le_of_ble_eq_true rfl) rfl ?_
  refine v_iconst (pc := 7) (dk dt_X12_flush 5 rfl) ⟨by decide, by decide⟩ ?_
  refine v_istore_n (pc := 8) (ls' := [some (rv l0), some (iv 0), some (iv 0), none]) (dk dt_X12_flush 6 rfl) rfl (Nat.le_of_ble_eq_true rfl) rfl ?_
  exact h
set_option maxRecDepth 20000 in
theorem i_X12_flush {E : EE} {l0 : Int} {G : Gt} {c s : Nat} {Q X : Int → Gt → Prop} (h : (gcl G l0 = 13 ∧ ∀ G2 : Gt, G2 = (sfd G 12 0 l0 0) → V E M_X12_flush 9 [some (rv l0), some (iv 0), some (iv 0), none] [] G2 c s Q X)) : Ok E M_X12_flush [rv l0] G c s Q X := Ok.intro (k := 3) rfl rfl (Nat.le_of_ble_eq_true rfl) rfl (b_X12_flush_0 h)
set_option maxRecDepth 20000 in
theorem b_X12_flush_9 {E : EE} {l0 l1 l2 : Int} {G : Gt} {c s : Nat} {Q X : Int → Gt → Prop} (h : (gcl G l0 = 13 ∧ (((gfd G 12 12 l0) ≤ l2 → (gcl G l0 = 13 ∧ ∀ G4 : Gt, G4 = (sfd G 12 12 l0 l1) → gcl G4 l0 = 13 ∧ ∀ G6 : Gt, G6 = (sfd G4 12 14 l0 0) → gcl G6 l0 = 13 ∧ ∀ G8 : Gt, G8 = (sfd G6 12 15 l0 0) → gcl G8 l0 = 13 ∧ ∀ G10 : Gt, G10 = (sfd G8 12 19 l0 0) → V E M_X12_flush 129 [some (rv l0), none, some (iv 0), none] [] G10 c s Q X)) ∧ (l2 < (gfd G 12 12 l0) → (gcl G l0 = 13 ∧ OkP E M_X12_isSeen [rv l0, iv l2] G (mSeen G l0 l2) ∧ (((mSeen G l0 l2) = 0 → (i32 (l2 + 1) ∧ V E M_X12_flush 9 [some (rv l0), some (iv l1), some (iv (l2 + 1)), none] [] G c s Q X)) ∧ ((mSeen G l0 l2) ≠ 0 → (gcl G l0 = 13 ∧ gcl G l0 = 13 ∧ gcl G (gfd G 12 8 l0) = 15 ∧ 0 ≤ l2 ∧ l2 < gln G (gfd G 12 8 l0) ∧ i32 ((gfd G 12 1 l0) - (gel G (gfd G 12 8 l0) l2)) ∧ gcl G l0 = 13 ∧ (((gfd G 12 2 l0) < ((gfd G 12 1 l0) - (gel G (gfd G 12 8 l0) l2)) → (i32 (l2 + 1) ∧ V E M_X12_flush 9 [some (rv l0), some (iv l1), some (iv (l2 + 1)), none] [] G c s Q X)) ∧ (((gfd G 12 1 l0) - (gel G (gfd G 12 8 l0) l2)) ≤ (gfd G 12 2 l0) → (gcl G l0 = 13 ∧ gcl G l0 = 13 ∧ gcl G (gfd G 12 7 l0) = 15 ∧ 0 ≤ l2 ∧ l2 < gln G (gfd G 12 7 l0) ∧ gcl G (gfd G 12 7 l0) = 15 ∧ 0 ≤ l1 ∧ l1 < gln G (gfd G 12 7 l0) ∧ ∀ G32 : Gt, G32 = (sel G (gfd G 12 7 l0) l1 (gel G (gfd G 12 7 l0) l2)) → gcl G32 l0 = 13 ∧ gcl G32 l0 = 13 ∧ gcl G32 (gfd G32 12 8 l0) = 15 ∧ 0 ≤ l2 ∧ l2 < gln G32 (gfd G32 12 8 l0) ∧ gcl G32 (gfd G32 12 8 l0) = 15 ∧ 0 ≤ l1 ∧ l1 < gln G32 (gfd G32 12 8 l0) ∧ ∀ G41 : Gt, G41 = (sel G32 (gfd G32 12 8 l0) l1 (gel G32 (gfd G32 12 8 l0) l2)) → gcl G41 l0 = 13 ∧ gcl G41 l0 = 13 ∧ gcl G41 (gfd G41 12 9 l0) = 15 ∧ 0 ≤ l2 ∧ l2 < gln G41 (gfd G41 12 9 l0) ∧ gcl G41 (gfd G41 12 9 l0) = 15 ∧ 0 ≤ l1 ∧ l1 < gln G41 (gfd G41 12 9 l0) ∧ ∀ G50 : Gt, G50 = (sel G41 (gfd G41 12 9 l0) l1 (gel G41 (gfd G41 12 9 l0) l2)) → gcl G50 l0 = 13 ∧ gcl G50 l0 = 13 ∧ gcl G50 (gfd G50 12 11 l0) = 17 ∧ 0 ≤ l2 ∧ l2 < gln G50 (gfd G50 12 11 l0) ∧ gcl G50 (gfd G50 12 11 l0) = 17 ∧ 0 ≤ l1 ∧ l1 < gln G50 (gfd G50 12 11 l0) ∧ ((gel G50 (gfd G50 12 11 l0) l2) = 0 ∨ (gel G50 (gfd G50 12 11 l0) l2) = 1) ∧ ∀ G60 : Gt, G60 = (sel G50 (gfd G50 12 11 l0) l1 (gel G50 (gfd G50 12 11 l0) l2)) → gcl G60 l0 = 13 ∧ gcl G60 (gfd G60 12 10 l0) = 15 ∧ 0 ≤ l1 ∧ l1 < gln G60 (gfd G60 12 10 l0) ∧ ∀ G65 : Gt, G65 = (sel G60 (gfd G60 12 10 l0) l1 0) → i32 (l1 + 1) ∧ i32 (l2 + 1) ∧ V E M_X12_flush 9 [some (rv l0), some (iv (l1 + 1)), some (iv (l2 + 1)), none] [] G65 c s Q X))))))))))) : V E M_X12_flush 9 [some (rv l0), some (iv l1), some (iv l2), none] [] G c s Q X := by
  refine v_iload_n (pc := 9) (dk dt_X12_flush 7 rfl) rfl rfl ?_
  refine v_aload_n (pc := 10) (dk dt_X12_flush 8 rfl) rfl rfl ?_
  obtain ⟨v1, h⟩ := h
  refine v_getI (pc := 11) (dk dt_X12_flush 9 rfl) fl_X12_154 v1 (fun _ => ?_)
  refine v_icmp_ge (pc := 14) (tgt := 107) (dk dt_X12_flush 10 rfl) (by decide) (fun c2 => ?_) (fun c2 => ?_)
  · replace h := h.1 c2
    refine v_aload_n (pc := 107) (dk dt_X12_flush_1 25 rfl) rfl rfl ?_
    refine v_iload_n (pc := 108) (dk dt_X12_flush_1 26 rfl) rfl rfl ?_
    obtain ⟨v3, h⟩ := h
    refine v_putI (pc := 109) (dk dt_X12_flush_1 27 rfl) fl_X12_154 (Or.inl rfl) v3 ?_
    generalize hG4 : (sfd G 12 12 l0 l1) = G4
    replace h := h G4 hG4.symm
    refine v_aload_n (pc := 112) (dk dt_X12_flush_1 28 rfl) rfl rfl ?_
    refine v_iconst (pc := 113) (dk dt_X12_flush_1 29 rfl) ⟨by decide, by decide⟩ ?_
    obtain ⟨v5, h⟩ := h
    refine v_putI (pc := 114) (dk dt_X12_flush_1 30 rfl) fl_X12_169 (Or.inl rfl) v5 ?_
    generalize hG6 : (sfd G4 12 14 l0 0) = G6
    replace h := h G6 hG6.symm
    refine v_aload_n (pc := 117) (dk dt_X12_flush_1 31 rfl) rfl rfl ?_
    refine v_iconst (pc := 118) (dk dt_X12_flush_1 32 rfl) ⟨by decide, by decide⟩ ?_
    obtain ⟨v7, h⟩ := h
    refine v_putI (pc := 119) (dk dt_X12_flush_1 33 rfl) fl_X12_190 (Or.inl rfl) v7 ?_
    generalize hG8 : (sfd G6 12 15 l0 0) = G8
    replace h := h G8 hG8.symm
    refine v_aload_n (pc := 122) (dk dt_X12_flush_1 34 rfl) rfl rfl ?_
    refine v_iconst (pc := 123) (dk dt_X12_flush_1 35 rfl) ⟨by decide, by decide⟩ ?_
    obtain ⟨v9, h⟩ := h
    refine v_putI (pc := 124) (dk dt_X12_flush_1 36 rfl) fl_X12_214 (Or.inl rfl) v9 ?_
    generalize hG10 : (sfd G8 12 19 l0 0) = G10
    replace h := h G10 hG10.symm
    refine v_iconst (pc := 127) (dk dt_X12_flush_1 37 rfl) ⟨by decide, by decide⟩ ?_
    refine v_istore_n (pc := 128) (ls' := [some (rv l0), some (iv l1), some (iv 0), none]) (dk dt_X12_flush_1 38 rfl) rfl (Nat.le_of_ble_eq_true rfl) rfl ?_
    exact v_less2 (ls' := [some (rv l0), none, some (iv 0), none]) ⟨rfl, rfl, trivial⟩ h
  · replace h := h.2 c2
    refine v_aload_n (pc := 17) (dk dt_X12_flush 11 rfl) rfl rfl ?_
    refine v_iload_n (pc := 18) (dk dt_X12_flush 12 rfl) rfl rfl ?_
    obtain ⟨v11, h⟩ := h
    obtain ⟨v12, h⟩ := h
    refine v_cvPZ (c := 12) (v := (mSeen G l0 l2)) (As := [iv l2]) (stk := []) (pc := 19) (dk dt_X12_flush 13 rfl) ml_X12_157 rfl rfl (Nat.le_of_ble_eq_true rfl) rfl ⟨by decide, rfl⟩ v11 rfl v12 ?_
    refine v_if_eq (pc := 22) (tgt := 101) (dk dt_X12_flush 14 rfl) (by decide) (fun c13 => ?_) (fun c13 => ?_)
    · replace h := h.1 c13
      obtain ⟨v14, h⟩ := h
      refine v_iinc (pc := 101) (ls' := [some (rv l0), some (iv l1), some (iv (l2 + 1)), none]) (dk dt_X12_flush_1 23 rfl) (Nat.le_of_ble_eq_true rfl) rfl v14 rfl ?_
      refine v_goto (pc := 104) (tgt := 9) (dk dt_X12_flush_1 24 rfl) (by decide) ?_
      exact h
    · replace h := h.2 c13
      refine v_aload_n (pc := 25) (dk dt_X12_flush 15 rfl) rfl rfl ?_
      obtain ⟨v15, h⟩ := h
      refine v_getI (pc := 26) (dk dt_X12_flush 16 rfl) fl_X12_176 v15 (fun _ => ?_)
      refine v_aload_n (pc := 29) (dk dt_X12_flush 17 rfl) rfl rfl ?_
      obtain ⟨v16, h⟩ := h
      refine v_getR (pc := 30) (dk dt_X12_flush 18 rfl) fl_X12_29 v16 (fun _ => ?_)
      refine v_iload_n (pc := 33) (dk dt_X12_flush 19 rfl) rfl rfl ?_
      obtain ⟨v17, h⟩ := h
      obtain ⟨v18, h⟩ := h
      obtain ⟨v19, h⟩ := h
      refine v_iald (pc := 34) (dk dt_X12_flush 20 rfl) (Or.inl v17) v18 v19 (fun _ => ?_)
      obtain ⟨v20, h⟩ := h
      refine v_isub (pc := 35) (dk dt_X12_flush 21 rfl) v20 ?_
      refine v_aload_n (pc := 36) (dk dt_X12_flush 22 rfl) rfl rfl ?_
      obtain ⟨v21, h⟩ := h
      refine v_getI (pc := 37) (dk dt_X12_flush 23 rfl) fl_X12_9 v21 (fun _ => ?_)
      refine v_icmp_gt (pc := 40) (tgt := 101) (dk dt_X12_flush 24 rfl) (by decide) (fun c22 => ?_) (fun c22 => ?_)
      · replace h := h.1 c22
        obtain ⟨v23, h⟩ := h
        refine v_iinc (pc := 101) (ls' := [some (rv l0), some (iv l1), some (iv (l2 + 1)), none]) (dk dt_X12_flush_1 23 rfl) (Nat.le_of_ble_eq_true rfl) rfl v23 rfl ?_
        refine v_goto (pc := 104) (tgt := 9) (dk dt_X12_flush_1 24 rfl) (by decide) ?_
        exact h
      · replace h := h.2 c22
        refine v_aload_n (pc := 43) (dk dt_X12_flush 25 rfl) rfl rfl ?_
        obtain ⟨v24, h⟩ := h
        refine v_getR (pc := 44) (dk dt_X12_flush 26 rfl) fl_X12_26 v24 (fun _ => ?_)
        refine v_iload_n (pc := 47) (dk dt_X12_flush 27 rfl) rfl rfl ?_
        refine v_aload_n (pc := 48) (dk dt_X12_flush 28 rfl) rfl rfl ?_
        obtain ⟨v25, h⟩ := h
        refine v_getR (pc := 49) (dk dt_X12_flush 29 rfl) fl_X12_26 v25 (fun _ => ?_)
        refine v_iload_n (pc := 52) (dk dt_X12_flush 30 rfl) rfl rfl ?_
        obtain ⟨v26, h⟩ := h
        obtain ⟨v27, h⟩ := h
        obtain ⟨v28, h⟩ := h
        refine v_iald (pc := 53) (dk dt_X12_flush 31 rfl) (Or.inl v26) v27 v28 (fun _ => ?_)
        obtain ⟨v29, h⟩ := h
        obtain ⟨v30, h⟩ := h
        obtain ⟨v31, h⟩ := h
        refine v_iast (pc := 54) (dk dt_X12_flush 32 rfl) v29 v30 v31 ?_
        generalize hG32 : (sel G (gfd G 12 7 l0) l1 (gel G (gfd G 12 7 l0) l2)) = G32
        replace h := h G32 hG32.symm
        refine v_aload_n (pc := 55) (dk dt_X12_flush 33 rfl) rfl rfl ?_
        obtain ⟨v33, h⟩ := h
        refine v_getR (pc := 56) (dk dt_X12_flush 34 rfl) fl_X12_29 v33 (fun _ => ?_)
        refine v_iload_n (pc := 59) (dk dt_X12_flush 35 rfl) rfl rfl ?_
        refine v_aload_n (pc := 60) (dk dt_X12_flush 36 rfl) rfl rfl ?_
        obtain ⟨v34, h⟩ := h
        refine v_getR (pc := 61) (dk dt_X12_flush 37 rfl) fl_X12_29 v34 (fun _ => ?_)
        refine v_iload_n (pc := 64) (dk dt_X12_flush 38 rfl) rfl rfl ?_
        obtain ⟨v35, h⟩ := h
        obtain ⟨v36, h⟩ := h
        obtain ⟨v37, h⟩ := h
        refine v_iald (pc := 65) (dk dt_X12_flush 39 rfl) (Or.inl v35) v36 v37 (fun _ => ?_)
        obtain ⟨v38, h⟩ := h
        obtain ⟨v39, h⟩ := h
        obtain ⟨v40, h⟩ := h
        refine v_iast (pc := 66) (dk dt_X12_flush_1 0 rfl) v38 v39 v40 ?_
        generalize hG41 : (sel G32 (gfd G32 12 8 l0) l1 (gel G32 (gfd G32 12 8 l0) l2)) = G41
        replace h := h G41 hG41.symm
        refine v_aload_n (pc := 67) (dk dt_X12_flush_1 1 rfl) rfl rfl ?_
        obtain ⟨v42, h⟩ := h
        refine v_getR (pc := 68) (dk dt_X12_flush_1 2 rfl) fl_X12_32 v42 (fun _ => ?_)
        refine v_iload_n (pc := 71) (dk dt_X12_flush_1 3 rfl) rfl rfl ?_
        refine v_aload_n (pc := 72) (dk dt_X12_flush_1 4 rfl) rfl rfl ?_
        obtain ⟨v43, h⟩ := h
        refine v_getR (pc := 73) (dk dt_X12_flush_1 5 rfl) fl_X12_32 v43 (fun _ => ?_)
        refine v_iload_n (pc := 76) (dk dt_X12_flush_1 6 rfl) rfl rfl ?_
        obtain ⟨v44, h⟩ := h
        obtain ⟨v45, h⟩ := h
        obtain ⟨v46, h⟩ := h
        refine v_iald (pc := 77) (dk dt_X12_flush_1 7 rfl) (Or.inl v44) v45 v46 (fun _ => ?_)
        obtain ⟨v47, h⟩ := h
        obtain ⟨v48, h⟩ := h
        obtain ⟨v49, h⟩ := h
        refine v_iast (pc := 78) (dk dt_X12_flush_1 8 rfl) v47 v48 v49 ?_
        generalize hG50 : (sel G41 (gfd G41 12 9 l0) l1 (gel G41 (gfd G41 12 9 l0) l2)) = G50
        replace h := h G50 hG50.symm
        refine v_aload_n (pc := 79) (dk dt_X12_flush_1 9 rfl) rfl rfl ?_
        obtain ⟨v51, h⟩ := h
        refine v_getR (pc := 80) (dk dt_X12_flush_1 10 rfl) fl_X12_38 v51 (fun _ => ?_)
        refine v_iload_n (pc := 83) (dk dt_X12_flush_1 11 rfl) rfl rfl ?_
        refine v_aload_n (pc := 84) (dk dt_X12_flush_1 12 rfl) rfl rfl ?_
        obtain ⟨v52, h⟩ := h
        refine v_getR (pc := 85) (dk dt_X12_flush_1 13 rfl) fl_X12_38 v52 (fun _ => ?_)
        refine v_iload_n (pc := 88) (dk dt_X12_flush_1 14 rfl) rfl rfl ?_
        obtain ⟨v53, h⟩ := h
        obtain ⟨v54, h⟩ := h
        obtain ⟨v55, h⟩ := h
        refine v_zald (pc := 89) (dk dt_X12_flush_1 15 rfl) v53 v54 v55 (fun _ => ?_)
        obtain ⟨v56, h⟩ := h
        obtain ⟨v57, h⟩ := h
        obtain ⟨v58, h⟩ := h
        obtain ⟨v59, h⟩ := h
        refine v_zast (pc := 90) (dk dt_X12_flush_1 16 rfl) v56 v57 v58 v59 ?_
        generalize hG60 : (sel G50 (gfd G50 12 11 l0) l1 (gel G50 (gfd G50 12 11 l0) l2)) = G60
        replace h := h G60 hG60.symm
        refine v_aload_n (pc := 91) (dk dt_X12_flush_1 17 rfl) rfl rfl ?_
        obtain ⟨v61, h⟩ := h
        refine v_getR (pc := 92) (dk dt_X12_flush_1 18 rfl) fl_X12_35 v61 (fun _ => ?_)
        refine v_iload_n (pc := 95) (dk dt_X12_flush_1 19 rfl) rfl rfl ?_
        refine v_iconst (pc := 96) (dk dt_X12_flush_1 20 rfl) ⟨by decide, by decide⟩ ?_
        obtain ⟨v62, h⟩ := h
        obtain ⟨v63, h⟩ := h
        obtain ⟨v64, h⟩ := h
        refine v_iast (pc := 97) (dk dt_X12_flush_1 21 rfl) v62 v63 v64 ?_
        generalize hG65 : (sel G60 (gfd G60 12 10 l0) l1 0) = G65
        replace h := h G65 hG65.symm
        obtain ⟨v66, h⟩ := h
        refine v_iinc (pc := 98) (ls' := [some (rv l0), some (iv (l1 + 1)), some (iv l2), none]) (dk dt_X12_flush_1 22 rfl) (Nat.le_of_ble_eq_true rfl) rfl v66 rfl ?_
        obtain ⟨v67, h⟩ := h
        refine v_iinc (pc := 101) (ls' := [some (rv l0), some (iv (l1 + 1)), some (iv (l2 + 1)), none]) (dk dt_X12_flush_1 23 rfl) (Nat.le_of_ble_eq_true rfl) rfl v67 rfl ?_
        refine v_goto (pc := 104) (tgt := 9) (dk dt_X12_flush_1 24 rfl) (by decide) ?_
        exact h
set_option maxRecDepth 20000 in
theorem b_X12_flush_129 {E : EE} {l0 l2 : Int} {G : Gt} {c s : Nat} {Q X : Int → Gt → Prop} (h : (gcl G l0 = 13 ∧ (((gfd G 12 6 l0) ≤ l2 → (gcl G l0 = 13 ∧ Q (gfd G 12 19 l0) G)) ∧ (l2 < (gfd G 12 6 l0) → (gcl G l0 = 13 ∧ Call E M_X12_nextTime [rv l0, iv l2, iv (-1)] G c s X (fun r5 G6 c7 s8 => V E M_X12_flush 144 [some (rv l0), none, some (iv l2), some (iv r5)] [] G6 c7 s8 Q X)))))) : V E M_X12_flush 129 [some (rv l0), none, some (iv l2), none] [] G c s Q X := by
  refine v_iload_n (pc := 129) (dk dt_X12_flush_1 39 rfl) rfl rfl ?_
  refine v_aload_n (pc := 130) (dk dt_X12_flush_2 0 rfl) rfl rfl ?_
  obtain ⟨v1, h⟩ := h
  refine v_getI (pc := 131) (dk dt_X12_flush_2 1 rfl) fl_X12_142 v1 (fun _ => ?_)
  refine v_icmp_ge (pc := 134) (tgt := 222) (dk dt_X12_flush_2 2 rfl) (by decide) (fun c2 => ?_) (fun c2 => ?_)
  · replace h := h.1 c2
    refine v_aload_n (pc := 222) (dk dt_X12_flush_3 14 rfl) rfl rfl ?_
    obtain ⟨v3, h⟩ := h
    refine v_getI (pc := 223) (dk dt_X12_flush_3 15 rfl) fl_X12_214 v3 (fun _ => ?_)
    exact v_iret (pc := 226) (dk dt_X12_flush_3 16 rfl) rfl h
  · replace h := h.2 c2
    refine v_aload_n (pc := 137) (dk dt_X12_flush_2 3 rfl) rfl rfl ?_
    refine v_iload_n (pc := 138) (dk dt_X12_flush_2 4 rfl) rfl rfl ?_
    refine v_iconst (pc := 139) (dk dt_X12_flush_2 5 rfl) ⟨by decide, by decide⟩ ?_
    obtain ⟨v4, h⟩ := h
    refine v_cvI (c := 12) (As := [iv l2, iv (-1)]) (stk := []) (pc := 140) (dk dt_X12_flush_2 6 rfl) ml_X12_217 rfl rfl (Nat.le_of_ble_eq_true rfl) rfl ⟨by decide, rfl⟩ v4 rfl (Call.mono h (fun r5 G6 c7 s8 h => ?_))
    refine v_istore_n (pc := 143) (ls' := [some (rv l0), none, some (iv l2), some (iv r5)]) (dk dt_X12_flush_2 7 rfl) rfl (Nat.le_of_ble_eq_true rfl) rfl ?_
    exact h
set_option maxRecDepth 20000 in
theorem b_X12_flush_144 {E : EE} {l0 l2 l3 : Int} {G : Gt} {c s : Nat} {Q X : Int → Gt → Prop} (h : ((l3 = (-1) → (i32 (l2 + 1) ∧ V E M_X12_flush 129 [some (rv l0), none, some (iv (l2 + 1)), none] [] G c s Q X)) ∧ (l3 ≠ (-1) → (gcl G l0 = 13 ∧ gcl G l0 = 13 ∧ gcl G (gfd G 12 16 l0) = 15 ∧ 0 ≤ (gfd G 12 19 l0) ∧ (gfd G 12 19 l0) < gln G (gfd G 12 16 l0) ∧ ∀ G8 : Gt, G8 = (sel G (gfd G 12 16 l0) (gfd G 12 19 l0) l2) → gcl G8 l0 = 13 ∧ gcl G8 l0 = 13 ∧ gcl G8 (gfd G8 12 17 l0) = 15 ∧ 0 ≤ (gfd G8 12 19 l0) ∧ (gfd G8 12 19 l0) < gln G8 (gfd G8 12 17 l0) ∧ ∀ G14 : Gt, G14 = (sel G8 (gfd G8 12 17 l0) (gfd G8 12 19 l0) (Int.tdiv l3 100)) → gcl G14 l0 = 13 ∧ gcl G14 l0 = 13 ∧ gcl G14 l0 = 13 ∧ Call E M_X12_packed [rv l0, iv l2, iv l3] G14 c s X (fun r18 G19 c20 s21 => gcl G19 (gfd G14 12 18 l0) = 15 ∧ 0 ≤ (gfd G14 12 19 l0) ∧ (gfd G14 12 19 l0) < gln G19 (gfd G14 12 18 l0) ∧ ∀ G25 : Gt, G25 = (sel G19 (gfd G14 12 18 l0) (gfd G14 12 19 l0) r18) → gcl G25 l0 = 13 ∧ i32 ((gfd G25 12 19 l0) + 1) ∧ gcl G25 l0 = 13 ∧ ∀ G29 : Gt, G29 = (sfd G25 12 19 l0 ((gfd G25 12 19 l0) + 1)) → i32 ((Int.tdiv l3 100) * 100) ∧ i32 (((Int.tdiv l3 100) * 100) + 99) ∧ gcl G29 l0 = 13 ∧ Call E M_X12_nextTime [rv l0, iv l2, iv (((Int.tdiv l3 100) * 100) + 99)] G29 c20 s21 X (fun r33 G34 c35 s36 => V E M_X12_flush 144 [some (rv l0), none, some (iv l2), some (iv r33)] [] G34 c35 s36 Q X)))))) : V E M_X12_flush 144 [some (rv l0), none, some (iv l2), some (iv l3)] [] G c s Q X := by
  refine v_iload_n (pc := 144) (dk dt_X12_flush_2 8 rfl) rfl rfl ?_
  refine v_iconst (pc := 145) (dk dt_X12_flush_2 9 rfl) ⟨by decide, by decide⟩ ?_
  refine v_icmp_eq (pc := 146) (tgt := 216) (dk dt_X12_flush_2 10 rfl) (by decide) (fun c1 => ?_) (fun c1 => ?_)
  · replace h := h.1 c1
    obtain ⟨v2, h⟩ := h
    refine v_iinc (pc := 216) (ls' := [some (rv l0), none, some (iv (l2 + 1)), some (iv l3)]) (dk dt_X12_flush_3 12 rfl) (Nat.le_of_ble_eq_true rfl) rfl v2 rfl ?_
    refine v_goto (pc := 219) (tgt := 129) (dk dt_X12_flush_3 13 rfl) (by decide) ?_
    exact v_less2 (ls' := [some (rv l0), none, some (iv (l2 + 1)), none]) ⟨rfl, rfl, trivial⟩ h
  · replace h := h.2 c1
    refine v_aload_n (pc := 149) (dk dt_X12_flush_2 11 rfl) rfl rfl ?_
    obtain ⟨v3, h⟩ := h
    refine v_getR (pc := 150) (dk dt_X12_flush_2 12 rfl) fl_X12_45 v3 (fun _ => ?_)
    refine v_aload_n (pc := 153) (dk dt_X12_flush_2 13 rfl) rfl rfl ?_
    obtain ⟨v4, h⟩ := h
    refine v_getI (pc := 154) (dk dt_X12_flush_2 14 rfl) fl_X12_214 v4 (fun _ => ?_)
    refine v_iload_n (pc := 157) (dk dt_X12_flush_2 15 rfl) rfl rfl ?_
    obtain ⟨v5, h⟩ := h
    obtain ⟨v6, h⟩ := h
    obtain ⟨v7, h⟩ := h
    refine v_iast (pc := 158) (dk dt_X12_flush_2 16 rfl) v5 v6 v7 ?_
    generalize hG8 : (sel G (gfd G 12 16 l0) (gfd G 12 19 l0) l2) = G8
    replace h := h G8 hG8.symm
    refine v_aload_n (pc := 159) (dk dt_X12_flush_2 17 rfl) rfl rfl ?_
    obtain ⟨v9, h⟩ := h
    refine v_getR (pc := 160) (dk dt_X12_flush_2 18 rfl) fl_X12_48 v9 (fun _ => ?_)
    refine v_aload_n (pc := 163) (dk dt_X12_flush_2 19 rfl) rfl rfl ?_
    obtain ⟨v10, h⟩ := h
    refine v_getI (pc := 164) (dk dt_X12_flush_2 20 rfl) fl_X12_214 v10 (fun _ => ?_)
    refine v_iload_n (pc := 167) (dk dt_X12_flush_2 21 rfl) rfl rfl ?_
    refine v_bipush (pc := 168) (dk dt_X12_flush_2 22 rfl) (by decide) ⟨by decide, by decide⟩ ?_
    refine v_idivP (pc := 170) (dk dt_X12_flush_2 23 rfl) (by decide) ?_
    obtain ⟨v11, h⟩ := h
    obtain ⟨v12, h⟩ := h
    obtain ⟨v13, h⟩ := h
    refine v_iast (pc := 171) (dk dt_X12_flush_2 24 rfl) v11 v12 v13 ?_
    generalize hG14 : (sel G8 (gfd G8 12 17 l0) (gfd G8 12 19 l0) (Int.tdiv l3 100)) = G14
    replace h := h G14 hG14.symm
    refine v_aload_n (pc := 172) (dk dt_X12_flush_2 25 rfl) rfl rfl ?_
    obtain ⟨v15, h⟩ := h
    refine v_getR (pc := 173) (dk dt_X12_flush_2 26 rfl) fl_X12_51 v15 (fun _ => ?_)
    refine v_aload_n (pc := 176) (dk dt_X12_flush_2 27 rfl) rfl rfl ?_
    obtain ⟨v16, h⟩ := h
    refine v_getI (pc := 177) (dk dt_X12_flush_2 28 rfl) fl_X12_214 v16 (fun _ => ?_)
    refine v_aload_n (pc := 180) (dk dt_X12_flush_2 29 rfl) rfl rfl ?_
    refine v_iload_n (pc := 181) (dk dt_X12_flush_2 30 rfl) rfl rfl ?_
    refine v_iload_n (pc := 182) (dk dt_X12_flush_2 31 rfl) rfl rfl ?_
    obtain ⟨v17, h⟩ := h
    refine v_cvI (c := 12) (As := [iv l2, iv l3]) (stk := [iv (gfd G14 12 19 l0), rv (gfd G14 12 18 l0)]) (pc := 183) (dk dt_X12_flush_2 32 rfl) ml_X12_221 rfl rfl (Nat.le_of_ble_eq_true rfl) rfl ⟨by decide, rfl⟩ v17 rfl (Call.mono h (fun r18 G19 c20 s21 h => ?_))
    obtain ⟨v22, h⟩ := h
    obtain ⟨v23, h⟩ := h
    obtain ⟨v24, h⟩ := h
    refine v_iast (pc := 186) (dk dt_X12_flush_2 33 rfl) v22 v23 v24 ?_
    generalize hG25 : (sel G19 (gfd G14 12 18 l0) (gfd G14 12 19 l0) r18) = G25
    replace h := h G25 hG25.symm
    refine v_aload_n (pc := 187) (dk dt_X12_flush_2 34 rfl) rfl rfl ?_
    refine v_dup (pc := 188) (dk dt_X12_flush_2 35 rfl) (by intro h9; cases h9) ?_
    obtain ⟨v26, h⟩ := h
    refine v_getI (pc := 189) (dk dt_X12_flush_2 36 rfl) fl_X12_214 v26 (fun _ => ?_)
    refine v_iconst (pc := 192) (dk dt_X12_flush_2 37 rfl) ⟨by decide, by decide⟩ ?_
    obtain ⟨v27, h⟩ := h
    refine v_iadd (pc := 193) (dk dt_X12_flush_2 38 rfl) v27 ?_
    obtain ⟨v28, h⟩ := h
    refine v_putI (pc := 194) (dk dt_X12_flush_2 39 rfl) fl_X12_214 (Or.inl rfl) v28 ?_
    generalize hG29 : (sfd G25 12 19 l0 ((gfd G25 12 19 l0) + 1)) = G29
    replace h := h G29 hG29.symm
    refine v_aload_n (pc := 197) (dk dt_X12_flush_3 0 rfl) rfl rfl ?_
    refine v_iload_n (pc := 198) (dk dt_X12_flush_3 1 rfl) rfl rfl ?_
    refine v_iload_n (pc := 199) (dk dt_X12_flush_3 2 rfl) rfl rfl ?_
    refine v_bipush (pc := 200) (dk dt_X12_flush_3 3 rfl) (by decide) ⟨by decide, by decide⟩ ?_
    refine v_idivP (pc := 202) (dk dt_X12_flush_3 4 rfl) (by decide) ?_
    refine v_bipush (pc := 203) (dk dt_X12_flush_3 5 rfl) (by decide) ⟨by decide, by decide⟩ ?_
    obtain ⟨v30, h⟩ := h
    refine v_imul (pc := 205) (dk dt_X12_flush_3 6 rfl) v30 ?_
    refine v_bipush (pc := 206) (dk dt_X12_flush_3 7 rfl) (by decide) ⟨by decide, by decide⟩ ?_
    obtain ⟨v31, h⟩ := h
    refine v_iadd (pc := 208) (dk dt_X12_flush_3 8 rfl) v31 ?_
    obtain ⟨v32, h⟩ := h
    refine v_cvI (c := 12) (As := [iv l2, iv (((Int.tdiv l3 100) * 100) + 99)]) (stk := []) (pc := 209) (dk dt_X12_flush_3 9 rfl) ml_X12_217 rfl rfl (Nat.le_of_ble_eq_true rfl) rfl ⟨by decide, rfl⟩ v32 rfl (Call.mono h (fun r33 G34 c35 s36 h => ?_))
    refine v_istore_n (pc := 212) (ls' := [some (rv l0), none, some (iv l2), some (iv r33)]) (dk dt_X12_flush_3 10 rfl) rfl (Nat.le_of_ble_eq_true rfl) rfl ?_
    refine v_goto (pc := 213) (tgt := 144) (dk dt_X12_flush_3 11 rfl) (by decide) ?_
    exact h
