/-! CONSTRUCTORS: the class, the reference, the law's start -/
section CTOR3
variable {X : mv_X} {d : Nat}
theorem nw_X8 {P : mz_P} {V : mz_V} {x s : Nat} (hX : X.2.2 0 = .int (nZ 1)) (ha : P.1 x = some (.inl 12)) (hV : V x = fun _ => 0) : ∃ (P' : mz_P) (V' : mz_V), mv_call X (d + 4) 83 [.ref x] (mz_h P V, (x + 1, s)) = some (.inl none, (mz_h P' V', (x + 376, s + 2594))) ∧ nw_E P V (x + 1) P' V' x ∧ mX_P P' x (x + 368) 16 ∧ mh_R V' (x + 1) (fun _ => 0) ∧ (V' (x + 94) 1 = 0 ∧ V' (x + 94) 2 = 0) ∧ V' (x + 346) 1 = 0 ∧ (V' (x + 367) 1 = 0 ∧ V' (x + 367) 3 = 0) ∧ V' x 3 = 0 ∧ V' x 10 = -1 ∧ V' x 11 = -1 ∧ V' x 12 = 0 ∧ V' x 13 = -1 := by
  obtain ⟨P1, V1, ⟨F1, i1, g1, k1, j1⟩, f1⟩ := nw_oq (X := X) (P := P) (V := V) (d := d + 3) (a := x) (ca := 12) (k := 0) (c := 7) (sl := 12) (no := 25) (cc := 30) (ss := 198) (q := x + 1) (s := s + 0) (q' := x + 32) (s' := s + 210) (G := nw_GH) (nw_CH) nw_SH (by decide) (by omega) (by omega) ha (by omega) (by decide)
  have ha1 := (F1.1 x (by omega)).trans ha
  obtain ⟨P2, V2, ⟨F2, i2, g2, k2, j2⟩, f2⟩ := nw_oq (X := X) (P := P1) (V := V1) (d := d + 3) (a := x) (ca := 12) (k := 1) (c := 7) (sl := 12) (no := 25) (cc := 30) (ss := 198) (q := x + 32) (s := s + 210) (q' := x + 63) (s' := s + 420) (G := nw_GH) (nw_CH) nw_SH (by decide) (by omega) (by omega) ha1 (by omega) (by decide)
  have ha2 := (F2.1 x (by omega)).trans ha1
  obtain ⟨P3, V3, ⟨F3, i3, g3, k3, j3⟩, f3⟩ := nw_oq (X := X) (P := P2) (V := V2) (d := d + 3) (a := x) (ca := 12) (k := 2) (c := 7) (sl := 12) (no := 25) (cc := 30) (ss := 198) (q := x + 63) (s := s + 420) (q' := x + 94) (s' := s + 630) (G := nw_GH) (nw_CH) nw_SH (by decide) (by omega) (by omega) ha2 (by omega) (by decide)
  have ha3 := (F3.1 x (by omega)).trans ha2
  obtain ⟨V3p, hV3p⟩ : ∃ V3p, V3p = mz_w V3 x (mr_up (V3 x) 3 0) := ⟨_, rfl⟩
  obtain ⟨P4, V4, ⟨F4, i4, g4, k4, j4⟩, f4⟩ := nw_oq (X := X) (P := P3) (V := V3p) (d := d + 3) (a := x) (ca := 12) (k := 4) (c := 8) (sl := 3) (no := 61) (cc := 249) (ss := 1688) (q := x + 94) (s := s + 630) (q' := x + 344) (s' := s + 2321) (G := nw_GX) (nw_CX) nw_SX (by decide) (by omega) (by omega) ha3 (by omega) (by decide)
  have ha4 := (F4.1 x (by omega)).trans ha3
  obtain ⟨P5, V5, ⟨F5, i5, g5, k5, j5⟩, f5⟩ := nw_oq (X := X) (P := P4) (V := V4) (d := d + 3) (a := x) (ca := 12) (k := 5) (c := 5) (sl := 3) (no := 16) (cc := 1) (ss := 4) (q := x + 344) (s := s + 2321) (q' := x + 346) (s' := s + 2328) (G := nw_GC) (nw_CC) nw_SC (by decide) (by omega) (by omega) ha4 (by omega) (by decide)
  have ha5 := (F5.1 x (by omega)).trans ha4
  obtain ⟨P6, V6, ⟨F6, i6, g6, k6, j6⟩, f6⟩ := nw_oq (X := X) (P := P5) (V := V5) (d := d + 3) (a := x) (ca := 12) (k := 6) (c := 10) (sl := 5) (no := 68) (cc := 20) (ss := 132) (q := x + 346) (s := s + 2328) (q' := x + 367) (s' := s + 2465) (G := nw_GT) (nw_CT) nw_ST (by decide) (by omega) (by omega) ha5 (by omega) (by decide)
  have ha6 := (F6.1 x (by omega)).trans ha5
  obtain ⟨P7, V7, ⟨F7, i7, g7, k7, j7⟩, f7⟩ := nw_oq (X := X) (P := P6) (V := V6) (d := d + 3) (a := x) (ca := 12) (k := 7) (c := 1) (sl := 4) (no := 273) (cc := 1) (ss := 16) (q := x + 367) (s := s + 2465) (q' := x + 369) (s' := s + 2485) (G := nw_GS) (nw_CS hX) nw_SS (by decide) (by omega) (by omega) ha6 (by omega) (by decide)
  have ha7 := (F7.1 x (by omega)).trans ha6
  obtain ⟨P8, V8, ⟨F8, i8, g8, k8, j8⟩, f8⟩ := nw_oq (X := X) (P := P7) (V := V7) (d := d + 3) (a := x) (ca := 12) (k := 8) (c := 11) (sl := 2) (no := 77) (cc := 2) (ss := 20) (q := x + 369) (s := s + 2485) (q' := x + 372) (s' := s + 2507) (G := nw_GO) (nw_CO) nw_SO (by decide) (by omega) (by omega) ha7 (by omega) (by decide)
  have ha8 := (F8.1 x (by omega)).trans ha7
  obtain ⟨P9, V9, ⟨F9, i9, g9, k9, j9⟩, f9⟩ := nw_oq (X := X) (P := P8) (V := V8) (d := d + 3) (a := x) (ca := 12) (k := 9) (c := 6) (sl := 3) (no := 20) (cc := 3) (ss := 84) (q := x + 372) (s := s + 2507) (q' := x + 376) (s' := s + 2594) (G := nw_GW) (nw_CW) nw_SW (by decide) (by omega) (by omega) ha8 (by omega) (by decide)
  have ha9 := (F9.1 x (by omega)).trans ha8
  obtain ⟨V10, hV10⟩ : ∃ V10, V10 = mz_w V9 x (mr_up (mr_up (mr_up (mr_up (V9 x) 10 (-1)) 11 (-1)) 12 0) 13 (-1)) := ⟨_, rfl⟩
  have S8 := F9
  have S7 := nw_F_tr F8 S8 (by omega)
  have S6 := nw_F_tr F7 S7 (by omega)
  have S5 := nw_F_tr F6 S6 (by omega)
  have S4 := nw_F_tr F5 S5 (by omega)
  have S3 := nw_F_tr F4 S4 (by omega)
  have T2 := F3
  have T1 := nw_F_tr F2 F3 (by omega)
  have v10 : ∀ r, r ≠ x → V10 r = V9 r := fun r hr => by rw [hV10, mz_w_n _ _ hr]
  have v3p : ∀ r, r ≠ x → V3p r = V3 r := fun r hr => by rw [hV3p, mz_w_n _ _ hr]
  have G1 : nw_GH P9 V10 (x + 1) := nw_SH _ _ _ _ _ (fun r r1 r2 => ⟨(S3.1 r (by omega)).trans (T1.1 r (by omega)), (S3.2.1 r (by omega) (by omega)).trans (T1.2.1 r (by omega) (by omega)), by rw [v10 r (by omega), S3.2.2 r (by omega), v3p r (by omega), T1.2.2 r (by omega)]⟩) g1
  have G2 : nw_GH P9 V10 (x + 32) := nw_SH _ _ _ _ _ (fun r r1 r2 => ⟨(S3.1 r (by omega)).trans (T2.1 r (by omega)), (S3.2.1 r (by omega) (by omega)).trans (T2.2.1 r (by omega) (by omega)), by rw [v10 r (by omega), S3.2.2 r (by omega), v3p r (by omega), T2.2.2 r (by omega)]⟩) g2
  have G3 : nw_GH P9 V10 (x + 63) := nw_SH _ _ _ _ _ (fun r r1 r2 => ⟨S3.1 r (by omega), S3.2.1 r (by omega) (by omega), by rw [v10 r (by omega), S3.2.2 r (by omega), v3p r (by omega)]⟩) g3
  have G4 : nw_GX P9 V10 (x + 94) := nw_SX _ _ _ _ _ (fun r r1 r2 => ⟨S4.1 r (by omega), S4.2.1 r (by omega) (by omega), by rw [v10 r (by omega), S4.2.2 r (by omega)]⟩) g4
  have G5 : nw_GC P9 V10 (x + 344) := nw_SC _ _ _ _ _ (fun r r1 r2 => ⟨S5.1 r (by omega), S5.2.1 r (by omega) (by omega), by rw [v10 r (by omega), S5.2.2 r (by omega)]⟩) g5
  have G6 : nw_GT P9 V10 (x + 346) := nw_ST _ _ _ _ _ (fun r r1 r2 => ⟨S6.1 r (by omega), S6.2.1 r (by omega) (by omega), by rw [v10 r (by omega), S6.2.2 r (by omega)]⟩) g6
  have G7 : nw_GS P9 V10 (x + 367) := nw_SS _ _ _ _ _ (fun r r1 r2 => ⟨S7.1 r (by omega), S7.2.1 r (by omega) (by omega), by rw [v10 r (by omega), S7.2.2 r (by omega)]⟩) g7
  have G8 : nw_GO P9 V10 (x + 369) := nw_SO _ _ _ _ _ (fun r r1 r2 => ⟨S8.1 r (by omega), S8.2.1 r (by omega) (by omega), by rw [v10 r (by omega), S8.2.2 r (by omega)]⟩) g8
  have G9 : nw_GW P9 V10 (x + 372) := nw_SW _ _ _ _ _ (fun r r1 r2 => ⟨rfl, rfl, v10 r (by omega)⟩) g9
  have R1 : P9.2 x 0 = some (x + 1) := by rw [j9 _ (by decide), j8 _ (by decide), j7 _ (by decide), j6 _ (by decide), j5 _ (by decide), j4 _ (by decide), j3 _ (by decide), j2 _ (by decide)]; exact k1
  have R2 : P9.2 x 1 = some (x + 32) := by rw [j9 _ (by decide), j8 _ (by decide), j7 _ (by decide), j6 _ (by decide), j5 _ (by decide), j4 _ (by decide), j3 _ (by decide)]; exact k2
  have R3 : P9.2 x 2 = some (x + 63) := by rw [j9 _ (by decide), j8 _ (by decide), j7 _ (by decide), j6 _ (by decide), j5 _ (by decide), j4 _ (by decide)]; exact k3
  have R4 : P9.2 x 4 = some (x + 94) := by rw [j9 _ (by decide), j8 _ (by decide), j7 _ (by decide), j6 _ (by decide), j5 _ (by decide)]; exact k4
  have R5 : P9.2 x 5 = some (x + 344) := by rw [j9 _ (by decide), j8 _ (by decide), j7 _ (by decide), j6 _ (by decide)]; exact k5
  have R6 : P9.2 x 6 = some (x + 346) := by rw [j9 _ (by decide), j8 _ (by decide), j7 _ (by decide)]; exact k6
  have R7 : P9.2 x 7 = some (x + 367) := by rw [j9 _ (by decide), j8 _ (by decide)]; exact k7
  have R8 : P9.2 x 8 = some (x + 369) := by rw [j9 _ (by decide)]; exact k8
  have R9 : P9.2 x 9 = some (x + 372) := by exact k9
  have vx : V9 x = mr_up (fun _ => 0) 3 0 := by rw [S3.2.2 x (by omega), hV3p, mz_w_s, T1.2.2 x (by omega), F1.2.2 x (by omega), hV]
  have vy : ∀ k, V10 x k = mr_up (mr_up (mr_up (mr_up (mr_up (fun _ => 0) 3 0) 10 (-1)) 11 (-1)) 12 0) 13 (-1) k := fun k => by rw [hV10, mz_w_s, vx]
  refine ⟨P9, V10, ?_, ⟨fun r hr => ?_, fun r hr hra => ⟨?_, ?_⟩⟩, ⟨⟨ha9, R1, R2, R3, R4, R5, R6, R7, R8, R9⟩, ⟨G1.1, G2.1, G3.1⟩, G4.1, G5, G6.1, ⟨G7.1.1, G7.1.2.1, G7.1.2.2, by decide, by decide, Or.inl rfl⟩, G8, G9⟩, G1.2, G4.2, G6.2, G7.2, by rw [vy]; rfl, by rw [vy]; rfl, by rw [vy]; rfl, by rw [vy]; rfl, by rw [vy]; rfl⟩
  · rw [mc_X8_init, bk_X8_init_0]
    have f1 := f1
    simp only [Nat.add_zero] at f1
    rw [f1, f2, f3, mv_chk_t (by decide), mz_pW ha3 (by decide), ← hV3p, f4, f5, f6, f7, f8, f9, mz_pW ha9 (by decide), mz_pW ha9 (by decide), mz_w_s, mz_w_w, mz_pW ha9 (by decide), mz_w_s, mz_w_w, mz_pW ha9 (by decide), mz_w_s, mz_w_w, ← hV10]
  · exact (S3.1 r (by omega)).trans ((T1.1 r (by omega)).trans (F1.1 r hr))
  · exact (S3.2.1 r (by omega) hra).trans ((T1.2.1 r (by omega) hra).trans (F1.2.1 r hr hra))
  · rw [v10 r hra, S3.2.2 r (by omega), v3p r hra, T1.2.2 r (by omega), F1.2.2 r hr]
/-- the reference's arrays so far -/
def nw_kx (i : Nat) : Nat := [1, 2, 3, 4, 5, 8, 9, 10, 11, 12, 13, 14].getD i 0
def nw_nx (i : Nat) : Nat := [158, 158, 158, 1264, 158, 60, 300, 40, 10, 10, 64, 64].getD i 0
def nw_K (P : mz_P) (V : mz_V) (m i : Nat) : Prop := ∀ j, j < i → P.2 m (nw_kx j) = some (m + 1 + j) ∧ P.1 (m + 1 + j) = some (.inr (.int, nw_nx j)) ∧ V (m + 1 + j) = fun _ => 0
theorem nw_K_step {P P' : mz_P} {V V' : mz_V} {m q i k n : Nat} (hq : q = m + 1 + i) (hk : k = nw_kx i) (hn : n = nw_nx i) (hA : nw_A P V q P' V' m k .int n) (hi : ∀ j, j < i → nw_kx j ≠ nw_kx i) (h : nw_K P V m i) : nw_K P' V' m (i + 1) := by
  subst hq hk hn
  obtain ⟨⟨a1, a2, a3⟩, a4, a5, a6, a7⟩ := hA
  intro j hj
  by_cases e : j = i
  · subst e; exact ⟨a6, a4, a5⟩
  · obtain ⟨h1, h2, h3⟩ := h j (by omega)
    exact ⟨(a7 _ (hi j (by omega))).trans h1, (a1 _ (by omega)).trans h2, (a3 _ (by omega)).trans h3⟩
theorem nw_X9 {P : mz_P} {V : mz_V} {m s : Nat} (ha : P.1 m = some (.inl 13)) (hV : V m = fun _ => 0) : ∃ (P' : mz_P) (V' : mz_V), mv_call X (d + 1) 147 [.ref m] (mz_h P V, (m + 1, s)) = some (.inl none, (mz_h P' V', (m + 13, s + 2444))) ∧ nw_E P V (m + 1) P' V' m ∧ mr_M P' m ∧ (∀ i, i < 12 → V' (m + 1 + i) = fun _ => 0) ∧ V' m = mr_up (fun _ => 0) 17 (-1) := by
  have K0 : nw_K P V m 0 := fun j hj => absurd hj (Nat.not_lt_zero _)
  obtain ⟨P1, V1, A1, f1⟩ := nw_aq (P := P) (V := V) (a := m) (c := 13) (k := 1) (q := m + 1) (s := s + 0) (q' := m + 2) (s' := s + 158) (t := .int) (v := .int 0) 158 (y := 158) rfl (by decide) rfl rfl rfl ha (by omega) (by decide)
  have ha1 := (A1.1.1 m (by omega)).trans ha
  have K1 := nw_K_step (i := 0) (by omega) rfl rfl A1 (by decide) K0
  obtain ⟨P2, V2, A2, f2⟩ := nw_aq (P := P1) (V := V1) (a := m) (c := 13) (k := 2) (q := m + 2) (s := s + 158) (q' := m + 3) (s' := s + 316) (t := .int) (v := .int 0) 158 (y := 158) rfl (by decide) rfl rfl rfl ha1 (by omega) (by decide)
  have ha2 := (A2.1.1 m (by omega)).trans ha1
  have K2 := nw_K_step (i := 1) (by omega) rfl rfl A2 (by decide) K1
  obtain ⟨P3, V3, A3, f3⟩ := nw_aq (P := P2) (V := V2) (a := m) (c := 13) (k := 3) (q := m + 3) (s := s + 316) (q' := m + 4) (s' := s + 474) (t := .int) (v := .int 0) 158 (y := 158) rfl (by decide) rfl rfl rfl ha2 (by omega) (by decide)
  have ha3 := (A3.1.1 m (by omega)).trans ha2
  have K3 := nw_K_step (i := 2) (by omega) rfl rfl A3 (by decide) K2
  obtain ⟨P4, V4, A4, f4⟩ := nw_aq (P := P3) (V := V3) (a := m) (c := 13) (k := 4) (q := m + 4) (s := s + 474) (q' := m + 5) (s' := s + 1738) (t := .int) (v := .int 0) 1264 (y := 1264) rfl (by decide) rfl rfl rfl ha3 (by omega) (by decide)
  have ha4 := (A4.1.1 m (by omega)).trans ha3
  have K4 := nw_K_step (i := 3) (by omega) rfl rfl A4 (by decide) K3
  obtain ⟨P5, V5, A5, f5⟩ := nw_aq (P := P4) (V := V4) (a := m) (c := 13) (k := 5) (q := m + 5) (s := s + 1738) (q' := m + 6) (s' := s + 1896) (t := .int) (v := .int 0) 158 (y := 158) rfl (by decide) rfl rfl rfl ha4 (by omega) (by decide)
  have ha5 := (A5.1.1 m (by omega)).trans ha4
  have K5 := nw_K_step (i := 4) (by omega) rfl rfl A5 (by decide) K4
  obtain ⟨P6, V6, A6, f6⟩ := nw_aq (P := P5) (V := V5) (a := m) (c := 13) (k := 8) (q := m + 6) (s := s + 1896) (q' := m + 7) (s' := s + 1956) (t := .int) (v := .int 0) 60 (y := 60) rfl (by decide) rfl rfl rfl ha5 (by omega) (by decide)
  have ha6 := (A6.1.1 m (by omega)).trans ha5
  have K6 := nw_K_step (i := 5) (by omega) rfl rfl A6 (by decide) K5
  obtain ⟨P7, V7, A7, f7⟩ := nw_aq (P := P6) (V := V6) (a := m) (c := 13) (k := 9) (q := m + 7) (s := s + 1956) (q' := m + 8) (s' := s + 2256) (t := .int) (v := .int 0) 300 (y := 300) rfl (by decide) rfl rfl rfl ha6 (by omega) (by decide)
  have ha7 := (A7.1.1 m (by omega)).trans ha6
  have K7 := nw_K_step (i := 6) (by omega) rfl rfl A7 (by decide) K6
  obtain ⟨P8, V8, A8, f8⟩ := nw_aq (P := P7) (V := V7) (a := m) (c := 13) (k := 10) (q := m + 8) (s := s + 2256) (q' := m + 9) (s' := s + 2296) (t := .int) (v := .int 0) 40 (y := 40) rfl (by decide) rfl rfl rfl ha7 (by omega) (by decide)
  have ha8 := (A8.1.1 m (by omega)).trans ha7
  have K8 := nw_K_step (i := 7) (by omega) rfl rfl A8 (by decide) K7
  obtain ⟨P9, V9, A9, f9⟩ := nw_aq (P := P8) (V := V8) (a := m) (c := 13) (k := 11) (q := m + 9) (s := s + 2296) (q' := m + 10) (s' := s + 2306) (t := .int) (v := .int 0) 10 (y := 10) rfl (by decide) rfl rfl rfl ha8 (by omega) (by decide)
  have ha9 := (A9.1.1 m (by omega)).trans ha8
  have K9 := nw_K_step (i := 8) (by omega) rfl rfl A9 (by decide) K8
  obtain ⟨P10, V10, A10, f10⟩ := nw_aq (P := P9) (V := V9) (a := m) (c := 13) (k := 12) (q := m + 10) (s := s + 2306) (q' := m + 11) (s' := s + 2316) (t := .int) (v := .int 0) 10 (y := 10) rfl (by decide) rfl rfl rfl ha9 (by omega) (by decide)
  have ha10 := (A10.1.1 m (by omega)).trans ha9
  have K10 := nw_K_step (i := 9) (by omega) rfl rfl A10 (by decide) K9
  obtain ⟨P11, V11, A11, f11⟩ := nw_aq (P := P10) (V := V10) (a := m) (c := 13) (k := 13) (q := m + 11) (s := s + 2316) (q' := m + 12) (s' := s + 2380) (t := .int) (v := .int 0) 64 (y := 64) rfl (by decide) rfl rfl rfl ha10 (by omega) (by decide)
  have ha11 := (A11.1.1 m (by omega)).trans ha10
  have K11 := nw_K_step (i := 10) (by omega) rfl rfl A11 (by decide) K10
  obtain ⟨P12, V12, A12, f12⟩ := nw_aq (P := P11) (V := V11) (a := m) (c := 13) (k := 14) (q := m + 12) (s := s + 2380) (q' := m + 13) (s' := s + 2444) (t := .int) (v := .int 0) 64 (y := 64) rfl (by decide) rfl rfl rfl ha11 (by omega) (by decide)
  have ha12 := (A12.1.1 m (by omega)).trans ha11
  have K12 := nw_K_step (i := 11) (by omega) rfl rfl A12 (by decide) K11
  have S11 := A12.1
  have S10 := nw_F_tr A11.1 S11 (by omega)
  have S9 := nw_F_tr A10.1 S10 (by omega)
  have S8 := nw_F_tr A9.1 S9 (by omega)
  have S7 := nw_F_tr A8.1 S8 (by omega)
  have S6 := nw_F_tr A7.1 S7 (by omega)
  have S5 := nw_F_tr A6.1 S6 (by omega)
  have S4 := nw_F_tr A5.1 S5 (by omega)
  have S3 := nw_F_tr A4.1 S4 (by omega)
  have S2 := nw_F_tr A3.1 S3 (by omega)
  have S1 := nw_F_tr A2.1 S2 (by omega)
  have S0 := nw_F_tr A1.1 S1 (by omega)
  have vm : V12 m = fun _ => 0 := (S0.2.2 m (by omega)).trans hV
  obtain ⟨V13, hV13⟩ : ∃ V13, V13 = mz_w V12 m (mr_up (V12 m) 17 (-1)) := ⟨_, rfl⟩
  have kk := fun j hj => K12 j hj
  refine ⟨P12, V13, ?_, ⟨fun r hr => S0.1 r hr, fun r hr hra => ⟨S0.2.1 r hr hra, by rw [hV13, mz_w_n _ _ hra]; exact S0.2.2 r hr⟩⟩, ?_, fun i hi => by rw [hV13, mz_w_n _ _ (by omega)]; exact (K12 i hi).2.2, by rw [hV13, mz_w_s, vm]⟩
  · rw [mc_X9_init, bk_X9_init_0]
    have f1 := f1
    simp only [Nat.add_zero] at f1
    rw [f1, f2, f3, f4, f5, f6, f7, f8, f9, f10, f11, f12, mz_pW ha12 (by decide), ← hV13]
  · exact ⟨ha12, ⟨(K12 0 (by decide)).1, (K12 0 (by decide)).2.1⟩, ⟨(K12 1 (by decide)).1, (K12 1 (by decide)).2.1⟩, ⟨(K12 2 (by decide)).1, (K12 2 (by decide)).2.1⟩, ⟨(K12 3 (by decide)).1, (K12 3 (by decide)).2.1⟩, ⟨(K12 4 (by decide)).1, (K12 4 (by decide)).2.1⟩, ⟨(K12 5 (by decide)).1, (K12 5 (by decide)).2.1⟩, ⟨(K12 6 (by decide)).1, (K12 6 (by decide)).2.1⟩, ⟨(K12 7 (by decide)).1, (K12 7 (by decide)).2.1⟩, ⟨(K12 8 (by decide)).1, (K12 8 (by decide)).2.1⟩, ⟨(K12 9 (by decide)).1, (K12 9 (by decide)).2.1⟩, ⟨(K12 10 (by decide)).1, (K12 10 (by decide)).2.1⟩, (K12 11 (by decide)).1, (K12 11 (by decide)).2.1⟩
end CTOR3
