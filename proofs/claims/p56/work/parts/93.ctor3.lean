/-! CONSTRUCTORS: the class, the reference, the law's start -/
section CTOR3
variable {X : mv_X} {d : Nat}
theorem nw_X8 {P : mz_P} {V : mz_V} {x s : Nat} (hX : X.2.2 0 = .int (nZ 1)) (ha : P.1 x = some (.inl 12)) (hV : V x = fun _ => 0) : ∃ (P' : mz_P) (V' : mz_V), mv_call X (d + 4) 83 [.ref x] (mz_h P V, (x + 1, s)) = some (.inl none, (mz_h P' V', (x + 376, s + 2594))) ∧ nw_E P V (x + 1) P' V' x ∧ mX_P P' x (x + 368) 16 ∧ mh_R V' (x + 1) (fun _ => 0) ∧ (V' (x + 94) 1 = 0 ∧ V' (x + 94) 2 = 0) ∧ V' (x + 346) 1 = 0 ∧ (V' (x + 367) 1 = 0 ∧ V' (x + 367) 3 = 0) ∧ V' x 3 = 0 ∧ V' x 10 = -1 ∧ V' x 11 = -1 ∧ V' x 12 = 0 ∧ V' x 13 = -1 := by
  obtain ⟨P1, V1, ⟨F1, i1, g1, k1, j1⟩, f1⟩ := nw_oq (X := X) (P := P) (V := V) (d := d + 3) (a := x) (ca := 12) (k := 0) (c := 7) (sl := 12) (no := 25) (cc := 30) (ss := 198) (q := x + 1) (s := s + 0) (q' := x + 32) (s' := s + 210) (G := nw_GH) (nw_CH) nw_SH (by decide) (by omega) (by omega) ha (by omega) (by decide)
  have ha1 := (F1.1 x (by omega)).trans ha
  obtain ⟨P2, V2, ⟨F2, i2, g2, k2, j2⟩, f2⟩ := nw_oq (X := X) (P := P1) (V := V1) (d := d + 3) (a := x) (ca := 12) (k := 1) (c := 7) (sl := 12) (no := 25) (cc := 30) (ss := 198) (q := x + 32) (s := s + 210) (q' := x + 63) (s' := s + 420) (G := nw_GH) (nw_CH) nw_SH (by decide) (by omega) (by omega) ha1 (by omega) (by decide)
  have ha2 := (F2.1 x (by omega)).trans ha1
  obtain ⟨P3, V3, ⟨F3, i3, g3, k3, j3⟩, f3⟩ := nw_oq (X := X) (P := P2) (V := V2) (d := d + 3) (a := x) (ca := 12) (k := 2) (c := 7) (sl := 12) (no := 25) (cc := 30) (ss := 198) (q := x + 63) (s := s + 420) (q' := x + 94) (s' := s + 630) (G := nw_GH) (nw_CH) nw_SH (by decide) (by omega) (by omega) ha2 (by omega) (by decide)
  have ha3 := (F3.1 x (by omega)).trans ha2
  obtain ⟨V3p, hV3p⟩ : ∃ V3p, V3p = mz_w V3 x (mr_up (V3 x) 3 0) := ⟨_, rfl⟩
  obtain ⟨P4, V4, ⟨F4, i4, g4, k4, j4⟩, f4⟩ := nw_oq (X := X) (P := P3) (V := V3p) (d := d + 3) (a := x) (ca := 12) (k := 4) (c := 8) (sl := 3) (no := 61) (cc := 249) (ss := 1688) (q := x + 94) (s := s + 630) (q' := x + 344) (s' := s + 2321) (G := nw_GX) (nw_CX) nw_SX (by decide) (by omega) (by omega) ha3 (by omega) (by decide)
  have ha4 := (F4.1 x (by omega)).trans ha3
  obtain ⟨P5, V5, ⟨F5, i5, g5, k5, j5⟩, f5⟩ := nw_oq (X := X) (P := P4) (V := V4) (d := d + 3) (a := x) (ca := 12) (k := 5) (c := 5) (sl := 3) (no := 16) (cc := 1) (ss := 4) (q := x + 344) (s := s + 2321) (q' := x + 346) (s' := s + 2328) (G := nw_GC) (nw_CC) nw_SC (by decide) (by omega) (by omega) ha4 (by omega) (by decide)
  have ha5 := (F5.1 x (by omega)).trans ha4
  obtain ⟨P6, V6, ⟨F6, i6, g6, k6, j6⟩, f6⟩ := nw_oq (X := X) (P := P5) (V := V5) (d := d + 3) (a := x) (ca := 12) (k := 6) (c := 10) (sl := 5) (no := 68) (cc := 20) (ss := 132) (q := x + 346) (s := s + 2328) (q' := x + 367) (s' := s + 2465) (G := nw_GT) (nw_CT) nw_ST (by decide) (by omega) (by omega) ha5 (by omega) (by decide)
  have ha6 := (F6.1 x (by omega)).trans ha5
  obtain ⟨P7, V7, ⟨F7, i7, g7, k7, j7⟩, f7⟩ := nw_oq (X := X) (P := P6) (V := V6) (d := d + 3) (a := x) (ca := 12) (k := 7) (c := 1) (sl := 4) (no := 273) (cc := 1) (ss := 16) (q := x + 367) (s := s + 2465) (q' := x + 369) (s' := s + 2485) (G := nw_GS) (nw_CS hX) nw_SS (by decide) (by omega) (by omega) ha6 (by omega) (by decide)
  have ha7 := (F7.1 x (by omega)).trans ha6
  obtain ⟨P8, V8, ⟨F8, i8, g8, k8, j8⟩, f8⟩ := nw_oq (X := X) (P := P7) (V := V7) (d := d + 3) (a := x) (ca := 12) (k := 8) (c := 11) (sl := 2) (no := 77) (cc := 2) (ss := 20) (q := x + 369) (s := s + 2485) (q' := x + 372) (s' := s + 2507) (G := nw_GO) (nw_CO) nw_SO (by decide) (by omega) (by omega) ha7 (by omega) (by decide)
  have ha8 := (F8.1 x (by omega)).trans ha7
  obtain ⟨P9, V9, ⟨F9, i9, g9, k9, j9⟩, f9⟩ := nw_oq (X := X) (P := P8) (V := V8) (d := d + 3) (a := x) (ca := 12) (k := 9) (c := 6) (sl := 3) (no := 20) (cc := 3) (ss := 84) (q := x + 372) (s := s + 2507) (q' := x + 376) (s' := s + 2594) (G := nw_GW) (nw_CW) nw_SW (by decide) (by omega) (by omega) ha8 (by omega) (by decide)
  have ha9 := (F9.1 x (by omega)).trans ha8
  obtain ⟨V10, hV10⟩ : ∃ V10, V10 = mz_w V9 x (mr_up (mr_up (mr_up (mr_up (V9 x) 10 (-1)) 11 (-1)) 12 0) 13 (-1)) := ⟨_, rfl⟩
  have S8 := F9
  have S7 := nw_F_tr F8 S8 (by omega)
  have S6 := nw_F_tr F7 S7 (by omega)
  have S5 := nw_F_tr F6 S6 (by omega)
  have S4 := nw_F_tr F5 S5 (by omega)
  have S3 := nw_F_tr F4 S4 (by omega)
  have T2 := F3
  have T1 := nw_F_tr F2 F3 (by omega)
  have v10 : ∀ r, r ≠ x → V10 r = V9 r := fun r hr => by rw [hV10, mz_w_n _ _ hr]
  have v3p : ∀ r, r ≠ x → V3p r = V3 r := fun r hr => by rw [hV3p, mz_w_n _ _ hr]
  have G1 : nw_GH P9 V10 (x + 1) := nw_SH _ _ _ _ _ (fun r r1 r2 => ⟨(S3.1 r (by omega)).trans (T1.1 r (by omega)), (S3.2.1 r (by omega) (by omega)).trans (T1.2.1 r (by omega) (by omega)), by rw [v10 r (by omega), S3.2.2 r (by omega), v3p r (by omega), T1.2.2 r (by omega)]⟩) g1
  have G2 : nw_GH P9 V10 (x + 32) := nw_SH _ _ _ _ _ (fun r r1 r2 => ⟨(S3.1 r (by omega)).trans (T2.1 r (by omega)), (S3.2.1 r (by omega) (by omega)).trans (T2.2.1 r (by omega) (by omega)), by rw [v10 r (by omega), S3.2.2 r (by omega), v3p r (by omega), T2.2.2 r (by omega)]⟩) g2
  have G3 : nw_GH P9 V10 (x + 63) := nw_SH _ _ _ _ _ (fun r r1 r2 => ⟨S3.1 r (by omega), S3.2.1 r (by omega) (by omega), by rw [v10 r (by omega), S3.2.2 r (by omega), v3p r (by omega)]⟩) g3
  have G4 : nw_GX P9 V10 (x + 94) := nw_SX _ _ _ _ _ (fun r r1 r2 => ⟨S4.1 r (by omega), S4.2.1 r (by omega) (by omega), by rw [v10 r (by omega), S4.2.2 r (by omega)]⟩) g4
  have G5 : nw_GC P9 V10 (x + 344) := nw_SC _ _ _ _ _ (fun r r1 r2 => ⟨S5.1 r (by omega), S5.2.1 r (by omega) (by omega), by rw [v10 r (by omega), S5.2.2 r (by omega)]⟩) g5
  have G6 : nw_GT P9 V10 (x + 346) := nw_ST _ _ _ _ _ (fun r r1 r2 => ⟨S6.1 r (by omega), S6.2.1 r (by omega) (by omega), by rw [v10 r (by omega), S6.2.2 r (by omega)]⟩) g6
  have G7 : nw_GS P9 V10 (x + 367) := nw_SS _ _ _ _ _ (fun r r1 r2 => ⟨S7.1 r (by omega), S7.2.1 r (by omega) (by omega), by rw [v10 r (by omega), S7.2.2 r (by omega)]⟩) g7
  have G8 : nw_GO P9 V10 (x + 369) := nw_SO _ _ _ _ _ (fun r r1 r2 => ⟨S8.1 r (by omega), S8.2.1 r (by omega) (by omega), by rw [v10 r (by omega), S8.2.2 r (by omega)]⟩) g8
  have G9 : nw_GW P9 V10 (x + 372) := nw_SW _ _ _ _ _ (fun r r1 r2 => ⟨rfl, rfl, v10 r (by omega)⟩) g9
  have R1 : P9.2 x 0 = some (x + 1) := by rw [j9 _ (by decide), j8 _ (by decide), j7 _ (by decide), j6 _ (by decide), j5 _ (by decide), j4 _ (by decide), j3 _ (by decide), j2 _ (by decide)]; exact k1
  have R2 : P9.2 x 1 = some (x + 32) := by rw [j9 _ (by decide), j8 _ (by decide), j7 _ (by decide), j6 _ (by decide), j5 _ (by decide), j4 _ (by decide), j3 _ (by decide)]; exact k2
  have R3 : P9.2 x 2 = some (x + 63) := by rw [j9 _ (by decide), j8 _ (by decide), j7 _ (by decide), j6 _ (by decide), j5 _ (by decide), j4 _ (by decide)]; exact k3
  have R4 : P9.2 x 4 = some (x + 94) := by rw [j9 _ (by decide), j8 _ (by decide), j7 _ (by decide), j6 _ (by decide), j5 _ (by decide)]; exact k4
  have R5 : P9.2 x 5 = some (x + 344) := by rw [j9 _ (by decide), j8 _ (by decide), j7 _ (by decide), j6 _ (by decide)]; exact k5
  have R6 : P9.2 x 6 = some (x + 346) := by rw [j9 _ (by decide), j8 _ (by decide), j7 _ (by decide)]; exact k6
  have R7 : P9.2 x 7 = some (x + 367) := by rw [j9 _ (by decide), j8 _ (by decide)]; exact k7
  have R8 : P9.2 x 8 = some (x + 369) := by rw [j9 _ (by decide)]; exact k8
  have R9 : P9.2 x 9 = some (x + 372) := by exact k9
  have vx : V9 x = mr_up (fun _ => 0) 3 0 := by rw [S3.2.2 x (by omega), hV3p, mz_w_s, T1.2.2 x (by omega), F1.2.2 x (by omega), hV]
  have vy : ∀ k, V10 x k = mr_up (mr_up (mr_up (mr_up (mr_up (fun _ => 0) 3 0) 10 (-1)) 11 (-1)) 12 0) 13 (-1) k := fun k => by rw [hV10, mz_w_s, vx]
  refine ⟨P9, V10, ?_, ⟨fun r hr => ?_, fun r hr hra => ⟨?_, ?_⟩⟩, ⟨⟨ha9, R1, R2, R3, R4, R5, R6, R7, R8, R9⟩, ⟨G1.1, G2.1, G3.1⟩, G4.1, G5, G6.1, ⟨G7.1.1, G7.1.2.1, G7.1.2.2, by decide, by decide, Or.inl rfl⟩, G8, G9⟩, G1.2, G4.2, G6.2, G7.2, by rw [vy]; rfl, by rw [vy]; rfl, by rw [vy]; rfl, by rw [vy]; rfl, by rw [vy]; rfl⟩
  · rw [mc_X8_init, bk_X8_init_0]
    have f1 := f1
    simp only [Nat.add_zero] at f1
    rw [f1, f2, f3, mv_chk_t (by decide), mz_pW ha3 (by decide), ← hV3p, f4, f5, f6, f7, f8, f9, mz_pW ha9 (by decide), mz_pW ha9 (by decide), mz_w_s, mz_w_w, mz_pW ha9 (by decide), mz_w_s, mz_w_w, mz_pW ha9 (by decide), mz_w_s, mz_w_w, ← hV10]
  · exact (S3.1 r (by omega)).trans ((T1.1 r (by omega)).trans (F1.1 r hr))
  · exact (S3.2.1 r (by omega) hra).trans ((T1.2.1 r (by omega) hra).trans (F1.2.1 r hr hra))
  · rw [v10 r hra, S3.2.2 r (by omega), v3p r hra, T1.2.2 r (by omega), F1.2.2 r hr]
/-- the reference's arrays so far -/
def nw_kx (i : Nat) : Nat := [1, 2, 3, 4, 5, 8, 9, 10, 11, 12, 13, 14].getD i 0
def nw_nx (i : Nat) : Nat := [158, 158, 158, 1264, 158, 60, 300, 40, 10, 10, 64, 64].getD i 0
def nw_K (P : mz_P) (V : mz_V) (m i : Nat) : Prop := ∀ j, j < i → P.2 m (nw_kx j) = some (m + 1 + j) ∧ P.1 (m + 1 + j) = some (.inr (.int, nw_nx j)) ∧ V (m + 1 + j) = fun _ => 0
theorem nw_K_step {P P' : mz_P} {V V' : mz_V} {m q i k n : Nat} (hq : q = m + 1 + i) (hk : k = nw_kx i) (hn : n = nw_nx i) (hA : nw_A P V q P' V' m k .int n) (hi : ∀ j, j < i → nw_kx j ≠ nw_kx i) (h : nw_K P V m i) : nw_K P' V' m (i + 1) := by
  subst hq hk hn
  obtain ⟨⟨a1, a2, a3⟩, a4, a5, a6, a7⟩ := hA
  intro j hj
  by_cases e : j = i
  · subst e; exact ⟨a6, a4, a5⟩
  · obtain ⟨h1, h2, h3⟩ := h j (by omega)
    exact ⟨(a7 _ (hi j (by omega))).trans h1, (a1 _ (by omega)).trans h2, (a3 _ (by omega)).trans h3⟩
end CTOR3
