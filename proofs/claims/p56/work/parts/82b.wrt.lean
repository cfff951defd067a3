section WRT
variable {X : mv_X} {P : mz_P} {V : mz_V} {z : Nat × Nat} {x v n d x0 m : Nat} {b : Int} {w : mz_V}
theorem Q8_writeBalloon_n (hP : mX_P P x v n) (hW : mX_is V x v w) (hI : mg_I w b) {a : Int} (ha : nS a) (hn : ¬ mr_has (w 1) a) : mv_call X (d + 3) 128 [.ref x, .int (nZ a)] (mz_h P V, z) = some (.inr (1, z.1), (mz_h P V, (z.1 + 1, z.2 + 6))) := by
  rw [mc_X8_writeBalloon, bk_X8_writeBalloon_0, mz_rcv hP.o]
  simp only [mv_clR, mv_cl, Y8_at_n hP hI.1.1 hW.1 ha hn]
  rfl
theorem Q8_writeBalloon (hx : x0 ≤ x) (hz : x + 376 ≤ z.1) (hvz : v < z.1) (hX : mx_W X P x0) (hP : mX_P P x v n) (hW : mX_is V x v w) (hI : mg_I w b) (hLn : w 0 16 ≤ (n : Int)) {k : Nat} (hk : k < 10) (hh : w 1 (6 + 11 * k) = 1) :
    ∃ (P' : mz_P) (V' : mz_V) (z' : Nat × Nat) (v' n' : Nat), mv_call X (d + 7) 128 [.ref x, .int (nZ k)] (mz_h P V, z) = some (.inl (some (.int (nZ (ln_w (w 1) (w 8) k).1))), (mz_h P' V', z')) ∧ mX_P P' x v' n' ∧ mX_is V' x v' (mg_wl w k) ∧ sb_F P V z P' V' z' x v v' 18 ∧ v' < z'.1 ∧ mg_wl w k 0 16 ≤ (n' : Int) := by
  have hI1 := hI.1.1
  have hv := hP.hv
  obtain ⟨W1, W2, W3, W4, W5, W6⟩ := hW
  have h16 := hI.2.2.2.2.2.2.2.1
  have h5 := hI1.bags hk
  have g0 := mr_ho0 hI1 hk 0
  have g1 := mr_ho1 hI1 hk 0
  have g2 := hI1.string hk
  have s0 : sb_I P V z x v n (w 0 16).toNat (w 8) := ⟨hP, ⟨hz, hvz⟩, W5.1, by rw [W5.2.1]; omega, fun i hi => W5.2.2 i (by omega), by omega⟩
  obtain ⟨V1, e1, i1, F1⟩ := J4_empty (X := X) (d := d) s0
  have S1 : sb_S P V z v x (0, w 8) 0 P V1 z v n := ⟨i1, F1⟩
  obtain ⟨P2, V2, z2, v2, n2, e2, S2⟩ := sb_num (X := X) (d := d) (y := k) hx hz hX S1 (by show 0 + 2 ≤ 34; decide) (by omega)
  have L2 := ln_n_1 (0, w 8) (k : Int)
  obtain ⟨P3, V3, z3, v3, n3, e3, S3⟩ := sb_char (X := X) (d := d) (y := 58) hx hz hX S2 (by omega) (by decide)
  have l3 : (ln_c (ln_n (0, w 8) (k : Int)) 58).1 = (ln_n (0, w 8) (k : Int)).1 + 1 := rfl
  have R3 := sb_R hz hv hI1 W1 S3
  obtain ⟨P4, V4, z4, v4, n4, e4, S4⟩ := sb_num (X := X) (d := d) (y := mr_ho (w 1) k 0) hx hz hX S3 (by omega) (by omega)
  have L4 := ln_n_1 (ln_c (ln_n (0, w 8) (k : Int)) 58) (mr_ho (w 1) k 0)
  obtain ⟨P5, V5, z5, v5, n5, e5, S5⟩ := sb_char (X := X) (d := d) (y := 47) hx hz hX S4 (by omega) (by decide)
  have l5 : (ln_c (ln_n (ln_c (ln_n (0, w 8) (k : Int)) 58) (mr_ho (w 1) k 0)) 47).1 = (ln_n (ln_c (ln_n (0, w 8) (k : Int)) 58) (mr_ho (w 1) k 0)).1 + 1 := rfl
  have R5 := sb_R hz hv hI1 W1 S5
  obtain ⟨p1, p2, p3, p4, p5⟩ := (R5.1 k hk).2.2.1 hh
  obtain ⟨P6, V6, z6, v6, n6, e6, S6⟩ := sb_num (X := X) (d := d) (y := w 1 (6 + 11 * k + 2)) hx hz hX S5 (by omega) (by omega)
  have R6 := sb_R hz hv hI1 W1 S6
  have S6 : sb_S P V z v x (ln_h (w 1) (w 8) k) 5 P6 V6 z6 v6 n6 := S6
  have L6 := ln_h_1 (w 1) (w 8) k
  -- behind the head
  have tail : ∀ (q : Nat × (Nat → Int)) (c : Nat), q = (if w 1 (6 + 11 * k + 3) < mr_ho (w 1) k 0 then ln_c (ln_h (w 1) (w 8) k) 33 else ln_h (w 1) (w 8) k) → c ≤ 6 → ∀ (P7 : mz_P) (V7 : mz_V) (z7 : Nat × Nat) (v7 n7 : Nat), sb_S P V z v x q c P7 V7 z7 v7 n7 →
      ∃ (P' : mz_P) (V' : mz_V) (z' : Nat × Nat) (v' n' : Nat), mv_run X (mv_call X (d + 6)) m_X8_writeBalloon 66 [.ref x, .int (nZ k), .ref (x + 1 + 5 + 2 * k), .int (nZ 0)] [] (mz_h P7 V7, z7) = some (.inl (some (.int (nZ (ln_w (w 1) (w 8) k).1))), (mz_h P' V', z')) ∧ mX_P P' x v' n' ∧ mX_is V' x v' (mg_wl w k) ∧ sb_F P V z P' V' z' x v v' 18 ∧ v' < z'.1 ∧ mg_wl w k 0 16 ≤ (n' : Int) := by
    intro q c hq hc P7 V7 z7 v7 n7 S7
    have lq : q.1 ≤ 9 := by
      rw [hq]
      split
      · show (ln_h (w 1) (w 8) k).1 + 1 ≤ 9; omega
      · omega
    obtain ⟨P8, V8, z8, v8, n8, e8, S8⟩ := Q8_bags (X := X) (d := d) hx hz hv hX hI1 W1 hk hh (w 1 (6 + 11 * k + 4)).toNat 0 (by omega) q c P7 V7 z7 v7 n7 S7 (by omega)
    have eq : ln_bags (w 1) k 0 (w 1 (6 + 11 * k + 4)).toNat q = ln_w (w 1) (w 8) k := by rw [hq]; rfl
    rw [eq] at e8 S8
    have R8 := sb_R hz hv hI1 W1 S8
    obtain ⟨⟨j1, j2, j3, j4, j5, j6⟩, F8⟩ := S8
    have go : ∀ r, x ≤ r → r < x + 376 → r ≠ x + 367 → r ≠ x + 368 → V8 r = V r := fun r r1 r2 r3 r4 => F8.2.2.1 r (by omega) r3 (by omega)
    have gx := go x (by omega) (by omega) (by omega) (by omega)
    have eu : ∀ q, q ≠ 16 → mg_wl w k 0 q = w 0 q := fun q hq => by unfold mg_wl; rw [mz_u_k _ _ hq, mz_w_n _ _ (by decide)]
    have er : ∀ r, r ≠ 0 → r ≠ 8 → mg_wl w k r = w r := fun r h0 h1 => by unfold mg_wl; rw [mz_u_o h0, mz_w_n _ _ h1]
    have e16 : mg_wl w k 0 16 = (ln_w (w 1) (w 8) k).1 := by unfold mg_wl; rw [mz_u_s]
    have e8' : mg_wl w k 8 = (ln_w (w 1) (w 8) k).2 := by unfold mg_wl; rw [mz_u_o (by decide), mz_w_s]
    refine ⟨P8, V8, z8, v8, n8, e8, j1, ⟨by rw [er 1 (by decide) (by decide)]; exact R8, mX_s_same hI W2 (eu 7 (by decide)) (er 3 (by decide) (by decide)) (by rw [gx]) (fun r ra rb => go r (by omega) (by omega) (by omega) (by omega)), mX_h_same hI W3 (eu 6 (by decide)) (er 4 (by decide) (by decide)) (fun r ra rb => go r (by omega) (by omega) (by omega) (by omega)), mX_t_same W4 (eu 15 (by decide)) (er 6 (by decide) (by decide)) (by rw [go _ (by omega) (by omega) (by omega) (by omega)]) (go _ (by omega) (by omega) (by omega) (by omega)), ⟨j3, by rw [j4, e16], fun i hi => ?_⟩, mX_d_same W6 (eu 17 (by decide)) (eu 19 (by decide)) (eu 20 (by decide)) (eu 21 (by decide)) (by rw [gx]) (by rw [gx]) (by rw [gx]) (by rw [gx])⟩, sb_F_le (by omega) F8, j2.2, by rw [e16]; omega⟩
    rw [e16] at hi
    rw [e8']
    exact j5 i (by omega)
  have hP1 := i1.1
  have hP2 := S2.1.1
  have hP3 := S3.1.1
  have hP4 := S4.1.1
  have hP5 := S5.1.1
  have hP6 := S6.1.1
  have o := hP.2.2.2.2.2.1.1
  rw [mc_X8_writeBalloon, bk_X8_writeBalloon_0, mz_rcv hP.o]
  simp only [mv_clR, mv_cl, Y8_at_y (d := d + 4) hP hI1 W1 hk hh]
  rw [mx_g7 hP, mz_rcv o]
  simp only [mv_clV, mv_cl, e1]
  rw [mx_g7 hP1, mz_rcv o]
  simp only [e2, mz_rcv hP2.2.2.2.2.2.1.1, e3]
  rw [mz_rcv (hP3.h0.b hk).1]
  simp only [mv_clI, mv_cl, Y0_height (d := d + 4) hP3.h0 R3 hk hh, mz_rcv hP3.2.2.2.2.2.1.1, e4, mz_rcv hP4.2.2.2.2.2.1.1, e5]
  rw [mz_gI (hP5.h0.b hk).1 (by decide), p2, mz_rcv hP5.2.2.2.2.2.1.1]
  simp only [e6, mz_rcv (hP6.h0.b hk).1, Y0_over (d := d + 3) hP6.h0 R6 hk hh, nZ_b1]
  by_cases c : w 1 (6 + 11 * k + 3) < mr_ho (w 1) k 0
  · obtain ⟨P7, V7, z7, v7, n7, e7, S7⟩ := sb_char (X := X) (d := d) (y := 33) hx hz hX S6 (by omega) (by decide)
    obtain ⟨P', V', z', v', n', t1, t2⟩ := tail _ 6 (if_pos c).symm (by decide) P7 V7 z7 v7 n7 S7
    refine ⟨P', V', z', v', n', ?_, t2⟩
    rw [if_neg (fun q => q c), mx_g7 hP6, mz_rcv hP6.2.2.2.2.2.1.1]
    simp only [e7]
    exact t1
  · obtain ⟨P', V', z', v', n', t1, t2⟩ := tail _ 5 (if_neg c).symm (by decide) P6 V6 z6 v6 n6 S6
    refine ⟨P', V', z', v', n', ?_, t2⟩
    rw [if_pos c]
    exact t1
/-! the reference -/
def ln_U (V : mz_V) (m : Nat) (q : Nat × (Nat → Int)) : mz_V := mz_w (mz_w (mq_t V m 0) (m + 8) q.2) m (mr_up (mq_t V m 0 m) 16 q.1)
theorem ln_U_r (V : mz_V) {m r : Nat} (q : Nat × (Nat → Int)) (h1 : r ≠ m) (h2 : r ≠ m + 8) : ln_U V m q r = V r := by unfold ln_U; rw [mz_w_n _ _ h1, mz_w_n _ _ h2, mq_t_r _ _ h1]
theorem nZ_mod10 {y : Int} (hy : 0 ≤ y) (hy2 : y < 2147483648) : nZ y - nZ y / nZ 10 * nZ 10 = nZ (y % 10) := by
  rw [nZ_div hy hy2 (by decide) (by decide), nZ_mul, nZ_sub]
  congr 1
  omega
end WRT
