section WRT
variable {X : mv_X} {P : mz_P} {V : mz_V} {z : Nat × Nat} {x v n d x0 m : Nat} {b : Int} {w : mz_V}
theorem Q8_writeBalloon_n (hP : mX_P P x v n) (hW : mX_is V x v w) (hI : mg_I w b) {a : Int} (ha : nS a) (hn : ¬ mr_has (w 1) a) : mv_call X (d + 3) 128 [.ref x, .int (nZ a)] (mz_h P V, z) = some (.inr (1, z.1), (mz_h P V, (z.1 + 1, z.2 + 6))) := by
  rw [mc_X8_writeBalloon, bk_X8_writeBalloon_0, mz_rcv hP.o]
  simp only [mv_clR, mv_cl, Y8_at_n hP hI.1.1 hW.1 ha hn]
  rfl
theorem Q8_writeBalloon (hx : x0 ≤ x) (hz : x + 376 ≤ z.1) (hvz : v < z.1) (hX : mx_W X P x0) (hP : mX_P P x v n) (hW : mX_is V x v w) (hI : mg_I w b) (hLn : w 0 16 ≤ (n : Int)) {k : Nat} (hk : k < 10) (hh : w 1 (6 + 11 * k) = 1) :
    ∃ (P' : mz_P) (V' : mz_V) (z' : Nat × Nat) (v' n' : Nat), mv_call X (d + 7) 128 [.ref x, .int (nZ k)] (mz_h P V, z) = some (.inl (some (.int (nZ (ln_w (w 1) (w 8) k).1))), (mz_h P' V', z')) ∧ mX_P P' x v' n' ∧ mX_is V' x v' (mg_wl w k) ∧ sb_F P V z P' V' z' x v v' 18 ∧ v' < z'.1 ∧ mg_wl w k 0 16 ≤ (n' : Int) := by
  have hI1 := hI.1.1
  have hv := hP.hv
  obtain ⟨W1, W2, W3, W4, W5, W6⟩ := hW
  have h16 := hI.2.2.2.2.2.2.2.1
  have h5 := hI1.bags hk
  have g0 := mr_ho0 hI1 hk 0
  have g1 := mr_ho1 hI1 hk 0
  have g2 := hI1.string hk
  have s0 : sb_I P V z x v n (w 0 16).toNat (w 8) := ⟨hP, ⟨hz, hvz⟩, W5.1, by rw [W5.2.1]; omega, fun i hi => W5.2.2 i (by omega), by omega⟩
  obtain ⟨V1, e1, i1, F1⟩ := J4_empty (X := X) (d := d) s0
  have S1 : sb_S P V z v x (0, w 8) 0 P V1 z v n := ⟨i1, F1⟩
  obtain ⟨P2, V2, z2, v2, n2, e2, S2⟩ := sb_num (X := X) (d := d) (y := k) hx hz hX S1 (by show 0 + 2 ≤ 34; decide) (by omega)
  have L2 := ln_n_1 (0, w 8) (k : Int)
  obtain ⟨P3, V3, z3, v3, n3, e3, S3⟩ := sb_char (X := X) (d := d) (y := 58) hx hz hX S2 (by omega) (by decide)
  have l3 : (ln_c (ln_n (0, w 8) (k : Int)) 58).1 = (ln_n (0, w 8) (k : Int)).1 + 1 := rfl
  have R3 := sb_R hz hv hI1 W1 S3
  obtain ⟨P4, V4, z4, v4, n4, e4, S4⟩ := sb_num (X := X) (d := d) (y := mr_ho (w 1) k 0) hx hz hX S3 (by omega) (by omega)
  have L4 := ln_n_1 (ln_c (ln_n (0, w 8) (k : Int)) 58) (mr_ho (w 1) k 0)
  obtain ⟨P5, V5, z5, v5, n5, e5, S5⟩ := sb_char (X := X) (d := d) (y := 47) hx hz hX S4 (by omega) (by decide)
  have l5 : (ln_c (ln_n (ln_c (ln_n (0, w 8) (k : Int)) 58) (mr_ho (w 1) k 0)) 47).1 = (ln_n (ln_c (ln_n (0, w 8) (k : Int)) 58) (mr_ho (w 1) k 0)).1 + 1 := rfl
  have R5 := sb_R hz hv hI1 W1 S5
  obtain ⟨p1, p2, p3, p4, p5⟩ := (R5.1 k hk).2.2.1 hh
  obtain ⟨P6, V6, z6, v6, n6, e6, S6⟩ := sb_num (X := X) (d := d) (y := w 1 (6 + 11 * k + 2)) hx hz hX S5 (by omega) (by omega)
  have R6 := sb_R hz hv hI1 W1 S6
  have S6 : sb_S P V z v x (ln_h (w 1) (w 8) k) 5 P6 V6 z6 v6 n6 := S6
  have L6 := ln_h_1 (w 1) (w 8) k
  -- behind the head
  have tail : ∀ (q : Nat × (Nat → Int)) (c : Nat), q = (if w 1 (6 + 11 * k + 3) < mr_ho (w 1) k 0 then ln_c (ln_h (w 1) (w 8) k) 33 else ln_h (w 1) (w 8) k) → c ≤ 6 → ∀ (P7 : mz_P) (V7 : mz_V) (z7 : Nat × Nat) (v7 n7 : Nat), sb_S P V z v x q c P7 V7 z7 v7 n7 →
      ∃ (P' : mz_P) (V' : mz_V) (z' : Nat × Nat) (v' n' : Nat), mv_run X (mv_call X (d + 6)) m_X8_writeBalloon 66 [.ref x, .int (nZ k), .ref (x + 1 + 5 + 2 * k), .int (nZ 0)] [] (mz_h P7 V7, z7) = some (.inl (some (.int (nZ (ln_w (w 1) (w 8) k).1))), (mz_h P' V', z')) ∧ mX_P P' x v' n' ∧ mX_is V' x v' (mg_wl w k) ∧ sb_F P V z P' V' z' x v v' 18 ∧ v' < z'.1 ∧ mg_wl w k 0 16 ≤ (n' : Int) := by
    intro q c hq hc P7 V7 z7 v7 n7 S7
    have lq : q.1 ≤ 9 := by
      rw [hq]
      split
      · show (ln_h (w 1) (w 8) k).1 + 1 ≤ 9; omega
      · omega
    obtain ⟨P8, V8, z8, v8, n8, e8, S8⟩ := Q8_bags (X := X) (d := d) hx hz hv hX hI1 W1 hk hh (w 1 (6 + 11 * k + 4)).toNat 0 (by omega) q c P7 V7 z7 v7 n7 S7 (by omega)
    have eq : ln_bags (w 1) k 0 (w 1 (6 + 11 * k + 4)).toNat q = ln_w (w 1) (w 8) k := by rw [hq]; rfl
    rw [eq] at e8 S8
    have R8 := sb_R hz hv hI1 W1 S8
    obtain ⟨⟨j1, j2, j3, j4, j5, j6⟩, F8⟩ := S8
    have go : ∀ r, x ≤ r → r < x + 376 → r ≠ x + 367 → r ≠ x + 368 → V8 r = V r := fun r r1 r2 r3 r4 => F8.2.2.1 r (by omega) r3 (by omega)
    have gx := go x (by omega) (by omega) (by omega) (by omega)
    have eu : ∀ q, q ≠ 16 → mg_wl w k 0 q = w 0 q := fun q hq => by unfold mg_wl; rw [mz_u_k _ _ hq, mz_w_n _ _ (by decide)]
    have er : ∀ r, r ≠ 0 → r ≠ 8 → mg_wl w k r = w r := fun r h0 h1 => by unfold mg_wl; rw [mz_u_o h0, mz_w_n _ _ h1]
    have e16 : mg_wl w k 0 16 = (ln_w (w 1) (w 8) k).1 := by unfold mg_wl; rw [mz_u_s]
    have e8' : mg_wl w k 8 = (ln_w (w 1) (w 8) k).2 := by unfold mg_wl; rw [mz_u_o (by decide), mz_w_s]
    refine ⟨P8, V8, z8, v8, n8, e8, j1, ⟨by rw [er 1 (by decide) (by decide)]; exact R8, mX_s_same hI W2 (eu 7 (by decide)) (er 3 (by decide) (by decide)) (by rw [gx]) (fun r ra rb => go r (by omega) (by omega) (by omega) (by omega)), mX_h_same hI W3 (eu 6 (by decide)) (er 4 (by decide) (by decide)) (fun r ra rb => go r (by omega) (by omega) (by omega) (by omega)), mX_t_same W4 (eu 15 (by decide)) (er 6 (by decide) (by decide)) (by rw [go _ (by omega) (by omega) (by omega) (by omega)]) (go _ (by omega) (by omega) (by omega) (by omega)), ⟨j3, by rw [j4, e16], fun i hi => ?_⟩, mX_d_same W6 (eu 17 (by decide)) (eu 19 (by decide)) (eu 20 (by decide)) (eu 21 (by decide)) (by rw [gx]) (by rw [gx]) (by rw [gx]) (by rw [gx])⟩, sb_F_le (by omega) F8, j2.2, by rw [e16]; omega⟩
    rw [e16] at hi
    rw [e8']
    exact j5 i (by omega)
  have hP1 := i1.1
  have hP2 := S2.1.1
  have hP3 := S3.1.1
  have hP4 := S4.1.1
  have hP5 := S5.1.1
  have hP6 := S6.1.1
  have o := hP.2.2.2.2.2.1.1
  rw [mc_X8_writeBalloon, bk_X8_writeBalloon_0, mz_rcv hP.o]
  simp only [mv_clR, mv_cl, Y8_at_y (d := d + 4) hP hI1 W1 hk hh]
  rw [mx_g7 hP, mz_rcv o]
  simp only [mv_clV, mv_cl, e1]
  rw [mx_g7 hP1, mz_rcv o]
  simp only [e2, mz_rcv hP2.2.2.2.2.2.1.1, e3]
  rw [mz_rcv (hP3.h0.b hk).1]
  simp only [mv_clI, mv_cl, Y0_height (d := d + 4) hP3.h0 R3 hk hh, mz_rcv hP3.2.2.2.2.2.1.1, e4, mz_rcv hP4.2.2.2.2.2.1.1, e5]
  rw [mz_gI (hP5.h0.b hk).1 (by decide), p2, mz_rcv hP5.2.2.2.2.2.1.1]
  simp only [e6, mz_rcv (hP6.h0.b hk).1, Y0_over (d := d + 3) hP6.h0 R6 hk hh, nZ_b1]
  by_cases c : w 1 (6 + 11 * k + 3) < mr_ho (w 1) k 0
  · obtain ⟨P7, V7, z7, v7, n7, e7, S7⟩ := sb_char (X := X) (d := d) (y := 33) hx hz hX S6 (by omega) (by decide)
    obtain ⟨P', V', z', v', n', t1, t2⟩ := tail _ 6 (if_pos c).symm (by decide) P7 V7 z7 v7 n7 S7
    refine ⟨P', V', z', v', n', ?_, t2⟩
    rw [if_neg (fun q => q c), mx_g7 hP6, mz_rcv hP6.2.2.2.2.2.1.1]
    simp only [e7]
    exact t1
  · obtain ⟨P', V', z', v', n', t1, t2⟩ := tail _ 5 (if_neg c).symm (by decide) P6 V6 z6 v6 n6 S6
    refine ⟨P', V', z', v', n', ?_, t2⟩
    rw [if_pos c]
    exact t1
/-! the reference -/
def ln_U (V : mz_V) (m : Nat) (q : Nat × (Nat → Int)) : mz_V := mz_w (mz_w (mq_t V m 0) (m + 8) q.2) m (mr_up (mq_t V m 0 m) 16 q.1)
theorem ln_U_r (V : mz_V) {m r : Nat} (q : Nat × (Nat → Int)) (h1 : r ≠ m) (h2 : r ≠ m + 8) : ln_U V m q r = V r := by unfold ln_U; rw [mz_w_n _ _ h1, mz_w_n _ _ h2, mq_t_r _ _ h1]
theorem X9_writes (hM : mr_M P m) {q : Nat × (Nat → Int)} (hq : q.1 < 40) {y : Int} : mv_call X (d + 1) 242 [.ref m, .int (nZ y)] (mz_h P (ln_U V m q), z) = some (.inl none, (mz_h P (ln_U V m (ln_c q y)), z)) := by
  have e16 : ∀ f g, mz_w (mz_w (mq_t V m 0) (m + 8) g) m (mr_up f 16 q.1) m 16 = q.1 := fun f g => by rw [mz_w_s, mr_up_s]
  have e : ln_U V m (ln_c q y) = mz_w (mz_w (mz_w (mz_w (mq_t V m 0) (m + 8) q.2) m (mr_up (mq_t V m 0 m) 16 q.1)) (m + 8) (mr_up q.2 q.1 y)) m (mr_up (mr_up (mq_t V m 0 m) 16 q.1) 16 ((q.1 : Int) + 1)) := by
    rw [mr_up_up, mz_w_c _ (mr_up (mq_t V m 0 m) 16 q.1) (mr_up q.2 q.1 y) (show m ≠ m + 8 by omega), mz_w_w, mz_w_w]
    unfold ln_U ln_c
    rw [nc1]
  rw [e, mc_X9_writes, bk_X9_writes_0]
  unfold ln_U
  rw [mr_gou hM, mz_gI hM.o (by decide), e16, mr_pou hM (by omega) (by omega), mz_w_n _ _ (show m + 8 ≠ m by omega), mz_w_s, Int.toNat_natCast, mz_gI hM.o (by decide), mz_w_n _ _ (show m ≠ m + 8 by omega), e16, nZ_add, mz_pW hM.o (by decide), mz_w_n _ _ (show m ≠ m + 8 by omega), mz_w_s]
theorem nZ_mod10 {y : Int} (hy : 0 ≤ y) (hy2 : y < 2147483648) : nZ y - nZ y / nZ 10 * nZ 10 = nZ (y % 10) := by
  rw [nZ_div hy hy2 (by decide) (by decide), nZ_mul, nZ_sub]
  congr 1
  omega
theorem X9_writesNumber (hM : mr_M P m) {q : Nat × (Nat → Int)} (hq : q.1 + 1 < 40) {y : Int} (hy : 0 ≤ y ∧ y ≤ 99) : mv_call X (d + 2) 243 [.ref m, .int (nZ y)] (mz_h P (ln_U V m q), z) = some (.inl none, (mz_h P (ln_U V m (ln_n q y)), z)) := by
  rw [mc_X9_writesNumber, bk_X9_writesNumber_0]
  unfold ln_n
  by_cases c : y ≤ 9
  · rw [if_pos ((nZ_le ⟨by omega, by omega⟩ (by decide)).mpr c), if_neg (by decide), nZ_mod10 hy.1 (by omega), nZ_add, show y % 10 = y by omega, mz_rcv hM.o, if_pos c]
    simp only [mv_clV, mv_cl, X9_writes hM (q := q) (y := 48 + y) (by omega)]
  · rw [if_neg (fun q => c ((nZ_le ⟨by omega, by omega⟩ (by decide)).mp q)), if_neg (by decide), nZ_div hy.1 (by omega) (by decide) (by decide), nZ_add, mz_rcv hM.o, if_neg c]
    simp only [mv_clV, mv_cl, X9_writes hM (q := q) (y := 48 + y / 10) (by omega)]
    rw [if_neg (by decide), ← nZ_div hy.1 (by omega) (by decide) (by decide), nZ_mod10 hy.1 (by omega), nZ_add, mz_rcv hM.o]
    simp only [mv_clV, mv_cl, X9_writes hM (q := ln_c q (48 + y / 10)) (y := 48 + y % 10) (show q.1 + 1 < 40 from hq)]
theorem Q9_writeBalloon (hM : mr_M P m) (hw : mr_is V m w) (hI : mg_I w b) {a : Int} (ha : nS a) : ∃ V', mv_call X (d + 7) 244 [.ref m, .int (nZ a)] (mz_h P V, z) = some (.inl (some (.int (nZ (if mr_has (w 1) a then (ln_w (w 1) (w 8) a.toNat).1 else 0)))), (mz_h P V', z)) ∧ V' m 0 = mq_b (w 1) a ∧ mr_is V' m (if mr_has (w 1) a then mg_wl w a.toNat else w) ∧ mr_X V V' m := by
  have w1 := hw.1.1
  have hI1 : mr_I (V (m + 1)) := by rw [w1]; exact hI.1.1
  rw [mc_X9_writeBalloon, bk_X9_writeBalloon_0, mz_rcv hM.o]
  by_cases c : mr_has (w 1) a
  · rw [if_pos c, if_pos c, mq_by c]
    obtain ⟨k, rfl, hk, hh⟩ := mr_has_h c
    simp only [mv_clI, mv_cl, X9_asked_y hM hI1 ha (by rw [w1]; exact c), Int.toNat_natCast]
    rw [if_neg (by decide)]
    have h5 := hI.1.1.bags hk
    have g0 := mr_ho0 hI.1.1 hk 0
    have g1 := mr_ho1 hI.1.1 hk 0
    have g2 := hI.1.1.string hk
    have U1 : ∀ q, ln_U V m q (m + 1) = w 1 := fun q => by rw [ln_U_r V q (by omega) (by omega), w1]
    have IU : ∀ q, mr_I (ln_U V m q (m + 1)) := fun q => by rw [U1]; exact hI.1.1
    have eU0 : mz_w (mq_t V m 0) m (mr_up (mq_t V m 0 m) 16 0) = ln_U V m (0, w 8) := by
      unfold ln_U
      have : mz_w (mq_t V m 0) (m + 8) (w 8) = mq_t V m 0 := by
        rw [← hw.1.2.2.2.2]
        conv => lhs; rw [← mq_t_r V (m := m) 0 (show m + 8 ≠ m by omega)]
        exact mz_w_id _ _
      rw [this]
      rfl
    -- bags
    have bags : ∀ j i : Nat, (i : Int) + j = w 1 (6 + 11 * k + 4) → ∀ q : Nat × (Nat → Int), q.1 + 3 * j < 39 → mv_run X (mv_call X (d + 6)) m_X9_writeBalloon 67 [.ref m, .int (nZ k), .int (nZ i)] [] (mz_h P (ln_U V m q), z) = some (.inl (some (.int (nZ (ln_bags (w 1) k i j q).1))), (mz_h P (ln_U V m (ln_bags (w 1) k i j q)), z)) := by
      intro j
      induction j with
      | zero =>
        intro i hi q hq
        rw [bk_X9_writeBalloon_67, mz_rcv hM.o]
        simp only [mv_clI, mv_cl, X9_ofz (d := d + 5) hM hk (show (0 : Int) ≤ 4 by decide) (by decide), U1, Int.reduceToNat]
        rw [if_pos (by rw [nZ_le ⟨by omega, by omega⟩ ⟨by omega, by omega⟩]; omega), mz_gI hM.o (by decide), show ln_U V m q m 16 = q.1 by unfold ln_U; rw [mz_w_s, mr_up_s]]
        rfl
      | succ j ih =>
        intro i hi q hq
        have l1 : (ln_c q 43).1 = q.1 + 1 := rfl
        have l2 := ln_n_1 (ln_c q 43) (w 1 (6 + 11 * k + (5 + i)))
        have hbag := hI.1.1.bag hk (show i < 6 by omega)
        have ih := ih (i + 1) (by omega) (ln_n (ln_c q 43) (w 1 (6 + 11 * k + (5 + i)))) (by omega)
        rw [nc1] at ih
        rw [bk_X9_writeBalloon_67, mz_rcv hM.o]
        simp only [mv_clI, mv_cl, X9_ofz (d := d + 5) hM hk (show (0 : Int) ≤ 4 by decide) (by decide), U1, Int.reduceToNat]
        rw [if_neg (by rw [nZ_le ⟨by omega, by omega⟩ ⟨by omega, by omega⟩]; omega), mz_rcv hM.o]
        simp only [mv_clV, mv_cl, X9_writes (d := d + 5) hM (q := q) (y := 43) (by omega), mz_rcv hM.o, nZ_add, X9_ofz (d := d + 5) hM hk (show (0 : Int) ≤ 5 + i by omega) (by omega), U1, mr_t5, X9_writesNumber (d := d + 4) hM (q := ln_c q 43) (y := w 1 (6 + 11 * k + (5 + i))) (by omega) (by omega)]
        exact ih
    have L1 := ln_n_1 (0, w 8) (k : Int)
    have L2 := ln_n_1 (ln_c (ln_n (0, w 8) (k : Int)) 58) (mr_ho (w 1) k 0)
    have l1 : (ln_c (ln_n (0, w 8) (k : Int)) 58).1 = (ln_n (0, w 8) (k : Int)).1 + 1 := rfl
    have l2 : (ln_c (ln_n (ln_c (ln_n (0, w 8) (k : Int)) 58) (mr_ho (w 1) k 0)) 47).1 = (ln_n (ln_c (ln_n (0, w 8) (k : Int)) 58) (mr_ho (w 1) k 0)).1 + 1 := rfl
    have l0 : ((0 : Nat), w 8).1 = 0 := rfl
    have L6 := ln_h_1 (w 1) (w 8) k
    have fin : mr_is (ln_U V m (ln_w (w 1) (w 8) k)) m (mg_wl w k) := by
      obtain ⟨⟨w1, w3, w4, w6, w8⟩, wf⟩ := hw
      refine ⟨⟨?_, ?_, ?_, ?_, ?_⟩, fun j hj => ?_⟩
      · rw [ln_U_r V _ (by omega) (by omega), w1]; unfold mg_wl; rw [mz_u_o (by decide), mz_w_n _ _ (by decide)]
      · rw [ln_U_r V _ (by omega) (by omega), w3]; unfold mg_wl; rw [mz_u_o (by decide), mz_w_n _ _ (by decide)]
      · rw [ln_U_r V _ (by omega) (by omega), w4]; unfold mg_wl; rw [mz_u_o (by decide), mz_w_n _ _ (by decide)]
      · rw [ln_U_r V _ (by omega) (by omega), w6]; unfold mg_wl; rw [mz_u_o (by decide), mz_w_n _ _ (by decide)]
      · unfold ln_U mg_wl; rw [mz_w_n _ _ (by omega), mz_w_s, mz_u_o (by decide), mz_w_s]
      · have j0 : j ≠ 0 := by unfold mg_f at hj; omega
        unfold ln_U mg_wl
        by_cases e : j = 16
        · subst e; rw [mz_w_s, mr_up_s, mz_u_s]
        · rw [mz_w_s, mr_up_n _ _ e, mq_t_k _ _ _ j0, mz_u_k _ _ e, mz_w_n _ _ (by decide)]; exact wf j hj
    refine ⟨ln_U V m (ln_w (w 1) (w 8) k), ?_, by unfold ln_U; rw [mz_w_s, mr_up_n _ _ (by decide), mq_t_0], fin, fun r hr => ln_U_r V _ (by omega) (by omega)⟩
    rw [mz_pW hM.o (by decide), eU0, mz_rcv hM.o]
    simp only [mv_clV, mv_cl, X9_writesNumber (d := d + 4) hM (q := (0, w 8)) (y := k) (by show 0 + 1 < 40; decide) (by omega), mz_rcv hM.o, X9_writes (d := d + 5) hM (q := ln_n (0, w 8) (k : Int)) (y := 58) (by omega), X9_high (d := d + 1) hM (IU _) hk, U1, X9_writesNumber (d := d + 4) hM (q := ln_c (ln_n (0, w 8) (k : Int)) 58) (y := mr_ho (w 1) k 0) (by omega) (by omega), X9_writes (d := d + 5) hM (q := ln_n (ln_c (ln_n (0, w 8) (k : Int)) 58) (mr_ho (w 1) k 0)) (y := 47) (by omega), X9_ofz (d := d + 5) hM hk (show (0 : Int) ≤ 2 by decide) (by decide), Int.reduceToNat, X9_writesNumber (d := d + 4) hM (q := ln_c (ln_n (ln_c (ln_n (0, w 8) (k : Int)) 58) (mr_ho (w 1) k 0)) 47) (y := w 1 (6 + 11 * k + 2)) (by omega) (by omega), X9_isTooHigh hM (IU _) hk, nZ_b0]
    have head : ln_n (ln_c (ln_n (ln_c (ln_n (0, w 8) (k : Int)) 58) (mr_ho (w 1) k 0)) 47) (w 1 (6 + 11 * k + 2)) = ln_h (w 1) (w 8) k := rfl
    rw [head]
    by_cases c2 : w 1 (6 + 11 * k + 3) < mr_ho (w 1) k 0
    · have eq : ln_w (w 1) (w 8) k = ln_bags (w 1) k 0 (w 1 (6 + 11 * k + 4)).toNat (ln_c (ln_h (w 1) (w 8) k) 33) := by unfold ln_w; rw [if_pos c2]
      have l3 : (ln_c (ln_h (w 1) (w 8) k) 33).1 = (ln_h (w 1) (w 8) k).1 + 1 := rfl
      have := bags (w 1 (6 + 11 * k + 4)).toNat 0 (by omega) (ln_c (ln_h (w 1) (w 8) k) 33) (by omega)
      rw [if_neg (by omega), eq]
      simp only [X9_writes (d := d + 5) hM (q := ln_h (w 1) (w 8) k) (y := 33) (by omega)]
      exact this
    · have eq : ln_w (w 1) (w 8) k = ln_bags (w 1) k 0 (w 1 (6 + 11 * k + 4)).toNat (ln_h (w 1) (w 8) k) := by unfold ln_w; rw [if_neg c2]
      have := bags (w 1 (6 + 11 * k + 4)).toNat 0 (by omega) (ln_h (w 1) (w 8) k) (by omega)
      rw [if_pos (by omega), eq]
      exact this
  · rw [if_neg c, if_neg c]
    simp only [mv_clI, mv_cl, X9_asked_n hM hI1 ha (by rw [w1]; exact c)]
    rw [if_pos (by rfl)]
    refine ⟨_, rfl, ?_, mq_t_is hw 1, mq_t_X V m 1⟩
    rw [mq_t_0]
    unfold mq_b
    rw [if_neg c]
end WRT
