/-! SNAPSHOT, TEXT, MEANS -/
theorem mq_dd_t : ∀ c : Fin 10, ∀ g : Fin 401, ((decide ((FP.ddiv (FP.i2d (nZ ((g : Nat) : Int))) (FP.i2d (nZ ((c : Nat) + 1 : Nat)))) &&& 0x7fffffffffffffff ≤ 0x7ff0000000000000)) && decide (Op.cmpValue (FP.dcmp (FP.ddiv (FP.i2d (nZ ((g : Nat) : Int))) (FP.i2d (nZ ((c : Nat) + 1 : Nat)))) (FP.ddiv (FP.i2d (nZ ((g : Nat) : Int))) (FP.i2d (nZ ((c : Nat) + 1 : Nat))))) .l = 0)) = true := by decide +kernel
theorem mq_ff_t : ∀ c : Fin 60, ∀ g : Fin 41, ((decide ((FP.fdiv (FP.i2f (nZ ((g : Nat) : Int))) (FP.i2f (nZ ((c : Nat) + 1 : Nat)))) &&& 0x7fffffff ≤ 0x7f800000)) && (decide ((FP.f2d (FP.fdiv (FP.i2f (nZ ((g : Nat) : Int))) (FP.i2f (nZ ((c : Nat) + 1 : Nat))))) &&& 0x7fffffffffffffff ≤ 0x7ff0000000000000)) && decide (Op.cmpValue (FP.dcmp (FP.f2d (FP.fdiv (FP.i2f (nZ ((g : Nat) : Int))) (FP.i2f (nZ ((c : Nat) + 1 : Nat))))) (FP.f2d (FP.fdiv (FP.i2f (nZ ((g : Nat) : Int))) (FP.i2f (nZ ((c : Nat) + 1 : Nat)))))) .l = 0)) = true := by decide +kernel
def mq_mean (s : Nat → Int) : UInt64 := FP.ddiv (FP.i2d (nZ (mq_hgt s))) (FP.i2d (nZ (mq_cnt s)))
def mq_str (s : Nat → Int) (b : Nat) : UInt32 := FP.fdiv (FP.i2f (nZ (mr_ho s b 0))) (FP.i2f (nZ (s (6 + 11 * b + 3))))
theorem mq_dd {g c : Int} (hg : 0 ≤ g ∧ g ≤ 400) (hc : 1 ≤ c ∧ c ≤ 10) : (FP.ddiv (FP.i2d (nZ g)) (FP.i2d (nZ c))) &&& 0x7fffffffffffffff ≤ 0x7ff0000000000000 ∧ Op.cmpValue (FP.dcmp (FP.ddiv (FP.i2d (nZ g)) (FP.i2d (nZ c))) (FP.ddiv (FP.i2d (nZ g)) (FP.i2d (nZ c)))) .l = 0 := by
  have t := mq_dd_t ⟨(c - 1).toNat, by omega⟩ ⟨g.toNat, by omega⟩
  have e1 : (((c - 1).toNat + 1 : Nat) : Int) = c := by omega
  have e2 : ((g.toNat : Nat) : Int) = g := by omega
  simp only [e1, e2, Bool.and_eq_true, decide_eq_true_eq] at t
  exact t
theorem mq_ff {g c : Int} (hg : 0 ≤ g ∧ g ≤ 40) (hc : 1 ≤ c ∧ c ≤ 60) : (FP.fdiv (FP.i2f (nZ g)) (FP.i2f (nZ c))) &&& 0x7fffffff ≤ 0x7f800000 ∧ (FP.f2d (FP.fdiv (FP.i2f (nZ g)) (FP.i2f (nZ c)))) &&& 0x7fffffffffffffff ≤ 0x7ff0000000000000 ∧ Op.cmpValue (FP.dcmp (FP.f2d (FP.fdiv (FP.i2f (nZ g)) (FP.i2f (nZ c)))) (FP.f2d (FP.fdiv (FP.i2f (nZ g)) (FP.i2f (nZ c))))) .l = 0 := by
  have t := mq_ff_t ⟨(c - 1).toNat, by omega⟩ ⟨g.toNat, by omega⟩
  have e1 : (((c - 1).toNat + 1 : Nat) : Int) = c := by omega
  have e2 : ((g.toNat : Nat) : Int) = g := by omega
  simp only [e1, e2, Bool.and_eq_true, decide_eq_true_eq] at t
  exact ⟨t.1.1, t.1.2, t.2⟩
theorem mz_s_b {f : Nat → Int} {c : Int} : ∀ {n : Nat}, (∀ i, i < n → f i ≤ c) → mz_s f n ≤ c * n
  | 0, _ => by show (0 : Int) ≤ c * 0; omega
  | n + 1, h => by
    have h1 := mz_s_b (f := f) (c := c) (n := n) fun i hi => h i (by omega)
    have h2 := h n (by omega)
    show mz_s f n + f n ≤ c * ((n + 1 : Nat) : Int)
    rw [nc1, Int.mul_add, Int.mul_one]
    omega
theorem mq_cnt_in {s : Nat → Int} (hI : mr_I s) : 0 ≤ mq_cnt s ∧ mq_cnt s ≤ 10 := by
  have h1 := mz_s_b (f := fun b => s (6 + 11 * b)) (c := 1) (n := 10) fun i hi => by have := hI.here hi; show s (6 + 11 * i) ≤ 1; omega
  have h2 : 0 ≤ mz_s (fun b => s (6 + 11 * b)) 10 := mz_s_0 fun i hi => by have := hI.here hi; show 0 ≤ s (6 + 11 * i); omega
  unfold mq_cnt
  omega
theorem mq_hgt_in {s : Nat → Int} (hI : mr_I s) : 0 ≤ mq_hgt s ∧ mq_hgt s ≤ 400 := by
  have h1 := mz_s_b (f := fun b => if s (6 + 11 * b) = 1 then mr_ho s b 0 else 0) (c := 40) (n := 10) fun i hi => by
    have := mr_ho1 hI hi 0
    show (if s (6 + 11 * i) = 1 then mr_ho s i 0 else 0) ≤ 40
    split <;> omega
  have h2 : 0 ≤ mz_s (fun b => if s (6 + 11 * b) = 1 then mr_ho s b 0 else 0) 10 := mz_s_0 fun i hi => by
    have := mr_ho0 hI hi 0
    show 0 ≤ (if s (6 + 11 * i) = 1 then mr_ho s i 0 else 0)
    split <;> omega
  unfold mq_hgt
  omega
theorem mh_R.str {V : mz_V} {a : Nat} {s : Nat → Int} (h : mh_R V a s) {b : Nat} (hb : b < 10) (hh : s (6 + 11 * b) = 1) : 1 ≤ s (6 + 11 * b + 3) := by
  obtain ⟨h0, h1, h2, h3⟩ := h.1 b hb
  rw [← (h2 hh).2.2.1]
  exact h0.2.2.2.2.2.1
section SAV
variable {X : mv_X} {P : mz_P} {V : mz_V} {z : Nat × Nat} {x v n d m : Nat} {w : mz_V} {b : Int} {s : Nat → Int}
theorem Q8_meanHeight (hP : mX_P P x v n) (hI : mr_I s) (h : mh_R V (x + 1) s) : mv_call X (d + 4) 123 [.ref x] (mz_h P V, z) = if mq_cnt s = 0 then some (.inr (5, z.1), (mz_h P V, (z.1 + 1, z.2 + 6))) else some (.inl (some (.double (mq_mean s))), (mz_h P V, z)) := by
  have hc := mq_cnt_in hI
  have hB : mz_HI V (x + 1) := h.HI hI
  rw [mc_X8_meanHeight, bk_X8_meanHeight_0, mx_g0 hP, mz_rcv hP.h0.1]
  simp only [mv_clI, mv_cl, X3_countBalloons hP.h0 hB, mh_cnt_eq hI h]
  by_cases c : mq_cnt s = 0
  · rw [if_pos c, if_pos (by rw [c]; rfl)]
    rfl
  · rw [if_neg c, if_neg (by rw [nZ_eq0 ⟨by omega, by omega⟩]; exact c), mx_g0 hP, mz_rcv hP.h0.1]
    simp only [X3_sumOfHeights hP.h0 hB, mh_hgt_eq h]
    rw [mv_chk_t (decide_eq_true (mq_dd (mq_hgt_in hI) ⟨by omega, hc.2⟩).1)]
    rfl
theorem Q8_strain (hP : mX_P P x v n) (hI : mr_I s) (h : mh_R V (x + 1) s) {a : Int} (ha : nS a) : mv_call X (d + 5) 124 [.ref x, .int (nZ a)] (mz_h P V, z) = if mq_b s a = 0 then some (.inl (some (.float (mq_str s a.toNat))), (mz_h P V, z)) else some (.inr (1, z.1), (mz_h P V, (z.1 + 1, z.2 + 6))) := by
  rw [mc_X8_strain, bk_X8_strain_0, mz_rcv hP.o]
  by_cases c : mr_has s a
  · rw [if_pos (mq_by c)]
    obtain ⟨k, rfl, hk, hh⟩ := mr_has_h c
    obtain ⟨p1, p2, p3, p4, p5⟩ := (h.1 k hk).2.2.1 hh
    simp only [mv_clR, mv_cl, Y8_at_y hP hI h hk hh, Int.toNat_natCast]
    rw [mz_rcv (hP.h0.b hk).1]
    simp only [mv_clI, mv_cl, Y0_height hP.h0 h hk hh]
    rw [mz_gI (hP.h0.b hk).1 (by decide), p3]
    have h1 := h.str hk hh
    have h2 := hI.strength hk
    rw [mv_chk_t (decide_eq_true (mq_ff ⟨mr_ho0 hI hk 0, mr_ho1 hI hk 0⟩ ⟨h1, h2.2⟩).1)]
    rfl
  · rw [if_neg (mq_bn c)]
    simp only [mv_clR, mv_cl, Y8_at_n hP hI h ha c]
    rfl
/-! the snapshot -/
def mg_sv (w : mz_V) : mz_V := mz_u (mz_w w 3 (mr_cpy (w 3) (w 1) 158)) 0 7 1
def mg_rs (w : mz_V) : mz_V := mz_u (mz_w w 1 (mr_cpy (w 1) (w 3) 158)) 0 6 0
theorem mr_cnt_e {s s' : Nat → Int} (h : ∀ j, j < 158 → s' j = s j) : mq_cnt s' = mq_cnt s := mz_s_c fun i hi => h _ (by omega)
theorem Q8_saveSnapshot (hP : mX_P P x v n) (hW : mX_is V x v w) (hI : mg_I w b) : ∃ V', mv_call X (d + 4) 135 [.ref x] (mz_h P V, z) = some (.inl (some (.int (nZ (mq_cnt (w 1))))), (mz_h P V', z)) ∧ mX_is V' x v (mg_sv w) ∧ mX_X V V' x v := by
  have hv := hP.hv
  have hI1 := hI.1.1
  have hp := hI1.pil.2
  obtain ⟨W1, W2, W3, W4, W5, W6⟩ := hW
  obtain ⟨V1, e1, r1, x1⟩ := Y3_copyFrom (X := X) (z := z) (d := d) (V := V) hP.h2 hP.h0 (by omega) hI1 W1
  have hR1 : mh_R V1 (x + 1) (w 1) := mh_R_f hp (fun r ha hb => x1 r (by omega)) W1
  have hR2 : mh_R (mz_u V1 x 3 1) (x + 1) (w 1) := mh_R_f hp (fun r ha hb => mz_u_o (by omega)) hR1
  have go : ∀ r, r ≠ x → (r < x + 63 ∨ x + 94 ≤ r) → mz_u V1 x 3 1 r = V r := fun r h1 h2 => by rw [mz_u_o h1, x1 r (by omega)]
  have gx : ∀ k, k ≠ 3 → mz_u V1 x 3 1 x k = V x k := fun k hk => by rw [mz_u_k _ _ hk, x1 x (by omega)]
  have eu : ∀ q, q ≠ 7 → mg_sv w 0 q = w 0 q := fun q hq => by unfold mg_sv; rw [mz_u_k _ _ hq, mz_w_n _ _ (by decide)]
  have er : ∀ r, r ≠ 0 → r ≠ 3 → mg_sv w r = w r := fun r h0 h1 => by unfold mg_sv; rw [mz_u_o h0, mz_w_n _ _ h1]
  refine ⟨mz_u V1 x 3 1, ?_, ⟨?_, ⟨?_, fun _ => ?_⟩, mX_h_same hI W3 (eu 6 (by decide)) (er 4 (by decide) (by decide)) (fun r ra rb => go r (by omega) (by omega)), mX_t_same W4 (eu 15 (by decide)) (er 6 (by decide) (by decide)) (by rw [go _ (by omega) (by omega)]) (go _ (by omega) (by omega)), mX_l_same W5 (eu 16 (by decide)) (er 8 (by decide) (by decide)) (go _ (by omega) (by omega)) (go _ (by omega) (by omega)), mX_d_same W6 (eu 17 (by decide)) (eu 19 (by decide)) (eu 20 (by decide)) (eu 21 (by decide)) (gx 10 (by decide)) (gx 11 (by decide)) (gx 12 (by decide)) (gx 13 (by decide))⟩, fun r hr hrv => go r (by omega) (by omega)⟩
  · rw [mc_X8_saveSnapshot, bk_X8_saveSnapshot_0, mx_g2 hP, mx_g0 hP, mz_rcv hP.h2.1]
    simp only [mv_clV, mv_cl, e1]
    rw [mv_chk_t (by decide), mz_pf hP.o (by decide), mx_g0 hP, mz_rcv hP.h0.1]
    simp only [mv_clI, mv_cl, X3_countBalloons hP.h0 (hR2.HI hI1), mh_cnt_eq hI1 hR2]
  · rw [er 1 (by decide) (by decide)]; exact hR2
  · unfold mg_sv; rw [mz_u_s, mz_u_s]
  · have e3 : mg_sv w 3 = mr_cpy (w 3) (w 1) 158 := by unfold mg_sv; rw [mz_u_o (by decide), mz_w_s]
    rw [e3]
    exact mh_R_e hp (fun j hj => mr_cpy_l _ _ hj) (mh_R_f hp (fun r ra rb => mz_u_o (by omega)) r1)
theorem Q8_restoreSnapshot (hP : mX_P P x v n) (hW : mX_is V x v w) (hI : mg_I w b) : ∃ V', mv_call X (d + 4) 136 [.ref x] (mz_h P V, z) = mq_r P V' z (if w 0 7 = 0 then 1 else 0) (mq_cnt (w 3)) 4 ∧ mX_is V' x v (if w 0 7 = 0 then w else mg_rs w) ∧ mX_X V V' x v := by
  have hv := hP.hv
  obtain ⟨W1, W2, W3, W4, W5, W6⟩ := hW
  have h7 := hI.2.2.2.1
  rw [mc_X8_restoreSnapshot, bk_X8_restoreSnapshot_0, mz_gI hP.o (by decide), W2.1]
  by_cases c : w 0 7 = 0
  · refine ⟨V, ?_, by rw [if_pos c]; exact ⟨W1, W2, W3, W4, W5, W6⟩, mX_X_rfl V x v⟩
    rw [mq_r1 (by rw [if_pos c]; decide), if_pos (by rw [c]; rfl)]
    rfl
  · have c1 : w 0 7 = 1 := by omega
    have hI3 := (hI.2.2.2.2.1 c1).1
    have hp := hI3.pil.2
    obtain ⟨V1, e1, r1, x1⟩ := Y3_copyFrom (X := X) (z := z) (d := d) (V := V) hP.h0 hP.h2 (by omega) hI3 (W2.2 c1)
    have hR2 : mh_R (mz_u V1 (x + 94) 2 0) (x + 1) (w 3) := mh_R_f hp (fun r ha hb => mz_u_o (by omega)) r1
    have go : ∀ r, r ≠ x + 94 → (r < x + 1 ∨ x + 32 ≤ r) → mz_u V1 (x + 94) 2 0 r = V r := fun r h1 h2 => by rw [mz_u_o h1, x1 r (by omega)]
    have gx := go x (by omega) (by omega)
    have eu : ∀ q, q ≠ 6 → mg_rs w 0 q = w 0 q := fun q hq => by unfold mg_rs; rw [mz_u_k _ _ hq, mz_w_n _ _ (by decide)]
    have er : ∀ r, r ≠ 0 → r ≠ 1 → mg_rs w r = w r := fun r h0 h1 => by unfold mg_rs; rw [mz_u_o h0, mz_w_n _ _ h1]
    refine ⟨mz_u V1 (x + 94) 2 0, ?_, ?_, fun r hr hrv => go r (by omega) (by omega)⟩
    · rw [mq_r0 (by rw [if_neg c]), if_neg (by rw [c1]; decide), mx_g0 hP, mx_g2 hP, mz_rcv hP.h0.1]
      simp only [mv_clV, mv_cl, e1]
      rw [mx_g4 hP, mz_pf hP.ho (by decide), mx_g0 hP, mz_rcv hP.h0.1]
      simp only [mv_clI, mv_cl, X3_countBalloons hP.h0 (hR2.HI hI3), mh_cnt_eq hI3 hR2]
    · rw [if_neg c]
      obtain ⟨nx, hnx, q1, q2, q3⟩ := W3
      refine ⟨?_, mX_s_same hI W2 (eu 7 (by decide)) (er 3 (by decide) (by decide)) (by rw [gx]) (fun r ra rb => go r (by omega) (by omega)), ⟨nx, hnx, ?_, ?_, fun i hi => ?_⟩, mX_t_same W4 (eu 15 (by decide)) (er 6 (by decide) (by decide)) (by rw [go _ (by omega) (by omega)]) (go _ (by omega) (by omega)), mX_l_same W5 (eu 16 (by decide)) (er 8 (by decide) (by decide)) (go _ (by omega) (by omega)) (go _ (by omega) (by omega)), mX_d_same W6 (eu 17 (by decide)) (eu 19 (by decide)) (eu 20 (by decide)) (eu 21 (by decide)) (by rw [gx]) (by rw [gx]) (by rw [gx]) (by rw [gx])⟩
      · have e1' : mg_rs w 1 = mr_cpy (w 1) (w 3) 158 := by unfold mg_rs; rw [mz_u_o (by decide), mz_w_s]
        rw [e1']
        exact mh_R_e hp (fun j hj => mr_cpy_l _ _ hj) hR2
      · rw [mz_u_k _ _ (by decide), x1 _ (by omega)]; exact q1
      · unfold mg_rs; rw [mz_u_s, mz_u_s]
      · have e6 : mg_rs w 0 6 = 0 := by unfold mg_rs; rw [mz_u_s]
        rw [e6] at hi
        omega
/-! the text -/
def mg_fd (w : mz_V) (y : Int) : mz_V := mz_u (mz_w w 6 (mr_up (w 6) (w 0 15).toNat y)) 0 15 (w 0 15 + 1)
theorem nZ_u32 (u : UInt32) : u.toInt32 = nZ (u.toNat : Int) := by
  apply Int32.toBitVec_inj.mp
  show u.toBitVec = BitVec.ofInt 32 (u.toBitVec.toNat : Int)
  rw [BitVec.ofInt_natCast, BitVec.ofNat_toNat]
  rfl
theorem nZ_un {y : Int} (h : 0 ≤ y ∧ y ≤ 65535) : (nZ y).toUInt32.toNat = y.toNat := by
  show (BitVec.ofInt 32 y).toNat = y.toNat
  rw [BitVec.toNat_ofInt]
  omega
theorem mq_i2c (x : Int32) : ∃ y : Int, (0 ≤ y ∧ y ≤ 65535) ∧ (x.toUInt32 % 65536).toInt32 = nZ y := by
  refine ⟨((x.toUInt32 % 65536).toNat : Int), ?_, nZ_u32 _⟩
  have : (x.toUInt32 % 65536).toNat < 65536 := by
    rw [UInt32.toNat_mod]
    exact Nat.mod_lt _ (by decide)
  omega
theorem mq_char {y : Int} (h : 0 ≤ y ∧ y ≤ 65535) : vp_nar .char (nZ y) = nZ y ∧ mv_ok 7 (nZ y) = true ∧ ((nZ y).toUInt32 % 65536).toInt32 = nZ y := by
  have e : ((y.toNat : Nat) : Int) = y := by omega
  refine ⟨?_, ?_, ?_⟩
  · show (nZ y).toUInt32.toUInt16.toUInt32.toInt32 = nZ y
    rw [nZ_u32, UInt16.toNat_toUInt32, UInt32.toNat_toUInt16, nZ_un h]
    congr 1
    omega
  · show (decide (nZ 0 ≤ nZ y) && decide (nZ y ≤ nZ 65535)) = true
    rw [decide_eq_true ((nZ_le (by decide) ⟨by omega, by omega⟩).mpr h.1), decide_eq_true ((nZ_le ⟨by omega, by omega⟩ (by decide)).mpr h.2)]
    rfl
  · rw [nZ_u32, UInt32.toNat_mod, nZ_un h]
    congr 1
    show ((y.toNat % 65536 : Nat) : Int) = y
    omega
theorem X6_append (hP : mX_P P x v n) {k : Nat} (hk : V (x + 346) 1 = k) (hk2 : k < 60) {y : Int} (hy : 0 ≤ y ∧ y ≤ 65535) : mv_call X (d + 1) 69 [.ref (x + 346), .int (nZ y)] (mz_h P V, z) = some (.inl none, (mz_h P (mz_u (mz_u V (x + 347) k y) (x + 346) 1 (k + 1)), z)) := by
  obtain ⟨t1, t2, t3, -⟩ := hP.2.2.2.2.1
  rw [mc_X6_append, bk_X6_append_0, mz_gI t1 (by decide), hk, if_neg (by rw [nZ_le (by decide) ⟨by omega, by omega⟩]; omega), mz_gR t1 (by decide) t2, mz_gI t1 (by decide), hk, (mq_char hy).1, mz_as t3 (by decide) (nZ_i ⟨by omega, by omega⟩) hk2, mz_gI t1 (by decide), mz_u_o (by omega), hk, nZ_add, mz_pf t1 (by decide)]
theorem Q8_feed (hP : mX_P P x v n) (hW : mX_is V x v w) (hI : mg_I w b) {y : Int} (hy : 0 ≤ y ∧ y ≤ 65535) : ∃ V', mv_call X (d + 2) 125 [.ref x, .int (nZ y)] (mz_h P V, z) = mq_r P V' z (if w 0 15 = 60 then 1 else 0) (w 0 15 + 1) 4 ∧ mX_is V' x v (if w 0 15 = 60 then w else mg_fd w y) ∧ mX_X V V' x v := by
  have hv := hP.hv
  obtain ⟨t1, t2, t3, -⟩ := hP.2.2.2.2.1
  obtain ⟨W1, W2, W3, W4, W5, W6⟩ := hW
  have h15 := hI.2.2.2.2.2.1
  rw [mc_X8_feed, bk_X8_feed_0, mx_g6 hP, mz_gI t1 (by decide), W4.1]
  by_cases c : w 0 15 = 60
  · refine ⟨V, ?_, by rw [if_pos c]; exact ⟨W1, W2, W3, W4, W5, W6⟩, mX_X_rfl V x v⟩
    rw [mq_r1 (by rw [if_pos c]; decide), if_neg (by rw [c]; decide)]
    rfl
  · obtain ⟨k, hk⟩ : ∃ k : Nat, w 0 15 = k := ⟨(w 0 15).toNat, by omega⟩
    have hk2 : k < 60 := by omega
    have go : ∀ r, r ≠ x + 346 → r ≠ x + 347 → mz_u (mz_u V (x + 347) k y) (x + 346) 1 (k + 1) r = V r := fun r h1 h2 => by rw [mz_u_o h1, mz_u_o h2]
    have gx := go x (by omega) (by omega)
    have eu : ∀ q, q ≠ 15 → mg_fd w y 0 q = w 0 q := fun q hq => by unfold mg_fd; rw [mz_u_k _ _ hq, mz_w_n _ _ (by decide)]
    have er : ∀ r, r ≠ 0 → r ≠ 6 → mg_fd w y r = w r := fun r h0 h1 => by unfold mg_fd; rw [mz_u_o h0, mz_w_n _ _ h1]
    refine ⟨mz_u (mz_u V (x + 347) k y) (x + 346) 1 (k + 1), ?_, ?_, fun r hr hrv => go r (by omega) (by omega)⟩
    · rw [mq_r0 (by rw [if_neg c]), if_pos (by rw [nZ_lt ⟨by omega, by omega⟩ (by decide)]; omega), mx_g6 hP, mz_rcv t1]
      simp only [mv_clV, mv_cl, X6_append (X := X) (V := V) (z := z) (d := d) hP (W4.1.trans hk) hk2 hy]
      rw [mx_g6 hP, mz_gI t1 (by decide), mz_u_s, hk]
    · rw [if_neg c]
      refine ⟨by rw [er 1 (by decide) (by decide)]; exact mh_R_f hI.1.1.pil.2 (fun r ra rb => go r (by omega) (by omega)) W1, mX_s_same hI W2 (eu 7 (by decide)) (er 3 (by decide) (by decide)) (by rw [gx]) (fun r ra rb => go r (by omega) (by omega)), mX_h_same hI W3 (eu 6 (by decide)) (er 4 (by decide) (by decide)) (fun r ra rb => go r (by omega) (by omega)), ⟨?_, fun i hi => ?_⟩, mX_l_same W5 (eu 16 (by decide)) (er 8 (by decide) (by decide)) (go _ (by omega) (by omega)) (go _ (by omega) (by omega)), mX_d_same W6 (eu 17 (by decide)) (eu 19 (by decide)) (eu 20 (by decide)) (eu 21 (by decide)) (by rw [gx]) (by rw [gx]) (by rw [gx]) (by rw [gx])⟩
      · unfold mg_fd; rw [mz_u_s, mz_u_s, hk]
      · have e6 : mg_fd w y 6 = mr_up (w 6) k y := by unfold mg_fd; rw [mz_u_o (by decide), mz_w_s, hk, Int.toNat_natCast]
        have e15 : mg_fd w y 0 15 = k + 1 := by unfold mg_fd; rw [mz_u_s, hk]
        rw [e15] at hi
        rw [e6, mz_u_o (by omega)]
        by_cases c2 : i = k
        · subst c2; rw [mz_u_s, mr_up_s]
        · rw [mz_u_k _ _ c2, mr_up_n _ _ c2]; exact W4.2 i (by omega)
end SAV
