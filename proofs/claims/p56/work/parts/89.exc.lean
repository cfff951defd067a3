/-! THE CLASS EXECUTES A TEXT -/
/-- the rows of the commands as the machine has them -/
def mx_nc (V : mz_V) (x : Nat) : mz_V := fun r j => if x + 349 ≤ r ∧ r < x + 367 then (nZ (V r j)).toInt else V r j
theorem mx_nc_o {V : mz_V} {x r : Nat} (h : r < x + 349 ∨ x + 367 ≤ r) : mx_nc V x r = V r := by
  funext j
  exact if_neg (by omega)
theorem mx_nc_i {V : mz_V} {x r j : Nat} (h : x + 349 ≤ r ∧ r < x + 367) : mx_nc V x r j = (nZ (V r j)).toInt := if_pos h
/-- command i as the class holds it -/
def xc_c (V : mz_V) (x : Nat) (t : Nat → Int) (L i : Nat) : Prop := V (x + 349 + 2 * i) 0 = rc_k t L i ∧ (∀ j, nS (V (x + 349 + 2 * i + 1) j)) ∧ ∀ j, j < fm_n (fm_l (rc_k t L i)) → V (x + 349 + 2 * i + 1) j = rc_y t L i j
section EXC
variable {X : mv_X} {P : mz_P} {V : mz_V} {z : Nat × Nat} {x v n d x0 L : Nat} {t : Nat → Int} {w : mz_V} {b : Int}
theorem mx_nc_h (hP : mX_P P x v n) : mz_h P (mx_nc V x) = mz_h P V := mz_h_n fun a j => by
  obtain ⟨t1, t2, t3, t4, t5, t6⟩ := hP.tx
  by_cases e : x + 349 ≤ a ∧ a < x + 367
  · rw [mx_nc_i e]
    refine Or.inr ⟨nZ_ti _, ?_⟩
    obtain ⟨i, hi⟩ : ∃ i, i = (a - (x + 349)) / 2 := ⟨_, rfl⟩
    have hi9 : i < 9 := by omega
    have hc := (t6 i hi9).2
    by_cases e2 : a = x + 349 + 2 * i
    · rw [e2]; exact Or.inl ⟨5, hc.1⟩
    · have e3 : a = x + 349 + 2 * i + 1 := by omega
      rw [e3]; exact Or.inr ⟨_, hc.2.2⟩
  · rw [mx_nc_o (by omega)]; exact Or.inl rfl
theorem mx_nc_c {i : Nat} (hi : i < 9) (hok : (pc_r t L (rd_p t L i)).1 = true) (h : rd_c V x t L i) : xc_c (mx_nc V x) x t L i := by
  obtain ⟨hk9, hcn⟩ := pc_r_n hok
  obtain ⟨h1, h2⟩ := h
  refine ⟨?_, fun j => ?_, fun j hj => ?_⟩
  · rw [mx_nc_i ⟨by omega, by omega⟩, h1]
    exact nZ_i ⟨by omega, by omega⟩
  · rw [mx_nc_i ⟨by omega, by omega⟩]; exact nZ_nS _
  · rw [mx_nc_i ⟨by omega, by omega⟩, h2 j (by rw [hcn]; exact hj)]
    rfl
theorem X8_runs (hP : mX_P P x v n) {N : Nat} (hN : N ≤ 9) (hk : ∀ i, i < N → rc_k t L i < 9) (v1 : Int32) : ∀ f i : Nat, i + f = N → ∀ (V : mz_V) (s : Nat → Int) (j3 : Value), mr_I s → s 0 + 48 * f ≤ 999999948 → mh_R V (x + 32) s → V (x + 346) 3 = N → (∀ i, i < N → xc_c V x t L i) →
    ∃ (V' : mz_V) (j4 : Value), mh_R V' (x + 32) (ex_l t L f i s).2.2.2 ∧ mh_X V V' (x + 32) ∧
      mv_run X (mv_call X (d + 8)) m_X8_execute 55 [.ref x, .int v1, .int (nZ i), j3] [] (mz_h P V, z) = if (ex_l t L f i s).1 = true then mv_run X (mv_call X (d + 8)) m_X8_execute 55 [.ref x, .int v1, .int (nZ N), j4] [] (mz_h P V', z)
        else some (.inr (3, z.1), (mz_h P (mz_u (mz_u (mz_u V' x 11 6) x 12 (ex_l t L f i s).2.1) x 13 (if (ex_l t L f i s).2.2.1 ≤ 5 then (ex_l t L f i s).2.2.1 else 7)), (z.1 + 1, z.2 + 6))) := by
  obtain ⟨t1, t2, t3, t4, t5, t6⟩ := hP.tx
  intro f
  induction f with
  | zero =>
    intro i hi V s j3 hI hb hR h3 hc
    have : i = N := by omega
    subst this
    exact ⟨V, j3, hR, mh_X_rfl _ _, (if_pos rfl).symm⟩
  | succ f ih =>
    intro i hi V s j3 hI hb hR h3 hc
    rw [nc1] at hb
    have hk9 := hk i (by omega)
    obtain ⟨c1, c2, c3⟩ := hc i (by omega)
    have hcm := (t6 i (by omega)).2
    have hmc : mc_is V (x + 349 + 2 * i) (rc_k t L i) (fun j => V (x + 349 + 2 * i + 1) j) := ⟨c1, fun j _ => ⟨rfl, c2 j⟩⟩
    obtain ⟨y1, y2⟩ := mc_y_e (s := s) hk9 c3
    have hrf := Y3_refusalOf (X := X) (z := z) (d := d + 4) hP.h1 hcm hI hR hmc hk9
    rw [y1] at hrf
    have er : ex_l t L (f + 1) i s = if mc_rf s (rc_k t L i) (rc_y t L i) = 0 then ex_l t L f (i + 1) (mc_st s (rc_k t L i) (rc_y t L i)) else (false, i, mc_rf s (rc_k t L i) (rc_y t L i), s) := rfl
    have hin := mc_rf_in s (rc_k t L i) (rc_y t L i)
    have start : mv_run X (mv_call X (d + 8)) m_X8_execute 55 [.ref x, .int v1, .int (nZ i), j3] [] (mz_h P V, z) = _ := bk_X8_execute_55 X (mv_call X (d + 8)) (mz_h P V, z) x v1 (nZ i) j3
    rw [mx_g6 hP, mz_gI t1 (by decide), h3, if_neg (by rw [nZ_le ⟨by omega, by omega⟩ ⟨by omega, by omega⟩]; omega), mx_g1 hP, mx_g6 hP, mz_gR t1 (by decide) t4, mz_aR t5 (nZ_i ⟨by omega, by omega⟩) (by omega) (t6 i (by omega)).1, mz_rcv hP.h1.1] at start
    simp only [mv_clI, mv_cl, hrf] at start
    by_cases c : mc_rf s (rc_k t L i) (rc_y t L i) = 0
    · rw [if_pos c] at er
      obtain ⟨b1, b2⟩ := mc_st_I hI (by omega) hk9 c
      obtain ⟨V1, e1, r1, x1⟩ := Y3_carryOut (X := X) (z := z) (d := d + 1) hP.h1 hcm hI hR hmc hk9 (by omega) (y1.trans c)
      rw [y2] at r1
      have w3 : V1 (x + 346) 3 = N := by rw [x1 _ (by omega)]; exact h3
      have wc : ∀ i, i < N → xc_c V1 x t L i := fun i hi => by
        have := hc i hi
        unfold xc_c at this ⊢
        rw [x1 _ (by omega), x1 _ (by omega)]
        exact this
      obtain ⟨V', j4, g1, g2, g3⟩ := ih (i + 1) (by omega) V1 _ (.int (nZ (mc_rf s (rc_k t L i) (rc_y t L i)))) b1 (by omega) r1 w3 wc
      rw [er]
      refine ⟨V', j4, g1, mh_X_tr x1 g2, ?_⟩
      rw [start, ← g3, if_pos (by rw [c]; rfl), mx_g1 hP, mx_g6 hP, mz_gR t1 (by decide) t4, mz_aR t5 (nZ_i ⟨by omega, by omega⟩) (by omega) (t6 i (by omega)).1, mz_rcv hP.h1.1]
      simp only [mv_clI, mv_cl, e1]
      rw [nZ_add, nc1]
    · rw [if_neg c] at er
      rw [er]
      refine ⟨V, .int (nZ 0), hR, mh_X_rfl _ _, ?_⟩
      rw [start, if_neg (by rw [nZ_eq0 ⟨by omega, by omega⟩]; exact c), if_neg (show ¬ ((false, i, mc_rf s (rc_k t L i) (rc_y t L i), s) : Bool × Nat × Int × (Nat → Int)).1 = true from rd_ft)]
      show _ = some (Sum.inr (3, z.1), (mz_h P (mz_u (mz_u (mz_u V x 11 6) x 12 i) x 13 (if mc_rf s (rc_k t L i) (rc_y t L i) ≤ 5 then mc_rf s (rc_k t L i) (rc_y t L i) else 7)), (z.1 + 1, z.2 + 6)))
      by_cases c5 : mc_rf s (rc_k t L i) (rc_y t L i) ≤ 5
      · rw [if_pos c5, if_neg (by rw [nZ_le ⟨by omega, by omega⟩ ⟨by omega, by omega⟩]; omega), mz_rcv hP.o]
        have hkd := Y8_keepDenial (X := X) (V := V) (z := z) (d := d + 7) (a := 6) (c := i) (e := mc_rf s (rc_k t L i) (rc_y t L i)) hP
        simp only [mv_clV, mv_cl, hkd]
        rfl
      · rw [if_neg c5, if_pos ((nZ_le ⟨by omega, by omega⟩ ⟨by omega, by omega⟩).mpr (by omega)), mz_rcv hP.o]
        have hkd := Y8_keepDenial (X := X) (V := V) (z := z) (d := d + 7) (a := 6) (c := i) (e := 7) hP
        simp only [mv_clV, mv_cl, hkd]
        rfl
theorem Q8_execute (hX : mx_W X P x0) (hS : ∀ k, k < 9 → mx_S X x0 (21 + k) (fm_l k)) (hP : mX_P P x v n) (hW : mX_is V x v w) (hI : mg_I w b) (hb : b ≤ 999999500) : ∃ V', mv_call X (d + 9) 126 [.ref x] (mz_h P V, z) = mq_r P V' z (mg_xc w) ((mg_xt w).2.2 : Int) (if mg_xc w = 1 then 0 else 3) ∧ mX_is V' x v (mg_xe w) ∧ mX_X V V' x v := by
  obtain ⟨W1, W2, W3, W4, W5, W6⟩ := hW
  obtain ⟨t1, t2, t3, t4, t5, t6⟩ := hP.tx
  have hv := hP.hv
  have hI1 := hI.1.1
  have hp := hI1.pil.2
  have h15 := hI.2.2.2.2.2.1
  have hch := hI.2.2.2.2.2.2.1
  obtain ⟨L, hL⟩ : ∃ L : Nat, w 0 15 = L := ⟨(w 0 15).toNat, by omega⟩
  have hT : pz_T P V x L (w 6) := ⟨by rw [W4.1, hL], by omega, fun i hi => ⟨W4.2 i (by rw [hL]; omega), hch i (by rw [hL]; omega)⟩⟩
  obtain ⟨V1, e1, v4, v3, v1, vo, vc⟩ := X6_read (X := X) (z := z) (d := d + 1) hX hS hP hT
  have hxt : mg_xt w = rd_r (w 6) L 9 0 := by
    show rd_r (w 6) (w 0 15).toNat 9 0 = _
    rw [hL, Int.toNat_natCast]
  have hxl : mg_xl w = ex_l (w 6) L (rd_r (w 6) L 9 0).2.2 0 (w 1) := by
    show ex_l (w 6) (w 0 15).toNat (rd_r (w 6) (w 0 15).toNat 9 0).2.2 0 (w 1) = _
    rw [hL, Int.toNat_natCast]
  have hrn := rd_r_n (t := w 6) (L := L) 9 0 (fun i hi => absurd hi (Nat.not_lt_zero _))
  have hrp := rd_r_p (t := w 6) (L := L) 9 0 (Nat.zero_le _)
  rw [mg_xc, mg_xe, hxt, hxl]
  obtain ⟨R, hR⟩ : ∃ R, R = rd_r (w 6) L 9 0 := ⟨_, rfl⟩
  rw [← hR] at e1 v4 v3 vc hrn hrp ⊢
  obtain ⟨V2, hV2⟩ : ∃ V2, V2 = mz_w V1 (x + 346) (mr_up (V1 (x + 346)) 1 0) := ⟨_, rfl⟩
  have start : mv_call X (d + 9) 126 [.ref x] (mz_h P V, z) = _ := (mc_X8_execute X (d + 8) (mz_h P V, z) x).trans (bk_X8_execute_0 X (mv_call X (d + 8)) (mz_h P V, z) x)
  rw [mx_g6 hP, mz_rcv t1] at start
  simp only [mv_clI, mv_cl, e1] at start
  rw [mx_g6 hP, mz_pW t1 (by decide), ← hV2] at start
  simp only [nZ_b1] at start
  have u1 : V2 (x + 346) 1 = 0 := by rw [hV2, mz_w_s, mr_up_s]
  have u3 : V2 (x + 346) 3 = R.2.2 := by rw [hV2, mz_w_s, mr_up_n _ _ (by decide)]; exact v3
  have u4 : V2 (x + 346) 4 = R.2.1 := by rw [hV2, mz_w_s, mr_up_n _ _ (by decide)]; exact v4
  have uo : ∀ r, r ≠ x + 346 → (r < x + 349 ∨ x + 367 ≤ r) → V2 r = V r := fun r q1 q2 => by rw [hV2, mz_w_n _ _ q1, vo r q1 q2]
  by_cases cR : R.1 = true
  · rw [if_neg (fun q => q cR), mx_g1 hP, mx_g0 hP, mz_rcv hP.h1.1] at start
    obtain ⟨V3, e3, r3, x3⟩ := Y3_copyFrom (X := X) (z := z) (d := d + 5) (V := V2) hP.h1 hP.h0 (by omega) hI1 (mh_R_f hp (fun r q1 q2 => uo r (by omega) (by omega)) W1)
    simp only [mv_clV, mv_cl, e3] at start
    have hnc := mx_nc_h (V := V3) hP
    rw [← hnc] at start
    obtain ⟨V4, hV4⟩ : ∃ V4, V4 = mx_nc V3 x := ⟨_, rfl⟩
    have k4 : ∀ i, i < R.2.2 → xc_c V4 x (w 6) L i := fun i hi => by
      rw [hV4]
      have h1 := vc i hi
      refine mx_nc_c (by omega) (hrn.1 i hi) ?_
      unfold rd_c at h1 ⊢
      rw [x3 _ (by omega), x3 _ (by omega), hV2, mz_w_n _ _ (by omega), mz_w_n _ _ (by omega)]
      exact h1
    have o4 : ∀ r, r ≠ x + 346 → (r < x + 349 ∨ x + 367 ≤ r) → (r < x + 32 ∨ x + 63 ≤ r) → V4 r = V r := fun r q1 q2 q3 => by rw [hV4, mx_nc_o q2, x3 r (by omega), uo r q1 q2]
    have t4' : V4 (x + 346) = V2 (x + 346) := by rw [hV4, mx_nc_o (by omega), x3 _ (by omega)]
    have r4 : mh_R V4 (x + 32) (w 1) := by
      refine mh_R_f hp (fun r q1 q2 => ?_) r3
      rw [hV4, mx_nc_o (by omega)]
    rw [← hV4] at start
    have hk9 : ∀ i, i < R.2.2 → rc_k (w 6) L i < 9 := fun i hi => (pc_r_n (hrn.1 i hi)).1
    have hbw := hI.1.2
    obtain ⟨V5, j4, g1, g2, g3⟩ := X8_runs (X := X) (z := z) (d := d) (L := L) (t := w 6) (N := R.2.2) hP (by omega) hk9 (nZ (if R.1 = true then 1 else 0)) R.2.2 0 (by omega) V4 (w 1) (.retAddr 0) hI1 (by omega) r4 (by rw [t4']; exact u3) k4
    have hEI := ex_l_I (t := w 6) (L := L) hk9 R.2.2 0 (w 1) (by omega) (by omega) hI1 (by omega)
    have g3 : mv_run X (mv_call X (d + 8)) m_X8_execute 55 [.ref x, .int (nZ (if R.1 = true then 1 else 0)), .int (nZ 0), .retAddr 0] [] (mz_h P V4, z) = _ := g3
    obtain ⟨E, hE⟩ : ∃ E, E = ex_l (w 6) L R.2.2 0 (w 1) := ⟨_, rfl⟩
    rw [← hE] at g1 g3 hEI ⊢
    rw [g3] at start
    have o5 : ∀ r, r ≠ x + 346 → (r < x + 349 ∨ x + 367 ≤ r) → (r < x + 32 ∨ x + 63 ≤ r) → V5 r = V r := fun r q1 q2 q3 => by rw [g2 r (by omega), o4 r q1 q2 q3]
    have t5' : V5 (x + 346) = V2 (x + 346) := by rw [g2 _ (by omega), t4']
    rw [if_pos cR, if_pos cR]
    by_cases cE : E.1 = true
    · rw [if_pos cE] at start
      rw [if_pos cE, if_pos cE]
      obtain ⟨nx, hnx, q1, q2, q3⟩ := id W3
      obtain ⟨kp, hkp⟩ : ∃ kp : Nat, w 0 6 = kp := ⟨(w 0 6).toNat, by have := hI.2.1; omega⟩
      have hk8 : kp ≤ 8 := by have := hI.2.1; omega
      obtain ⟨V6, m1, m2, m3, m4, m5⟩ := Y4_remember (X := X) (z := z) (d := d + 4) (V := V5) hP hnx (by rw [o5 _ (by omega) (by omega) (by omega)]; exact q1) (by rw [o5 _ (by omega) (by omega) (by omega), q2]; exact hkp) hk8 hI1 (mh_R_f hp (fun r a1 a2 => o5 r (by omega) (by omega) (by omega)) W1)
      have hEp := hEI.1.pil.2
      obtain ⟨V7, c1, c2, c3⟩ := Y3_copyFrom (X := X) (z := z) (d := d + 5) (V := V6) hP.h0 hP.h1 (by omega) hEI.1 (mh_R_f hEp (fun r a1 a2 => m5 r (by omega) (by omega)) g1)
      have o7 : ∀ r, r ≠ x + 346 → (r < x + 349 ∨ x + 367 ≤ r) → (r < x + 32 ∨ x + 63 ≤ r) → (r < x + 1 ∨ x + 32 ≤ r) → r ≠ x + 94 → (r < x + 96 + 31 * nx ∨ x + 96 + 31 * nx + 31 ≤ r) → V7 r = V r := fun r a1 a2 a3 a4 a5 a6 => by rw [c3 r (by omega), m5 r a5 a6, o5 r a1 a2 a3]
      have t7' : V7 (x + 346) = V2 (x + 346) := by rw [c3 _ (by omega), m5 _ (by omega) (by omega), t5']
      have eo : ∀ q, q ≠ 6 → q ≠ 15 → mg_x1 w E.2.2.2 0 q = w 0 q := fun q q1 q2 => by unfold mg_x1; rw [mz_u_k _ _ q2, mz_u_k _ _ q1, mz_w_n _ _ (by decide), mz_w_n _ _ (by decide)]
      have er : ∀ r, r ≠ 0 → r ≠ 1 → r ≠ 4 → mg_x1 w E.2.2.2 r = w r := fun r r0 q1 q4 => by unfold mg_x1; rw [mz_u_o r0, mz_u_o r0, mz_w_n _ _ q4, mz_w_n _ _ q1]
      have e15 : mg_x1 w E.2.2.2 0 15 = 0 := by unfold mg_x1; rw [mz_u_s]
      have e6 : mg_x1 w E.2.2.2 0 6 = mg_kp (w 0 6) := by unfold mg_x1; rw [mz_u_k _ _ (by decide), mz_u_s]
      have e4 : mg_x1 w E.2.2.2 4 = mg_hp (w 4) (w 0 6) (w 1) := by unfold mg_x1; rw [mz_u_o (by decide), mz_u_o (by decide), mz_w_s]
      have e1' : mg_x1 w E.2.2.2 1 = E.2.2.2 := by unfold mg_x1; rw [mz_u_o (by decide), mz_u_o (by decide), mz_w_n _ _ (by decide), mz_w_s]
      have o7x : V7 x = V x := o7 x (by omega) (by omega) (by omega) (by omega) (by omega) (by omega)
      refine ⟨V7, ?_, ⟨?_, ?_, ?_, ?_, ?_, ?_⟩, fun r hr hrv => o7 r (by omega) (by omega) (by omega) (by omega) (by omega) (by omega)⟩
      · have u5 : V5 (x + 346) 3 = R.2.2 := by rw [t5']; exact u3
        have u7 : V7 (x + 346) 3 = R.2.2 := by rw [t7']; exact u3
        rw [mq_r0 (cd := 0) rfl, start, bk_X8_execute_55, mx_g6 hP, mz_gI t1 (by decide), u5, if_pos (by exact Int32.le_refl _), mx_g4 hP, mx_g0 hP, mz_rcv hP.ho]
        simp only [mv_clV, mv_cl, m1]
        rw [mx_g0 hP, mx_g1 hP, mz_rcv hP.h0.1]
        simp only [c1]
        rw [mx_g6 hP, mz_gI t1 (by decide), u7]
      · rw [e1']; exact c2
      · exact mX_s_same hI W2 (eo 7 (by decide) (by decide)) (er 3 (by decide) (by decide) (by decide)) (by rw [o7x]) (fun r a1 a2 => o7 r (by omega) (by omega) (by omega) (by omega) (by omega) (by omega))
      · exact mX_h_push hI W3 hnx q1 e6 e4 (mh_R_f hp (fun r a1 a2 => c3 r (by omega)) m2) (by rw [c3 _ (by omega)]; exact m3) (by rw [c3 _ (by omega), hkp]; exact m4) (fun r a1 a2 a3 => o7 r (by omega) (by omega) (by omega) (by omega) (by omega) a3)
      · refine ⟨by rw [t7', u1, e15], fun i hi => ?_⟩
        rw [e15] at hi
        omega
      · exact mX_l_same W5 (eo 16 (by decide) (by decide)) (er 8 (by decide) (by decide) (by decide)) (o7 _ (by omega) (by omega) (by omega) (by omega) (by omega) (by omega)) (o7 v (by omega) (by omega) (by omega) (by omega) (by omega) (by omega))
      · exact mX_d_same W6 (eo 17 (by decide) (by decide)) (eo 19 (by decide) (by decide)) (eo 20 (by decide) (by decide)) (eo 21 (by decide) (by decide)) (by rw [o7x]) (by rw [o7x]) (by rw [o7x]) (by rw [o7x])
    · rw [if_neg cE] at start
      rw [if_neg cE, if_neg cE, if_neg (show ¬ (2 : Int) = 1 by decide)]
      have hE1 : E.1 = false := by
        cases hb : E.1 with
        | false => rfl
        | true => exact absurd hb cE
      obtain ⟨h1, h2, h3⟩ := hEI.2.2.2.2 hE1
      have eo : ∀ q, q ≠ 15 → q ≠ 19 → q ≠ 20 → q ≠ 21 → mg_x2 w E.2.1 E.2.2.1 E.2.2.2 0 q = w 0 q := fun q q1 q2 q3 q4 => by unfold mg_x2; rw [mz_u_k _ _ q4, mz_u_k _ _ q3, mz_u_k _ _ q2, mz_u_k _ _ q1, mz_w_n _ _ (by decide)]
      have er : ∀ r, r ≠ 0 → r ≠ 1 → mg_x2 w E.2.1 E.2.2.1 E.2.2.2 r = w r := fun r r0 q1 => by unfold mg_x2; rw [mz_u_o r0, mz_u_o r0, mz_u_o r0, mz_u_o r0, mz_w_n _ _ q1]
      have e15 : mg_x2 w E.2.1 E.2.2.1 E.2.2.2 0 15 = 0 := by unfold mg_x2; rw [mz_u_k _ _ (by decide), mz_u_k _ _ (by decide), mz_u_k _ _ (by decide), mz_u_s]
      have e19 : mg_x2 w E.2.1 E.2.2.1 E.2.2.2 0 19 = 6 := by unfold mg_x2; rw [mz_u_k _ _ (by decide), mz_u_k _ _ (by decide), mz_u_s]
      have e20 : mg_x2 w E.2.1 E.2.2.1 E.2.2.2 0 20 = E.2.1 := by unfold mg_x2; rw [mz_u_k _ _ (by decide), mz_u_s]
      have e21 : mg_x2 w E.2.1 E.2.2.1 E.2.2.2 0 21 = (if E.2.2.1 ≤ 5 then E.2.2.1 else 7) := by unfold mg_x2; rw [mz_u_s]
      have e1' : mg_x2 w E.2.1 E.2.2.1 E.2.2.2 1 = mr_cpy E.2.2.2 (w 1) 158 := by unfold mg_x2; rw [mz_u_o (by decide), mz_u_o (by decide), mz_u_o (by decide), mz_u_o (by decide), mz_w_s]
      obtain ⟨V6, hV6⟩ : ∃ V6, V6 = mz_u (mz_u (mz_u V5 x 11 6) x 12 E.2.1) x 13 (if E.2.2.1 ≤ 5 then E.2.2.1 else 7) := ⟨_, rfl⟩
      rw [← hV6] at start
      have o6 : ∀ r, r ≠ x → r ≠ x + 346 → (r < x + 349 ∨ x + 367 ≤ r) → (r < x + 32 ∨ x + 63 ≤ r) → V6 r = V r := fun r a0 a1 a2 a3 => by rw [hV6, mz_u_o a0, mz_u_o a0, mz_u_o a0, o5 r a1 a2 a3]
      have o6x : ∀ q, q ≠ 11 → q ≠ 12 → q ≠ 13 → V6 x q = V x q := fun q q1 q2 q3 => by rw [hV6, mz_u_k _ _ q3, mz_u_k _ _ q2, mz_u_k _ _ q1, o5 x (by omega) (by omega) (by omega)]
      refine ⟨V6, start.trans (mq_r1 (cd := 2) (by decide)).symm, ⟨?_, ?_, ?_, ?_, ?_, ?_⟩, fun r hr hrv => o6 r (by omega) (by omega) (by omega) (by omega)⟩
      · rw [e1']
        exact mh_R_e hp (fun j hj => mr_cpy_l _ _ hj) (mh_R_f hp (fun r a1 a2 => o6 r (by omega) (by omega) (by omega) (by omega)) W1)
      · exact mX_s_same hI W2 (eo 7 (by decide) (by decide) (by decide) (by decide)) (er 3 (by decide) (by decide)) (o6x 3 (by decide) (by decide) (by decide)) (fun r a1 a2 => o6 r (by omega) (by omega) (by omega) (by omega))
      · exact mX_h_same hI W3 (eo 6 (by decide) (by decide) (by decide) (by decide)) (er 4 (by decide) (by decide)) (fun r a1 a2 => o6 r (by omega) (by omega) (by omega) (by omega))
      · refine ⟨by rw [hV6, mz_u_o (by omega), mz_u_o (by omega), mz_u_o (by omega), t5', u1, e15], fun i hi => ?_⟩
        rw [e15] at hi
        omega
      · exact mX_l_same W5 (eo 16 (by decide) (by decide) (by decide) (by decide)) (er 8 (by decide) (by decide)) (o6 _ (by omega) (by omega) (by omega) (by omega)) (o6 v (by omega) (by omega) (by omega) (by omega))
      · refine ⟨?_, ?_, ?_, ?_⟩
        · rw [o6x 10 (by decide) (by decide) (by decide), W6.1, eo 17 (by decide) (by decide) (by decide) (by decide)]
        · rw [e19, if_neg (by decide), hV6, mz_u_k _ _ (by decide), mz_u_k _ _ (by decide), mz_u_s]
        · rw [e20, hV6, mz_u_k _ _ (by decide), mz_u_s]
        · rw [e21, hV6, mz_u_s]
          by_cases c5 : E.2.2.1 ≤ 5
          · rw [if_pos c5, if_neg (by omega)]
          · rw [if_neg c5, if_neg (by decide)]
  · rw [if_pos cR, mx_g6 hP, mz_gI t1 (by decide), u4, mz_pW hP.o (by decide)] at start
    rw [if_neg cR, if_neg cR, if_pos (show (1 : Int) = 1 from rfl)]
    obtain ⟨V3, hV3⟩ : ∃ V3, V3 = mz_w V2 x (mr_up (V2 x) 10 R.2.1) := ⟨_, rfl⟩
    rw [← hV3] at start
    have eo : ∀ q, q ≠ 15 → q ≠ 17 → mg_x3 w R.2.1 0 q = w 0 q := fun q q1 q2 => by unfold mg_x3; rw [mz_u_k _ _ q2, mz_u_k _ _ q1]
    have er : ∀ r, r ≠ 0 → mg_x3 w R.2.1 r = w r := fun r r0 => by unfold mg_x3; rw [mz_u_o r0, mz_u_o r0]
    have e15 : mg_x3 w R.2.1 0 15 = 0 := by unfold mg_x3; rw [mz_u_k _ _ (by decide), mz_u_s]
    have e17 : mg_x3 w R.2.1 0 17 = R.2.1 := by unfold mg_x3; rw [mz_u_s]
    have o3 : ∀ r, r ≠ x → r ≠ x + 346 → (r < x + 349 ∨ x + 367 ≤ r) → V3 r = V r := fun r a0 a1 a2 => by rw [hV3, mz_w_n _ _ a0, uo r a1 a2]
    have o3x : ∀ q, q ≠ 10 → V3 x q = V x q := fun q q1 => by rw [hV3, mz_w_s, mr_up_n _ _ q1, uo x (by omega) (by omega)]
    refine ⟨V3, start.trans (mq_r1 (cd := 1) (by decide)).symm, ⟨?_, ?_, ?_, ?_, ?_, ?_⟩, fun r hr hrv => o3 r (by omega) (by omega) (by omega)⟩
    · rw [er 1 (by decide)]
      exact mh_R_f hp (fun r a1 a2 => o3 r (by omega) (by omega) (by omega)) W1
    · exact mX_s_same hI W2 (eo 7 (by decide) (by decide)) (er 3 (by decide)) (o3x 3 (by decide)) (fun r a1 a2 => o3 r (by omega) (by omega) (by omega))
    · exact mX_h_same hI W3 (eo 6 (by decide) (by decide)) (er 4 (by decide)) (fun r a1 a2 => o3 r (by omega) (by omega) (by omega))
    · refine ⟨by rw [hV3, mz_w_n _ _ (by omega), u1, e15], fun i hi => ?_⟩
      rw [e15] at hi
      omega
    · exact mX_l_same W5 (eo 16 (by decide) (by decide)) (er 8 (by decide)) (o3 _ (by omega) (by omega) (by omega)) (o3 v (by omega) (by omega) (by omega))
    · refine ⟨?_, ?_, ?_, ?_⟩
      · rw [e17, hV3, mz_w_s, mr_up_s]
      · rw [eo 19 (by decide) (by decide), o3x 11 (by decide)]; exact W6.2.1
      · rw [eo 20 (by decide) (by decide), o3x 12 (by decide)]; exact W6.2.2.1
      · rw [eo 21 (by decide) (by decide), o3x 13 (by decide)]; exact W6.2.2.2
end EXC
