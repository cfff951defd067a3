/-! THE REFERENCE EXECUTES A TEXT -/
def mg_x1 (w : mz_V) (s : Nat → Int) : mz_V := mz_u (mz_u (mz_w (mz_w w 1 s) 4 (mg_hp (w 4) (w 0 6) (w 1))) 0 6 (mg_kp (w 0 6))) 0 15 0
def mg_x2 (w : mz_V) (i : Nat) (r : Int) (s : Nat → Int) : mz_V := mz_u (mz_u (mz_u (mz_u (mz_w w 1 (mr_cpy s (w 1) 158)) 0 15 0) 0 19 6) 0 20 i) 0 21 (if r ≤ 5 then r else 7)
def mg_x3 (w : mz_V) (p : Nat) : mz_V := mz_u (mz_u w 0 15 0) 0 17 p
abbrev mg_xt (w : mz_V) : Bool × Nat × Nat := rd_r (w 6) (w 0 15).toNat 9 0
abbrev mg_xl (w : mz_V) : Bool × Nat × Int × (Nat → Int) := ex_l (w 6) (w 0 15).toNat (mg_xt w).2.2 0 (w 1)
def mg_xe (w : mz_V) : mz_V := if (mg_xt w).1 = true then (if (mg_xl w).1 = true then mg_x1 w (mg_xl w).2.2.2 else mg_x2 w (mg_xl w).2.1 (mg_xl w).2.2.1 (mg_xl w).2.2.2) else mg_x3 w (mg_xt w).2.1
def mg_xc (w : mz_V) : Int := if (mg_xt w).1 = true then (if (mg_xl w).1 = true then 0 else 2) else 1
section EXM
variable {X : mv_X} {P : mz_P} {V : mz_V} {z : Nat × Nat} {d m x0 : Nat} {w : mz_V} {b : Int}
theorem Q9_execute (hX : mx_W X P x0) (hR : mx_R X x0) (hM : mr_M P m) (hw : mr_is V m w) (hI : mg_I w b) (hb : b ≤ 999999500) : ∃ V', mv_call X (d + 11) 240 [.ref m] (mz_h P V, z) = some (.inl (some (.int (nZ (if mg_xc w = 0 then ((mg_xt w).2.2 : Int) else 0)))), (mz_h P V', z)) ∧ V' m 0 = mg_xc w ∧ mr_is V' m (mg_xe w) ∧ mr_X V V' m := by
  obtain ⟨⟨w1, w3, w4, w6, w8⟩, wf⟩ := id hw
  have hI1 := hI.1.1
  have h15 := hI.2.2.2.2.2.1
  have hch := hI.2.2.2.2.2.2.1
  obtain ⟨L, hL⟩ : ∃ L : Nat, w 0 15 = L := ⟨(w 0 15).toNat, by omega⟩
  obtain ⟨kp, hkp⟩ : ∃ kp : Nat, w 0 6 = kp := ⟨(w 0 6).toNat, by have := hI.2.1; omega⟩
  have hkp8 : kp ≤ 8 := by have := hI.2.1; omega
  have hL60 : L ≤ 60 := by omega
  have hrm := X9_remembers (X := X) (V := V) (z := z) (d := d + 9) hM
  obtain ⟨V3, hV3⟩ : ∃ V3, V3 = mz_w (mz_w V m (mr_up (V m) 0 0)) (m + 2) (mr_cpy (V (m + 2)) (V (m + 1)) 158) := ⟨_, rfl⟩
  rw [← hV3] at hrm
  have m3 : V3 m = mr_up (V m) 0 0 := by rw [hV3, mz_w_n _ _ (by omega), mz_w_s]
  have m32 : V3 (m + 2) = mr_cpy (V (m + 2)) (w 1) 158 := by rw [hV3, mz_w_s, w1]
  have m3r : ∀ r, r ≠ m → r ≠ m + 2 → V3 r = V r := fun r r1 r2 => by rw [hV3, mz_w_n _ _ r2, mz_w_n _ _ r1]
  have e15 : V3 m 15 = (L : Int) := by rw [m3, mr_up_n _ _ (by decide), wf 15 (by unfold mg_f; omega), hL]
  obtain ⟨V4, hV4⟩ : ∃ V4, V4 = mz_w V3 m (mr_up (mr_up (mr_up (mr_up (mr_up (V3 m) 23 0) 24 L) 15 0) 25 0) 26 0) := ⟨_, rfl⟩
  have m4 : V4 m = mr_up (mr_up (mr_up (mr_up (mr_up (V3 m) 23 0) 24 L) 15 0) 25 0) 26 0 := by rw [hV4, mz_w_s]
  have m4r : ∀ r, r ≠ m → V4 r = V3 r := fun r r1 => by rw [hV4, mz_w_n _ _ r1]
  have f26 : V4 m 26 = 0 := by rw [m4, mr_up_s]
  have f25 : V4 m 25 = ((0 : Nat) : Int) := by rw [m4, mr_up_n _ _ (by decide), mr_up_s]; rfl
  have f24 : V4 m 24 = L := by rw [m4, mr_up_n _ _ (by decide), mr_up_n _ _ (by decide), mr_up_n _ _ (by decide), mr_up_s]
  have f23 : V4 m 23 = 0 := by rw [m4, mr_up_n _ _ (by decide), mr_up_n _ _ (by decide), mr_up_n _ _ (by decide), mr_up_n _ _ (by decide), mr_up_s]
  have f15 : V4 m 15 = 0 := by rw [m4, mr_up_n _ _ (by decide), mr_up_n _ _ (by decide), mr_up_s]
  have f0 : V4 m 0 = 0 := by rw [m4, mr_up_n _ _ (by decide), mr_up_n _ _ (by decide), mr_up_n _ _ (by decide), mr_up_n _ _ (by decide), mr_up_n _ _ (by decide), m3, mr_up_s]
  have fo : ∀ k, k ≠ 0 → k ≠ 15 → k ≠ 23 → k ≠ 24 → k ≠ 25 → k ≠ 26 → V4 m k = V m k := fun k k0 k1 k2 k3 k4 k5 => by rw [m4, mr_up_n _ _ k5, mr_up_n _ _ k4, mr_up_n _ _ k1, mr_up_n _ _ k3, mr_up_n _ _ k2, m3, mr_up_n _ _ k0]
  have hid : rz_V V4 m (false, 0, V4 (m + 7)) = V4 := by
    have e : mr_up (mr_up (V4 m) 26 (rs_b false)) 23 ((0 : Nat) : Int) = V4 m := by
      funext j
      by_cases j1 : j = 23
      · rw [j1, mr_up_s, f23]; rfl
      · rw [mr_up_n _ _ j1]
        by_cases j2 : j = 26
        · rw [j2, mr_up_s, f26]; rfl
        · rw [mr_up_n _ _ j2]
    show mz_w (mz_w V4 m (mr_up (mr_up (V4 m) 26 (rs_b false)) 23 ((0 : Nat) : Int))) (m + 7) (V4 (m + 7)) = V4
    rw [e, mz_w_id, mz_w_id]
  have hT : rz_T V4 m L 0 (w 6) := ⟨f24, hL60, f25, by decide, fun i hi => ⟨by rw [m4r _ (by omega), m3r _ (by omega) (by omega), w6], hch i (by rw [hL]; omega)⟩⟩
  obtain ⟨s1, r1, r2⟩ := X9_readsOne (X := X) (z := z) (d := d + 2) (V := V4) (p := 0) (g := V4 (m + 7)) hX hR hM hT (Nat.zero_le _)
  rw [hid, rz_c] at r1
  obtain ⟨s2, N, g1, g2, g3⟩ := X9_reads (X := X) (z := z) (d := d + 1) (V := V4) hX hR hM hL60 f24 hT.2.2.2.2 8 0 (by decide) (V4 (m + 7)) s1 (Nat.zero_le _) (Nat.zero_le _) r2 (fun i hi => absurd hi (Nat.not_lt_zero _))
  have hxt : mg_xt w = rd_r (w 6) L 9 0 := by
    show rd_r (w 6) (w 0 15).toNat 9 0 = _
    rw [hL, Int.toNat_natCast]
  have hxl : mg_xl w = ex_l (w 6) L (rd_r (w 6) L 9 0).2.2 0 (w 1) := by
    show ex_l (w 6) (w 0 15).toNat (rd_r (w 6) (w 0 15).toNat 9 0).2.2 0 (w 1) = _
    rw [hL, Int.toNat_natCast]
  have start : mv_call X (d + 11) 240 [.ref m] (mz_h P V, z) = mv_run X (mv_call X (d + 10)) m_X9_execute 36 [.ref m, .retAddr 0, .retAddr 0, .retAddr 0] [] (mz_h P (rz_V (mz_w V4 m (mr_up (V4 m) 25 (((0 : Nat) : Int) + 1))) m s1), z) := by
    rw [mc_X9_execute, bk_X9_execute_0, mz_rcv hM.o]
    simp only [mv_clV, mv_cl, hrm]
    rw [mz_pW hM.o (by decide), mz_gI hM.o (by decide), mz_w_s, mr_up_n _ _ (show (15 : Nat) ≠ 23 by decide), e15, mz_pW hM.o (by decide), mz_w_s, mz_w_w, mz_pW hM.o (by decide), mz_w_s, mz_w_w, mz_pW hM.o (by decide), mz_w_s, mz_w_w, mv_chk_t (by decide), mz_pW hM.o (by decide), mz_w_s, mz_w_w, mz_rcv hM.o, ← hV4]
    simp only [mv_clV, mv_cl, r1]
  obtain ⟨Rb, hRb⟩ : ∃ Rb, Rb = rd_r (w 6) L 9 0 := ⟨_, rfl⟩
  have g1 : s2.2.1 = (rd_r (w 6) L 9 0).2.1 := g1
  have g2 : (rd_r (w 6) L 9 0).1 = true → N = (rd_r (w 6) L 9 0).2.2 ∧ ∀ i, i < (rd_r (w 6) L 9 0).2.2 → rq_c s2.2.2 (w 6) L i := g2
  have g3 : mv_run X (mv_call X (d + 10)) m_X9_execute 36 [.ref m, .retAddr 0, .retAddr 0, .retAddr 0] [] (mz_h P (rz_V (mz_w V4 m (mr_up (V4 m) 25 (((0 : Nat) : Int) + 1))) m s1), z) =
        if (rd_r (w 6) L 9 0).1 = true then mv_run X (mv_call X (d + 10)) m_X9_execute 104 [.ref m, .int (nZ 0), .retAddr 0, .retAddr 0] [] (mz_h P (rz_V (mz_w V4 m (mr_up (V4 m) 25 N)) m s2), z)
        else some (.inl (some (.int (nZ 0))), (mz_h P (rx_F (rz_V (mz_w V4 m (mr_up (V4 m) 25 N)) m s2) m (rd_r (w 6) L 9 0).2.1), z)) := g3
  have hrn := rd_r_n (t := w 6) (L := L) 9 0 (fun i hi => absurd hi (Nat.not_lt_zero _))
  rw [start, g3, mg_xc, mg_xe, hxt, hxl]
  rw [← hRb] at g1 g2 g3 hrn ⊢
  obtain ⟨S, hS⟩ : ∃ S, S = rz_V (mz_w V4 m (mr_up (V4 m) 25 N)) m s2 := ⟨_, rfl⟩
  rw [← hS]
  have sm : ∀ k, k ≠ 23 → k ≠ 25 → k ≠ 26 → S m k = V4 m k := fun k k1 k2 k3 => by rw [hS, rz_k k1 k3, mz_w_s, mr_up_n _ _ k2]
  have s25 : S m 25 = N := by rw [hS, rz_k (by decide) (by decide), mz_w_s, mr_up_s]
  have sr : ∀ r, r ≠ m → r ≠ m + 7 → S r = V4 r := fun r q1 q2 => by rw [hS, rz_r q1 q2, mz_w_n _ _ q1]
  have s7 : S (m + 7) = s2.2.2 := by rw [hS, rz_g]
  by_cases cR : Rb.1 = true
  · obtain ⟨hN, hq⟩ := g2 cR
    obtain ⟨S', hS'⟩ : ∃ S', S' = mz_w S (m + 7) (fun j => (nZ (S (m + 7) j)).toInt) := ⟨_, rfl⟩
    have hnt := mr_nto (P := P) (V := S) hM
    rw [← hS'] at hnt
    have t1 : S' (m + 1) = w 1 := by rw [hS', mz_w_n _ _ (by omega), sr _ (by omega) (by omega), m4r _ (by omega), m3r _ (by omega) (by omega), w1]
    have tm : S' m = S m := by rw [hS', mz_w_n _ _ (by omega)]
    have tr : ∀ r, r ≠ m → r ≠ m + 7 → S' r = V4 r := fun r q1 q2 => by rw [hS', mz_w_n _ _ q2, sr r q1 q2]
    have t7 : S' (m + 7) = fun j => (nZ (S (m + 7) j)).toInt := by rw [hS', mz_w_s]
    have hbw := hI.1.2
    obtain ⟨V5, j3, a1, a2, a3, a4, a5⟩ := X9_runs (X := X) (P := P) (z := z) (d := d) (m := m) (L := L) (t := w 6) (N := Rb.2.2) hM (by omega) hrn.1 Rb.2.2 0 (by omega) S' (.retAddr 0) (by rw [t1]; exact hI1) (by rw [t1]; omega) (by rw [tm, s25, hN]) (fun i hi => by rw [t7, s7]; exact rq_rn (hrn.1 i hi) (hq i hi)) (fun j => by rw [t7]; exact nZ_nS _)
    rw [t1] at a1 a4 a5
    have a5 : mv_run X (mv_call X (d + 10)) m_X9_execute 104 [.ref m, .int (nZ 0), .retAddr 0, .retAddr 0] [] (mz_h P S', z) = _ := a5
    obtain ⟨E, hE⟩ : ∃ E, E = ex_l (w 6) L Rb.2.2 0 (w 1) := ⟨_, rfl⟩
    rw [← hE] at a1 a4 a5 ⊢
    have xr : ∀ r, r ≠ m → r ≠ m + 1 → r ≠ m + 2 → r ≠ m + 7 → r ≠ m + 9 → r ≠ m + 10 → V5 r = V r := fun r q0 q1 q2 q7 q9 q10 => by rw [a3 r q0 q1 q9 q10, tr r q0 q7, m4r r q0, m3r r q0 q2]
    have x2 : V5 (m + 2) = mr_cpy (V (m + 2)) (w 1) 158 := by rw [a3 _ (by omega) (by omega) (by omega) (by omega), tr _ (by omega) (by omega), m4r _ (by omega), m32]
    rw [if_pos cR, if_pos cR, if_pos cR, ← hnt, a5]
    by_cases cE : E.1 = true
    · rw [if_pos cE, if_pos cE, if_pos cE, if_pos (by rfl)]
      have x6 : V5 m 6 = kp := by rw [a2 6 (by decide) (by decide) (by decide) (by decide) (by decide), tm, sm 6 (by decide) (by decide) (by decide), fo 6 (by decide) (by decide) (by decide) (by decide) (by decide) (by decide), wf 6 (by unfold mg_f; omega), hkp]
      have x25 : V5 m 25 = Rb.2.2 := by rw [a2 25 (by decide) (by decide) (by decide) (by decide) (by decide), tm, s25, hN]
      obtain ⟨V6, c1, c4, c6, cj, co⟩ := X9_changed (X := X) (z := z) (d := d + 9) (V := V5) (x := (Rb.2.2 : Int)) hM hkp8 x6
      have eo : ∀ q, q ≠ 6 → q ≠ 15 → mg_x1 w E.2.2.2 0 q = w 0 q := fun q q1 q2 => by unfold mg_x1; rw [mz_u_k _ _ q2, mz_u_k _ _ q1, mz_w_n _ _ (by decide), mz_w_n _ _ (by decide)]
      have er : ∀ r, r ≠ 0 → r ≠ 1 → r ≠ 4 → mg_x1 w E.2.2.2 r = w r := fun r r0 q1 q4 => by unfold mg_x1; rw [mz_u_o r0, mz_u_o r0, mz_w_n _ _ q4, mz_w_n _ _ q1]
      refine ⟨V6, ?_, ?_, ⟨⟨?_, ?_, ?_, ?_, ?_⟩, fun q hq => ?_⟩, fun r hr => ?_⟩
      · rw [bk_X9_execute_104, mz_gI hM.o (by decide), x25, if_pos (by exact Int32.le_refl _), mz_gI hM.o (by decide), x25, mz_rcv hM.o]
        simp only [mv_clI, mv_cl, c1]
      · rw [cj 0 (by decide), a2 0 (by decide) (by decide) (by decide) (by decide) (by decide), tm, sm 0 (by decide) (by decide) (by decide), f0]
      · rw [co _ (by omega) (by omega), a1]
        unfold mg_x1
        rw [mz_u_o (by decide), mz_u_o (by decide), mz_w_n _ _ (by decide), mz_w_s]
      · rw [co _ (by omega) (by omega), xr _ (by omega) (by omega) (by omega) (by omega) (by omega) (by omega), w3, er 3 (by decide) (by decide) (by decide)]
      · rw [c4, x2, xr _ (by omega) (by omega) (by omega) (by omega) (by omega) (by omega), w4]
        unfold mg_x1
        rw [mz_u_o (by decide), mz_u_o (by decide), mz_w_s, hkp]
        exact mg_hp_e fun j hj => mr_cpy_l _ _ hj
      · rw [co _ (by omega) (by omega), xr _ (by omega) (by omega) (by omega) (by omega) (by omega) (by omega), w6, er 6 (by decide) (by decide) (by decide)]
      · rw [co _ (by omega) (by omega), xr _ (by omega) (by omega) (by omega) (by omega) (by omega) (by omega), w8, er 8 (by decide) (by decide) (by decide)]
      · have hq2 := hq
        unfold mg_f at hq2
        by_cases q6 : q = 6
        · rw [q6, c6, ← hkp]
          unfold mg_x1
          rw [mz_u_k _ _ (by decide), mz_u_s]
        · rw [cj q q6, a4 cE q (by omega) (by omega), tm, sm q (by omega) (by omega) (by omega)]
          by_cases q15 : q = 15
          · rw [q15, f15]
            unfold mg_x1
            rw [mz_u_s]
          · rw [fo q (by omega) q15 (by omega) (by omega) (by omega) (by omega), eo q q6 q15, wf q hq]
      · rw [co r (by omega) (by omega), xr r (by omega) (by omega) (by omega) (by omega) (by omega) (by omega)]
    · rw [if_neg cE, if_neg cE, if_neg cE, if_neg (show ¬ (2 : Int) = 0 by decide)]
      have hk9 : ∀ i, i < Rb.2.2 → rc_k (w 6) L i < 9 := fun i hi => (pc_r_n (hrn.1 i hi)).1
      have hEI := ex_l_I (t := w 6) (L := L) hk9 Rb.2.2 0 (w 1) (by omega) (by omega) hI1 (by omega)
      rw [← hE] at hEI
      have hE1 : E.1 = false := by
        cases hb : E.1 with
        | false => rfl
        | true => exact absurd hb cE
      obtain ⟨h1, h2, h3⟩ := hEI.2.2.2.2 hE1
      have hcd := mc_cd_in (rc_k (w 6) L E.2.1) E.2.2.1
      have hrs : nS (mc_rs (rc_k (w 6) L E.2.1) E.2.2.1) ∧ (if 0 ≤ mc_rs (rc_k (w 6) L E.2.1) E.2.2.1 then (7 : Int) else -mc_rs (rc_k (w 6) L E.2.1) E.2.2.1) = if E.2.2.1 ≤ 5 then E.2.2.1 else 7 := by
        unfold mc_rs
        rw [if_neg (show ¬ E.2.2.1 = 0 by omega)]
        by_cases c5 : E.2.2.1 ≤ 5
        · rw [if_pos c5, if_pos c5, if_neg (by omega)]
          exact ⟨⟨by omega, by omega⟩, by omega⟩
        · rw [if_neg c5, if_neg c5, if_pos (by omega)]
          exact ⟨⟨by omega, by omega⟩, rfl⟩
      obtain ⟨V6, c0, c1, c2, c19, c20, c21, cj, co⟩ := X9_127 (X := X) (P := P) (V := V5) (z := z) (d := d) (i := E.2.1) hM hrs.1
      rw [hrs.2] at c21
      have eo : ∀ q, q ≠ 15 → q ≠ 19 → q ≠ 20 → q ≠ 21 → mg_x2 w E.2.1 E.2.2.1 E.2.2.2 0 q = w 0 q := fun q q1 q2 q3 q4 => by unfold mg_x2; rw [mz_u_k _ _ q4, mz_u_k _ _ q3, mz_u_k _ _ q2, mz_u_k _ _ q1, mz_w_n _ _ (by decide)]
      have er : ∀ r, r ≠ 0 → r ≠ 1 → mg_x2 w E.2.1 E.2.2.1 E.2.2.2 r = w r := fun r r0 q1 => by unfold mg_x2; rw [mz_u_o r0, mz_u_o r0, mz_u_o r0, mz_u_o r0, mz_w_n _ _ q1]
      refine ⟨V6, c0, c2, ⟨⟨?_, ?_, ?_, ?_, ?_⟩, fun q hq => ?_⟩, fun r hr => ?_⟩
      · rw [c1, a1, x2]
        unfold mg_x2
        rw [mz_u_o (by decide), mz_u_o (by decide), mz_u_o (by decide), mz_u_o (by decide), mz_w_s]
        funext j
        unfold mr_cpy
        by_cases cj : j < 158
        · rw [if_pos cj, if_pos cj, if_pos cj]
        · rw [if_neg cj, if_neg cj]
      · rw [co _ (by omega) (by omega), xr _ (by omega) (by omega) (by omega) (by omega) (by omega) (by omega), w3, er 3 (by decide) (by decide)]
      · rw [co _ (by omega) (by omega), xr _ (by omega) (by omega) (by omega) (by omega) (by omega) (by omega), w4, er 4 (by decide) (by decide)]
      · rw [co _ (by omega) (by omega), xr _ (by omega) (by omega) (by omega) (by omega) (by omega) (by omega), w6, er 6 (by decide) (by decide)]
      · rw [co _ (by omega) (by omega), xr _ (by omega) (by omega) (by omega) (by omega) (by omega) (by omega), w8, er 8 (by decide) (by decide)]
      · have hq2 := hq
        unfold mg_f at hq2
        by_cases q21 : q = 21
        · rw [q21, c21]
          unfold mg_x2
          rw [mz_u_s]
        · by_cases q20 : q = 20
          · rw [q20, c20]
            unfold mg_x2
            rw [mz_u_k _ _ (by decide), mz_u_s]
          · by_cases q19 : q = 19
            · rw [q19, c19]
              unfold mg_x2
              rw [mz_u_k _ _ (by decide), mz_u_k _ _ (by decide), mz_u_s]
            · rw [cj q (by omega) q19 q20 q21, a2 q (by omega) q19 q20 q21 (by omega), tm, sm q (by omega) (by omega) (by omega)]
              by_cases q15 : q = 15
              · rw [q15, f15]
                unfold mg_x2
                rw [mz_u_k _ _ (by decide), mz_u_k _ _ (by decide), mz_u_k _ _ (by decide), mz_u_s]
              · rw [fo q (by omega) q15 (by omega) (by omega) (by omega) (by omega), eo q q15 q19 q20 q21, wf q hq]
      · rw [co r (by omega) (by omega), xr r (by omega) (by omega) (by omega) (by omega) (by omega) (by omega)]
  · rw [if_neg cR, if_neg cR, if_neg cR, if_neg (show ¬ (1 : Int) = 0 by decide)]
    have eo : ∀ q, q ≠ 15 → q ≠ 17 → mg_x3 w Rb.2.1 0 q = w 0 q := fun q q1 q2 => by unfold mg_x3; rw [mz_u_k _ _ q2, mz_u_k _ _ q1]
    have er : ∀ r, r ≠ 0 → mg_x3 w Rb.2.1 r = w r := fun r r0 => by unfold mg_x3; rw [mz_u_o r0, mz_u_o r0]
    have ft : ∀ k, k ≠ 0 → k ≠ 17 → rx_F S m Rb.2.1 m k = S m k := fun k k0 k1 => by unfold rx_F; rw [mq_t_k _ _ _ k0, mz_w_s, mr_up_n _ _ k1]
    have fr : ∀ r, r ≠ m → rx_F S m Rb.2.1 r = S r := fun r q0 => by unfold rx_F; rw [mq_t_r _ _ q0, mz_w_n _ _ q0]
    refine ⟨rx_F S m Rb.2.1, rfl, mq_t_0 _ _ _, ⟨⟨?_, ?_, ?_, ?_, ?_⟩, fun q hq => ?_⟩, fun r hr => ?_⟩
    · rw [fr _ (by omega), sr _ (by omega) (by omega), m4r _ (by omega), m3r _ (by omega) (by omega), w1, er 1 (by decide)]
    · rw [fr _ (by omega), sr _ (by omega) (by omega), m4r _ (by omega), m3r _ (by omega) (by omega), w3, er 3 (by decide)]
    · rw [fr _ (by omega), sr _ (by omega) (by omega), m4r _ (by omega), m3r _ (by omega) (by omega), w4, er 4 (by decide)]
    · rw [fr _ (by omega), sr _ (by omega) (by omega), m4r _ (by omega), m3r _ (by omega) (by omega), w6, er 6 (by decide)]
    · rw [fr _ (by omega), sr _ (by omega) (by omega), m4r _ (by omega), m3r _ (by omega) (by omega), w8, er 8 (by decide)]
    · have hq2 := hq
      unfold mg_f at hq2
      by_cases q17 : q = 17
      · rw [q17]
        unfold rx_F mg_x3
        rw [mq_t_k _ _ _ (by decide), mz_w_s, mr_up_s, mz_u_s]
      · rw [ft q (by omega) q17, sm q (by omega) (by omega) (by omega)]
        by_cases q15 : q = 15
        · rw [q15, f15]
          unfold mg_x3
          rw [mz_u_k _ _ (by decide), mz_u_s]
        · rw [fo q (by omega) q15 (by omega) (by omega) (by omega) (by omega), eo q q15 q17, wf q hq]
    · rw [fr r (by omega), sr r (by omega) (by omega), m4r r (by omega), m3r r (by omega) (by omega)]
end EXM
