/-! THE LAW'S WRAPPERS: texts carried out, undo, snapshots -/
section WRE
variable {X : mv_X} {x : Nat} {S : Nat → Int} {w : mz_V} {b B : Int} {c : Nat × Nat} {m : Nat} {h : mv_H} {d a k p y : Nat} {as : List Value} {Φ : Option mv_R → Prop} {g : Nat → Nat → mv_H → Option mv_R} {f : Int32 → mv_H → Option mv_R}
theorem pn_st_R {P : mz_P} {V : mz_V} {v n : Nat} {s u : Nat → Int} (X : mv_X) (hP : mX_P P x v n) (hI : mr_I s) (hR : mh_R V (x + 1) s) (hk : k < 9) (hu : ∀ i, i < 4 → nS (u i)) (hb : s 0 ≤ 999999900) (hr : mc_rf s k u = 0) : ∃ V', mh_R V' (x + 1) (mc_st s k u) := by
  obtain ⟨V2, hV2⟩ : ∃ V2, V2 = mz_w (mz_u V (x + 344) 0 k) (x + 344 + 1) u := ⟨_, rfl⟩
  have e1 : V2 (x + 344 + 1) = u := by rw [hV2, mz_w_s]
  have e0 : V2 (x + 344) 0 = k := by rw [hV2, mz_w_n _ _ (by omega), mz_u_s]
  have hR2 : mh_R V2 (x + 1) s := mh_R_f hI.pil.2 (fun r h1 h2 => by rw [hV2, mz_w_n _ _ (by omega), mz_u_o (by omega)]) hR
  obtain ⟨V', -, h1, -⟩ := Y3_carryOut (X := X) (P := P) (V := V2) (z := (0, 0)) (d := 0) (k := k) (x := u) hP.h0 hP.cm hI hR2 ⟨e0, fun i hi => ⟨by rw [e1], hu i hi⟩⟩ hk hb hr
  exact ⟨V', h1⟩
theorem pn_J_m {s : Nat → Int} {B B' : Int} (hB : B ≤ B') (h : pn_J s B) : pn_J s B' := by
  obtain ⟨j1, j2, j3, j4, j5, j6⟩ := h
  exact ⟨j1, j2, j3, by omega, j5, by omega⟩
theorem ex_l_J {P : mz_P} {v n : Nat} {t : Nat → Int} {L N : Nat} (X : mv_X) (hP : mX_P P x v n) (hk : ∀ i, i < N → rc_k t L i < 9) : ∀ (f i : Nat) (s : Nat → Int) (V : mz_V) (B : Int), i + f = N → f ≤ 9 → mr_I s → mh_R V (x + 1) s → pn_J s B → s 0 + 48 * f ≤ 999999948 → pn_J (ex_l t L f i s).2.2.2 (B + 480 * f)
  | 0, i, s, V, B, _, _, _, _, hJ, _ => by
    have e : B + 480 * ((0 : Nat) : Int) = B := by omega
    rw [e]
    exact hJ
  | f + 1, i, s, V, B, hi, hf, hI, hR, hJ, hb => by
    have er : ex_l t L (f + 1) i s = if mc_rf s (rc_k t L i) (rc_y t L i) = 0 then ex_l t L f (i + 1) (mc_st s (rc_k t L i) (rc_y t L i)) else (false, i, mc_rf s (rc_k t L i) (rc_y t L i), s) := rfl
    have hki := hk i (by omega)
    rw [nc1] at hb ⊢
    by_cases cr : mc_rf s (rc_k t L i) (rc_y t L i) = 0
    · rw [if_pos cr] at er
      obtain ⟨a1, a2⟩ := mc_st_I hI (by omega) hki cr
      obtain ⟨V', hR'⟩ := pn_st_R X hP hI hR hki (fun j _ => nZ_nS _) (by omega) cr
      have hJ' := pn_st_J (pn_of hI hR) hJ (by omega) hki cr
      have := ex_l_J X hP hk f (i + 1) _ V' (B + 480) (by omega) (by omega) a1 hR' hJ' (by omega)
      rw [er]
      have e : B + 480 + 480 * (f : Int) = B + 480 * ((f : Int) + 1) := by omega
      rw [e] at this
      exact this
    · rw [if_neg cr] at er
      rw [er]
      show pn_J s (B + 480 * ((f : Int) + 1))
      exact pn_J_m (by omega) hJ
theorem LP_execute (hH : ph_H X x S w b c m h) (hS9 : ∀ k, k < 9 → mx_S X x (21 + k) (fm_l k)) (hb : b ≤ 999999000) (hJn : pn_J (w 1) B) (K : ∀ (r : Int32) (h1 : mv_H) (w2 : mz_V), ph_H X x S w2 (b + 432) c (m + 1) h1 → ((∃ n : Nat, n ≤ 9 ∧ r = nZ n ∧ ph_ch w w2 ∧ pn_J (w2 1) (B + 4320)) ∨ ((r = nZ (-78) ∨ r = nZ (-76)) ∧ ph_no w w2)) → Φ (f r h1)) : Φ (mv_clI (mv_call X (d + 10)) 373 [.ref x] h g f) := by
  have hr := hH
  obtain ⟨P, V, v, n, w1, e, ⟨⟨hP, hW, hJ⟩, hX, ⟨z1, z2⟩, hv, h16, hs, hS⟩, hE, c1, c2⟩ := hH
  obtain ⟨h1, z⟩ := h
  have e : h1 = mz_h P V := e
  subst e
  have z1 : x + 377 ≤ z.1 := z1
  have z2 : v < z.1 := z2
  have c1 : z.1 ≤ c.1 + m := c1
  have c2 : z.2 ≤ c.2 + 6 * m := c2
  obtain ⟨V', e', hW', hX'⟩ := Q8_execute (X := X) (z := z) (d := d) (x0 := x) hX hS9 hP hW hJ.1 (by omega)
  have h376 := (hX' (x + 376) (by omega) (by omega)).trans hS
  have hJ' := mg_xe_J hJ hb
  have e16 := mg_xe_16 w1
  obtain ⟨g1, g2, g3, g4, g5, g6, g7⟩ := hE
  have hrn := rd_r_n (t := w1 6) (L := (w1 0 15).toNat) 9 0 (fun i hi => absurd hi (Nat.not_lt_zero _))
  have hk9 : ∀ i, i < (mg_xt w1).2.2 → rc_k (w1 6) (w1 0 15).toNat i < 9 := fun i hi => (pc_r_n (hrn.1 i hi)).1
  have hn9 : (mg_xt w1).2.2 ≤ 9 := by have := hrn.2; omega
  have hbw := hJ.1.1.2
  have hlJ := ex_l_J X hP hk9 (mg_xt w1).2.2 0 (w1 1) V B (by omega) hn9 hJ.1.1.1 hW.1 (by rw [g1]; exact hJn) (by omega)
  unfold mg_xe at hW' hJ' e16
  by_cases q1 : (mg_xt w1).1 = true
  · rw [if_pos q1] at hW' hJ' e16
    by_cases q2 : (mg_xl w1).1 = true
    · rw [if_pos q2] at hW' hJ' e16
      have q3 : mg_xc w1 = 0 := by unfold mg_xc; rw [if_pos q1, if_pos q2]
      rw [mq_r0 q3] at e'
      have e2 : mv_call X (d + 10) 373 [.ref x] (mz_h P V, z) = some (.inl (some (.int (nZ ((mg_xt w1).2.2 : Nat)))), (mz_h P V', z)) := by
        rw [mc_L_execute, bk_L_execute_0, bk_L_execute_1, ph_rcv hr]
        simp only [mv_clI, mv_cl, e']
        exact bk_L_execute_4 _ _ _ _ _
      obtain ⟨w2, hw2⟩ : ∃ w2, w2 = mg_x1 w1 (mg_xl w1).2.2.2 := ⟨_, rfl⟩
      rw [← hw2] at hW' hJ' e16
      have k1 : w2 1 = (mg_xl w1).2.2.2 := by rw [hw2]; unfold mg_x1; rw [mz_u_o (by decide), mz_u_o (by decide), mz_w_n _ _ (by decide), mz_w_s]
      have k4 : w2 4 = mg_hp (w1 4) (w1 0 6) (w1 1) := by rw [hw2]; unfold mg_x1; rw [mz_u_o (by decide), mz_u_o (by decide), mz_w_s]
      have k6 : w2 0 6 = mg_kp (w1 0 6) := by rw [hw2]; unfold mg_x1; rw [mz_u_k _ _ (by decide), mz_u_s]
      refine ph_ret e2 (K _ _ w2 ⟨P, V', v, n, w2, rfl, ⟨⟨hP, hW', hJ'⟩, hX, ⟨z1, z2⟩, hv, by rw [e16]; exact h16, hs, h376⟩, ph_E_rfl _, by show z.1 ≤ c.1 + (m + 1); omega, by show z.2 ≤ c.2 + 6 * (m + 1); omega⟩ (Or.inl ⟨_, hn9, rfl, ⟨by rw [k4, g3, g4, g1], by rw [k6, g4]⟩, ?_⟩))
      rw [k1]
      exact pn_J_m (by omega) hlJ
    · rw [if_neg q2] at hW' hJ' e16
      have q3 : mg_xc w1 = 2 := by unfold mg_xc; rw [if_pos q1, if_neg q2]
      rw [mq_r1 (by rw [q3]; decide), q3] at e'
      have e2 : mv_call X (d + 10) 373 [.ref x] (mz_h P V, z) = some (.inl (some (.int (nZ (-76)))), (mz_h P V', (z.1 + 1, z.2 + 6))) := by
        rw [mc_L_execute, bk_L_execute_0, bk_L_execute_1, ph_rcv hr]
        simp only [mv_clI, mv_cl, e']
        exact bk_L_execute_10 _ _ _ _
      obtain ⟨w2, hw2⟩ : ∃ w2, w2 = mg_x2 w1 (mg_xl w1).2.1 (mg_xl w1).2.2.1 (mg_xl w1).2.2.2 := ⟨_, rfl⟩
      rw [← hw2] at hW' hJ' e16
      have k1 : w2 1 = mr_cpy (mg_xl w1).2.2.2 (w1 1) 158 := by rw [hw2]; unfold mg_x2; rw [mz_u_o (by decide), mz_u_o (by decide), mz_u_o (by decide), mz_u_o (by decide), mz_w_s]
      have ko : ∀ r, r ≠ 0 → r ≠ 1 → w2 r = w1 r := fun r h0 h1 => by rw [hw2]; unfold mg_x2; rw [mz_u_o h0, mz_u_o h0, mz_u_o h0, mz_u_o h0, mz_w_n _ _ h1]
      have kf : ∀ j, j ≠ 15 → j ≠ 19 → j ≠ 20 → j ≠ 21 → w2 0 j = w1 0 j := fun j a1 a2 a3 a4 => by rw [hw2]; unfold mg_x2; rw [mz_u_k _ _ a4, mz_u_k _ _ a3, mz_u_k _ _ a2, mz_u_k _ _ a1, mz_w_n _ _ (by decide)]
      have he : ∀ j, j < 158 → w1 1 j = w2 1 j := fun j hj => by rw [k1, mr_cpy_l _ _ hj]
      have hW2 := mX_is_e (s' := w1 1) hJ'.1.1.1.pil.2 he hW'
      have hJ2 : mg_J (mz_w w2 1 (w1 1)) (b + 432) := ⟨mg_I_e he hJ'.1, by rw [mz_w_n _ _ (by decide)]; exact hJ'.2⟩
      have kz : mz_w w2 1 (w1 1) 0 = w2 0 := mz_w_n _ _ (by decide)
      refine ph_ret e2 (K _ _ (mz_w w2 1 (w1 1)) ⟨P, V', v, n, _, rfl, ⟨⟨hP, hW2, hJ2⟩, hX, ⟨by show x + 377 ≤ z.1 + 1; omega, by show v < z.1 + 1; omega⟩, hv, by rw [kz, e16]; exact h16, hs, h376⟩, ph_E_rfl _, by show z.1 + 1 ≤ c.1 + (m + 1); omega, by show z.2 + 6 ≤ c.2 + 6 * (m + 1); omega⟩ (Or.inr ⟨Or.inr rfl, by rw [mz_w_s, g1], by rw [mz_w_n _ _ (by decide), ko 4 (by decide) (by decide), g3], by rw [kz, kf 6 (by decide) (by decide) (by decide) (by decide), g4]⟩))
  · rw [if_neg q1] at hW' hJ' e16
    have q3 : mg_xc w1 = 1 := by unfold mg_xc; rw [if_neg q1]
    rw [mq_r1 (by rw [q3]; decide), q3] at e'
    have e2 : mv_call X (d + 10) 373 [.ref x] (mz_h P V, z) = some (.inl (some (.int (nZ (-78)))), (mz_h P V', (z.1 + 1, z.2 + 6))) := by
      rw [mc_L_execute, bk_L_execute_0, bk_L_execute_1, ph_rcv hr]
      simp only [mv_clI, mv_cl, e']
      exact bk_L_execute_6 _ _ _ _
    obtain ⟨w2, hw2⟩ : ∃ w2, w2 = mg_x3 w1 (mg_xt w1).2.1 := ⟨_, rfl⟩
    rw [← hw2] at hW' hJ' e16
    have ko : ∀ r, r ≠ 0 → w2 r = w1 r := fun r h0 => by rw [hw2]; unfold mg_x3; rw [mz_u_o h0, mz_u_o h0]
    have kf : ∀ j, j ≠ 15 → j ≠ 17 → w2 0 j = w1 0 j := fun j a1 a2 => by rw [hw2]; unfold mg_x3; rw [mz_u_k _ _ a2, mz_u_k _ _ a1]
    exact ph_ret e2 (K _ _ w2 ⟨P, V', v, n, w2, rfl, ⟨⟨hP, hW', hJ'⟩, hX, ⟨by show x + 377 ≤ z.1 + 1; omega, by show v < z.1 + 1; omega⟩, hv, by rw [e16]; exact h16, hs, h376⟩, ph_E_rfl _, by show z.1 + 1 ≤ c.1 + (m + 1); omega, by show z.2 + 6 ≤ c.2 + 6 * (m + 1); omega⟩ (Or.inr ⟨Or.inl rfl, by rw [ko 1 (by decide), g1], by rw [ko 4 (by decide), g3], by rw [kf 6 (by decide) (by decide), g4]⟩))
theorem pe_un {w w1 : mz_V} (hE : ph_E w w1) : ph_E (mg_un w) (mg_un w1) ∧ mg_un w1 0 16 = w1 0 16 := by
  obtain ⟨g1, g2, g3, g4, g5, g6, g7⟩ := hE
  unfold mg_un
  refine ⟨⟨?_, ?_, ?_, ?_, ?_, ?_, ?_⟩, ?_⟩
  · rw [mz_u_o (by decide), mz_u_o (by decide), mz_w_s, mz_w_s, g1, g3, g4]
  · rw [mz_u_o (by decide), mz_u_o (by decide), mz_w_n _ _ (by decide), mz_w_n _ _ (by decide), g2]
  · rw [mz_u_o (by decide), mz_u_o (by decide), mz_w_n _ _ (by decide), mz_w_n _ _ (by decide), g3]
  · rw [mz_u_s, mz_u_s, g4]
  · rw [mz_u_k _ _ (by decide), mz_u_k _ _ (by decide), mz_w_n _ _ (by decide), mz_w_n _ _ (by decide), g5]
  · rw [mz_u_k _ _ (by decide), mz_u_k _ _ (by decide), mz_w_n _ _ (by decide), mz_w_n _ _ (by decide), g6]
  · rw [mz_u_k _ _ (by decide), mz_u_k _ _ (by decide), mz_w_n _ _ (by decide), mz_w_n _ _ (by decide), g7]
  · rw [mz_u_k _ _ (by decide), mz_w_n _ _ (by decide)]
theorem LP_undo_y (hH : ph_H X x S w b c m h) (h6 : w 0 6 ≠ 0) (K : ∀ h1, ph_H X x S (mg_un w) b c m h1 → Φ (f (nZ (w 0 6 - 1)) h1)) : Φ (mv_clI (mv_call X (d + 7)) 377 [.ref x] h g f) := by
  obtain ⟨h1, e, H1⟩ := ph_up (d := d + 6) (y := 133) (as := [.ref x]) (r := .int (nZ (w 0 6 - 1))) (w2 := mg_un w) (b2 := b) hH fun P V v n z w1 hP hW hJ hE => by
    obtain ⟨V', e, hW', hX'⟩ := Q8_undo (X := X) (z := z) (d := d) hP hW hJ.1
    have h6' : w1 0 6 ≠ 0 := by rw [hE.2.2.2.1]; exact h6
    rw [if_neg h6', mq_r0 rfl, hE.2.2.2.1] at e
    rw [if_neg h6'] at hW'
    exact ⟨V', mg_un w1, e, hW', hX', mg_un_J hJ h6', (pe_un hE).1, (pe_un hE).2⟩
  have e2 : mv_call X (d + 7) 377 [.ref x] h = some (.inl (some (.int (nZ (w 0 6 - 1)))), h1) := by
    rw [mc_L_undo, bk_L_undo_0, bk_L_undo_1, ph_rcv hH]
    simp only [mv_clI, mv_cl, e]
    exact bk_L_undo_4 _ _ _ _ _
  exact ph_ret e2 (K h1 H1)
theorem LP_undo_n (hH : ph_H X x S w b c m h) (h6 : w 0 6 = 0) (K : ∀ h1, ph_H X x S w b c (m + 1) h1 → Φ (f (nZ (-79)) h1)) : Φ (mv_clI (mv_call X (d + 7)) 377 [.ref x] h g f) := by
  obtain ⟨q, h1, e, H1⟩ := ph_ux (d := d + 6) (y := 133) (as := [.ref x]) (ex := 4) (w2 := w) (b2 := b) hH fun P V v n z w1 hP hW hJ hE => by
    obtain ⟨V', e, hW', hX'⟩ := Q8_undo (X := X) (z := z) (d := d) hP hW hJ.1
    have h6' : w1 0 6 = 0 := by rw [hE.2.2.2.1]; exact h6
    rw [if_pos h6', mq_r1 (by decide)] at e
    rw [if_pos h6'] at hW'
    exact ⟨V', w1, e, hW', hX', hJ, hE, rfl⟩
  have e2 : mv_call X (d + 7) 377 [.ref x] h = some (.inl (some (.int (nZ (-79)))), h1) := by
    rw [mc_L_undo, bk_L_undo_0, bk_L_undo_1, ph_rcv hH]
    simp only [mv_clI, mv_cl, e]
    exact bk_L_undo_6 _ _ _ _
  exact ph_ret e2 (K h1 H1)
theorem pe_sv {w w1 : mz_V} (hE : ph_E w w1) : ph_E (mg_sv w) (mg_sv w1) ∧ mg_sv w1 0 16 = w1 0 16 := by
  obtain ⟨g1, g2, g3, g4, g5, g6, g7⟩ := hE
  unfold mg_sv
  refine ⟨⟨?_, ?_, ?_, ?_, ?_, ?_, ?_⟩, ?_⟩
  · rw [mz_u_o (by decide), mz_u_o (by decide), mz_w_n _ _ (by decide), mz_w_n _ _ (by decide), g1]
  · rw [mz_u_o (by decide), mz_u_o (by decide), mz_w_s, mz_w_s, g1, g2]
  · rw [mz_u_o (by decide), mz_u_o (by decide), mz_w_n _ _ (by decide), mz_w_n _ _ (by decide), g3]
  · rw [mz_u_k _ _ (by decide), mz_u_k _ _ (by decide), mz_w_n _ _ (by decide), mz_w_n _ _ (by decide), g4]
  · rw [mz_u_s, mz_u_s]
  · rw [mz_u_k _ _ (by decide), mz_u_k _ _ (by decide), mz_w_n _ _ (by decide), mz_w_n _ _ (by decide), g6]
  · rw [mz_u_k _ _ (by decide), mz_u_k _ _ (by decide), mz_w_n _ _ (by decide), mz_w_n _ _ (by decide), g7]
  · rw [mz_u_k _ _ (by decide), mz_w_n _ _ (by decide)]
theorem LD_saveSnapshot (hH : ph_H X x S w b c m h) (K : ∀ h1, ph_H X x S (mg_sv w) b c m h1 → Φ (f (nZ (mq_cnt (w 1))) h1)) : Φ (mv_rcv X h [.ref x] 12 (mv_clI (mv_call X (d + 4)) 135 [.ref x] h g f)) := by
  rw [ph_rcv hH]
  obtain ⟨h1, e, H1⟩ := ph_up (d := d + 4) (y := 135) (as := [.ref x]) (r := .int (nZ (mq_cnt (w 1)))) (w2 := mg_sv w) (b2 := b) hH fun P V v n z w1 hP hW hJ hE => by
    obtain ⟨V', e, hW', hX'⟩ := Q8_saveSnapshot (X := X) (z := z) (d := d) hP hW hJ.1
    rw [hE.1] at e
    exact ⟨V', mg_sv w1, e, hW', hX', mg_sv_J hJ, (pe_sv hE).1, (pe_sv hE).2⟩
  exact ph_ret e (K h1 H1)
theorem pe_rs {w w1 : mz_V} (hE : ph_E w w1) : ph_E (mg_rs w) (mg_rs w1) ∧ mg_rs w1 0 16 = w1 0 16 := by
  obtain ⟨g1, g2, g3, g4, g5, g6, g7⟩ := hE
  unfold mg_rs
  refine ⟨⟨?_, ?_, ?_, ?_, ?_, ?_, ?_⟩, ?_⟩
  · rw [mz_u_o (by decide), mz_u_o (by decide), mz_w_s, mz_w_s, g1, g2]
  · rw [mz_u_o (by decide), mz_u_o (by decide), mz_w_n _ _ (by decide), mz_w_n _ _ (by decide), g2]
  · rw [mz_u_o (by decide), mz_u_o (by decide), mz_w_n _ _ (by decide), mz_w_n _ _ (by decide), g3]
  · rw [mz_u_s, mz_u_s]
  · rw [mz_u_k _ _ (by decide), mz_u_k _ _ (by decide), mz_w_n _ _ (by decide), mz_w_n _ _ (by decide), g5]
  · rw [mz_u_k _ _ (by decide), mz_u_k _ _ (by decide), mz_w_n _ _ (by decide), mz_w_n _ _ (by decide), g6]
  · rw [mz_u_k _ _ (by decide), mz_u_k _ _ (by decide), mz_w_n _ _ (by decide), mz_w_n _ _ (by decide), g7]
  · rw [mz_u_k _ _ (by decide), mz_w_n _ _ (by decide)]
theorem LP_restoreSnapshot (hH : ph_H X x S w b c m h) (h7 : w 0 7 ≠ 0) (K : ∀ h1, ph_H X x S (mg_rs w) b c m h1 → Φ (f (nZ (mq_cnt (w 3))) h1)) : Φ (mv_clI (mv_call X (d + 5)) 378 [.ref x] h g f) := by
  obtain ⟨h1, e, H1⟩ := ph_up (d := d + 4) (y := 136) (as := [.ref x]) (r := .int (nZ (mq_cnt (w 3)))) (w2 := mg_rs w) (b2 := b) hH fun P V v n z w1 hP hW hJ hE => by
    obtain ⟨V', e, hW', hX'⟩ := Q8_restoreSnapshot (X := X) (z := z) (d := d) hP hW hJ.1
    have h7' : w1 0 7 ≠ 0 := by rw [hE.2.2.2.2.1]; exact h7
    rw [if_neg h7', mq_r0 rfl, hE.2.1] at e
    rw [if_neg h7'] at hW'
    exact ⟨V', mg_rs w1, e, hW', hX', mg_rs_J hJ h7', (pe_rs hE).1, (pe_rs hE).2⟩
  have e2 : mv_call X (d + 5) 378 [.ref x] h = some (.inl (some (.int (nZ (mq_cnt (w 3))))), h1) := by
    rw [mc_L_restoreSnapshot, bk_L_restoreSnapshot_0, bk_L_restoreSnapshot_1, ph_rcv hH]
    simp only [mv_clI, mv_cl, e]
    exact bk_L_restoreSnapshot_4 _ _ _ _ _
  exact ph_ret e2 (K h1 H1)
/-- the numbers, where they count -/
theorem ph_num {s' : Nat → Int} (hH : ph_H X x S w b c m h) (he : ∀ j, j < 158 → s' j = w 1 j) : ph_H X x S (mz_w w 1 s') b c m h := by
  obtain ⟨P, V, v, n, w1, e, ⟨⟨hP, hW, hJ⟩, hX, z1, hv, h16, hs, hS⟩, hE, c1⟩ := hH
  obtain ⟨g1, g2, g3, g4, g5, g6, g7⟩ := hE
  have he' : ∀ j, j < 158 → s' j = w1 1 j := fun j hj => by rw [g1]; exact he j hj
  have kz : ∀ w0 : mz_V, mz_w w0 1 s' 0 = w0 0 := fun w0 => mz_w_n _ _ (by decide)
  refine ⟨P, V, v, n, mz_w w1 1 s', e, ⟨⟨hP, mX_is_e hJ.1.1.1.pil.2 he' hW, mg_I_e he' hJ.1, by rw [kz]; exact hJ.2⟩, hX, z1, hv, by rw [kz]; exact h16, hs, hS⟩, ⟨by rw [mz_w_s, mz_w_s], ?_, ?_, by rw [kz, kz]; exact g4, by rw [kz, kz]; exact g5, by rw [kz, kz]; exact g6, by rw [kz, kz]; exact g7⟩, c1⟩
  · rw [mz_w_n _ _ (by decide), mz_w_n _ _ (by decide)]; exact g2
  · rw [mz_w_n _ _ (by decide), mz_w_n _ _ (by decide)]; exact g3
end WRE
