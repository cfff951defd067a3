/-! THE LAW: texts, undo, snapshots, lines -/
theorem mg_I_0 {w : mz_V} {b : Int} (hI : mg_I w b) : mg_I (mz_u w 0 15 0) b := by
  have er : ∀ r, r ≠ 0 → mz_u w 0 15 0 r = w r := fun r h => mz_u_o h
  have ek : ∀ k, k ≠ 15 → mz_u w 0 15 0 0 k = w 0 k := fun k h => mz_u_k _ _ h
  unfold mg_I at hI ⊢
  rw [er 1 (by decide), er 3 (by decide), er 4 (by decide), er 6 (by decide), er 8 (by decide), ek 6 (by decide), ek 7 (by decide), ek 16 (by decide), ek 17 (by decide), ek 19 (by decide), ek 20 (by decide), ek 21 (by decide), mz_u_s]
  obtain ⟨a1, a3, a4, a5, a6, a7, a8, a9⟩ := hI
  exact ⟨a1, a3, a4, a5, a6, ⟨by decide, by decide⟩, fun i hi => absurd hi (by omega), a9⟩
theorem mg_I_1 {w : mz_V} {b : Int} {s : Nat → Int} (hI : mg_I w b) (h1 : mr_I s) (h2 : s 0 ≤ b) : mg_I (mz_w w 1 s) b := by
  unfold mg_I at hI ⊢
  rw [mz_w_s, mz_w_n _ _ (show 0 ≠ 1 by decide), mz_w_n _ _ (show 3 ≠ 1 by decide), mz_w_n _ _ (show 4 ≠ 1 by decide), mz_w_n _ _ (show 6 ≠ 1 by decide), mz_w_n _ _ (show 8 ≠ 1 by decide)]
  exact ⟨⟨h1, h2⟩, hI.2⟩
theorem mg_xe_16 (w : mz_V) : mg_xe w 0 16 = w 0 16 := by
  unfold mg_xe
  by_cases c1 : (mg_xt w).1 = true
  · rw [if_pos c1]
    by_cases c2 : (mg_xl w).1 = true
    · rw [if_pos c2]
      unfold mg_x1
      rw [mz_u_k _ _ (by decide), mz_u_k _ _ (by decide), mz_w_n _ _ (by decide), mz_w_n _ _ (by decide)]
    · rw [if_neg c2]
      unfold mg_x2
      rw [mz_u_k _ _ (by decide), mz_u_k _ _ (by decide), mz_u_k _ _ (by decide), mz_u_k _ _ (by decide), mz_w_n _ _ (by decide)]
  · rw [if_neg c1]
    unfold mg_x3
    rw [mz_u_k _ _ (by decide), mz_u_k _ _ (by decide)]
theorem mg_xe_J {w : mz_V} {b : Int} (hJ : mg_J w b) (hb : b ≤ 999999000) : mg_J (mg_xe w) (b + 432) := by
  obtain ⟨hI, hK⟩ := hJ
  have h15 := hI.2.2.2.2.2.1
  have h17 := hI.2.2.2.2.2.2.2.2.2.1
  have hbw := hI.1.2
  have hrn := rd_r_n (t := w 6) (L := (w 0 15).toNat) 9 0 (fun i hi => absurd hi (Nat.not_lt_zero _))
  have hrp := rd_r_p (t := w 6) (L := (w 0 15).toNat) 9 0 (Nat.zero_le _)
  have hk9 : ∀ i, i < (mg_xt w).2.2 → rc_k (w 6) (w 0 15).toNat i < 9 := fun i hi => (pc_r_n (hrn.1 i hi)).1
  have hn9 : (mg_xt w).2.2 ≤ 9 := by have := hrn.2; omega
  have hE := ex_l_I (t := w 6) (L := (w 0 15).toNat) hk9 (mg_xt w).2.2 0 (w 1) (by omega) hn9 hI.1.1 (by omega)
  have hp60 : (mg_xt w).2.1 ≤ (w 0 15).toNat := hrp
  unfold mg_xe
  by_cases c1 : (mg_xt w).1 = true
  · rw [if_pos c1]
    by_cases c2 : (mg_xl w).1 = true
    · rw [if_pos c2]
      obtain ⟨e1, e2, -⟩ := hE
      have e1 : mr_I (mg_xl w).2.2.2 := e1
      have e2 : (mg_xl w).2.2.2 0 ≤ w 1 0 + 48 * ((mg_xt w).2.2 : Int) := e2
      obtain ⟨W, hW⟩ : ∃ W, W = mz_u (mz_w (mz_w w 1 (mg_xl w).2.2.2) 4 (mg_hp (w 4) (w 0 6) (w 1))) 0 6 (mg_kp (w 0 6)) := ⟨_, rfl⟩
      have eo : ∀ q, q ≠ 6 → W 0 q = w 0 q := fun q hq => by rw [hW, mz_u_k _ _ hq, mz_w_n _ _ (by decide), mz_w_n _ _ (by decide)]
      have er : ∀ r, r ≠ 0 → r ≠ 1 → r ≠ 4 → W r = w r := fun r r0 r1 r4 => by rw [hW, mz_u_o r0, mz_w_n _ _ r4, mz_w_n _ _ r1]
      have w1 : W 1 = (mg_xl w).2.2.2 := by rw [hW, mz_u_o (by decide), mz_w_n _ _ (by decide), mz_w_s]
      have hp := mg_I_push (mg_I_b (show b ≤ b + 384 by omega) hI) (w' := W) (by rw [w1]; exact e1) (by rw [w1]; omega) (by rw [hW, mz_u_o (by decide), mz_w_s]) (by rw [hW, mz_u_s]) eo er
      have ex : mg_x1 w (mg_xl w).2.2.2 = mz_u W 0 15 0 := by rw [hW]; rfl
      rw [ex]
      refine ⟨mg_I_b (by omega) (mg_I_0 hp), fun q => ?_⟩
      rw [mz_u_k _ _ (by decide), eo 19 (by decide)] at q
      rw [mz_u_k _ _ (by decide), eo 21 (by decide)]
      exact hK q
    · rw [if_neg c2]
      have hE1 : (mg_xl w).1 = false := by
        cases hb : (mg_xl w).1 with
        | false => rfl
        | true => exact absurd hb c2
      obtain ⟨e1, e2, e3, e4, e5⟩ := hE
      obtain ⟨f1, f2, f3⟩ := e5 hE1
      have f1 : (mg_xl w).2.1 < (mg_xt w).2.2 := f1
      have f2 : 1 ≤ (mg_xl w).2.2.1 := f2
      obtain ⟨W, hW⟩ : ∃ W, W = mz_u (mz_w w 1 (mr_cpy (mg_xl w).2.2.2 (w 1) 158)) 0 15 0 := ⟨_, rfl⟩
      have hp : mg_I W b := by
        rw [hW]
        exact mg_I_0 (mg_I_1 hI (mr_I_e (fun j hj => mr_cpy_l _ _ hj) hI.1.1) (by rw [mr_cpy_l _ _ (by decide)]; exact hbw))
      have w17 : W 0 17 = w 0 17 := by rw [hW, mz_u_k _ _ (by decide), mz_w_n _ _ (by decide)]
      have ex : mg_x2 w (mg_xl w).2.1 (mg_xl w).2.2.1 (mg_xl w).2.2.2 = mz_u (mz_u (mz_u W 0 19 6) 0 20 (mg_xl w).2.1) 0 21 (if (mg_xl w).2.2.1 ≤ 5 then (mg_xl w).2.2.1 else 7) := by rw [hW]; rfl
      rw [ex]
      have eo : ∀ q, q ≠ 19 → q ≠ 20 → q ≠ 21 → mz_u (mz_u (mz_u W 0 19 6) 0 20 (mg_xl w).2.1) 0 21 (if (mg_xl w).2.2.1 ≤ 5 then (mg_xl w).2.2.1 else 7) 0 q = W 0 q := fun q q1 q2 q3 => by rw [mz_u_k _ _ q3, mz_u_k _ _ q2, mz_u_k _ _ q1]
      have e19 : mz_u (mz_u (mz_u W 0 19 6) 0 20 (mg_xl w).2.1) 0 21 (if (mg_xl w).2.2.1 ≤ 5 then (mg_xl w).2.2.1 else 7) 0 19 = 6 := by rw [mz_u_k _ _ (by decide), mz_u_k _ _ (by decide), mz_u_s]
      have e20 : mz_u (mz_u (mz_u W 0 19 6) 0 20 (mg_xl w).2.1) 0 21 (if (mg_xl w).2.2.1 ≤ 5 then (mg_xl w).2.2.1 else 7) 0 20 = (mg_xl w).2.1 := by rw [mz_u_k _ _ (by decide), mz_u_s]
      refine ⟨mg_I_b (by omega) (mg_I_f hp (fun r hr => by rw [mz_u_o hr, mz_u_o hr, mz_u_o hr]) (eo 6 (by decide) (by decide) (by decide)) (eo 7 (by decide) (by decide) (by decide)) (eo 15 (by decide) (by decide) (by decide)) (eo 16 (by decide) (by decide) (by decide)) ?_ ?_ ?_ ?_), fun q => ?_⟩
      · rw [eo 17 (by decide) (by decide) (by decide), w17]; exact h17
      · rw [e19]; decide
      · rw [e20]; exact ⟨by omega, by omega⟩
      · rw [mz_u_s]
        by_cases c5 : (mg_xl w).2.2.1 ≤ 5
        · rw [if_pos c5]; exact ⟨by omega, by omega⟩
        · rw [if_neg c5]; decide
      · rw [e19] at q
        exact absurd q (by decide)
  · rw [if_neg c1]
    have hp := mg_I_0 hI
    have eo : ∀ q, q ≠ 17 → mg_x3 w (mg_xt w).2.1 0 q = mz_u w 0 15 0 0 q := fun q q1 => by unfold mg_x3; rw [mz_u_k _ _ q1]
    refine ⟨mg_I_b (by omega) (mg_I_f hp (fun r hr => by unfold mg_x3; rw [mz_u_o hr]) (eo 6 (by decide)) (eo 7 (by decide)) (eo 15 (by decide)) (eo 16 (by decide)) ?_ ?_ ?_ ?_), fun q => ?_⟩
    · unfold mg_x3
      rw [mz_u_s]
      omega
    · rw [eo 19 (by decide), mz_u_k _ _ (by decide)]; exact hI.2.2.2.2.2.2.2.2.2.2.1
    · rw [eo 20 (by decide), mz_u_k _ _ (by decide)]; exact hI.2.2.2.2.2.2.2.2.2.2.2.1
    · rw [eo 21 (by decide), mz_u_k _ _ (by decide)]; exact hI.2.2.2.2.2.2.2.2.2.2.2.2
    · rw [eo 19 (by decide), mz_u_k _ _ (by decide)] at q
      rw [eo 21 (by decide), mz_u_k _ _ (by decide)]
      exact hK q
theorem mg_un_16 (w : mz_V) : mg_un w 0 16 = w 0 16 := by unfold mg_un; rw [mz_u_k _ _ (by decide), mz_w_n _ _ (by decide)]
theorem mg_rs_16 (w : mz_V) : mg_rs w 0 16 = w 0 16 := by unfold mg_rs; rw [mz_u_k _ _ (by decide), mz_w_n _ _ (by decide)]
theorem mg_sv_16 (w : mz_V) : mg_sv w 0 16 = w 0 16 := by unfold mg_sv; rw [mz_u_k _ _ (by decide), mz_w_n _ _ (by decide)]
theorem mg_fd_16 (w : mz_V) (y : Int) : mg_fd w y 0 16 = w 0 16 := by unfold mg_fd; rw [mz_u_k _ _ (by decide), mz_w_n _ _ (by decide)]
section LAWS
variable {X : mv_X} {P : mz_P} {V : mz_V} {z : Nat × Nat} {x v n d b0 L i : Nat} {w : mz_V} {b : Int} {y : Nat → Int}
theorem LS_2638 (hI : lw_I X x P V z v n w b) : lw_T X (d + 14) x b0 2638 i P V z b := by
  intro j6 j7
  obtain ⟨⟨hP, hW, hM, hw, hJ⟩, ⟨hx, ho, hD⟩, ⟨hz, hvz⟩, hvv, hLn⟩ := id hI
  have hG := hJ.1
  obtain ⟨V1, hc, hW1, hX1⟩ := Q8_undo (X := X) (P := P) (V := V) (z := z) (d := d + 7) hP hW hG
  have hJ1 : mg_J (if w 0 6 = 0 then w else mg_un w) b := by
    by_cases c : w 0 6 = 0
    · rw [if_pos c]; exact hJ
    · rw [if_neg c]; exact mg_un_J hJ c
  obtain ⟨z1, hO, hB⟩ := lw_q (w1 := if w 0 6 = 0 then w else mg_un w) hI hc hW1 hX1 (by
    by_cases c : w 0 6 = 0
    · rw [if_pos c]
    · rw [if_neg c]; exact mg_un_16 w)
  obtain ⟨V2, hA, h0, hV⟩ := LX_undo hP ho hO (by (repeat' split) <;> first | (intro _; rfl) | (intro h; exact absurd rfl h))
  obtain ⟨hB2, hM2, hw2, hn2, ho2, hd2⟩ := lw_g hI hJ1.1 hB (fun r r1 _ => hV r r1)
  have hA : mv_call X (d + 14) 321 [.ref x, .ref (x + 389)] (mz_h P V, z) = _ := hA
  obtain ⟨V3, e3, c3, s3, x3⟩ := Q9_undo (X := X) (P := P) (V := V2) (z := z1) (d := d + 12) hM2 hw2 hG
  have e3 : mv_call X (d + 14) 249 [.ref (x + 376)] (mz_h P V2, z1) = _ := e3
  have hcd : 0 ≤ (if w 0 6 = 0 then (1 : Int) else 0) ∧ (if w 0 6 = 0 then (1 : Int) else 0) ≤ 3 := by (repeat' split) <;> decide
  refine ⟨P, V3, z1, v, n, (if w 0 6 = 0 then w else mg_un w), .int (nZ (if w 0 6 = 0 then (1 : Int) else 0)), .int (nZ (if w 0 6 = 0 then 0 else w 0 6 - 1)), ?_, lw_fin hI hB2 s3 x3 (mg_J_b (by omega) hJ1)⟩
  rw [bk_L_law_2638]
  simp only [mv_clI, mv_cl, hA]
  rw [mz_rcv hM2.o]
  simp only [e3]
  rw [mz_rcv hM2.o]
  simp only [Q9_thrown (d := d + 13) hM2]
  exact lw_tail rfl rfl c3 hcd ho2 (fun c0 => by
    rw [x3 _ (by omega), h0 c0]
    by_cases c : w 0 6 = 0
    · rw [if_pos c] at c0; exact absurd c0 (by decide)
    · rw [if_neg c])
theorem LS_2708 (hI : lw_I X x P V z v n w b) : lw_T X (d + 14) x b0 2708 i P V z b := by
  intro j6 j7
  obtain ⟨⟨hP, hW, hM, hw, hJ⟩, ⟨hx, ho, hD⟩, ⟨hz, hvz⟩, hvv, hLn⟩ := id hI
  have hG := hJ.1
  obtain ⟨V1, hc, hW1, hX1⟩ := Q8_restoreSnapshot (X := X) (P := P) (V := V) (z := z) (d := d + 9) hP hW hG
  have hJ1 : mg_J (if w 0 7 = 0 then w else mg_rs w) b := by
    by_cases c : w 0 7 = 0
    · rw [if_pos c]; exact hJ
    · rw [if_neg c]; exact mg_rs_J hJ c
  obtain ⟨z1, hO, hB⟩ := lw_q (w1 := if w 0 7 = 0 then w else mg_rs w) hI hc hW1 hX1 (by
    by_cases c : w 0 7 = 0
    · rw [if_pos c]
    · rw [if_neg c]; exact mg_rs_16 w)
  obtain ⟨V2, hA, h0, hV⟩ := LX_restoreSnapshot hP ho hO (by (repeat' split) <;> first | (intro _; rfl) | (intro h; exact absurd rfl h))
  obtain ⟨hB2, hM2, hw2, hn2, ho2, hd2⟩ := lw_g hI hJ1.1 hB (fun r r1 _ => hV r r1)
  have hA : mv_call X (d + 14) 322 [.ref x, .ref (x + 389)] (mz_h P V, z) = _ := hA
  obtain ⟨V3, e3, c3, s3, x3⟩ := Q9_restoreSnapshot (X := X) (P := P) (V := V2) (z := z1) (d := d + 11) hM2 hw2 hG
  have e3 : mv_call X (d + 14) 252 [.ref (x + 376)] (mz_h P V2, z1) = _ := e3
  have hcd : 0 ≤ (if w 0 7 = 0 then (1 : Int) else 0) ∧ (if w 0 7 = 0 then (1 : Int) else 0) ≤ 3 := by (repeat' split) <;> decide
  refine ⟨P, V3, z1, v, n, (if w 0 7 = 0 then w else mg_rs w), .int (nZ (if w 0 7 = 0 then (1 : Int) else 0)), .int (nZ (if w 0 7 = 0 then 0 else mq_cnt (w 3))), ?_, lw_fin hI hB2 s3 x3 (mg_J_b (by omega) hJ1)⟩
  rw [bk_L_law_2708]
  simp only [mv_clI, mv_cl, hA]
  rw [mz_rcv hM2.o]
  simp only [e3]
  rw [mz_rcv hM2.o]
  simp only [Q9_thrown (d := d + 13) hM2]
  exact lw_tail rfl rfl c3 hcd ho2 (fun c0 => by
    rw [x3 _ (by omega), h0 c0]
    by_cases c : w 0 7 = 0
    · rw [if_pos c] at c0; exact absurd c0 (by decide)
    · rw [if_neg c])
theorem LS_2306 (hI : lw_I X x P V z v n w b) (hb : b ≤ 999999000) (hS : ∀ k, k < 9 → mx_S X x (21 + k) (fm_l k)) (hR : mx_R X x) : lw_T X (d + 14) x b0 2306 i P V z b := by
  intro j6 j7
  obtain ⟨⟨hP, hW, hM, hw, hJ⟩, ⟨hx, ho, hD⟩, ⟨hz, hvz⟩, hvv, hLn⟩ := id hI
  have hG := hJ.1
  obtain ⟨V1, hc, hW1, hX1⟩ := Q8_execute (X := X) (P := P) (V := V) (z := z) (d := d + 4) hx hS hP hW hG (by omega)
  have hJ1 := mg_xe_J hJ hb
  obtain ⟨z1, hO, hB⟩ := lw_q (w1 := mg_xe w) hI hc hW1 hX1 (mg_xe_16 w)
  obtain ⟨V2, hA, h0, hV⟩ := LX_execute hP ho hO (fun h => by
    have hc3 : mg_xc w = 0 ∨ mg_xc w = 1 ∨ mg_xc w = 2 := by unfold mg_xc; (repeat' split) <;> decide
    rcases hc3 with e | e | e
    · exact absurd e h
    · rw [e]; rfl
    · rw [e]; rfl)
  obtain ⟨hB2, hM2, hw2, hn2, ho2, hd2⟩ := lw_g hI hJ1.1 hB (fun r r1 _ => hV r r1)
  have hA : mv_call X (d + 14) 314 [.ref x, .ref (x + 389)] (mz_h P V, z) = _ := hA
  obtain ⟨V3, e3, c3, s3, x3⟩ := Q9_execute (X := X) (P := P) (V := V2) (z := z1) (d := d + 3) hx hR hM2 hw2 hG (by omega)
  have e3 : mv_call X (d + 14) 240 [.ref (x + 376)] (mz_h P V2, z1) = _ := e3
  have hcd : 0 ≤ mg_xc w ∧ mg_xc w ≤ 3 := by unfold mg_xc; (repeat' split) <;> decide
  refine ⟨P, V3, z1, v, n, mg_xe w, .int (nZ (mg_xc w)), .int (nZ (if mg_xc w = 0 then ((mg_xt w).2.2 : Int) else 0)), ?_, lw_fin hI hB2 s3 x3 hJ1⟩
  rw [bk_L_law_2306]
  simp only [mv_clI, mv_cl, hA]
  rw [mz_rcv hM2.o]
  simp only [e3]
  rw [mz_rcv hM2.o]
  simp only [Q9_thrown (d := d + 13) hM2]
  exact lw_tail rfl rfl c3 hcd ho2 (fun c0 => by rw [x3 _ (by omega), h0 c0, if_pos c0])
theorem LS_2248 (hI : lw_I X x P V z v n w b) (hS : lw_X X x b0 L y) (hi : i + 5 ≤ L) : lw_T X (d + 14) x b0 2248 i P V z b := by
  intro j6 j7
  obtain ⟨⟨hP, hW, hM, hw, hJ⟩, ⟨hx, ho, hD⟩, ⟨hz, hvz⟩, hvv, hLn⟩ := id hI
  have hG := hJ.1
  obtain ⟨c, hcr, hce⟩ := mq_i2c (nZ (y (i + 1)))
  obtain ⟨V1, hc, hW1, hX1⟩ := Q8_feed (X := X) (P := P) (V := V) (z := z) (d := d + 11) hP hW hG hcr
  have hJ1 : mg_J (if w 0 15 = 60 then w else mg_fd w c) b := by
    by_cases c6 : w 0 15 = 60
    · rw [if_pos c6]; exact hJ
    · rw [if_neg c6]; exact mg_fd_J hJ c6 hcr
  obtain ⟨z1, hO, hB⟩ := lw_q (w1 := if w 0 15 = 60 then w else mg_fd w c) hI hc hW1 hX1 (by
    by_cases c6 : w 0 15 = 60
    · rw [if_pos c6]
    · rw [if_neg c6]; exact mg_fd_16 w c)
  obtain ⟨V2, hA, h0, hV⟩ := LX_feed hP ho hO (by (repeat' split) <;> first | (intro _; rfl) | (intro h; exact absurd rfl h))
  obtain ⟨hB2, hM2, hw2, hn2, ho2, hd2⟩ := lw_g hI hJ1.1 hB (fun r r1 _ => hV r r1)
  have hA : mv_call X (d + 14) 313 [.ref x, .int (nZ c), .ref (x + 389)] (mz_h P V, z) = _ := hA
  have hcd : 0 ≤ (if w 0 15 = 60 then (1 : Int) else 0) ∧ (if w 0 15 = 60 then (1 : Int) else 0) ≤ 3 := by (repeat' split) <;> decide
  have hr : ∃ V3 : mz_V, mv_call X (d + 14) 233 [.ref (x + 376), .int (nZ c)] (mz_h P V2, z1) = some (.inl (some (.int (nZ (if w 0 15 = 60 then 0 else w 0 15 + 1)))), (mz_h P V3, z1)) ∧ V3 (x + 376) 0 = (if w 0 15 = 60 then 1 else 0) ∧ mr_is V3 (x + 376) (if w 0 15 = 60 then w else mg_fd w c) ∧ mr_X V2 V3 (x + 376) := by
    by_cases c6 : w 0 15 = 60
    · refine ⟨mq_t V2 (x + 376) 1, ?_, ?_, ?_, mq_t_X _ _ _⟩
      · rw [if_pos c6]; exact Q9_feed60 (X := X) (P := P) (V := V2) (z := z1) (d := d + 13) hM2 hw2 c6
      · rw [if_pos c6]; exact mq_t_0 _ _ _
      · rw [if_pos c6]; exact mq_t_is hw2 1
    · obtain ⟨V3, e1, e2, e3, e4⟩ := Q9_feed (X := X) (P := P) (V := V2) (z := z1) (d := d + 13) (y := c) hM2 hw2 hG c6
      exact ⟨V3, by rw [if_neg c6]; exact e1, by rw [if_neg c6]; exact e2, by rw [if_neg c6]; exact e3, e4⟩
  obtain ⟨V3, e3, c3, s3, x3⟩ := hr
  refine ⟨P, V3, z1, v, n, (if w 0 15 = 60 then w else mg_fd w c), .int (nZ (if w 0 15 = 60 then (1 : Int) else 0)), .int (nZ (if w 0 15 = 60 then 0 else w 0 15 + 1)), ?_, lw_fin hI hB2 s3 x3 (mg_J_b (by omega) hJ1)⟩
  rw [bk_L_law_2248, lw_rdj (c := 1) hx.1 hS 1 rfl (by omega), hce]
  simp only [mv_clI, mv_cl, hA]
  rw [lw_rdj (c := 1) hn2 hS 1 rfl (by omega), hce, mz_rcv hM2.o]
  simp only [e3]
  rw [mz_rcv hM2.o]
  simp only [Q9_thrown (d := d + 13) hM2]
  exact lw_tail rfl rfl c3 hcd ho2 (fun c0 => by
    rw [x3 _ (by omega), h0 c0]
    by_cases c6 : w 0 15 = 60
    · rw [if_pos c6] at c0; exact absurd c0 (by decide)
    · rw [if_neg c6])
theorem LS_2394 (hI : lw_I X x P V z v n w b) (hS : lw_X X x b0 L y) (hi : i + 5 ≤ L) : lw_T X (d + 14) x b0 2394 i P V z b := by
  intro j6 j7
  obtain ⟨⟨hP, hW, hM, hw, hJ⟩, ⟨hx, ho, hD⟩, ⟨hz, hvz⟩, hvv, hLn⟩ := id hI
  have hG := hJ.1
  have m1 := hS.2.2.2 (i + 1)
  -- the class
  have hcl : ∃ (P1 : mz_P) (V1 : mz_V) (z1 : Nat × Nat) (v1 n1 : Nat), lw_o (mv_call X (d + 13) 128 [.ref x, .int (nZ (y (i + 1)))] (mz_h P V, z)) (mq_b (w 1) (y (i + 1))) (ln_w (w 1) (w 8) (y (i + 1)).toNat).1 1 P1 V1 z1 ∧ lw_B X x P V z P1 V1 z1 v1 n1 (if mr_has (w 1) (y (i + 1)) then mg_wl w (y (i + 1)).toNat else w) := by
    by_cases c : mr_has (w 1) (y (i + 1))
    · obtain ⟨k, hk, hk10, hh⟩ := mr_has_h c
      obtain ⟨P1, V1, z1, v1, n1, e1, e2, e3, ⟨f1, f2, f3, f4, f5, f6⟩, e5, e6⟩ := Q8_writeBalloon (X := X) (P := P) (V := V) (z := z) (d := d + 6) (Nat.le_refl x) (by omega) hvz hx hP hW hG hLn hk10 hh
      refine ⟨P1, V1, z1, v1, n1, Or.inl ⟨by unfold mq_b; rw [if_pos c], by rw [hk, Int.toNat_natCast]; exact e1⟩, ?_⟩
      rw [if_pos c, hk, Int.toNat_natCast]
      exact ⟨⟨e2, e3, ⟨fun r hr => (f1 r (by omega)).trans (hx.1 r hr), hx.2⟩⟩, fun r r1 r2 => ⟨f1 r (by omega), f2 r (by omega) (by omega)⟩, fun r r1 r2 => f3 r (by omega) (by omega) (by omega), ⟨f4.1, by omega⟩, ⟨f5.1, by omega⟩, e5, by omega, e6⟩
    · have e1 := Q8_writeBalloon_n (X := X) (P := P) (V := V) (z := z) (d := d + 10) hP hW hG m1 c
      refine ⟨P, V, (z.1 + 1, z.2 + 6), v, n, Or.inr ⟨by unfold mq_b; rw [if_neg c]; decide, z.1, e1⟩, ?_⟩
      rw [if_neg c]
      exact ⟨⟨hP, hW, hx⟩, fun _ _ _ => ⟨rfl, rfl⟩, fun _ _ _ => rfl, ⟨by show z.1 ≤ z.1 + 1; omega, by show z.1 + 1 ≤ z.1 + 24; omega⟩, ⟨by show z.2 ≤ z.2 + 6; omega, by show z.2 + 6 ≤ z.2 + 1290; omega⟩, by show v < z.1 + 1; omega, hvv, hLn⟩
  obtain ⟨P1, V1, z1, v1, n1, hO, hB⟩ := hcl
  have hJ1 : mg_J (if mr_has (w 1) (y (i + 1)) then mg_wl w (y (i + 1)).toNat else w) b := by
    by_cases c : mr_has (w 1) (y (i + 1))
    · obtain ⟨k, hk, hk10, hh⟩ := mr_has_h c
      rw [if_pos c, hk, Int.toNat_natCast]
      exact mg_wl_J hJ hk10
    · rw [if_neg c]; exact hJ
  have ho1 : P1.1 (x + 389) = some (.inr (.long, 1)) := by rw [(hB.2.1 (x + 389) (by omega) (by omega)).1]; exact ho
  obtain ⟨V2, hA, h0, hV⟩ := LX_writeBalloon hP ho1 hO (by unfold mq_b; (repeat' split) <;> first | (intro _; rfl) | (intro h; exact absurd rfl h))
  obtain ⟨hB2, hM2, hw2, hn2, ho2, hd2⟩ := lw_g hI hJ1.1 hB (fun r r1 _ => hV r r1)
  have hA : mv_call X (d + 14) 316 [.ref x, .int (nZ (y (i + 1))), .ref (x + 389)] (mz_h P V, z) = _ := hA
  obtain ⟨V3, e3, c3, s3, x3⟩ := Q9_writeBalloon (X := X) (P := P1) (V := V2) (z := z1) (d := d + 7) hM2 hw2 hG m1
  have e3 : mv_call X (d + 14) 244 [.ref (x + 376), .int (nZ (y (i + 1)))] (mz_h P1 V2, z1) = _ := e3
  have hcd : 0 ≤ mq_b (w 1) (y (i + 1)) ∧ mq_b (w 1) (y (i + 1)) ≤ 3 := by unfold mq_b; (repeat' split) <;> decide
  refine ⟨P1, V3, z1, v1, n1, _, .int (nZ (mq_b (w 1) (y (i + 1)))), .int (nZ (if mr_has (w 1) (y (i + 1)) then ((ln_w (w 1) (w 8) (y (i + 1)).toNat).1 : Int) else 0)), ?_, lw_fin hI hB2 s3 x3 (mg_J_b (by omega) hJ1)⟩
  rw [bk_L_law_2394, lw_rdj (c := 1) hx.1 hS 1 rfl (by omega)]
  simp only [mv_clI, mv_cl, hA]
  rw [lw_rdj (c := 1) hn2 hS 1 rfl (by omega), mz_rcv hM2.o]
  simp only [e3]
  rw [mz_rcv hM2.o]
  simp only [Q9_thrown (d := d + 13) hM2]
  exact lw_tail rfl rfl c3 hcd ho2 (fun c0 => by
    rw [x3 _ (by omega), h0 c0]
    unfold mq_b at c0
    by_cases c : mr_has (w 1) (y (i + 1))
    · rw [if_pos c]
    · rw [if_neg c] at c0; exact absurd c0 (by decide))
end LAWS
