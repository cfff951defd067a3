/-! THE LAW: queries -/
section LAWQ
variable {X : mv_X} {P : mz_P} {V : mz_V} {z : Nat × Nat} {x v n d b0 L i : Nat} {w : mz_V} {b : Int} {y : Nat → Int}
theorem LS_496 (hI : lw_I X x P V z v n w b) (hS : lw_X X x b0 L y) (hi : i + 5 ≤ L) : lw_T X (d + 14) x b0 496 i P V z b := by
  intro j6 j7
  obtain ⟨⟨hP, hW, hM, hw, hJ⟩, ⟨hx, ho, hD⟩, ⟨hz, hvz⟩, hvv, hLn⟩ := id hI
  have hG := hJ.1
  have hI1 := hG.1.1
  have m1 := hS.2.2.2 (i + 1)
  have hc : mv_call X (d + 13) 88 [.ref x, .int (nZ (y (i + 1)))] (mz_h P V, z) = mq_r P V z (mq_b (w 1) (y (i + 1))) ((w 1) (6 + 11 * (y (i + 1)).toNat + 1)) (1) := Q8_lift (X := X) (P := P) (V := V) (z := z) (d := d + 8) hP hI1 hW.1 m1
  obtain ⟨z1, hO, hB⟩ := lw_q (w1 := w) hI hc hW (mX_X_rfl _ _ _) rfl
  obtain ⟨V2, hA, h0, hV⟩ := LX_lift hP ho hO (by unfold mq_b; (repeat' split) <;> first | (intro _; rfl) | (intro h; exact absurd rfl h))
  obtain ⟨hB2, hM2, hw2, hn2, ho2, hd2⟩ := lw_g hI hG hB (fun r r1 _ => hV r r1)
  have hA : mv_call X (d + 14) 288 [.ref x, .int (nZ (y (i + 1))), .ref (x + 389)] (mz_h P V, z) = _ := hA
  have hr := Q9_lift (X := X) (P := P) (V := V2) (z := z1) (d := d + 9) hM2 (by rw [hw2.1.1]; exact hI1) m1
  rw [hw2.1.1] at hr
  have hr : mv_call X (d + 14) 199 [.ref (x + 376), .int (nZ (y (i + 1)))] (mz_h P V2, z1) = some (.inl (some (.int (nZ ((if mr_has (w 1) (y (i + 1)) then (w 1) (6 + 11 * (y (i + 1)).toNat + 1) else 0))))), (mz_h P (mq_t V2 (x + 376) (mq_b (w 1) (y (i + 1)))), z1)) := hr
  have hcd : 0 ≤ mq_b (w 1) (y (i + 1)) ∧ mq_b (w 1) (y (i + 1)) ≤ 3 := by unfold mq_b; (repeat' split) <;> decide
  refine ⟨P, mq_t V2 (x + 376) (mq_b (w 1) (y (i + 1))), z1, v, n, w, .int (nZ (mq_b (w 1) (y (i + 1)))), .int (nZ ((if mr_has (w 1) (y (i + 1)) then (w 1) (6 + 11 * (y (i + 1)).toNat + 1) else 0))), ?_, lw_fin hI hB2 (mq_t_is hw2 _) (mq_t_X _ _ _) (mg_J_b (by omega) hJ)⟩
  rw [bk_L_law_496, lw_rdj (c := 1) hx.1 hS 1 rfl (by omega)]
  simp only [mv_clI, mv_cl, hA]
  rw [lw_rdj (c := 1) hn2 hS 1 rfl (by omega), mz_rcv hM2.o]
  simp only [hr]
  rw [mz_rcv hM2.o]
  simp only [Q9_thrown (d := d + 13) hM2]
  have heq : mq_b (w 1) (y (i + 1)) = 0 → (if mr_has (w 1) (y (i + 1)) then (w 1) (6 + 11 * (y (i + 1)).toNat + 1) else 0) = (w 1) (6 + 11 * (y (i + 1)).toNat + 1) := fun c0 => by
      unfold mq_b at c0
      by_cases c : mr_has (w 1) (y (i + 1))
      · rw [if_pos c]
      · rw [if_neg c] at c0; exact absurd c0 (by decide)
  exact lw_tail rfl rfl (mq_t_0 _ _ _) hcd ho2 (fun c0 => by rw [mq_t_r _ _ (by omega), h0 c0, heq c0])
theorem LS_552 (hI : lw_I X x P V z v n w b) (hS : lw_X X x b0 L y) (hi : i + 5 ≤ L) : lw_T X (d + 14) x b0 552 i P V z b := by
  intro j6 j7
  obtain ⟨⟨hP, hW, hM, hw, hJ⟩, ⟨hx, ho, hD⟩, ⟨hz, hvz⟩, hvv, hLn⟩ := id hI
  have hG := hJ.1
  have hI1 := hG.1.1
  have m1 := hS.2.2.2 (i + 1)
  have hc : mv_call X (d + 13) 89 [.ref x, .int (nZ (y (i + 1)))] (mz_h P V, z) = mq_r P V z (mq_b (w 1) (y (i + 1))) (mr_bal (w 1) (y (i + 1)).toNat 0) (1) := Q8_ballast (X := X) (P := P) (V := V) (z := z) (d := d + 8) hP hI1 hW.1 m1
  obtain ⟨z1, hO, hB⟩ := lw_q (w1 := w) hI hc hW (mX_X_rfl _ _ _) rfl
  obtain ⟨V2, hA, h0, hV⟩ := LX_ballast hP ho hO (by unfold mq_b; (repeat' split) <;> first | (intro _; rfl) | (intro h; exact absurd rfl h))
  obtain ⟨hB2, hM2, hw2, hn2, ho2, hd2⟩ := lw_g hI hG hB (fun r r1 _ => hV r r1)
  have hA : mv_call X (d + 14) 289 [.ref x, .int (nZ (y (i + 1))), .ref (x + 389)] (mz_h P V, z) = _ := hA
  have hr := Q9_ballast (X := X) (P := P) (V := V2) (z := z1) (d := d + 9) hM2 (by rw [hw2.1.1]; exact hI1) m1
  rw [hw2.1.1] at hr
  have hr : mv_call X (d + 14) 200 [.ref (x + 376), .int (nZ (y (i + 1)))] (mz_h P V2, z1) = some (.inl (some (.int (nZ ((if mr_has (w 1) (y (i + 1)) then mr_bal (w 1) (y (i + 1)).toNat 0 else 0))))), (mz_h P (mq_t V2 (x + 376) (mq_b (w 1) (y (i + 1)))), z1)) := hr
  have hcd : 0 ≤ mq_b (w 1) (y (i + 1)) ∧ mq_b (w 1) (y (i + 1)) ≤ 3 := by unfold mq_b; (repeat' split) <;> decide
  refine ⟨P, mq_t V2 (x + 376) (mq_b (w 1) (y (i + 1))), z1, v, n, w, .int (nZ (mq_b (w 1) (y (i + 1)))), .int (nZ ((if mr_has (w 1) (y (i + 1)) then mr_bal (w 1) (y (i + 1)).toNat 0 else 0))), ?_, lw_fin hI hB2 (mq_t_is hw2 _) (mq_t_X _ _ _) (mg_J_b (by omega) hJ)⟩
  rw [bk_L_law_552, lw_rdj (c := 1) hx.1 hS 1 rfl (by omega)]
  simp only [mv_clI, mv_cl, hA]
  rw [lw_rdj (c := 1) hn2 hS 1 rfl (by omega), mz_rcv hM2.o]
  simp only [hr]
  rw [mz_rcv hM2.o]
  simp only [Q9_thrown (d := d + 13) hM2]
  have heq : mq_b (w 1) (y (i + 1)) = 0 → (if mr_has (w 1) (y (i + 1)) then mr_bal (w 1) (y (i + 1)).toNat 0 else 0) = mr_bal (w 1) (y (i + 1)).toNat 0 := fun c0 => by
      unfold mq_b at c0
      by_cases c : mr_has (w 1) (y (i + 1))
      · rw [if_pos c]
      · rw [if_neg c] at c0; exact absurd c0 (by decide)
  exact lw_tail rfl rfl (mq_t_0 _ _ _) hcd ho2 (fun c0 => by rw [mq_t_r _ _ (by omega), h0 c0, heq c0])
theorem LS_608 (hI : lw_I X x P V z v n w b) (hS : lw_X X x b0 L y) (hi : i + 5 ≤ L) : lw_T X (d + 14) x b0 608 i P V z b := by
  intro j6 j7
  obtain ⟨⟨hP, hW, hM, hw, hJ⟩, ⟨hx, ho, hD⟩, ⟨hz, hvz⟩, hvv, hLn⟩ := id hI
  have hG := hJ.1
  have hI1 := hG.1.1
  have m1 := hS.2.2.2 (i + 1)
  have hc : mv_call X (d + 13) 90 [.ref x, .int (nZ (y (i + 1)))] (mz_h P V, z) = mq_r P V z (mq_b (w 1) (y (i + 1))) (mr_ho (w 1) (y (i + 1)).toNat 0) (1) := Q8_height (X := X) (P := P) (V := V) (z := z) (d := d + 8) hP hI1 hW.1 m1
  obtain ⟨z1, hO, hB⟩ := lw_q (w1 := w) hI hc hW (mX_X_rfl _ _ _) rfl
  obtain ⟨V2, hA, h0, hV⟩ := LX_height hP ho hO (by unfold mq_b; (repeat' split) <;> first | (intro _; rfl) | (intro h; exact absurd rfl h))
  obtain ⟨hB2, hM2, hw2, hn2, ho2, hd2⟩ := lw_g hI hG hB (fun r r1 _ => hV r r1)
  have hA : mv_call X (d + 14) 290 [.ref x, .int (nZ (y (i + 1))), .ref (x + 389)] (mz_h P V, z) = _ := hA
  have hr := Q9_height (X := X) (P := P) (V := V2) (z := z1) (d := d + 8) hM2 (by rw [hw2.1.1]; exact hI1) m1
  rw [hw2.1.1] at hr
  have hr : mv_call X (d + 14) 201 [.ref (x + 376), .int (nZ (y (i + 1)))] (mz_h P V2, z1) = some (.inl (some (.int (nZ ((if mr_has (w 1) (y (i + 1)) then mr_ho (w 1) (y (i + 1)).toNat 0 else 0))))), (mz_h P (mq_t V2 (x + 376) (mq_b (w 1) (y (i + 1)))), z1)) := hr
  have hcd : 0 ≤ mq_b (w 1) (y (i + 1)) ∧ mq_b (w 1) (y (i + 1)) ≤ 3 := by unfold mq_b; (repeat' split) <;> decide
  refine ⟨P, mq_t V2 (x + 376) (mq_b (w 1) (y (i + 1))), z1, v, n, w, .int (nZ (mq_b (w 1) (y (i + 1)))), .int (nZ ((if mr_has (w 1) (y (i + 1)) then mr_ho (w 1) (y (i + 1)).toNat 0 else 0))), ?_, lw_fin hI hB2 (mq_t_is hw2 _) (mq_t_X _ _ _) (mg_J_b (by omega) hJ)⟩
  rw [bk_L_law_608, lw_rdj (c := 1) hx.1 hS 1 rfl (by omega)]
  simp only [mv_clI, mv_cl, hA]
  rw [lw_rdj (c := 1) hn2 hS 1 rfl (by omega), mz_rcv hM2.o]
  simp only [hr]
  rw [mz_rcv hM2.o]
  simp only [Q9_thrown (d := d + 13) hM2]
  have heq : mq_b (w 1) (y (i + 1)) = 0 → (if mr_has (w 1) (y (i + 1)) then mr_ho (w 1) (y (i + 1)).toNat 0 else 0) = mr_ho (w 1) (y (i + 1)).toNat 0 := fun c0 => by
      unfold mq_b at c0
      by_cases c : mr_has (w 1) (y (i + 1))
      · rw [if_pos c]
      · rw [if_neg c] at c0; exact absurd c0 (by decide)
  exact lw_tail rfl rfl (mq_t_0 _ _ _) hcd ho2 (fun c0 => by rw [mq_t_r _ _ (by omega), h0 c0, heq c0])
theorem LS_987 (hI : lw_I X x P V z v n w b) (hS : lw_X X x b0 L y) (hi : i + 5 ≤ L) : lw_T X (d + 14) x b0 987 i P V z b := by
  intro j6 j7
  obtain ⟨⟨hP, hW, hM, hw, hJ⟩, ⟨hx, ho, hD⟩, ⟨hz, hvz⟩, hvv, hLn⟩ := id hI
  have hG := hJ.1
  have hI1 := hG.1.1
  have m1 := hS.2.2.2 (i + 1)
  have hc : mv_call X (d + 13) 96 [.ref x, .int (nZ (y (i + 1)))] (mz_h P V, z) = mq_r P V z (mq_b (w 1) (y (i + 1))) ((w 1) (6 + 11 * (y (i + 1)).toNat + 4)) (1) := Q8_bagCount (X := X) (P := P) (V := V) (z := z) (d := d + 8) hP hI1 hW.1 m1
  obtain ⟨z1, hO, hB⟩ := lw_q (w1 := w) hI hc hW (mX_X_rfl _ _ _) rfl
  obtain ⟨V2, hA, h0, hV⟩ := LX_bagCount hP ho hO (by unfold mq_b; (repeat' split) <;> first | (intro _; rfl) | (intro h; exact absurd rfl h))
  obtain ⟨hB2, hM2, hw2, hn2, ho2, hd2⟩ := lw_g hI hG hB (fun r r1 _ => hV r r1)
  have hA : mv_call X (d + 14) 296 [.ref x, .int (nZ (y (i + 1))), .ref (x + 389)] (mz_h P V, z) = _ := hA
  have hr := Q9_bagCount (X := X) (P := P) (V := V2) (z := z1) (d := d + 9) hM2 (by rw [hw2.1.1]; exact hI1) m1
  rw [hw2.1.1] at hr
  have hr : mv_call X (d + 14) 205 [.ref (x + 376), .int (nZ (y (i + 1)))] (mz_h P V2, z1) = some (.inl (some (.int (nZ ((if mr_has (w 1) (y (i + 1)) then (w 1) (6 + 11 * (y (i + 1)).toNat + 4) else 0))))), (mz_h P (mq_t V2 (x + 376) (mq_b (w 1) (y (i + 1)))), z1)) := hr
  have hcd : 0 ≤ mq_b (w 1) (y (i + 1)) ∧ mq_b (w 1) (y (i + 1)) ≤ 3 := by unfold mq_b; (repeat' split) <;> decide
  refine ⟨P, mq_t V2 (x + 376) (mq_b (w 1) (y (i + 1))), z1, v, n, w, .int (nZ (mq_b (w 1) (y (i + 1)))), .int (nZ ((if mr_has (w 1) (y (i + 1)) then (w 1) (6 + 11 * (y (i + 1)).toNat + 4) else 0))), ?_, lw_fin hI hB2 (mq_t_is hw2 _) (mq_t_X _ _ _) (mg_J_b (by omega) hJ)⟩
  rw [bk_L_law_987, lw_rdj (c := 1) hx.1 hS 1 rfl (by omega)]
  simp only [mv_clI, mv_cl, hA]
  rw [lw_rdj (c := 1) hn2 hS 1 rfl (by omega), mz_rcv hM2.o]
  simp only [hr]
  rw [mz_rcv hM2.o]
  simp only [Q9_thrown (d := d + 13) hM2]
  have heq : mq_b (w 1) (y (i + 1)) = 0 → (if mr_has (w 1) (y (i + 1)) then (w 1) (6 + 11 * (y (i + 1)).toNat + 4) else 0) = (w 1) (6 + 11 * (y (i + 1)).toNat + 4) := fun c0 => by
      unfold mq_b at c0
      by_cases c : mr_has (w 1) (y (i + 1))
      · rw [if_pos c]
      · rw [if_neg c] at c0; exact absurd c0 (by decide)
  exact lw_tail rfl rfl (mq_t_0 _ _ _) hcd ho2 (fun c0 => by rw [mq_t_r _ _ (by omega), h0 c0, heq c0])
theorem LS_1439 (hI : lw_I X x P V z v n w b) (hS : lw_X X x b0 L y) (hi : i + 5 ≤ L) : lw_T X (d + 14) x b0 1439 i P V z b := by
  intro j6 j7
  obtain ⟨⟨hP, hW, hM, hw, hJ⟩, ⟨hx, ho, hD⟩, ⟨hz, hvz⟩, hvv, hLn⟩ := id hI
  have hG := hJ.1
  have hI1 := hG.1.1
  have m1 := hS.2.2.2 (i + 1)
  have hc : mv_call X (d + 13) 103 [.ref x, .int (nZ (y (i + 1)))] (mz_h P V, z) = mq_r P V z (mq_b (w 1) (y (i + 1))) (mr_top (w 1) (y (i + 1)).toNat) (1) := Q8_top (X := X) (P := P) (V := V) (z := z) (d := d + 8) hP hI1 hW.1 m1
  obtain ⟨z1, hO, hB⟩ := lw_q (w1 := w) hI hc hW (mX_X_rfl _ _ _) rfl
  obtain ⟨V2, hA, h0, hV⟩ := LX_top hP ho hO (by unfold mq_b; (repeat' split) <;> first | (intro _; rfl) | (intro h; exact absurd rfl h))
  obtain ⟨hB2, hM2, hw2, hn2, ho2, hd2⟩ := lw_g hI hG hB (fun r r1 _ => hV r r1)
  have hA : mv_call X (d + 14) 303 [.ref x, .int (nZ (y (i + 1))), .ref (x + 389)] (mz_h P V, z) = _ := hA
  have hr := Q9_top (X := X) (P := P) (V := V2) (z := z1) (d := d + 7) hM2 (by rw [hw2.1.1]; exact hI1) m1
  rw [hw2.1.1] at hr
  have hr : mv_call X (d + 14) 212 [.ref (x + 376), .int (nZ (y (i + 1)))] (mz_h P V2, z1) = some (.inl (some (.int (nZ ((if mr_has (w 1) (y (i + 1)) then mr_top (w 1) (y (i + 1)).toNat else 0))))), (mz_h P (mq_t V2 (x + 376) (mq_b (w 1) (y (i + 1)))), z1)) := hr
  have hcd : 0 ≤ mq_b (w 1) (y (i + 1)) ∧ mq_b (w 1) (y (i + 1)) ≤ 3 := by unfold mq_b; (repeat' split) <;> decide
  refine ⟨P, mq_t V2 (x + 376) (mq_b (w 1) (y (i + 1))), z1, v, n, w, .int (nZ (mq_b (w 1) (y (i + 1)))), .int (nZ ((if mr_has (w 1) (y (i + 1)) then mr_top (w 1) (y (i + 1)).toNat else 0))), ?_, lw_fin hI hB2 (mq_t_is hw2 _) (mq_t_X _ _ _) (mg_J_b (by omega) hJ)⟩
  rw [bk_L_law_1439, lw_rdj (c := 1) hx.1 hS 1 rfl (by omega)]
  simp only [mv_clI, mv_cl, hA]
  rw [lw_rdj (c := 1) hn2 hS 1 rfl (by omega), mz_rcv hM2.o]
  simp only [hr]
  rw [mz_rcv hM2.o]
  simp only [Q9_thrown (d := d + 13) hM2]
  have heq : mq_b (w 1) (y (i + 1)) = 0 → (if mr_has (w 1) (y (i + 1)) then mr_top (w 1) (y (i + 1)).toNat else 0) = mr_top (w 1) (y (i + 1)).toNat := fun c0 => by
      unfold mq_b at c0
      by_cases c : mr_has (w 1) (y (i + 1))
      · rw [if_pos c]
      · rw [if_neg c] at c0; exact absurd c0 (by decide)
  exact lw_tail rfl rfl (mq_t_0 _ _ _) hcd ho2 (fun c0 => by rw [mq_t_r _ _ (by omega), h0 c0, heq c0])
theorem LS_664 (hI : lw_I X x P V z v n w b) (hS : lw_X X x b0 L y) (hi : i + 5 ≤ L) : lw_T X (d + 14) x b0 664 i P V z b := by
  intro j6 j7
  obtain ⟨⟨hP, hW, hM, hw, hJ⟩, ⟨hx, ho, hD⟩, ⟨hz, hvz⟩, hvv, hLn⟩ := id hI
  have hG := hJ.1
  have hI1 := hG.1.1
  have m1 := hS.2.2.2 (i + 1)
  have hc : mv_call X (d + 13) 91 [.ref x, .int (nZ (y (i + 1)))] (mz_h P V, z) = mq_r P V z (mq_b (w 1) (y (i + 1))) ((if (w 1) (6 + 11 * (y (i + 1)).toNat + 3) < mr_ho (w 1) (y (i + 1)).toNat 0 then (1 : Int) else 0)) (1) := Q8_isBursting (X := X) (P := P) (V := V) (z := z) (d := d + 8) hP hI1 hW.1 m1
  obtain ⟨z1, hO, hB⟩ := lw_q (w1 := w) hI hc hW (mX_X_rfl _ _ _) rfl
  obtain ⟨V2, hA, h0, hV⟩ := LX_isBursting hP ho hO (by unfold mq_b; (repeat' split) <;> first | (intro _; rfl) | (intro h; exact absurd rfl h))
  obtain ⟨hB2, hM2, hw2, hn2, ho2, hd2⟩ := lw_g hI hG hB (fun r r1 _ => hV r r1)
  have hA : mv_call X (d + 14) 291 [.ref x, .int (nZ (y (i + 1))), .ref (x + 389)] (mz_h P V, z) = _ := hA
  have hr := Q9_isBursting (X := X) (P := P) (V := V2) (z := z1) (d := d + 7) hM2 (by rw [hw2.1.1]; exact hI1) m1
  rw [hw2.1.1] at hr
  have hr : mv_call X (d + 14) 202 [.ref (x + 376), .int (nZ (y (i + 1)))] (mz_h P V2, z1) = some (.inl (some (.int (nZ ((if mr_has (w 1) (y (i + 1)) then (if (w 1) (6 + 11 * (y (i + 1)).toNat + 3) < mr_ho (w 1) (y (i + 1)).toNat 0 then (1 : Int) else 0) else 0))))), (mz_h P (mq_t V2 (x + 376) (mq_b (w 1) (y (i + 1)))), z1)) := hr
  have hcd : 0 ≤ mq_b (w 1) (y (i + 1)) ∧ mq_b (w 1) (y (i + 1)) ≤ 3 := by unfold mq_b; (repeat' split) <;> decide
  refine ⟨P, mq_t V2 (x + 376) (mq_b (w 1) (y (i + 1))), z1, v, n, w, .int (nZ (mq_b (w 1) (y (i + 1)))), .int (nZ ((if mr_has (w 1) (y (i + 1)) then (if (w 1) (6 + 11 * (y (i + 1)).toNat + 3) < mr_ho (w 1) (y (i + 1)).toNat 0 then (1 : Int) else 0) else 0))), ?_, lw_fin hI hB2 (mq_t_is hw2 _) (mq_t_X _ _ _) (mg_J_b (by omega) hJ)⟩
  rw [bk_L_law_664, lw_rdj (c := 1) hx.1 hS 1 rfl (by omega)]
  simp only [mv_clI, mv_cl, hA]
  rw [lw_rdj (c := 1) hn2 hS 1 rfl (by omega), mz_rcv hM2.o]
  simp only [hr]
  rw [mz_rcv hM2.o]
  simp only [Q9_thrown (d := d + 13) hM2]
  have heq : mq_b (w 1) (y (i + 1)) = 0 → (if mr_has (w 1) (y (i + 1)) then (if (w 1) (6 + 11 * (y (i + 1)).toNat + 3) < mr_ho (w 1) (y (i + 1)).toNat 0 then (1 : Int) else 0) else 0) = (if (w 1) (6 + 11 * (y (i + 1)).toNat + 3) < mr_ho (w 1) (y (i + 1)).toNat 0 then (1 : Int) else 0) := fun c0 => by
      unfold mq_b at c0
      by_cases c : mr_has (w 1) (y (i + 1))
      · rw [if_pos c]
      · rw [if_neg c] at c0; exact absurd c0 (by decide)
  exact lw_tailB rfl rfl (mq_t_0 _ _ _) hcd ho2 (fun c0 => by rw [mq_t_r _ _ (by omega), h0 c0, heq c0])
theorem LS_433 (hI : lw_I X x P V z v n w b) (hS : lw_X X x b0 L y) (hi : i + 5 ≤ L) : lw_T X (d + 14) x b0 433 i P V z b := by
  intro j6 j7
  obtain ⟨⟨hP, hW, hM, hw, hJ⟩, ⟨hx, ho, hD⟩, ⟨hz, hvz⟩, hvv, hLn⟩ := id hI
  have hG := hJ.1
  have hI1 := hG.1.1
  have m1 := hS.2.2.2 (i + 1)
  have hc : mv_call X (d + 13) 87 [.ref x, .int (nZ (y (i + 1)))] (mz_h P V, z) = mq_r P V z (if 0 ≤ y (i + 1) ∧ y (i + 1) ≤ 9 then (0 : Int) else 1) ((if mr_has (w 1) (y (i + 1)) then (1 : Int) else 0)) (0) := Q8_isMoored (X := X) (P := P) (V := V) (z := z) (d := d + 10) hP hI1 hW.1 m1
  obtain ⟨z1, hO, hB⟩ := lw_q (w1 := w) hI hc hW (mX_X_rfl _ _ _) rfl
  obtain ⟨V2, hA, h0, hV⟩ := LX_isMoored hP ho hO (by (repeat' split) <;> first | (intro _; rfl) | (intro h; exact absurd rfl h))
  obtain ⟨hB2, hM2, hw2, hn2, ho2, hd2⟩ := lw_g hI hG hB (fun r r1 _ => hV r r1)
  have hA : mv_call X (d + 14) 287 [.ref x, .int (nZ (y (i + 1))), .ref (x + 389)] (mz_h P V, z) = _ := hA
  have hr := Q9_isMoored (X := X) (P := P) (V := V2) (z := z1) (d := d + 10) hM2 (by rw [hw2.1.1]; exact hI1) m1
  rw [hw2.1.1] at hr
  have hr : mv_call X (d + 14) 197 [.ref (x + 376), .int (nZ (y (i + 1)))] (mz_h P V2, z1) = some (.inl (some (.int (nZ ((if mr_has (w 1) (y (i + 1)) then (1 : Int) else 0))))), (mz_h P (mq_t V2 (x + 376) ((if 0 ≤ y (i + 1) ∧ y (i + 1) ≤ 9 then (0 : Int) else 1))), z1)) := hr
  have hcd : 0 ≤ (if 0 ≤ y (i + 1) ∧ y (i + 1) ≤ 9 then (0 : Int) else 1) ∧ (if 0 ≤ y (i + 1) ∧ y (i + 1) ≤ 9 then (0 : Int) else 1) ≤ 3 := by (repeat' split) <;> decide
  refine ⟨P, mq_t V2 (x + 376) ((if 0 ≤ y (i + 1) ∧ y (i + 1) ≤ 9 then (0 : Int) else 1)), z1, v, n, w, .int (nZ ((if 0 ≤ y (i + 1) ∧ y (i + 1) ≤ 9 then (0 : Int) else 1))), .int (nZ ((if mr_has (w 1) (y (i + 1)) then (1 : Int) else 0))), ?_, lw_fin hI hB2 (mq_t_is hw2 _) (mq_t_X _ _ _) (mg_J_b (by omega) hJ)⟩
  rw [bk_L_law_433, lw_rdj (c := 1) hx.1 hS 1 rfl (by omega)]
  simp only [mv_clI, mv_cl, hA]
  rw [lw_rdj (c := 1) hn2 hS 1 rfl (by omega), mz_rcv hM2.o]
  simp only [hr]
  rw [mz_rcv hM2.o]
  simp only [Q9_thrown (d := d + 13) hM2]
  have heq : (if 0 ≤ y (i + 1) ∧ y (i + 1) ≤ 9 then (0 : Int) else 1) = 0 → (if mr_has (w 1) (y (i + 1)) then (1 : Int) else 0) = (if mr_has (w 1) (y (i + 1)) then (1 : Int) else 0) := fun c0 => rfl
  exact lw_tailB rfl rfl (mq_t_0 _ _ _) hcd ho2 (fun c0 => by rw [mq_t_r _ _ (by omega), h0 c0, heq c0])
theorem LS_1383 (hI : lw_I X x P V z v n w b) (hS : lw_X X x b0 L y) (hi : i + 5 ≤ L) : lw_T X (d + 14) x b0 1383 i P V z b := by
  intro j6 j7
  obtain ⟨⟨hP, hW, hM, hw, hJ⟩, ⟨hx, ho, hD⟩, ⟨hz, hvz⟩, hvv, hLn⟩ := id hI
  have hG := hJ.1
  have hI1 := hG.1.1
  have m1 := hS.2.2.2 (i + 1)
  have hc : mv_call X (d + 13) 102 [.ref x, .int (nZ (y (i + 1)))] (mz_h P V, z) = mq_r P V z (if 0 ≤ y (i + 1) ∧ y (i + 1) ≤ 23 then (0 : Int) else 1) ((w 1) (116 + (y (i + 1)).toNat)) (0) := Q8_wind (X := X) (P := P) (V := V) (z := z) (d := d + 11) hP hW.1 m1
  obtain ⟨z1, hO, hB⟩ := lw_q (w1 := w) hI hc hW (mX_X_rfl _ _ _) rfl
  obtain ⟨V2, hA, h0, hV⟩ := LX_wind hP ho hO (by (repeat' split) <;> first | (intro _; rfl) | (intro h; exact absurd rfl h))
  obtain ⟨hB2, hM2, hw2, hn2, ho2, hd2⟩ := lw_g hI hG hB (fun r r1 _ => hV r r1)
  have hA : mv_call X (d + 14) 302 [.ref x, .int (nZ (y (i + 1))), .ref (x + 389)] (mz_h P V, z) = _ := hA
  have hr := Q9_wind (X := X) (P := P) (V := V2) (z := z1) (d := d + 11) hM2 m1
  rw [hw2.1.1] at hr
  have hr : mv_call X (d + 14) 211 [.ref (x + 376), .int (nZ (y (i + 1)))] (mz_h P V2, z1) = some (.inl (some (.int (nZ ((if 0 ≤ y (i + 1) ∧ y (i + 1) ≤ 23 then (w 1) (116 + (y (i + 1)).toNat) else 0))))), (mz_h P (mq_t V2 (x + 376) ((if 0 ≤ y (i + 1) ∧ y (i + 1) ≤ 23 then (0 : Int) else 1))), z1)) := hr
  have hcd : 0 ≤ (if 0 ≤ y (i + 1) ∧ y (i + 1) ≤ 23 then (0 : Int) else 1) ∧ (if 0 ≤ y (i + 1) ∧ y (i + 1) ≤ 23 then (0 : Int) else 1) ≤ 3 := by (repeat' split) <;> decide
  refine ⟨P, mq_t V2 (x + 376) ((if 0 ≤ y (i + 1) ∧ y (i + 1) ≤ 23 then (0 : Int) else 1)), z1, v, n, w, .int (nZ ((if 0 ≤ y (i + 1) ∧ y (i + 1) ≤ 23 then (0 : Int) else 1))), .int (nZ ((if 0 ≤ y (i + 1) ∧ y (i + 1) ≤ 23 then (w 1) (116 + (y (i + 1)).toNat) else 0))), ?_, lw_fin hI hB2 (mq_t_is hw2 _) (mq_t_X _ _ _) (mg_J_b (by omega) hJ)⟩
  rw [bk_L_law_1383, lw_rdj (c := 1) hx.1 hS 1 rfl (by omega)]
  simp only [mv_clI, mv_cl, hA]
  rw [lw_rdj (c := 1) hn2 hS 1 rfl (by omega), mz_rcv hM2.o]
  simp only [hr]
  rw [mz_rcv hM2.o]
  simp only [Q9_thrown (d := d + 13) hM2]
  have heq : (if 0 ≤ y (i + 1) ∧ y (i + 1) ≤ 23 then (0 : Int) else 1) = 0 → (if 0 ≤ y (i + 1) ∧ y (i + 1) ≤ 23 then (w 1) (116 + (y (i + 1)).toNat) else 0) = (w 1) (116 + (y (i + 1)).toNat) := fun c0 => by
      by_cases c : 0 ≤ y (i + 1) ∧ y (i + 1) ≤ 23
      · rw [if_pos c]
      · rw [if_neg c] at c0; exact absurd c0 (by decide)
  exact lw_tail rfl rfl (mq_t_0 _ _ _) hcd ho2 (fun c0 => by rw [mq_t_r _ _ (by omega), h0 c0, heq c0])
theorem LS_1521 (hI : lw_I X x P V z v n w b) (hS : lw_X X x b0 L y) (hi : i + 5 ≤ L) : lw_T X (d + 14) x b0 1521 i P V z b := by
  intro j6 j7
  obtain ⟨⟨hP, hW, hM, hw, hJ⟩, ⟨hx, ho, hD⟩, ⟨hz, hvz⟩, hvv, hLn⟩ := id hI
  have hG := hJ.1
  have hI1 := hG.1.1
  have m1 := hS.2.2.2 (i + 1)
  have hc : mv_call X (d + 13) 106 [.ref x, .int (nZ (y (i + 1)))] (mz_h P V, z) = mq_r P V z (if 0 ≤ y (i + 1) ∧ y (i + 1) ≤ 9 then (0 : Int) else 1) (mq_clm (w 1) (y (i + 1))) (0) := Q8_longestCalm (X := X) (P := P) (V := V) (z := z) (d := d + 10) hP hI1 hW.1 m1
  obtain ⟨z1, hO, hB⟩ := lw_q (w1 := w) hI hc hW (mX_X_rfl _ _ _) rfl
  obtain ⟨V2, hA, h0, hV⟩ := LX_longestCalm hP ho hO (by (repeat' split) <;> first | (intro _; rfl) | (intro h; exact absurd rfl h))
  obtain ⟨hB2, hM2, hw2, hn2, ho2, hd2⟩ := lw_g hI hG hB (fun r r1 _ => hV r r1)
  have hA : mv_call X (d + 14) 304 [.ref x, .int (nZ (y (i + 1))), .ref (x + 389)] (mz_h P V, z) = _ := hA
  have hr := Q9_longestCalm (X := X) (P := P) (V := V2) (z := z1) (d := d + 12) hM2 (by rw [hw2.1.1]; exact hI1) m1
  rw [hw2.1.1] at hr
  have hr : mv_call X (d + 14) 215 [.ref (x + 376), .int (nZ (y (i + 1)))] (mz_h P V2, z1) = some (.inl (some (.int (nZ ((if 0 ≤ y (i + 1) ∧ y (i + 1) ≤ 9 then mq_clm (w 1) (y (i + 1)) else 0))))), (mz_h P (mq_t V2 (x + 376) ((if 0 ≤ y (i + 1) ∧ y (i + 1) ≤ 9 then (0 : Int) else 1))), z1)) := hr
  have hcd : 0 ≤ (if 0 ≤ y (i + 1) ∧ y (i + 1) ≤ 9 then (0 : Int) else 1) ∧ (if 0 ≤ y (i + 1) ∧ y (i + 1) ≤ 9 then (0 : Int) else 1) ≤ 3 := by (repeat' split) <;> decide
  refine ⟨P, mq_t V2 (x + 376) ((if 0 ≤ y (i + 1) ∧ y (i + 1) ≤ 9 then (0 : Int) else 1)), z1, v, n, w, .int (nZ ((if 0 ≤ y (i + 1) ∧ y (i + 1) ≤ 9 then (0 : Int) else 1))), .int (nZ ((if 0 ≤ y (i + 1) ∧ y (i + 1) ≤ 9 then mq_clm (w 1) (y (i + 1)) else 0))), ?_, lw_fin hI hB2 (mq_t_is hw2 _) (mq_t_X _ _ _) (mg_J_b (by omega) hJ)⟩
  rw [bk_L_law_1521, lw_rdj (c := 1) hx.1 hS 1 rfl (by omega)]
  simp only [mv_clI, mv_cl, hA]
  rw [lw_rdj (c := 1) hn2 hS 1 rfl (by omega), mz_rcv hM2.o]
  simp only [hr]
  rw [mz_rcv hM2.o]
  simp only [Q9_thrown (d := d + 13) hM2]
  have heq : (if 0 ≤ y (i + 1) ∧ y (i + 1) ≤ 9 then (0 : Int) else 1) = 0 → (if 0 ≤ y (i + 1) ∧ y (i + 1) ≤ 9 then mq_clm (w 1) (y (i + 1)) else 0) = mq_clm (w 1) (y (i + 1)) := fun c0 => by
      by_cases c : 0 ≤ y (i + 1) ∧ y (i + 1) ≤ 9
      · rw [if_pos c]
      · rw [if_neg c] at c0; exact absurd c0 (by decide)
  exact lw_tail rfl rfl (mq_t_0 _ _ _) hcd ho2 (fun c0 => by rw [mq_t_r _ _ (by omega), h0 c0, heq c0])
theorem LS_1577 (hI : lw_I X x P V z v n w b) (hS : lw_X X x b0 L y) (hi : i + 5 ≤ L) : lw_T X (d + 14) x b0 1577 i P V z b := by
  intro j6 j7
  obtain ⟨⟨hP, hW, hM, hw, hJ⟩, ⟨hx, ho, hD⟩, ⟨hz, hvz⟩, hvv, hLn⟩ := id hI
  have hG := hJ.1
  have hI1 := hG.1.1
  have m1 := hS.2.2.2 (i + 1)
  have hc : mv_call X (d + 13) 107 [.ref x, .int (nZ (y (i + 1)))] (mz_h P V, z) = mq_r P V z (if 0 ≤ y (i + 1) ∧ y (i + 1) ≤ 9 then (0 : Int) else 1) (mq_clm (w 1) (y (i + 1))) (0) := Q8_longestCalmByTrying (X := X) (P := P) (V := V) (z := z) (d := d + 10) hP hI1 hW.1 m1
  obtain ⟨z1, hO, hB⟩ := lw_q (w1 := w) hI hc hW (mX_X_rfl _ _ _) rfl
  obtain ⟨V2, hA, h0, hV⟩ := LX_longestCalmByTrying hP ho hO (by (repeat' split) <;> first | (intro _; rfl) | (intro h; exact absurd rfl h))
  obtain ⟨hB2, hM2, hw2, hn2, ho2, hd2⟩ := lw_g hI hG hB (fun r r1 _ => hV r r1)
  have hA : mv_call X (d + 14) 305 [.ref x, .int (nZ (y (i + 1))), .ref (x + 389)] (mz_h P V, z) = _ := hA
  have hr := Q9_longestCalmByTrying (X := X) (P := P) (V := V2) (z := z1) (d := d + 11) hM2 (by rw [hw2.1.1]; exact hI1) m1
  rw [hw2.1.1] at hr
  have hr : mv_call X (d + 14) 216 [.ref (x + 376), .int (nZ (y (i + 1)))] (mz_h P V2, z1) = some (.inl (some (.int (nZ ((if 0 ≤ y (i + 1) ∧ y (i + 1) ≤ 9 then mq_clm (w 1) (y (i + 1)) else 0))))), (mz_h P (mq_t V2 (x + 376) ((if 0 ≤ y (i + 1) ∧ y (i + 1) ≤ 9 then (0 : Int) else 1))), z1)) := hr
  have hcd : 0 ≤ (if 0 ≤ y (i + 1) ∧ y (i + 1) ≤ 9 then (0 : Int) else 1) ∧ (if 0 ≤ y (i + 1) ∧ y (i + 1) ≤ 9 then (0 : Int) else 1) ≤ 3 := by (repeat' split) <;> decide
  refine ⟨P, mq_t V2 (x + 376) ((if 0 ≤ y (i + 1) ∧ y (i + 1) ≤ 9 then (0 : Int) else 1)), z1, v, n, w, .int (nZ ((if 0 ≤ y (i + 1) ∧ y (i + 1) ≤ 9 then (0 : Int) else 1))), .int (nZ ((if 0 ≤ y (i + 1) ∧ y (i + 1) ≤ 9 then mq_clm (w 1) (y (i + 1)) else 0))), ?_, lw_fin hI hB2 (mq_t_is hw2 _) (mq_t_X _ _ _) (mg_J_b (by omega) hJ)⟩
  rw [bk_L_law_1577, lw_rdj (c := 1) hx.1 hS 1 rfl (by omega)]
  simp only [mv_clI, mv_cl, hA]
  rw [lw_rdj (c := 1) hn2 hS 1 rfl (by omega), mz_rcv hM2.o]
  simp only [hr]
  rw [mz_rcv hM2.o]
  simp only [Q9_thrown (d := d + 13) hM2]
  have heq : (if 0 ≤ y (i + 1) ∧ y (i + 1) ≤ 9 then (0 : Int) else 1) = 0 → (if 0 ≤ y (i + 1) ∧ y (i + 1) ≤ 9 then mq_clm (w 1) (y (i + 1)) else 0) = mq_clm (w 1) (y (i + 1)) := fun c0 => by
      by_cases c : 0 ≤ y (i + 1) ∧ y (i + 1) ≤ 9
      · rw [if_pos c]
      · rw [if_neg c] at c0; exact absurd c0 (by decide)
  exact lw_tail rfl rfl (mq_t_0 _ _ _) hcd ho2 (fun c0 => by rw [mq_t_r _ _ (by omega), h0 c0, heq c0])
theorem LS_727 (hI : lw_I X x P V z v n w b) (hS : lw_X X x b0 L y) (hi : i + 5 ≤ L) : lw_T X (d + 14) x b0 727 i P V z b := by
  intro j6 j7
  obtain ⟨⟨hP, hW, hM, hw, hJ⟩, ⟨hx, ho, hD⟩, ⟨hz, hvz⟩, hvv, hLn⟩ := id hI
  have hG := hJ.1
  have hI1 := hG.1.1
  have m1 := hS.2.2.2 (i + 1)
  have hc : mv_call X (d + 13) 92 [.ref x, .int (nZ (y (i + 1)))] (mz_h P V, z) = mq_r P V z (if mq_rnk (w 1) (y (i + 1)) 10 0 = -1 then (1 : Int) else 0) (mq_rnk (w 1) (y (i + 1)) 10 0) (1) := Q8_berthByHeight (X := X) (P := P) (V := V) (z := z) (d := d + 7) hP hI1 hW.1 m1
  obtain ⟨z1, hO, hB⟩ := lw_q (w1 := w) hI hc hW (mX_X_rfl _ _ _) rfl
  obtain ⟨V2, hA, h0, hV⟩ := LX_berthByHeight hP ho hO (by (repeat' split) <;> first | (intro _; rfl) | (intro h; exact absurd rfl h))
  obtain ⟨hB2, hM2, hw2, hn2, ho2, hd2⟩ := lw_g hI hG hB (fun r r1 _ => hV r r1)
  have hA : mv_call X (d + 14) 292 [.ref x, .int (nZ (y (i + 1))), .ref (x + 389)] (mz_h P V, z) = _ := hA
  have hr := Q9_berthByHeight (X := X) (P := P) (V := V2) (z := z1) (d := d + 7) hM2 (by rw [hw2.1.1]; exact hI1) m1
  rw [hw2.1.1] at hr
  have hr : mv_call X (d + 14) 204 [.ref (x + 376), .int (nZ (y (i + 1)))] (mz_h P V2, z1) = some (.inl (some (.int (nZ ((if mq_rnk (w 1) (y (i + 1)) 10 0 = -1 then 0 else mq_rnk (w 1) (y (i + 1)) 10 0))))), (mz_h P (mq_t V2 (x + 376) ((if mq_rnk (w 1) (y (i + 1)) 10 0 = -1 then (1 : Int) else 0))), z1)) := hr
  have hcd : 0 ≤ (if mq_rnk (w 1) (y (i + 1)) 10 0 = -1 then (1 : Int) else 0) ∧ (if mq_rnk (w 1) (y (i + 1)) 10 0 = -1 then (1 : Int) else 0) ≤ 3 := by (repeat' split) <;> decide
  refine ⟨P, mq_t V2 (x + 376) ((if mq_rnk (w 1) (y (i + 1)) 10 0 = -1 then (1 : Int) else 0)), z1, v, n, w, .int (nZ ((if mq_rnk (w 1) (y (i + 1)) 10 0 = -1 then (1 : Int) else 0))), .int (nZ ((if mq_rnk (w 1) (y (i + 1)) 10 0 = -1 then 0 else mq_rnk (w 1) (y (i + 1)) 10 0))), ?_, lw_fin hI hB2 (mq_t_is hw2 _) (mq_t_X _ _ _) (mg_J_b (by omega) hJ)⟩
  rw [bk_L_law_727, lw_rdj (c := 1) hx.1 hS 1 rfl (by omega)]
  simp only [mv_clI, mv_cl, hA]
  rw [lw_rdj (c := 1) hn2 hS 1 rfl (by omega), mz_rcv hM2.o]
  simp only [hr]
  rw [mz_rcv hM2.o]
  simp only [Q9_thrown (d := d + 13) hM2]
  have heq : (if mq_rnk (w 1) (y (i + 1)) 10 0 = -1 then (1 : Int) else 0) = 0 → (if mq_rnk (w 1) (y (i + 1)) 10 0 = -1 then 0 else mq_rnk (w 1) (y (i + 1)) 10 0) = mq_rnk (w 1) (y (i + 1)) 10 0 := fun c0 => by
      by_cases c : mq_rnk (w 1) (y (i + 1)) 10 0 = -1
      · rw [if_pos c] at c0; exact absurd c0 (by decide)
      · rw [if_neg c]
  exact lw_tail rfl rfl (mq_t_0 _ _ _) hcd ho2 (fun c0 => by rw [mq_t_r _ _ (by omega), h0 c0, heq c0])
theorem LS_1043 (hI : lw_I X x P V z v n w b) (hS : lw_X X x b0 L y) (hi : i + 5 ≤ L) : lw_T X (d + 14) x b0 1043 i P V z b := by
  intro j6 j7
  obtain ⟨⟨hP, hW, hM, hw, hJ⟩, ⟨hx, ho, hD⟩, ⟨hz, hvz⟩, hvv, hLn⟩ := id hI
  have hG := hJ.1
  have hI1 := hG.1.1
  have m1 := hS.2.2.2 (i + 1)
  have m2 := hS.2.2.2 (i + 2)
  have hc : mv_call X (d + 13) 97 [.ref x, .int (nZ (y (i + 1))), .int (nZ (y (i + 2)))] (mz_h P V, z) = mq_r P V z (if mr_has (w 1) (y (i + 1)) then (if 0 ≤ y (i + 2) ∧ y (i + 2) < (w 1) (6 + 11 * (y (i + 1)).toNat + 4) then (0 : Int) else 2) else 1) ((w 1) (6 + 11 * (y (i + 1)).toNat + (5 + (y (i + 2)).toNat))) ((if mr_has (w 1) (y (i + 1)) then 2 else 1)) := Q8_bagWeight (X := X) (P := P) (V := V) (z := z) (d := d + 9) hP hI1 hW.1 m1 m2
  obtain ⟨z1, hO, hB⟩ := lw_q (w1 := w) hI hc hW (mX_X_rfl _ _ _) rfl
  obtain ⟨V2, hA, h0, hV⟩ := LX_bagWeight hP ho hO (by (repeat' split) <;> first | (intro _; rfl) | (intro h; exact absurd rfl h))
  obtain ⟨hB2, hM2, hw2, hn2, ho2, hd2⟩ := lw_g hI hG hB (fun r r1 _ => hV r r1)
  have hA : mv_call X (d + 14) 297 [.ref x, .int (nZ (y (i + 1))), .int (nZ (y (i + 2))), .ref (x + 389)] (mz_h P V, z) = _ := hA
  have hr := Q9_bagWeight (X := X) (P := P) (V := V2) (z := z1) (d := d + 10) hM2 (by rw [hw2.1.1]; exact hI1) m1 m2
  rw [hw2.1.1] at hr
  have hr : mv_call X (d + 14) 206 [.ref (x + 376), .int (nZ (y (i + 1))), .int (nZ (y (i + 2)))] (mz_h P V2, z1) = some (.inl (some (.int (nZ ((if mr_has (w 1) (y (i + 1)) ∧ 0 ≤ y (i + 2) ∧ y (i + 2) < (w 1) (6 + 11 * (y (i + 1)).toNat + 4) then (w 1) (6 + 11 * (y (i + 1)).toNat + (5 + (y (i + 2)).toNat)) else 0))))), (mz_h P (mq_t V2 (x + 376) ((if mr_has (w 1) (y (i + 1)) then (if 0 ≤ y (i + 2) ∧ y (i + 2) < (w 1) (6 + 11 * (y (i + 1)).toNat + 4) then (0 : Int) else 2) else 1))), z1)) := hr
  have hcd : 0 ≤ (if mr_has (w 1) (y (i + 1)) then (if 0 ≤ y (i + 2) ∧ y (i + 2) < (w 1) (6 + 11 * (y (i + 1)).toNat + 4) then (0 : Int) else 2) else 1) ∧ (if mr_has (w 1) (y (i + 1)) then (if 0 ≤ y (i + 2) ∧ y (i + 2) < (w 1) (6 + 11 * (y (i + 1)).toNat + 4) then (0 : Int) else 2) else 1) ≤ 3 := by (repeat' split) <;> decide
  refine ⟨P, mq_t V2 (x + 376) ((if mr_has (w 1) (y (i + 1)) then (if 0 ≤ y (i + 2) ∧ y (i + 2) < (w 1) (6 + 11 * (y (i + 1)).toNat + 4) then (0 : Int) else 2) else 1)), z1, v, n, w, .int (nZ ((if mr_has (w 1) (y (i + 1)) then (if 0 ≤ y (i + 2) ∧ y (i + 2) < (w 1) (6 + 11 * (y (i + 1)).toNat + 4) then (0 : Int) else 2) else 1))), .int (nZ ((if mr_has (w 1) (y (i + 1)) ∧ 0 ≤ y (i + 2) ∧ y (i + 2) < (w 1) (6 + 11 * (y (i + 1)).toNat + 4) then (w 1) (6 + 11 * (y (i + 1)).toNat + (5 + (y (i + 2)).toNat)) else 0))), ?_, lw_fin hI hB2 (mq_t_is hw2 _) (mq_t_X _ _ _) (mg_J_b (by omega) hJ)⟩
  rw [bk_L_law_1043, lw_rdj (c := 1) hx.1 hS 1 rfl (by omega), lw_rdj (c := 2) hx.1 hS 2 rfl (by omega)]
  simp only [mv_clI, mv_cl, hA]
  rw [lw_rdj (c := 1) hn2 hS 1 rfl (by omega), lw_rdj (c := 2) hn2 hS 2 rfl (by omega), mz_rcv hM2.o]
  simp only [hr]
  rw [mz_rcv hM2.o]
  simp only [Q9_thrown (d := d + 13) hM2]
  have heq : (if mr_has (w 1) (y (i + 1)) then (if 0 ≤ y (i + 2) ∧ y (i + 2) < (w 1) (6 + 11 * (y (i + 1)).toNat + 4) then (0 : Int) else 2) else 1) = 0 → (if mr_has (w 1) (y (i + 1)) ∧ 0 ≤ y (i + 2) ∧ y (i + 2) < (w 1) (6 + 11 * (y (i + 1)).toNat + 4) then (w 1) (6 + 11 * (y (i + 1)).toNat + (5 + (y (i + 2)).toNat)) else 0) = (w 1) (6 + 11 * (y (i + 1)).toNat + (5 + (y (i + 2)).toNat)) := fun c0 => by
      by_cases c1 : mr_has (w 1) (y (i + 1))
      · by_cases c2 : 0 ≤ y (i + 2) ∧ y (i + 2) < (w 1) (6 + 11 * (y (i + 1)).toNat + 4)
        · rw [if_pos ⟨c1, c2⟩]
        · rw [if_pos c1, if_neg c2] at c0; exact absurd c0 (by decide)
      · rw [if_neg c1] at c0; exact absurd c0 (by decide)
  exact lw_tail rfl rfl (mq_t_0 _ _ _) hcd ho2 (fun c0 => by rw [mq_t_r _ _ (by omega), h0 c0, heq c0])
theorem LS_1111 (hI : lw_I X x P V z v n w b) (hS : lw_X X x b0 L y) (hi : i + 5 ≤ L) : lw_T X (d + 14) x b0 1111 i P V z b := by
  intro j6 j7
  obtain ⟨⟨hP, hW, hM, hw, hJ⟩, ⟨hx, ho, hD⟩, ⟨hz, hvz⟩, hvv, hLn⟩ := id hI
  have hG := hJ.1
  have hI1 := hG.1.1
  have m1 := hS.2.2.2 (i + 1)
  have m2 := hS.2.2.2 (i + 2)
  have hc : mv_call X (d + 13) 98 [.ref x, .int (nZ (y (i + 1))), .int (nZ (y (i + 2)))] (mz_h P V, z) = mq_r P V z (mq_ds (w 1) (y (i + 1)) (y (i + 2))) (mb_pop (mr_bst (w 1) (y (i + 1)).toNat (y (i + 2))).toNat) (mq_dx (y (i + 2))) := Q8_fewestDrops (X := X) (P := P) (V := V) (z := z) (d := d + 8) hP hI1 hW.1 m1 m2
  obtain ⟨z1, hO, hB⟩ := lw_q (w1 := w) hI hc hW (mX_X_rfl _ _ _) rfl
  obtain ⟨V2, hA, h0, hV⟩ := LX_fewestDrops hP ho hO (by unfold mq_ds mq_dx; (repeat' split) <;> first | (intro _; rfl) | (intro h; exact absurd rfl h))
  obtain ⟨hB2, hM2, hw2, hn2, ho2, hd2⟩ := lw_g hI hG hB (fun r r1 _ => hV r r1)
  have hA : mv_call X (d + 14) 298 [.ref x, .int (nZ (y (i + 1))), .int (nZ (y (i + 2))), .ref (x + 389)] (mz_h P V, z) = _ := hA
  have hr := Q9_fewestDrops (X := X) (P := P) (V := V2) (z := z1) (d := d + 7) hM2 (by rw [hw2.1.1]; exact hI1) m1 m2
  rw [hw2.1.1] at hr
  have hr : mv_call X (d + 14) 208 [.ref (x + 376), .int (nZ (y (i + 1))), .int (nZ (y (i + 2)))] (mz_h P V2, z1) = some (.inl (some (.int (nZ ((if mq_ds (w 1) (y (i + 1)) (y (i + 2)) = 0 then mb_pop (mr_bst (w 1) (y (i + 1)).toNat (y (i + 2))).toNat else 0))))), (mz_h P (mq_t V2 (x + 376) (mq_ds (w 1) (y (i + 1)) (y (i + 2)))), z1)) := hr
  have hcd : 0 ≤ mq_ds (w 1) (y (i + 1)) (y (i + 2)) ∧ mq_ds (w 1) (y (i + 1)) (y (i + 2)) ≤ 3 := by unfold mq_ds; (repeat' split) <;> decide
  refine ⟨P, mq_t V2 (x + 376) (mq_ds (w 1) (y (i + 1)) (y (i + 2))), z1, v, n, w, .int (nZ (mq_ds (w 1) (y (i + 1)) (y (i + 2)))), .int (nZ ((if mq_ds (w 1) (y (i + 1)) (y (i + 2)) = 0 then mb_pop (mr_bst (w 1) (y (i + 1)).toNat (y (i + 2))).toNat else 0))), ?_, lw_fin hI hB2 (mq_t_is hw2 _) (mq_t_X _ _ _) (mg_J_b (by omega) hJ)⟩
  rw [bk_L_law_1111, lw_rdj (c := 1) hx.1 hS 1 rfl (by omega), lw_rdj (c := 2) hx.1 hS 2 rfl (by omega)]
  simp only [mv_clI, mv_cl, hA]
  rw [lw_rdj (c := 1) hn2 hS 1 rfl (by omega), lw_rdj (c := 2) hn2 hS 2 rfl (by omega), mz_rcv hM2.o]
  simp only [hr]
  rw [mz_rcv hM2.o]
  simp only [Q9_thrown (d := d + 13) hM2]
  have heq : mq_ds (w 1) (y (i + 1)) (y (i + 2)) = 0 → (if mq_ds (w 1) (y (i + 1)) (y (i + 2)) = 0 then mb_pop (mr_bst (w 1) (y (i + 1)).toNat (y (i + 2))).toNat else 0) = mb_pop (mr_bst (w 1) (y (i + 1)).toNat (y (i + 2))).toNat := fun c0 => by rw [if_pos c0]
  exact lw_tail rfl rfl (mq_t_0 _ _ _) hcd ho2 (fun c0 => by rw [mq_t_r _ _ (by omega), h0 c0, heq c0])
theorem LS_1179 (hI : lw_I X x P V z v n w b) (hS : lw_X X x b0 L y) (hi : i + 5 ≤ L) : lw_T X (d + 14) x b0 1179 i P V z b := by
  intro j6 j7
  obtain ⟨⟨hP, hW, hM, hw, hJ⟩, ⟨hx, ho, hD⟩, ⟨hz, hvz⟩, hvv, hLn⟩ := id hI
  have hG := hJ.1
  have hI1 := hG.1.1
  have m1 := hS.2.2.2 (i + 1)
  have m2 := hS.2.2.2 (i + 2)
  have hc : mv_call X (d + 13) 99 [.ref x, .int (nZ (y (i + 1))), .int (nZ (y (i + 2)))] (mz_h P V, z) = mq_r P V z (mq_ds (w 1) (y (i + 1)) (y (i + 2))) (mb_pop (mr_bst (w 1) (y (i + 1)).toNat (y (i + 2))).toNat) (mq_dx (y (i + 2))) := Q8_fewestDropsBySets (X := X) (P := P) (V := V) (z := z) (d := d + 8) hP hI1 hW.1 m1 m2
  obtain ⟨z1, hO, hB⟩ := lw_q (w1 := w) hI hc hW (mX_X_rfl _ _ _) rfl
  obtain ⟨V2, hA, h0, hV⟩ := LX_fewestDropsBySets hP ho hO (by unfold mq_ds mq_dx; (repeat' split) <;> first | (intro _; rfl) | (intro h; exact absurd rfl h))
  obtain ⟨hB2, hM2, hw2, hn2, ho2, hd2⟩ := lw_g hI hG hB (fun r r1 _ => hV r r1)
  have hA : mv_call X (d + 14) 299 [.ref x, .int (nZ (y (i + 1))), .int (nZ (y (i + 2))), .ref (x + 389)] (mz_h P V, z) = _ := hA
  have hr := Q9_fewestDropsBySets (X := X) (P := P) (V := V2) (z := z1) (d := d + 6) hM2 (by rw [hw2.1.1]; exact hI1) m1 m2
  rw [hw2.1.1] at hr
  have hr : mv_call X (d + 14) 209 [.ref (x + 376), .int (nZ (y (i + 1))), .int (nZ (y (i + 2)))] (mz_h P V2, z1) = some (.inl (some (.int (nZ ((if mq_ds (w 1) (y (i + 1)) (y (i + 2)) = 0 then mb_pop (mr_bst (w 1) (y (i + 1)).toNat (y (i + 2))).toNat else 0))))), (mz_h P (mq_t V2 (x + 376) (mq_ds (w 1) (y (i + 1)) (y (i + 2)))), z1)) := hr
  have hcd : 0 ≤ mq_ds (w 1) (y (i + 1)) (y (i + 2)) ∧ mq_ds (w 1) (y (i + 1)) (y (i + 2)) ≤ 3 := by unfold mq_ds; (repeat' split) <;> decide
  refine ⟨P, mq_t V2 (x + 376) (mq_ds (w 1) (y (i + 1)) (y (i + 2))), z1, v, n, w, .int (nZ (mq_ds (w 1) (y (i + 1)) (y (i + 2)))), .int (nZ ((if mq_ds (w 1) (y (i + 1)) (y (i + 2)) = 0 then mb_pop (mr_bst (w 1) (y (i + 1)).toNat (y (i + 2))).toNat else 0))), ?_, lw_fin hI hB2 (mq_t_is hw2 _) (mq_t_X _ _ _) (mg_J_b (by omega) hJ)⟩
  rw [bk_L_law_1179, lw_rdj (c := 1) hx.1 hS 1 rfl (by omega), lw_rdj (c := 2) hx.1 hS 2 rfl (by omega)]
  simp only [mv_clI, mv_cl, hA]
  rw [lw_rdj (c := 1) hn2 hS 1 rfl (by omega), lw_rdj (c := 2) hn2 hS 2 rfl (by omega), mz_rcv hM2.o]
  simp only [hr]
  rw [mz_rcv hM2.o]
  simp only [Q9_thrown (d := d + 13) hM2]
  have heq : mq_ds (w 1) (y (i + 1)) (y (i + 2)) = 0 → (if mq_ds (w 1) (y (i + 1)) (y (i + 2)) = 0 then mb_pop (mr_bst (w 1) (y (i + 1)).toNat (y (i + 2))).toNat else 0) = mb_pop (mr_bst (w 1) (y (i + 1)).toNat (y (i + 2))).toNat := fun c0 => by rw [if_pos c0]
  exact lw_tail rfl rfl (mq_t_0 _ _ _) hcd ho2 (fun c0 => by rw [mq_t_r _ _ (by omega), h0 c0, heq c0])
theorem LS_1247 (hI : lw_I X x P V z v n w b) (hS : lw_X X x b0 L y) (hi : i + 5 ≤ L) : lw_T X (d + 14) x b0 1247 i P V z b := by
  intro j6 j7
  obtain ⟨⟨hP, hW, hM, hw, hJ⟩, ⟨hx, ho, hD⟩, ⟨hz, hvz⟩, hvv, hLn⟩ := id hI
  have hG := hJ.1
  have hI1 := hG.1.1
  have m1 := hS.2.2.2 (i + 1)
  have m2 := hS.2.2.2 (i + 2)
  have hc : mv_call X (d + 13) 100 [.ref x, .int (nZ (y (i + 1))), .int (nZ (y (i + 2)))] (mz_h P V, z) = mq_r P V z (mq_ds (w 1) (y (i + 1)) (y (i + 2))) ((mr_bal (w 1) (y (i + 1)).toNat 0 - mr_bal (w 1) (y (i + 1)).toNat (mr_bst (w 1) (y (i + 1)).toNat (y (i + 2))).toNat)) (mq_dx (y (i + 2))) := Q8_dropWeight (X := X) (P := P) (V := V) (z := z) (d := d + 8) hP hI1 hW.1 m1 m2
  obtain ⟨z1, hO, hB⟩ := lw_q (w1 := w) hI hc hW (mX_X_rfl _ _ _) rfl
  obtain ⟨V2, hA, h0, hV⟩ := LX_dropWeight hP ho hO (by unfold mq_ds mq_dx; (repeat' split) <;> first | (intro _; rfl) | (intro h; exact absurd rfl h))
  obtain ⟨hB2, hM2, hw2, hn2, ho2, hd2⟩ := lw_g hI hG hB (fun r r1 _ => hV r r1)
  have hA : mv_call X (d + 14) 300 [.ref x, .int (nZ (y (i + 1))), .int (nZ (y (i + 2))), .ref (x + 389)] (mz_h P V, z) = _ := hA
  have hr := Q9_dropWeight (X := X) (P := P) (V := V2) (z := z1) (d := d + 7) hM2 (by rw [hw2.1.1]; exact hI1) m1 m2
  rw [hw2.1.1] at hr
  have hr : mv_call X (d + 14) 210 [.ref (x + 376), .int (nZ (y (i + 1))), .int (nZ (y (i + 2)))] (mz_h P V2, z1) = some (.inl (some (.int (nZ ((if mq_ds (w 1) (y (i + 1)) (y (i + 2)) = 0 then (mr_bal (w 1) (y (i + 1)).toNat 0 - mr_bal (w 1) (y (i + 1)).toNat (mr_bst (w 1) (y (i + 1)).toNat (y (i + 2))).toNat) else 0))))), (mz_h P (mq_t V2 (x + 376) (mq_ds (w 1) (y (i + 1)) (y (i + 2)))), z1)) := hr
  have hcd : 0 ≤ mq_ds (w 1) (y (i + 1)) (y (i + 2)) ∧ mq_ds (w 1) (y (i + 1)) (y (i + 2)) ≤ 3 := by unfold mq_ds; (repeat' split) <;> decide
  refine ⟨P, mq_t V2 (x + 376) (mq_ds (w 1) (y (i + 1)) (y (i + 2))), z1, v, n, w, .int (nZ (mq_ds (w 1) (y (i + 1)) (y (i + 2)))), .int (nZ ((if mq_ds (w 1) (y (i + 1)) (y (i + 2)) = 0 then (mr_bal (w 1) (y (i + 1)).toNat 0 - mr_bal (w 1) (y (i + 1)).toNat (mr_bst (w 1) (y (i + 1)).toNat (y (i + 2))).toNat) else 0))), ?_, lw_fin hI hB2 (mq_t_is hw2 _) (mq_t_X _ _ _) (mg_J_b (by omega) hJ)⟩
  rw [bk_L_law_1247, lw_rdj (c := 1) hx.1 hS 1 rfl (by omega), lw_rdj (c := 2) hx.1 hS 2 rfl (by omega)]
  simp only [mv_clI, mv_cl, hA]
  rw [lw_rdj (c := 1) hn2 hS 1 rfl (by omega), lw_rdj (c := 2) hn2 hS 2 rfl (by omega), mz_rcv hM2.o]
  simp only [hr]
  rw [mz_rcv hM2.o]
  simp only [Q9_thrown (d := d + 13) hM2]
  have heq : mq_ds (w 1) (y (i + 1)) (y (i + 2)) = 0 → (if mq_ds (w 1) (y (i + 1)) (y (i + 2)) = 0 then (mr_bal (w 1) (y (i + 1)).toNat 0 - mr_bal (w 1) (y (i + 1)).toNat (mr_bst (w 1) (y (i + 1)).toNat (y (i + 2))).toNat) else 0) = (mr_bal (w 1) (y (i + 1)).toNat 0 - mr_bal (w 1) (y (i + 1)).toNat (mr_bst (w 1) (y (i + 1)).toNat (y (i + 2))).toNat) := fun c0 => by rw [if_pos c0]
  exact lw_tail rfl rfl (mq_t_0 _ _ _) hcd ho2 (fun c0 => by rw [mq_t_r _ _ (by omega), h0 c0, heq c0])
theorem LS_1782 (hI : lw_I X x P V z v n w b) (hS : lw_X X x b0 L y) (hi : i + 5 ≤ L) : lw_T X (d + 14) x b0 1782 i P V z b := by
  intro j6 j7
  obtain ⟨⟨hP, hW, hM, hw, hJ⟩, ⟨hx, ho, hD⟩, ⟨hz, hvz⟩, hvv, hLn⟩ := id hI
  have hG := hJ.1
  have hI1 := hG.1.1
  have m1 := hS.2.2.2 (i + 1)
  have m2 := hS.2.2.2 (i + 2)
  have hpI := mq_pI_of hI1 hW.1
  have hc : mv_call X (d + 13) 111 [.ref x, .int (nZ (y (i + 1))), .int (nZ (y (i + 2)))] (mz_h P V, z) = mq_r P V z (if 0 ≤ y (i + 1) ∧ y (i + 1) < (w 1) 5 then (if 0 ≤ y (i + 2) ∧ y (i + 2) ≤ 23 then (0 : Int) else 2) else 1) ((if mq_on (w 1) (y (i + 1)).toNat (y (i + 2)) = true then (1 : Int) else 0)) ((if 0 ≤ y (i + 1) ∧ y (i + 1) < (w 1) 5 then 0 else 2)) := Q8_isOnDuty (X := X) (P := P) (V := V) (z := z) (d := d + 10) hP hI1 hW.1 m1 m2
  obtain ⟨z1, hO, hB⟩ := lw_q (w1 := w) hI hc hW (mX_X_rfl _ _ _) rfl
  obtain ⟨V2, hA, h0, hV⟩ := LX_isOnDuty hP ho hO (by (repeat' split) <;> first | (intro _; rfl) | (intro h; exact absurd rfl h))
  obtain ⟨hB2, hM2, hw2, hn2, ho2, hd2⟩ := lw_g hI hG hB (fun r r1 _ => hV r r1)
  have hA : mv_call X (d + 14) 308 [.ref x, .int (nZ (y (i + 1))), .int (nZ (y (i + 2))), .ref (x + 389)] (mz_h P V, z) = _ := hA
  have hr := Q9_isOnDuty (X := X) (P := P) (V := V2) (z := z1) (d := d + 11) hM2 (by rw [hw2.1.1]; exact hI1) (by rw [hw2.1.1]; exact hpI) m1 m2
  rw [hw2.1.1] at hr
  have hr : mv_call X (d + 14) 220 [.ref (x + 376), .int (nZ (y (i + 1))), .int (nZ (y (i + 2)))] (mz_h P V2, z1) = some (.inl (some (.int (nZ ((if (0 ≤ y (i + 1) ∧ y (i + 1) < (w 1) 5) ∧ (0 ≤ y (i + 2) ∧ y (i + 2) ≤ 23) ∧ mq_on (w 1) (y (i + 1)).toNat (y (i + 2)) = true then (1 : Int) else 0))))), (mz_h P (mq_t V2 (x + 376) ((if 0 ≤ y (i + 1) ∧ y (i + 1) < (w 1) 5 then (if 0 ≤ y (i + 2) ∧ y (i + 2) ≤ 23 then (0 : Int) else 2) else 1))), z1)) := hr
  have hcd : 0 ≤ (if 0 ≤ y (i + 1) ∧ y (i + 1) < (w 1) 5 then (if 0 ≤ y (i + 2) ∧ y (i + 2) ≤ 23 then (0 : Int) else 2) else 1) ∧ (if 0 ≤ y (i + 1) ∧ y (i + 1) < (w 1) 5 then (if 0 ≤ y (i + 2) ∧ y (i + 2) ≤ 23 then (0 : Int) else 2) else 1) ≤ 3 := by (repeat' split) <;> decide
  refine ⟨P, mq_t V2 (x + 376) ((if 0 ≤ y (i + 1) ∧ y (i + 1) < (w 1) 5 then (if 0 ≤ y (i + 2) ∧ y (i + 2) ≤ 23 then (0 : Int) else 2) else 1)), z1, v, n, w, .int (nZ ((if 0 ≤ y (i + 1) ∧ y (i + 1) < (w 1) 5 then (if 0 ≤ y (i + 2) ∧ y (i + 2) ≤ 23 then (0 : Int) else 2) else 1))), .int (nZ ((if (0 ≤ y (i + 1) ∧ y (i + 1) < (w 1) 5) ∧ (0 ≤ y (i + 2) ∧ y (i + 2) ≤ 23) ∧ mq_on (w 1) (y (i + 1)).toNat (y (i + 2)) = true then (1 : Int) else 0))), ?_, lw_fin hI hB2 (mq_t_is hw2 _) (mq_t_X _ _ _) (mg_J_b (by omega) hJ)⟩
  rw [bk_L_law_1782, lw_rdj (c := 1) hx.1 hS 1 rfl (by omega), lw_rdj (c := 2) hx.1 hS 2 rfl (by omega)]
  simp only [mv_clI, mv_cl, hA]
  rw [lw_rdj (c := 1) hn2 hS 1 rfl (by omega), lw_rdj (c := 2) hn2 hS 2 rfl (by omega), mz_rcv hM2.o]
  simp only [hr]
  rw [mz_rcv hM2.o]
  simp only [Q9_thrown (d := d + 13) hM2]
  have heq : (if 0 ≤ y (i + 1) ∧ y (i + 1) < (w 1) 5 then (if 0 ≤ y (i + 2) ∧ y (i + 2) ≤ 23 then (0 : Int) else 2) else 1) = 0 → (if (0 ≤ y (i + 1) ∧ y (i + 1) < (w 1) 5) ∧ (0 ≤ y (i + 2) ∧ y (i + 2) ≤ 23) ∧ mq_on (w 1) (y (i + 1)).toNat (y (i + 2)) = true then (1 : Int) else 0) = (if mq_on (w 1) (y (i + 1)).toNat (y (i + 2)) = true then (1 : Int) else 0) := fun c0 => by
      by_cases c1 : 0 ≤ y (i + 1) ∧ y (i + 1) < (w 1) 5
      · by_cases c2 : 0 ≤ y (i + 2) ∧ y (i + 2) ≤ 23
        · by_cases c3 : mq_on (w 1) (y (i + 1)).toNat (y (i + 2)) = true
          · rw [if_pos ⟨c1, c2, c3⟩, if_pos c3]
          · rw [if_neg (fun q => c3 q.2.2), if_neg c3]
        · rw [if_pos c1, if_neg c2] at c0; exact absurd c0 (by decide)
      · rw [if_neg c1] at c0; exact absurd c0 (by decide)
  exact lw_tailB rfl rfl (mq_t_0 _ _ _) hcd ho2 (fun c0 => by rw [mq_t_r _ _ (by omega), h0 c0, heq c0])
theorem LS_1857 (hI : lw_I X x P V z v n w b) (hS : lw_X X x b0 L y) (hi : i + 5 ≤ L) : lw_T X (d + 14) x b0 1857 i P V z b := by
  intro j6 j7
  obtain ⟨⟨hP, hW, hM, hw, hJ⟩, ⟨hx, ho, hD⟩, ⟨hz, hvz⟩, hvv, hLn⟩ := id hI
  have hG := hJ.1
  have hI1 := hG.1.1
  have m1 := hS.2.2.2 (i + 1)
  have m2 := hS.2.2.2 (i + 2)
  have hpI := mq_pI_of hI1 hW.1
  have hc : mv_call X (d + 13) 112 [.ref x, .int (nZ (y (i + 1))), .int (nZ (y (i + 2)))] (mz_h P V, z) = mq_r P V z (if 0 ≤ y (i + 1) ∧ y (i + 1) < (w 1) 5 then (if mr_has (w 1) (y (i + 2)) then (0 : Int) else 2) else 1) ((if mq_fit (w 1) (y (i + 1)).toNat (y (i + 2)).toNat = true then (1 : Int) else 0)) ((if 0 ≤ y (i + 1) ∧ y (i + 1) < (w 1) 5 then 1 else 2)) := Q8_canCrew (X := X) (P := P) (V := V) (z := z) (d := d + 10) hP hI1 hW.1 m1 m2
  obtain ⟨z1, hO, hB⟩ := lw_q (w1 := w) hI hc hW (mX_X_rfl _ _ _) rfl
  obtain ⟨V2, hA, h0, hV⟩ := LX_canCrew hP ho hO (by (repeat' split) <;> first | (intro _; rfl) | (intro h; exact absurd rfl h))
  obtain ⟨hB2, hM2, hw2, hn2, ho2, hd2⟩ := lw_g hI hG hB (fun r r1 _ => hV r r1)
  have hA : mv_call X (d + 14) 309 [.ref x, .int (nZ (y (i + 1))), .int (nZ (y (i + 2))), .ref (x + 389)] (mz_h P V, z) = _ := hA
  have hr := Q9_canCrew (X := X) (P := P) (V := V2) (z := z1) (d := d + 9) hM2 (by rw [hw2.1.1]; exact hI1) (by rw [hw2.1.1]; exact hpI) m1 m2
  rw [hw2.1.1] at hr
  have hr : mv_call X (d + 14) 221 [.ref (x + 376), .int (nZ (y (i + 1))), .int (nZ (y (i + 2)))] (mz_h P V2, z1) = some (.inl (some (.int (nZ ((if (0 ≤ y (i + 1) ∧ y (i + 1) < (w 1) 5) ∧ mr_has (w 1) (y (i + 2)) ∧ mq_fit (w 1) (y (i + 1)).toNat (y (i + 2)).toNat = true then (1 : Int) else 0))))), (mz_h P (mq_t V2 (x + 376) ((if 0 ≤ y (i + 1) ∧ y (i + 1) < (w 1) 5 then (if mr_has (w 1) (y (i + 2)) then (0 : Int) else 2) else 1))), z1)) := hr
  have hcd : 0 ≤ (if 0 ≤ y (i + 1) ∧ y (i + 1) < (w 1) 5 then (if mr_has (w 1) (y (i + 2)) then (0 : Int) else 2) else 1) ∧ (if 0 ≤ y (i + 1) ∧ y (i + 1) < (w 1) 5 then (if mr_has (w 1) (y (i + 2)) then (0 : Int) else 2) else 1) ≤ 3 := by (repeat' split) <;> decide
  refine ⟨P, mq_t V2 (x + 376) ((if 0 ≤ y (i + 1) ∧ y (i + 1) < (w 1) 5 then (if mr_has (w 1) (y (i + 2)) then (0 : Int) else 2) else 1)), z1, v, n, w, .int (nZ ((if 0 ≤ y (i + 1) ∧ y (i + 1) < (w 1) 5 then (if mr_has (w 1) (y (i + 2)) then (0 : Int) else 2) else 1))), .int (nZ ((if (0 ≤ y (i + 1) ∧ y (i + 1) < (w 1) 5) ∧ mr_has (w 1) (y (i + 2)) ∧ mq_fit (w 1) (y (i + 1)).toNat (y (i + 2)).toNat = true then (1 : Int) else 0))), ?_, lw_fin hI hB2 (mq_t_is hw2 _) (mq_t_X _ _ _) (mg_J_b (by omega) hJ)⟩
  rw [bk_L_law_1857, lw_rdj (c := 1) hx.1 hS 1 rfl (by omega), lw_rdj (c := 2) hx.1 hS 2 rfl (by omega)]
  simp only [mv_clI, mv_cl, hA]
  rw [lw_rdj (c := 1) hn2 hS 1 rfl (by omega), lw_rdj (c := 2) hn2 hS 2 rfl (by omega), mz_rcv hM2.o]
  simp only [hr]
  rw [mz_rcv hM2.o]
  simp only [Q9_thrown (d := d + 13) hM2]
  have heq : (if 0 ≤ y (i + 1) ∧ y (i + 1) < (w 1) 5 then (if mr_has (w 1) (y (i + 2)) then (0 : Int) else 2) else 1) = 0 → (if (0 ≤ y (i + 1) ∧ y (i + 1) < (w 1) 5) ∧ mr_has (w 1) (y (i + 2)) ∧ mq_fit (w 1) (y (i + 1)).toNat (y (i + 2)).toNat = true then (1 : Int) else 0) = (if mq_fit (w 1) (y (i + 1)).toNat (y (i + 2)).toNat = true then (1 : Int) else 0) := fun c0 => by
      by_cases c1 : 0 ≤ y (i + 1) ∧ y (i + 1) < (w 1) 5
      · by_cases c2 : mr_has (w 1) (y (i + 2))
        · by_cases c3 : mq_fit (w 1) (y (i + 1)).toNat (y (i + 2)).toNat = true
          · rw [if_pos ⟨c1, c2, c3⟩, if_pos c3]
          · rw [if_neg (fun q => c3 q.2.2), if_neg c3]
        · rw [if_pos c1, if_neg c2] at c0; exact absurd c0 (by decide)
      · rw [if_neg c1] at c0; exact absurd c0 (by decide)
  exact lw_tailB rfl rfl (mq_t_0 _ _ _) hcd ho2 (fun c0 => by rw [mq_t_r _ _ (by omega), h0 c0, heq c0])
theorem LS_2350 (hI : lw_I X x P V z v n w b) (hS : lw_X X x b0 L y) (hi : i + 5 ≤ L) : lw_T X (d + 14) x b0 2350 i P V z b := by
  intro j6 j7
  obtain ⟨⟨hP, hW, hM, hw, hJ⟩, ⟨hx, ho, hD⟩, ⟨hz, hvz⟩, hvv, hLn⟩ := id hI
  have hG := hJ.1
  have hI1 := hG.1.1
  have hc : mv_call X (d + 13) 127 [.ref x] (mz_h P V, z) = mq_r P V z (if w 0 17 = -1 then (1 : Int) else 0) (w 0 17) (1) := Q8_faultPosition (X := X) (P := P) (V := V) (z := z) (d := d + 12) hP hW hG 
  obtain ⟨z1, hO, hB⟩ := lw_q (w1 := w) hI hc hW (mX_X_rfl _ _ _) rfl
  obtain ⟨V2, hA, h0, hV⟩ := LX_faultPosition hP ho hO (by (repeat' split) <;> first | (intro _; rfl) | (intro h; exact absurd rfl h))
  obtain ⟨hB2, hM2, hw2, hn2, ho2, hd2⟩ := lw_g hI hG hB (fun r r1 _ => hV r r1)
  have hA : mv_call X (d + 14) 315 [.ref x, .ref (x + 389)] (mz_h P V, z) = _ := hA
  have hr := Q9_faultPosition (X := X) (P := P) (V := V2) (z := z1) (d := d + 12) hM2 hw2 hG 
  have hr : mv_call X (d + 14) 241 [.ref (x + 376)] (mz_h P V2, z1) = some (.inl (some (.int (nZ ((if w 0 17 = -1 then 0 else w 0 17))))), (mz_h P (mq_t V2 (x + 376) ((if w 0 17 = -1 then (1 : Int) else 0))), z1)) := hr
  have hcd : 0 ≤ (if w 0 17 = -1 then (1 : Int) else 0) ∧ (if w 0 17 = -1 then (1 : Int) else 0) ≤ 3 := by (repeat' split) <;> decide
  refine ⟨P, mq_t V2 (x + 376) ((if w 0 17 = -1 then (1 : Int) else 0)), z1, v, n, w, .int (nZ ((if w 0 17 = -1 then (1 : Int) else 0))), .int (nZ ((if w 0 17 = -1 then 0 else w 0 17))), ?_, lw_fin hI hB2 (mq_t_is hw2 _) (mq_t_X _ _ _) (mg_J_b (by omega) hJ)⟩
  rw [bk_L_law_2350]
  simp only [mv_clI, mv_cl, hA]
  rw [mz_rcv hM2.o]
  simp only [hr]
  rw [mz_rcv hM2.o]
  simp only [Q9_thrown (d := d + 13) hM2]
  have heq : (if w 0 17 = -1 then (1 : Int) else 0) = 0 → (if w 0 17 = -1 then 0 else w 0 17) = w 0 17 := fun c0 => by
      by_cases c : w 0 17 = -1
      · rw [if_pos c] at c0; exact absurd c0 (by decide)
      · rw [if_neg c]
  exact lw_tail rfl rfl (mq_t_0 _ _ _) hcd ho2 (fun c0 => by rw [mq_t_r _ _ (by omega), h0 c0, heq c0])
theorem LS_2506 (hI : lw_I X x P V z v n w b) (hS : lw_X X x b0 L y) (hi : i + 5 ≤ L) : lw_T X (d + 14) x b0 2506 i P V z b := by
  intro j6 j7
  obtain ⟨⟨hP, hW, hM, hw, hJ⟩, ⟨hx, ho, hD⟩, ⟨hz, hvz⟩, hvv, hLn⟩ := id hI
  have hG := hJ.1
  have hI1 := hG.1.1
  have hc : mv_call X (d + 13) 130 [.ref x] (mz_h P V, z) = mq_r P V z (if w 0 19 = 0 then (1 : Int) else 0) (w 0 19) (1) := Q8_denial (X := X) (P := P) (V := V) (z := z) (d := d + 11) hP hW hG 
  obtain ⟨z1, hO, hB⟩ := lw_q (w1 := w) hI hc hW (mX_X_rfl _ _ _) rfl
  obtain ⟨V2, hA, h0, hV⟩ := LX_denial hP ho hO (by (repeat' split) <;> first | (intro _; rfl) | (intro h; exact absurd rfl h))
  obtain ⟨hB2, hM2, hw2, hn2, ho2, hd2⟩ := lw_g hI hG hB (fun r r1 _ => hV r r1)
  have hA : mv_call X (d + 14) 318 [.ref x, .ref (x + 389)] (mz_h P V, z) = _ := hA
  have hr := Q9_denial (X := X) (P := P) (V := V2) (z := z1) (d := d + 12) hM2 hw2 hG 
  have hr : mv_call X (d + 14) 246 [.ref (x + 376)] (mz_h P V2, z1) = some (.inl (some (.int (nZ ((if w 0 19 = 0 then 0 else w 0 19))))), (mz_h P (mq_t V2 (x + 376) ((if w 0 19 = 0 then (1 : Int) else 0))), z1)) := hr
  have hcd : 0 ≤ (if w 0 19 = 0 then (1 : Int) else 0) ∧ (if w 0 19 = 0 then (1 : Int) else 0) ≤ 3 := by (repeat' split) <;> decide
  refine ⟨P, mq_t V2 (x + 376) ((if w 0 19 = 0 then (1 : Int) else 0)), z1, v, n, w, .int (nZ ((if w 0 19 = 0 then (1 : Int) else 0))), .int (nZ ((if w 0 19 = 0 then 0 else w 0 19))), ?_, lw_fin hI hB2 (mq_t_is hw2 _) (mq_t_X _ _ _) (mg_J_b (by omega) hJ)⟩
  rw [bk_L_law_2506]
  simp only [mv_clI, mv_cl, hA]
  rw [mz_rcv hM2.o]
  simp only [hr]
  rw [mz_rcv hM2.o]
  simp only [Q9_thrown (d := d + 13) hM2]
  have heq : (if w 0 19 = 0 then (1 : Int) else 0) = 0 → (if w 0 19 = 0 then 0 else w 0 19) = w 0 19 := fun c0 => by
      by_cases c : w 0 19 = 0
      · rw [if_pos c] at c0; exact absurd c0 (by decide)
      · rw [if_neg c]
  exact lw_tail rfl rfl (mq_t_0 _ _ _) hcd ho2 (fun c0 => by rw [mq_t_r _ _ (by omega), h0 c0, heq c0])
theorem LS_2550 (hI : lw_I X x P V z v n w b) (hS : lw_X X x b0 L y) (hi : i + 5 ≤ L) : lw_T X (d + 14) x b0 2550 i P V z b := by
  intro j6 j7
  obtain ⟨⟨hP, hW, hM, hw, hJ⟩, ⟨hx, ho, hD⟩, ⟨hz, hvz⟩, hvv, hLn⟩ := id hI
  have hG := hJ.1
  have hI1 := hG.1.1
  have hc : mv_call X (d + 13) 131 [.ref x] (mz_h P V, z) = mq_r P V z (if w 0 19 = 0 then (1 : Int) else 0) (w 0 20) (1) := Q8_denialDetail (X := X) (P := P) (V := V) (z := z) (d := d + 11) hP hW hG 
  obtain ⟨z1, hO, hB⟩ := lw_q (w1 := w) hI hc hW (mX_X_rfl _ _ _) rfl
  obtain ⟨V2, hA, h0, hV⟩ := LX_denialDetail hP ho hO (by (repeat' split) <;> first | (intro _; rfl) | (intro h; exact absurd rfl h))
  obtain ⟨hB2, hM2, hw2, hn2, ho2, hd2⟩ := lw_g hI hG hB (fun r r1 _ => hV r r1)
  have hA : mv_call X (d + 14) 319 [.ref x, .ref (x + 389)] (mz_h P V, z) = _ := hA
  have hr := Q9_denialDetail (X := X) (P := P) (V := V2) (z := z1) (d := d + 12) hM2 hw2 hG 
  have hr : mv_call X (d + 14) 247 [.ref (x + 376)] (mz_h P V2, z1) = some (.inl (some (.int (nZ ((if w 0 19 = 0 then 0 else w 0 20))))), (mz_h P (mq_t V2 (x + 376) ((if w 0 19 = 0 then (1 : Int) else 0))), z1)) := hr
  have hcd : 0 ≤ (if w 0 19 = 0 then (1 : Int) else 0) ∧ (if w 0 19 = 0 then (1 : Int) else 0) ≤ 3 := by (repeat' split) <;> decide
  refine ⟨P, mq_t V2 (x + 376) ((if w 0 19 = 0 then (1 : Int) else 0)), z1, v, n, w, .int (nZ ((if w 0 19 = 0 then (1 : Int) else 0))), .int (nZ ((if w 0 19 = 0 then 0 else w 0 20))), ?_, lw_fin hI hB2 (mq_t_is hw2 _) (mq_t_X _ _ _) (mg_J_b (by omega) hJ)⟩
  rw [bk_L_law_2550]
  simp only [mv_clI, mv_cl, hA]
  rw [mz_rcv hM2.o]
  simp only [hr]
  rw [mz_rcv hM2.o]
  simp only [Q9_thrown (d := d + 13) hM2]
  have heq : (if w 0 19 = 0 then (1 : Int) else 0) = 0 → (if w 0 19 = 0 then 0 else w 0 20) = w 0 20 := fun c0 => by
      by_cases c : w 0 19 = 0
      · rw [if_pos c] at c0; exact absurd c0 (by decide)
      · rw [if_neg c]
  exact lw_tail rfl rfl (mq_t_0 _ _ _) hcd ho2 (fun c0 => by rw [mq_t_r _ _ (by omega), h0 c0, heq c0])
theorem LS_2594 (hI : lw_I X x P V z v n w b) (hS : lw_X X x b0 L y) (hi : i + 5 ≤ L) : lw_T X (d + 14) x b0 2594 i P V z b := by
  intro j6 j7
  obtain ⟨⟨hP, hW, hM, hw, hJ⟩, ⟨hx, ho, hD⟩, ⟨hz, hvz⟩, hvv, hLn⟩ := id hI
  have hG := hJ.1
  have hI1 := hG.1.1
  have hc : mv_call X (d + 13) 132 [.ref x] (mz_h P V, z) = mq_r P V z (if w 0 21 = 0 then (1 : Int) else 0) (w 0 21) (1) := Q8_denialCause (X := X) (P := P) (V := V) (z := z) (d := d + 11) hP hW hG hJ.2 
  obtain ⟨z1, hO, hB⟩ := lw_q (w1 := w) hI hc hW (mX_X_rfl _ _ _) rfl
  obtain ⟨V2, hA, h0, hV⟩ := LX_denialCause hP ho hO (by (repeat' split) <;> first | (intro _; rfl) | (intro h; exact absurd rfl h))
  obtain ⟨hB2, hM2, hw2, hn2, ho2, hd2⟩ := lw_g hI hG hB (fun r r1 _ => hV r r1)
  have hA : mv_call X (d + 14) 320 [.ref x, .ref (x + 389)] (mz_h P V, z) = _ := hA
  have hr := Q9_denialCause (X := X) (P := P) (V := V2) (z := z1) (d := d + 12) hM2 hw2 hG 
  have hr : mv_call X (d + 14) 248 [.ref (x + 376)] (mz_h P V2, z1) = some (.inl (some (.int (nZ ((if w 0 21 = 0 then 0 else w 0 21))))), (mz_h P (mq_t V2 (x + 376) ((if w 0 21 = 0 then (1 : Int) else 0))), z1)) := hr
  have hcd : 0 ≤ (if w 0 21 = 0 then (1 : Int) else 0) ∧ (if w 0 21 = 0 then (1 : Int) else 0) ≤ 3 := by (repeat' split) <;> decide
  refine ⟨P, mq_t V2 (x + 376) ((if w 0 21 = 0 then (1 : Int) else 0)), z1, v, n, w, .int (nZ ((if w 0 21 = 0 then (1 : Int) else 0))), .int (nZ ((if w 0 21 = 0 then 0 else w 0 21))), ?_, lw_fin hI hB2 (mq_t_is hw2 _) (mq_t_X _ _ _) (mg_J_b (by omega) hJ)⟩
  rw [bk_L_law_2594]
  simp only [mv_clI, mv_cl, hA]
  rw [mz_rcv hM2.o]
  simp only [hr]
  rw [mz_rcv hM2.o]
  simp only [Q9_thrown (d := d + 13) hM2]
  have heq : (if w 0 21 = 0 then (1 : Int) else 0) = 0 → (if w 0 21 = 0 then 0 else w 0 21) = w 0 21 := fun c0 => by
      by_cases c : w 0 21 = 0
      · rw [if_pos c] at c0; exact absurd c0 (by decide)
      · rw [if_neg c]
  exact lw_tail rfl rfl (mq_t_0 _ _ _) hcd ho2 (fun c0 => by rw [mq_t_r _ _ (by omega), h0 c0, heq c0])
theorem LS_2450 (hI : lw_I X x P V z v n w b) (hS : lw_X X x b0 L y) (hi : i + 5 ≤ L) : lw_T X (d + 14) x b0 2450 i P V z b := by
  intro j6 j7
  obtain ⟨⟨hP, hW, hM, hw, hJ⟩, ⟨hx, ho, hD⟩, ⟨hz, hvz⟩, hvv, hLn⟩ := id hI
  have hG := hJ.1
  have hI1 := hG.1.1
  have m1 := hS.2.2.2 (i + 1)
  have hc : mv_call X (d + 13) 129 [.ref x, .int (nZ (y (i + 1)))] (mz_h P V, z) = mq_r P V z (if 0 ≤ y (i + 1) ∧ y (i + 1) < w 0 16 then (0 : Int) else 1) (w 8 (y (i + 1)).toNat) (2) := Q8_lineCharacter (X := X) (P := P) (V := V) (z := z) (d := d + 7) hx hP hW hG hLn m1
  obtain ⟨z1, hO, hB⟩ := lw_q (w1 := w) hI hc hW (mX_X_rfl _ _ _) rfl
  obtain ⟨V2, hA, h0, hV⟩ := LX_lineCharacter hP ho hO (by (repeat' split) <;> first | (intro _; rfl) | (intro h; exact absurd rfl h))
  obtain ⟨hB2, hM2, hw2, hn2, ho2, hd2⟩ := lw_g hI hG hB (fun r r1 _ => hV r r1)
  have hA : mv_call X (d + 14) 317 [.ref x, .int (nZ (y (i + 1))), .ref (x + 389)] (mz_h P V, z) = _ := hA
  have hr := Q9_lineCharacter (X := X) (P := P) (V := V2) (z := z1) (d := d + 12) hM2 hw2 hG m1
  have hr : mv_call X (d + 14) 245 [.ref (x + 376), .int (nZ (y (i + 1)))] (mz_h P V2, z1) = some (.inl (some (.int (nZ ((if 0 ≤ y (i + 1) ∧ y (i + 1) < w 0 16 then w 8 (y (i + 1)).toNat else 0))))), (mz_h P (mq_t V2 (x + 376) ((if 0 ≤ y (i + 1) ∧ y (i + 1) < w 0 16 then (0 : Int) else 1))), z1)) := hr
  have hcd : 0 ≤ (if 0 ≤ y (i + 1) ∧ y (i + 1) < w 0 16 then (0 : Int) else 1) ∧ (if 0 ≤ y (i + 1) ∧ y (i + 1) < w 0 16 then (0 : Int) else 1) ≤ 3 := by (repeat' split) <;> decide
  refine ⟨P, mq_t V2 (x + 376) ((if 0 ≤ y (i + 1) ∧ y (i + 1) < w 0 16 then (0 : Int) else 1)), z1, v, n, w, .int (nZ ((if 0 ≤ y (i + 1) ∧ y (i + 1) < w 0 16 then (0 : Int) else 1))), .int (nZ ((if 0 ≤ y (i + 1) ∧ y (i + 1) < w 0 16 then w 8 (y (i + 1)).toNat else 0))), ?_, lw_fin hI hB2 (mq_t_is hw2 _) (mq_t_X _ _ _) (mg_J_b (by omega) hJ)⟩
  rw [bk_L_law_2450, lw_rdj (c := 1) hx.1 hS 1 rfl (by omega)]
  simp only [mv_clI, mv_cl, hA]
  rw [lw_rdj (c := 1) hn2 hS 1 rfl (by omega), mz_rcv hM2.o]
  simp only [hr]
  rw [mz_rcv hM2.o]
  simp only [Q9_thrown (d := d + 13) hM2]
  have heq : (if 0 ≤ y (i + 1) ∧ y (i + 1) < w 0 16 then (0 : Int) else 1) = 0 → (if 0 ≤ y (i + 1) ∧ y (i + 1) < w 0 16 then w 8 (y (i + 1)).toNat else 0) = w 8 (y (i + 1)).toNat := fun c0 => by
      by_cases c : 0 ≤ y (i + 1) ∧ y (i + 1) < w 0 16
      · rw [if_pos c]
      · rw [if_neg c] at c0; exact absurd c0 (by decide)
  exact lw_tail rfl rfl (mq_t_0 _ _ _) hcd ho2 (fun c0 => by rw [mq_t_r _ _ (by omega), h0 c0, heq c0])
end LAWQ
