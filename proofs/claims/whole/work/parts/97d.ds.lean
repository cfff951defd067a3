/-! THE LAW: numbers compared at once -/
section LAWD
variable {X : mv_X} {P : mz_P} {V V1 : mz_V} {z : Nat × Nat} {x v n d b0 L i : Nat} {w w1 : mz_V} {b : Int} {y : Nat → Int}
theorem lw_Bs (hI : lw_I X x P V z v n w b) (hW : mX_is V1 x v w1) (hX : mX_X V V1 x v) (h16 : w1 0 16 = w 0 16) : lw_B X x P V z P V1 z v n w1 := by
  obtain ⟨⟨hP, -, hM, hw, hJ⟩, ⟨hx, ho, hd⟩, ⟨hz, hv⟩, hvv, hn⟩ := hI
  exact ⟨⟨hP, hW, hx⟩, fun _ _ _ => ⟨rfl, rfl⟩, fun r r1 r2 => hX r (Or.inr r1) (by omega), ⟨by omega, by omega⟩, ⟨by omega, by omega⟩, hv, hvv, by rw [h16]; exact hn⟩
theorem LS_420 (hI : lw_I X x P V z v n w b) : lw_T X (d + 14) x b0 420 i P V z b := by
  intro j6 j7
  obtain ⟨⟨hP, hW, hM, hw, hJ⟩, ⟨hx, ho, hD⟩, ⟨hz, hvz⟩, hvv, hLn⟩ := id hI
  have hG := hJ.1
  have hI1 := hG.1.1
  have hc := Q8_balloonCount (X := X) (P := P) (V := V) (z := z) (d := d + 11) hP hI1 hW.1
  have hB := lw_Bs hI hW (mX_X_rfl _ _ _) rfl
  have hc : mv_call X (d + 14) 86 [.ref x] (mz_h P V, z) = some (.inl (some (.int (nZ (mq_cnt (w 1))))), (mz_h P V, z)) := hc
  obtain ⟨hB2, hM2, hw2, hn2, ho2, hd2⟩ := lw_g hI hG hB (fun _ _ _ => rfl)
  have hr := X9_cnt (X := X) (P := P) (V := V) (z := z) (d := d + 12) hM2
  rw [hw2.1.1] at hr
  have hr : mv_call X (d + 14) 196 [.ref (x + 376)] (mz_h P V, z) = some (.inl (some (.int (nZ (mq_cnt (w 1))))), (mz_h P (mq_t V (x + 376) 0), z)) := hr
  refine ⟨P, mq_t V (x + 376) 0, z, v, n, w, j6, j7, ?_, lw_fin hI hB2 (mq_t_is hw2 _) (mq_t_X _ _ _) (mg_J_b (by omega) hJ)⟩
  rw [bk_L_law_420, mz_rcv hP.o]
  simp only [mv_clI, mv_cl, hc]
  rw [mz_rcv hM2.o]
  simp only [hr]
  exact if_pos (by first | trivial | rfl)
theorem LS_1769 (hI : lw_I X x P V z v n w b) : lw_T X (d + 14) x b0 1769 i P V z b := by
  intro j6 j7
  obtain ⟨⟨hP, hW, hM, hw, hJ⟩, ⟨hx, ho, hD⟩, ⟨hz, hvz⟩, hvv, hLn⟩ := id hI
  have hG := hJ.1
  have hI1 := hG.1.1
  have hc := Q8_pilotCount (X := X) (P := P) (V := V) (z := z) (d := d + 13) hP hW.1
  have hB := lw_Bs hI hW (mX_X_rfl _ _ _) rfl
  have hc : mv_call X (d + 14) 110 [.ref x] (mz_h P V, z) = some (.inl (some (.int (nZ (w 1 5)))), (mz_h P V, z)) := hc
  obtain ⟨hB2, hM2, hw2, hn2, ho2, hd2⟩ := lw_g hI hG hB (fun _ _ _ => rfl)
  have hr := Q9_pilotCount (X := X) (P := P) (V := V) (z := z) (d := d + 13) hM2
  rw [hw2.1.1] at hr
  have hr : mv_call X (d + 14) 217 [.ref (x + 376)] (mz_h P V, z) = some (.inl (some (.int (nZ (w 1 5)))), (mz_h P (mq_t V (x + 376) 0), z)) := hr
  refine ⟨P, mq_t V (x + 376) 0, z, v, n, w, j6, j7, ?_, lw_fin hI hB2 (mq_t_is hw2 _) (mq_t_X _ _ _) (mg_J_b (by omega) hJ)⟩
  rw [bk_L_law_1769, mz_rcv hP.o]
  simp only [mv_clI, mv_cl, hc]
  rw [mz_rcv hM2.o]
  simp only [hr]
  exact if_pos (by first | trivial | rfl)
theorem LS_2027 (hI : lw_I X x P V z v n w b) : lw_T X (d + 14) x b0 2027 i P V z b := by
  intro j6 j7
  obtain ⟨⟨hP, hW, hM, hw, hJ⟩, ⟨hx, ho, hD⟩, ⟨hz, hvz⟩, hvv, hLn⟩ := id hI
  have hG := hJ.1
  have hI1 := hG.1.1
  have hc := Q8_hour (X := X) (P := P) (V := V) (z := z) (d := d + 13) hP hW.1
  have hB := lw_Bs hI hW (mX_X_rfl _ _ _) rfl
  have hc : mv_call X (d + 14) 117 [.ref x] (mz_h P V, z) = some (.inl (some (.int (nZ (w 1 0)))), (mz_h P V, z)) := hc
  obtain ⟨hB2, hM2, hw2, hn2, ho2, hd2⟩ := lw_g hI hG hB (fun _ _ _ => rfl)
  have hr := Q9_hour (X := X) (P := P) (V := V) (z := z) (d := d + 13) hM2
  rw [hw2.1.1] at hr
  have hr : mv_call X (d + 14) 225 [.ref (x + 376)] (mz_h P V, z) = some (.inl (some (.int (nZ (w 1 0)))), (mz_h P (mq_t V (x + 376) 0), z)) := hr
  refine ⟨P, mq_t V (x + 376) 0, z, v, n, w, j6, j7, ?_, lw_fin hI hB2 (mq_t_is hw2 _) (mq_t_X _ _ _) (mg_J_b (by omega) hJ)⟩
  rw [bk_L_law_2027, mz_rcv hP.o]
  simp only [mv_clI, mv_cl, hc]
  rw [mz_rcv hM2.o]
  simp only [hr]
  exact if_pos (by first | trivial | rfl)
theorem LS_2040 (hI : lw_I X x P V z v n w b) : lw_T X (d + 14) x b0 2040 i P V z b := by
  intro j6 j7
  obtain ⟨⟨hP, hW, hM, hw, hJ⟩, ⟨hx, ho, hD⟩, ⟨hz, hvz⟩, hvv, hLn⟩ := id hI
  have hG := hJ.1
  have hI1 := hG.1.1
  have hc := Q8_bursts (X := X) (P := P) (V := V) (z := z) (d := d + 13) hP hW.1
  have hB := lw_Bs hI hW (mX_X_rfl _ _ _) rfl
  have hc : mv_call X (d + 14) 118 [.ref x] (mz_h P V, z) = some (.inl (some (.int (nZ (w 1 1)))), (mz_h P V, z)) := hc
  obtain ⟨hB2, hM2, hw2, hn2, ho2, hd2⟩ := lw_g hI hG hB (fun _ _ _ => rfl)
  have hr := Q9_bursts (X := X) (P := P) (V := V) (z := z) (d := d + 13) hM2
  rw [hw2.1.1] at hr
  have hr : mv_call X (d + 14) 226 [.ref (x + 376)] (mz_h P V, z) = some (.inl (some (.int (nZ (w 1 1)))), (mz_h P (mq_t V (x + 376) 0), z)) := hr
  refine ⟨P, mq_t V (x + 376) 0, z, v, n, w, j6, j7, ?_, lw_fin hI hB2 (mq_t_is hw2 _) (mq_t_X _ _ _) (mg_J_b (by omega) hJ)⟩
  rw [bk_L_law_2040, mz_rcv hP.o]
  simp only [mv_clI, mv_cl, hc]
  rw [mz_rcv hM2.o]
  simp only [hr]
  exact if_pos (by first | trivial | rfl)
theorem LS_2053 (hI : lw_I X x P V z v n w b) : lw_T X (d + 14) x b0 2053 i P V z b := by
  intro j6 j7
  obtain ⟨⟨hP, hW, hM, hw, hJ⟩, ⟨hx, ho, hD⟩, ⟨hz, hvz⟩, hvv, hLn⟩ := id hI
  have hG := hJ.1
  have hI1 := hG.1.1
  have hc := Q8_loaded (X := X) (P := P) (V := V) (z := z) (d := d + 13) hP hW.1
  have hB := lw_Bs hI hW (mX_X_rfl _ _ _) rfl
  have hc : mv_call X (d + 14) 119 [.ref x] (mz_h P V, z) = some (.inl (some (.int (nZ (w 1 2)))), (mz_h P V, z)) := hc
  obtain ⟨hB2, hM2, hw2, hn2, ho2, hd2⟩ := lw_g hI hG hB (fun _ _ _ => rfl)
  have hr := Q9_loaded (X := X) (P := P) (V := V) (z := z) (d := d + 13) hM2
  rw [hw2.1.1] at hr
  have hr : mv_call X (d + 14) 227 [.ref (x + 376)] (mz_h P V, z) = some (.inl (some (.int (nZ (w 1 2)))), (mz_h P (mq_t V (x + 376) 0), z)) := hr
  refine ⟨P, mq_t V (x + 376) 0, z, v, n, w, j6, j7, ?_, lw_fin hI hB2 (mq_t_is hw2 _) (mq_t_X _ _ _) (mg_J_b (by omega) hJ)⟩
  rw [bk_L_law_2053, mz_rcv hP.o]
  simp only [mv_clI, mv_cl, hc]
  rw [mz_rcv hM2.o]
  simp only [hr]
  exact if_pos (by first | trivial | rfl)
theorem LS_2079 (hI : lw_I X x P V z v n w b) : lw_T X (d + 14) x b0 2079 i P V z b := by
  intro j6 j7
  obtain ⟨⟨hP, hW, hM, hw, hJ⟩, ⟨hx, ho, hD⟩, ⟨hz, hvz⟩, hvv, hLn⟩ := id hI
  have hG := hJ.1
  have hI1 := hG.1.1
  have hc := Q8_dropped (X := X) (P := P) (V := V) (z := z) (d := d + 13) hP hW.1
  have hB := lw_Bs hI hW (mX_X_rfl _ _ _) rfl
  have hc : mv_call X (d + 14) 121 [.ref x] (mz_h P V, z) = some (.inl (some (.int (nZ (w 1 3)))), (mz_h P V, z)) := hc
  obtain ⟨hB2, hM2, hw2, hn2, ho2, hd2⟩ := lw_g hI hG hB (fun _ _ _ => rfl)
  have hr := Q9_dropped (X := X) (P := P) (V := V) (z := z) (d := d + 13) hM2
  rw [hw2.1.1] at hr
  have hr : mv_call X (d + 14) 229 [.ref (x + 376)] (mz_h P V, z) = some (.inl (some (.int (nZ (w 1 3)))), (mz_h P (mq_t V (x + 376) 0), z)) := hr
  refine ⟨P, mq_t V (x + 376) 0, z, v, n, w, j6, j7, ?_, lw_fin hI hB2 (mq_t_is hw2 _) (mq_t_X _ _ _) (mg_J_b (by omega) hJ)⟩
  rw [bk_L_law_2079, mz_rcv hP.o]
  simp only [mv_clI, mv_cl, hc]
  rw [mz_rcv hM2.o]
  simp only [hr]
  exact if_pos (by first | trivial | rfl)
theorem LS_2092 (hI : lw_I X x P V z v n w b) : lw_T X (d + 14) x b0 2092 i P V z b := by
  intro j6 j7
  obtain ⟨⟨hP, hW, hM, hw, hJ⟩, ⟨hx, ho, hD⟩, ⟨hz, hvz⟩, hvv, hLn⟩ := id hI
  have hG := hJ.1
  have hI1 := hG.1.1
  have hc := Q8_lost (X := X) (P := P) (V := V) (z := z) (d := d + 13) hP hW.1
  have hB := lw_Bs hI hW (mX_X_rfl _ _ _) rfl
  have hc : mv_call X (d + 14) 122 [.ref x] (mz_h P V, z) = some (.inl (some (.int (nZ (w 1 4)))), (mz_h P V, z)) := hc
  obtain ⟨hB2, hM2, hw2, hn2, ho2, hd2⟩ := lw_g hI hG hB (fun _ _ _ => rfl)
  have hr := Q9_lost (X := X) (P := P) (V := V) (z := z) (d := d + 13) hM2
  rw [hw2.1.1] at hr
  have hr : mv_call X (d + 14) 230 [.ref (x + 376)] (mz_h P V, z) = some (.inl (some (.int (nZ (w 1 4)))), (mz_h P (mq_t V (x + 376) 0), z)) := hr
  refine ⟨P, mq_t V (x + 376) 0, z, v, n, w, j6, j7, ?_, lw_fin hI hB2 (mq_t_is hw2 _) (mq_t_X _ _ _) (mg_J_b (by omega) hJ)⟩
  rw [bk_L_law_2092, mz_rcv hP.o]
  simp only [mv_clI, mv_cl, hc]
  rw [mz_rcv hM2.o]
  simp only [hr]
  exact if_pos (by first | trivial | rfl)
theorem LS_2066 (hI : lw_I X x P V z v n w b) : lw_T X (d + 14) x b0 2066 i P V z b := by
  intro j6 j7
  obtain ⟨⟨hP, hW, hM, hw, hJ⟩, ⟨hx, ho, hD⟩, ⟨hz, hvz⟩, hvv, hLn⟩ := id hI
  have hG := hJ.1
  have hI1 := hG.1.1
  have hc := Q8_aboard (X := X) (P := P) (V := V) (z := z) (d := d + 11) hP hI1 hW.1
  have hB := lw_Bs hI hW (mX_X_rfl _ _ _) rfl
  have hc : mv_call X (d + 14) 120 [.ref x] (mz_h P V, z) = some (.inl (some (.int (nZ (mq_wgt (w 1))))), (mz_h P V, z)) := hc
  obtain ⟨hB2, hM2, hw2, hn2, ho2, hd2⟩ := lw_g hI hG hB (fun _ _ _ => rfl)
  have hr := Q9_aboard (X := X) (P := P) (V := V) (z := z) (d := d + 11) hM2 (by rw [hw2.1.1]; exact hI1)
  rw [hw2.1.1] at hr
  have hr : mv_call X (d + 14) 228 [.ref (x + 376)] (mz_h P V, z) = some (.inl (some (.int (nZ (mq_wgt (w 1))))), (mz_h P (mq_t V (x + 376) 0), z)) := hr
  refine ⟨P, mq_t V (x + 376) 0, z, v, n, w, j6, j7, ?_, lw_fin hI hB2 (mq_t_is hw2 _) (mq_t_X _ _ _) (mg_J_b (by omega) hJ)⟩
  rw [bk_L_law_2066, mz_rcv hP.o]
  simp only [mv_clI, mv_cl, hc]
  rw [mz_rcv hM2.o]
  simp only [hr]
  exact if_pos (by first | trivial | rfl)
theorem LS_2682 (hI : lw_I X x P V z v n w b) : lw_T X (d + 14) x b0 2682 i P V z b := by
  intro j6 j7
  obtain ⟨⟨hP, hW, hM, hw, hJ⟩, ⟨hx, ho, hD⟩, ⟨hz, hvz⟩, hvv, hLn⟩ := id hI
  have hG := hJ.1
  have hI1 := hG.1.1
  have hc := Q8_undoCount (X := X) (P := P) (V := V) (z := z) (d := d + 13) hP hW
  have hB := lw_Bs hI hW (mX_X_rfl _ _ _) rfl
  have hc : mv_call X (d + 14) 134 [.ref x] (mz_h P V, z) = some (.inl (some (.int (nZ (w 0 6)))), (mz_h P V, z)) := hc
  obtain ⟨hB2, hM2, hw2, hn2, ho2, hd2⟩ := lw_g hI hG hB (fun _ _ _ => rfl)
  have hr := Q9_undoCount (X := X) (P := P) (V := V) (z := z) (d := d + 13) hM2 hw2
  have hr : mv_call X (d + 14) 250 [.ref (x + 376)] (mz_h P V, z) = some (.inl (some (.int (nZ (w 0 6)))), (mz_h P (mq_t V (x + 376) 0), z)) := hr
  refine ⟨P, mq_t V (x + 376) 0, z, v, n, w, j6, j7, ?_, lw_fin hI hB2 (mq_t_is hw2 _) (mq_t_X _ _ _) (mg_J_b (by omega) hJ)⟩
  rw [bk_L_law_2682, mz_rcv hP.o]
  simp only [mv_clI, mv_cl, hc]
  rw [mz_rcv hM2.o]
  simp only [hr]
  exact if_pos (by first | trivial | rfl)
theorem LS_1495 (hI : lw_I X x P V z v n w b) : lw_T X (d + 14) x b0 1495 i P V z b := by
  intro j6 j7
  obtain ⟨⟨hP, hW, hM, hw, hJ⟩, ⟨hx, ho, hD⟩, ⟨hz, hvz⟩, hvv, hLn⟩ := id hI
  have hG := hJ.1
  have hI1 := hG.1.1
  obtain ⟨f, hc⟩ := Q8_tangles (X := X) (P := P) (V := V) (z := z) (d := d + 8) hP hI1 hW.1
  obtain ⟨V1, hV1⟩ : ∃ V1, V1 = mz_w V (x + 370) f := ⟨_, rfl⟩
  rw [← hV1] at hc
  have hU : ∀ r, r ≠ x + 370 → r ≠ x + 371 → V1 r = V r := fun r r1 r2 => by rw [hV1]; rw [mz_w_n _ _ (by omega)]
  have hB := lw_Bs (V1 := V1) hI (mX_is_g hG (by omega) (fun r r1 r2 => hU r (by omega) (by omega)) (hU v (by omega) (by omega)) hW) (fun r r1 r2 => hU r (by omega) (by omega)) rfl
  have hc : mv_call X (d + 14) 104 [.ref x] (mz_h P V, z) = some (.inl (some (.int (nZ (mq_tgl (w 1))))), (mz_h P V1, z)) := hc
  obtain ⟨hB2, hM2, hw2, hn2, ho2, hd2⟩ := lw_g hI hG hB (fun _ _ _ => rfl)
  have hr := Q9_tangles (X := X) (P := P) (V := V1) (z := z) (d := d + 7) hM2 (by rw [hw2.1.1]; exact hI1)
  rw [hw2.1.1] at hr
  have hr : mv_call X (d + 14) 213 [.ref (x + 376)] (mz_h P V1, z) = some (.inl (some (.int (nZ (mq_tgl (w 1))))), (mz_h P (mq_t V1 (x + 376) 0), z)) := hr
  refine ⟨P, mq_t V1 (x + 376) 0, z, v, n, w, j6, j7, ?_, lw_fin hI hB2 (mq_t_is hw2 _) (mq_t_X _ _ _) (mg_J_b (by omega) hJ)⟩
  rw [bk_L_law_1495, mz_rcv hP.o]
  simp only [mv_clI, mv_cl, hc]
  rw [mz_rcv hM2.o]
  simp only [hr]
  exact if_pos (by first | trivial | rfl)
theorem LS_1508 (hI : lw_I X x P V z v n w b) : lw_T X (d + 14) x b0 1508 i P V z b := by
  intro j6 j7
  obtain ⟨⟨hP, hW, hM, hw, hJ⟩, ⟨hx, ho, hD⟩, ⟨hz, hvz⟩, hvv, hLn⟩ := id hI
  have hG := hJ.1
  have hI1 := hG.1.1
  obtain ⟨f, g, hc⟩ := Q8_tanglesByMerging (X := X) (P := P) (V := V) (z := z) (d := d + 6) hP hI1 hW.1
  obtain ⟨V1, hV1⟩ : ∃ V1, V1 = mz_w (mz_w V (x + 370) f) (x + 371) g := ⟨_, rfl⟩
  rw [← hV1] at hc
  have hU : ∀ r, r ≠ x + 370 → r ≠ x + 371 → V1 r = V r := fun r r1 r2 => by rw [hV1]; rw [mz_w_n _ _ (by omega), mz_w_n _ _ (by omega)]
  have hB := lw_Bs (V1 := V1) hI (mX_is_g hG (by omega) (fun r r1 r2 => hU r (by omega) (by omega)) (hU v (by omega) (by omega)) hW) (fun r r1 r2 => hU r (by omega) (by omega)) rfl
  have hc : mv_call X (d + 14) 105 [.ref x] (mz_h P V, z) = some (.inl (some (.int (nZ (mq_tgl (w 1))))), (mz_h P V1, z)) := hc
  obtain ⟨hB2, hM2, hw2, hn2, ho2, hd2⟩ := lw_g hI hG hB (fun _ _ _ => rfl)
  have hr := Q9_tanglesByMerging (X := X) (P := P) (V := V1) (z := z) (d := d + 6) hM2 (by rw [hw2.1.1]; exact hI1)
  rw [hw2.1.1] at hr
  have hr : mv_call X (d + 14) 214 [.ref (x + 376)] (mz_h P V1, z) = some (.inl (some (.int (nZ (mq_tgl (w 1))))), (mz_h P (mq_t V1 (x + 376) 0), z)) := hr
  refine ⟨P, mq_t V1 (x + 376) 0, z, v, n, w, j6, j7, ?_, lw_fin hI hB2 (mq_t_is hw2 _) (mq_t_X _ _ _) (mg_J_b (by omega) hJ)⟩
  rw [bk_L_law_1508, mz_rcv hP.o]
  simp only [mv_clI, mv_cl, hc]
  rw [mz_rcv hM2.o]
  simp only [hr]
  exact if_pos (by first | trivial | rfl)
theorem LS_2695 (hI : lw_I X x P V z v n w b) : lw_T X (d + 14) x b0 2695 i P V z b := by
  intro j6 j7
  obtain ⟨⟨hP, hW, hM, hw, hJ⟩, ⟨hx, ho, hD⟩, ⟨hz, hvz⟩, hvv, hLn⟩ := id hI
  have hG := hJ.1
  have hI1 := hG.1.1
  obtain ⟨V1, hc, hW1, hX1⟩ := Q8_saveSnapshot (X := X) (P := P) (V := V) (z := z) (d := d + 10) hP hW hG
  have hJ1 := mg_sv_J hJ
  have hB := lw_Bs hI hW1 hX1 (mg_sv_16 w)
  have hc : mv_call X (d + 14) 135 [.ref x] (mz_h P V, z) = _ := hc
  obtain ⟨hB2, hM2, hw2, hn2, ho2, hd2⟩ := lw_g hI hJ1.1 hB (fun _ _ _ => rfl)
  obtain ⟨V3, hr, c3, s3, x3⟩ := Q9_saveSnapshot (X := X) (P := P) (V := V1) (z := z) (d := d + 11) hM2 hw2
  have hr : mv_call X (d + 14) 251 [.ref (x + 376)] (mz_h P V1, z) = _ := hr
  refine ⟨P, V3, z, v, n, mg_sv w, j6, j7, ?_, lw_fin hI hB2 s3 x3 (mg_J_b (by omega) hJ1)⟩
  rw [bk_L_law_2695, mz_rcv hP.o]
  simp only [mv_clI, mv_cl, hc]
  rw [mz_rcv hM2.o]
  simp only [hr]
  exact if_pos (by first | trivial | rfl)
theorem LS_2014 (hI : lw_I X x P V z v n w b) (hb : b ≤ 999999000) : lw_T X (d + 14) x b0 2014 i P V z b := by
  intro j6 j7
  obtain ⟨⟨hP, hW, hM, hw, hJ⟩, ⟨hx, ho, hD⟩, ⟨hz, hvz⟩, hvv, hLn⟩ := id hI
  have hG := hJ.1
  have hI1 := hG.1.1
  obtain ⟨V1, hc, hW1, hX1⟩ := Q8_burstsAhead (X := X) (P := P) (V := V) (z := z) (d := d + 7) hP hW hG (by omega)
  have hB0 := lw_Bs hI hW1 hX1 rfl
  obtain ⟨-, hM0, hw0, -, -, -⟩ := lw_g hI hG hB0 (V2 := V1) (fun _ _ _ => rfl)
  have hc : mv_call X (d + 14) 116 [.ref x] (mz_h P V, z) = _ := hc
  obtain ⟨V3, s, hr, c3, hs, s3, x3⟩ := Q9_burstsAhead (X := X) (P := P) (V := V1) (z := z) (d := d + 5) hM0 hw0 hG (by omega)
  have hr : mv_call X (d + 14) 224 [.ref (x + 376)] (mz_h P V1, z) = _ := hr
  have hGs : mg_I (mz_w w 1 s) b := mg_I_1 hG (mr_I_e hs hI1) (by rw [hs 0 (by decide)]; exact hG.1.2)
  have hJs : mg_J (mz_w w 1 s) b := ⟨hGs, by rw [mz_w_n _ _ (by decide)]; exact hJ.2⟩
  have hWs : mX_is V1 x v (mz_w w 1 s) := by
    obtain ⟨a1, a2⟩ := hW1
    refine ⟨?_, ?_⟩
    · rw [mz_w_s]; exact mh_R_e hI1.pil.2 hs a1
    · unfold mX_s mX_h mX_t mX_l mX_d at a2 ⊢
      rw [mz_w_n _ _ (show 0 ≠ 1 by decide), mz_w_n _ _ (show 3 ≠ 1 by decide), mz_w_n _ _ (show 4 ≠ 1 by decide), mz_w_n _ _ (show 6 ≠ 1 by decide), mz_w_n _ _ (show 8 ≠ 1 by decide)]
      exact a2
  have hB := lw_Bs (w1 := mz_w w 1 s) hI hWs hX1 (by rw [mz_w_n _ _ (by decide)])
  obtain ⟨hB2, hM2, hw2, hn2, ho2, hd2⟩ := lw_g hI hGs hB (V2 := V1) (fun _ _ _ => rfl)
  refine ⟨P, V3, z, v, n, mz_w w 1 s, j6, j7, ?_, lw_fin hI hB2 s3 x3 (mg_J_b (by omega) hJs)⟩
  rw [bk_L_law_2014, mz_rcv hP.o]
  simp only [mv_clI, mv_cl, hc]
  rw [mz_rcv hM2.o]
  simp only [hr]
  exact if_pos (by first | trivial | rfl)
theorem LS_1932 (hI : lw_I X x P V z v n w b) : lw_T X (d + 14) x b0 1932 i P V z b := by
  intro j6 j7
  obtain ⟨⟨hP, hW, hM, hw, hJ⟩, ⟨hx, ho, hD⟩, ⟨hz, hvz⟩, hvv, hLn⟩ := id hI
  have hG := hJ.1
  have hI1 := hG.1.1
  have hpI := mq_pI_of hI1 hW.1
  obtain ⟨N, f0, g0, hN, -⟩ := Q9_mostCrewed (X := X) (P := P) (V := V) (z := z) (d := d + 9) hM (by rw [hw.1.1]; exact hI1) (by rw [hw.1.1]; exact hpI)
  rw [hw.1.1] at hN
  obtain ⟨f, g, hc⟩ := Q8_mostCrewed (X := X) (P := P) (V := V) (z := z) (d := d + 3) hP hI1 hW.1 hN
  obtain ⟨V1, hV1⟩ : ∃ V1, V1 = mz_w (mz_w V (x + 373) f) (x + 374) g := ⟨_, rfl⟩
  rw [← hV1] at hc
  have hU : ∀ r, (r < x + 373 ∨ x + 376 ≤ r) → V1 r = V r := fun r r1 => by rw [hV1]; rw [mz_w_n _ _ (by omega), mz_w_n _ _ (by omega)]
  have hB := lw_Bs (V1 := V1) hI (mX_is_g hG (by omega) (fun r r1 r2 => hU r (by omega)) (hU v (by omega)) hW) (fun r r1 r2 => hU r (by omega)) rfl
  have hc : mv_call X (d + 14) 113 [.ref x] (mz_h P V, z) = some (.inl (some (.int (nZ N))), (mz_h P V1, z)) := hc
  obtain ⟨hB2, hM2, hw2, hn2, ho2, hd2⟩ := lw_g hI hG hB (fun _ _ _ => rfl)
  obtain ⟨N2, f2, g2, hN2, hr⟩ := Q9_mostCrewed (X := X) (P := P) (V := V1) (z := z) (d := d + 9) hM2 (by rw [hw2.1.1]; exact hI1) (by rw [hw2.1.1]; exact hpI)
  rw [hw2.1.1] at hN2
  have heq := cw_max_u hN2 hN
  subst heq
  have hr : mv_call X (d + 14) 222 [.ref (x + 376)] (mz_h P V1, z) = some (.inl (some (.int (nZ N2))), (mz_h P (mz_w (mz_w (mq_t V1 (x + 376) 0) (x + 376 + 11) f2) (x + 376 + 12) g2), z)) := hr
  refine ⟨P, mz_w (mz_w (mq_t V1 (x + 376) 0) (x + 376 + 11) f2) (x + 376 + 12) g2, z, v, n, w, j6, j7, ?_, lw_fin hI hB2 (mr_is_o (V := mq_t V1 (x + 376) 0) (fun r _ _ _ _ _ r1 r2 => by rw [mz_w_n _ _ r2, mz_w_n _ _ r1]) (mq_t_is hw2 0)) (fun r hr => by rw [mz_w_n _ _ (by omega), mz_w_n _ _ (by omega), mq_t_r _ _ (by omega)]) (mg_J_b (by omega) hJ)⟩
  rw [bk_L_law_1932, mz_rcv hP.o]
  simp only [mv_clI, mv_cl, hc]
  rw [mz_rcv hM2.o]
  simp only [hr]
  exact if_pos (by first | trivial | rfl)
theorem LS_1945 (hI : lw_I X x P V z v n w b) : lw_T X (d + 14) x b0 1945 i P V z b := by
  intro j6 j7
  obtain ⟨⟨hP, hW, hM, hw, hJ⟩, ⟨hx, ho, hD⟩, ⟨hz, hvz⟩, hvv, hLn⟩ := id hI
  have hG := hJ.1
  have hI1 := hG.1.1
  have hpI := mq_pI_of hI1 hW.1
  obtain ⟨N, f0, g0, hN, -⟩ := Q9_mostCrewedBySets (X := X) (P := P) (V := V) (z := z) (d := d + 8) hM (by rw [hw.1.1]; exact hI1) (by rw [hw.1.1]; exact hpI)
  rw [hw.1.1] at hN
  obtain ⟨f, hc⟩ := Q8_mostCrewedBySets (X := X) (P := P) (V := V) (z := z) (d := d + 9) hP hI1 hW.1 hN
  obtain ⟨V1, hV1⟩ : ∃ V1, V1 = mz_w V (x + 375) f := ⟨_, rfl⟩
  rw [← hV1] at hc
  have hU : ∀ r, (r < x + 373 ∨ x + 376 ≤ r) → V1 r = V r := fun r r1 => by rw [hV1]; rw [mz_w_n _ _ (by omega)]
  have hB := lw_Bs (V1 := V1) hI (mX_is_g hG (by omega) (fun r r1 r2 => hU r (by omega)) (hU v (by omega)) hW) (fun r r1 r2 => hU r (by omega)) rfl
  have hc : mv_call X (d + 14) 114 [.ref x] (mz_h P V, z) = some (.inl (some (.int (nZ N))), (mz_h P V1, z)) := hc
  obtain ⟨hB2, hM2, hw2, hn2, ho2, hd2⟩ := lw_g hI hG hB (fun _ _ _ => rfl)
  obtain ⟨N2, f2, g2, hN2, hr⟩ := Q9_mostCrewedBySets (X := X) (P := P) (V := V1) (z := z) (d := d + 8) hM2 (by rw [hw2.1.1]; exact hI1) (by rw [hw2.1.1]; exact hpI)
  rw [hw2.1.1] at hN2
  have heq := cw_max_u hN2 hN
  subst heq
  have hr : mv_call X (d + 14) 223 [.ref (x + 376)] (mz_h P V1, z) = some (.inl (some (.int (nZ N2))), (mz_h P (mz_w (mz_w (mq_t V1 (x + 376) 0) (x + 376 + 11) f2) (x + 376 + 12) g2), z)) := hr
  refine ⟨P, mz_w (mz_w (mq_t V1 (x + 376) 0) (x + 376 + 11) f2) (x + 376 + 12) g2, z, v, n, w, j6, j7, ?_, lw_fin hI hB2 (mr_is_o (V := mq_t V1 (x + 376) 0) (fun r _ _ _ _ _ r1 r2 => by rw [mz_w_n _ _ r2, mz_w_n _ _ r1]) (mq_t_is hw2 0)) (fun r hr => by rw [mz_w_n _ _ (by omega), mz_w_n _ _ (by omega), mq_t_r _ _ (by omega)]) (mg_J_b (by omega) hJ)⟩
  rw [bk_L_law_1945, mz_rcv hP.o]
  simp only [mv_clI, mv_cl, hc]
  rw [mz_rcv hM2.o]
  simp only [hr]
  exact if_pos (by first | trivial | rfl)
theorem LS_2105 (hI : lw_I X x P V z v n w b) : lw_T X (d + 14) x b0 2105 i P V z b := by
  intro j6 j7
  obtain ⟨⟨hP, hW, hM, hw, hJ⟩, ⟨hx, ho, hD⟩, ⟨hz, hvz⟩, hvv, hLn⟩ := id hI
  have hG := hJ.1
  have hI1 := hG.1.1
  have hc := Q8_meanHeight (X := X) (P := P) (V := V) (z := z) (d := d + 9) hP hI1 hW.1
  have hc : mv_call X (d + 13) 123 [.ref x] (mz_h P V, z) = _ := hc
  by_cases c : mq_cnt (w 1) = 0
  · rw [if_pos c] at hc
    have hA : mv_call X (d + 14) 311 [.ref x, .ref (x + 390)] (mz_h P V, z) = some (.inl (some (.int (nZ 1))), (mz_h P V, (z.1 + 1, z.2 + 6))) := by
      rw [mc_L_meanHeight, bk_L_meanHeight_0, bk_L_meanHeight_3, mz_rcv hP.o]
      simp only [mv_clD, mv_cl, hc]
      exact bk_L_meanHeight_11 _ _ _ _ _
    have hB : lw_B X x P V z P V (z.1 + 1, z.2 + 6) v n w := ⟨⟨hP, hW, hx⟩, fun _ _ _ => ⟨rfl, rfl⟩, fun _ _ _ => rfl, ⟨by show z.1 ≤ z.1 + 1; omega, by show z.1 + 1 ≤ z.1 + 24; omega⟩, ⟨by show z.2 ≤ z.2 + 6; omega, by show z.2 + 6 ≤ z.2 + 1290; omega⟩, by show v < z.1 + 1; omega, hvv, hLn⟩
    obtain ⟨hB2, hM2, hw2, hn2, ho2, hd2⟩ := lw_g hI hG hB (V2 := V) (fun _ _ _ => rfl)
    have hr := Q9_meanHeight (X := X) (P := P) (V := V) (z := (z.1 + 1, z.2 + 6)) (d := d + 8) hM2 (by rw [hw2.1.1]; exact hI1)
    rw [hw2.1.1, if_pos c, if_pos c] at hr
    have hr : mv_call X (d + 14) 231 [.ref (x + 376)] (mz_h P V, (z.1 + 1, z.2 + 6)) = _ := hr
    refine ⟨P, mq_t V (x + 376) 1, (z.1 + 1, z.2 + 6), v, n, w, .int (nZ 1), .double FP.dconst0, ?_, lw_fin hI hB2 (mq_t_is hw2 _) (mq_t_X _ _ _) (mg_J_b (by omega) hJ)⟩
    rw [bk_L_law_2105]
    simp only [mv_clI, mv_clD, mv_cl, hA]
    rw [mz_rcv hM2.o]
    simp only [hr]
    rw [mz_rcv hM2.o]
    simp only [Q9_thrown (d := d + 13) hM2]
    rw [mq_t_0, if_pos (by first | trivial | rfl), if_neg (by decide)]
  · rw [if_neg c] at hc
    obtain ⟨V2, hV2⟩ : ∃ V2, V2 = mz_u V (x + 390) 0 (mq_mean (w 1)).toNat := ⟨_, rfl⟩
    have hA : mv_call X (d + 14) 311 [.ref x, .ref (x + 390)] (mz_h P V, z) = some (.inl (some (.int (nZ 0))), (mz_h P V2, z)) := by
      rw [mc_L_meanHeight, bk_L_meanHeight_0, bk_L_meanHeight_3, mz_rcv hP.o]
      simp only [mv_clD, mv_cl, hc]
      rw [bk_L_meanHeight_6, mz_as5 hD, hV2]
    have hB := lw_Bs hI hW (mX_X_rfl _ _ _) rfl
    obtain ⟨hB2, hM2, hw2, hn2, ho2, hd2⟩ := lw_g hI hG hB (V2 := V2) (fun r _ r2 => by rw [hV2, mz_u_o r2])
    have hr := Q9_meanHeight (X := X) (P := P) (V := V2) (z := z) (d := d + 8) hM2 (by rw [hw2.1.1]; exact hI1)
    rw [hw2.1.1, if_neg c, if_neg c] at hr
    have hr : mv_call X (d + 14) 231 [.ref (x + 376)] (mz_h P V2, z) = _ := hr
    have hcn := mq_cnt_in hI1
    have hdd := mq_dd (mq_hgt_in hI1) (c := mq_cnt (w 1)) (by omega)
    have hd3 : Op.cmpValue (FP.dcmp (mq_mean (w 1)) (mq_mean (w 1))) .l = 0 := hdd.2
    have hmm : UInt64.ofNat (mq_t V2 (x + 376) 0 (x + 390) 0).toNat = mq_mean (w 1) := by
      rw [mq_t_r _ _ (by omega), hV2, mz_u_s, Int.toNat_natCast, UInt64.ofNat_toNat]
    refine ⟨P, mq_t V2 (x + 376) 0, z, v, n, w, .int (nZ 0), .double (mq_mean (w 1)), ?_, lw_fin hI hB2 (mq_t_is hw2 _) (mq_t_X _ _ _) (mg_J_b (by omega) hJ)⟩
    rw [bk_L_law_2105]
    simp only [mv_clI, mv_clD, mv_cl, hA]
    rw [mz_rcv hM2.o]
    simp only [hr]
    rw [mz_rcv hM2.o]
    simp only [Q9_thrown (d := d + 13) hM2]
    rw [mq_t_0, if_pos (by first | trivial | rfl), if_pos (by first | trivial | rfl), mz_aD hd2, hmm, if_pos hd3]
theorem LS_2170 (hI : lw_I X x P V z v n w b) (hS : lw_X X x b0 L y) (hi : i + 5 ≤ L) : lw_T X (d + 14) x b0 2170 i P V z b := by
  intro j6 j7
  obtain ⟨⟨hP, hW, hM, hw, hJ⟩, ⟨hx, ho, hD⟩, ⟨hz, hvz⟩, hvv, hLn⟩ := id hI
  have hG := hJ.1
  have hI1 := hG.1.1
  have m1 := hS.2.2.2 (i + 1)
  have hst : ∀ k, k < 10 → w 1 (6 + 11 * k) = 1 → 1 ≤ w 1 (6 + 11 * k + 3) := fun k hk hh => hW.1.str hk hh
  have hc := Q8_strain (X := X) (P := P) (V := V) (z := z) (d := d + 8) hP hI1 hW.1 m1
  have hc : mv_call X (d + 13) 124 [.ref x, .int (nZ (y (i + 1)))] (mz_h P V, z) = _ := hc
  by_cases c : mr_has (w 1) (y (i + 1))
  · have hb0 : mq_b (w 1) (y (i + 1)) = 0 := by unfold mq_b; rw [if_pos c]
    rw [if_pos hb0] at hc
    obtain ⟨k, hk, hk10, hh⟩ := mr_has_h c
    have hkn : (y (i + 1)).toNat = k := by omega
    have hh3 := hI1.2.2.2 k hk10
    have hho : 0 ≤ mr_ho (w 1) k 0 ∧ mr_ho (w 1) k 0 ≤ 40 := ⟨mr_ho0 hI1 hk10 0, mr_ho1 hI1 hk10 0⟩
    have hff := mq_ff (g := mr_ho (w 1) (y (i + 1)).toNat 0) (c := w 1 (6 + 11 * (y (i + 1)).toNat + 3)) (by rw [hkn]; exact hho) (by rw [hkn]; exact ⟨hst k hk10 hh, hh3.2.2.2.1.2⟩)
    have hf2 : (FP.f2d (mq_str (w 1) (y (i + 1)).toNat)) &&& 0x7fffffffffffffff ≤ 0x7ff0000000000000 := hff.2.1
    have hf3 : Op.cmpValue (FP.dcmp (FP.f2d (mq_str (w 1) (y (i + 1)).toNat)) (FP.f2d (mq_str (w 1) (y (i + 1)).toNat))) .l = 0 := hff.2.2
    obtain ⟨V2, hV2⟩ : ∃ V2, V2 = mz_u V (x + 390) 0 (FP.f2d (mq_str (w 1) (y (i + 1)).toNat)).toNat := ⟨_, rfl⟩
    have hA : mv_call X (d + 14) 312 [.ref x, .int (nZ (y (i + 1))), .ref (x + 390)] (mz_h P V, z) = some (.inl (some (.int (nZ 0))), (mz_h P V2, z)) := by
      rw [mc_L_strain, bk_L_strain_0, bk_L_strain_4, mz_rcv hP.o]
      simp only [mv_clF, mv_cl, hc]
      rw [bk_L_strain_7, mv_chk_t (decide_eq_true hf2), mz_as5 hD, hV2]
    have hB := lw_Bs hI hW (mX_X_rfl _ _ _) rfl
    obtain ⟨hB2, hM2, hw2, hn2, ho2, hd2⟩ := lw_g hI hG hB (V2 := V2) (fun r _ r2 => by rw [hV2, mz_u_o r2])
    have hr := Q9_strain (X := X) (P := P) (V := V2) (z := z) (d := d + 8) hM2 (by rw [hw2.1.1]; exact hI1) m1 (by rw [hw2.1.1]; exact hst)
    rw [hw2.1.1, if_pos c, hb0] at hr
    have hr : mv_call X (d + 14) 232 [.ref (x + 376), .int (nZ (y (i + 1)))] (mz_h P V2, z) = _ := hr
    have hmm : UInt64.ofNat (mq_t V2 (x + 376) 0 (x + 390) 0).toNat = FP.f2d (mq_str (w 1) (y (i + 1)).toNat) := by
      rw [mq_t_r _ _ (by omega), hV2, mz_u_s, Int.toNat_natCast, UInt64.ofNat_toNat]
    refine ⟨P, mq_t V2 (x + 376) 0, z, v, n, w, .int (nZ 0), .float (mq_str (w 1) (y (i + 1)).toNat), ?_, lw_fin hI hB2 (mq_t_is hw2 _) (mq_t_X _ _ _) (mg_J_b (by omega) hJ)⟩
    rw [bk_L_law_2170, lw_rdj (c := 1) hx.1 hS 1 rfl (by omega)]
    simp only [mv_clI, mv_clF, mv_cl, hA]
    rw [lw_rdj (c := 1) hn2 hS 1 rfl (by omega), mz_rcv hM2.o]
    simp only [hr]
    rw [mz_rcv hM2.o]
    simp only [Q9_thrown (d := d + 13) hM2]
    rw [mq_t_0, if_pos (by first | trivial | rfl), if_pos (by first | trivial | rfl), mz_aD hd2, hmm, mv_chk_t (decide_eq_true hf2), if_pos hf3]
  · have hb1 : mq_b (w 1) (y (i + 1)) = 1 := by unfold mq_b; rw [if_neg c]
    rw [if_neg (by rw [hb1]; decide)] at hc
    have hA : mv_call X (d + 14) 312 [.ref x, .int (nZ (y (i + 1))), .ref (x + 390)] (mz_h P V, z) = some (.inl (some (.int (nZ 1))), (mz_h P V, (z.1 + 1, z.2 + 6))) := by
      rw [mc_L_strain, bk_L_strain_0, bk_L_strain_4, mz_rcv hP.o]
      simp only [mv_clF, mv_cl, hc]
      exact bk_L_strain_13 _ _ _ _ _ _
    have hB : lw_B X x P V z P V (z.1 + 1, z.2 + 6) v n w := ⟨⟨hP, hW, hx⟩, fun _ _ _ => ⟨rfl, rfl⟩, fun _ _ _ => rfl, ⟨by show z.1 ≤ z.1 + 1; omega, by show z.1 + 1 ≤ z.1 + 24; omega⟩, ⟨by show z.2 ≤ z.2 + 6; omega, by show z.2 + 6 ≤ z.2 + 1290; omega⟩, by show v < z.1 + 1; omega, hvv, hLn⟩
    obtain ⟨hB2, hM2, hw2, hn2, ho2, hd2⟩ := lw_g hI hG hB (V2 := V) (fun _ _ _ => rfl)
    have hr := Q9_strain (X := X) (P := P) (V := V) (z := (z.1 + 1, z.2 + 6)) (d := d + 8) hM2 (by rw [hw2.1.1]; exact hI1) m1 (by rw [hw2.1.1]; exact hst)
    rw [hw2.1.1, if_neg c, hb1] at hr
    have hr : mv_call X (d + 14) 232 [.ref (x + 376), .int (nZ (y (i + 1)))] (mz_h P V, (z.1 + 1, z.2 + 6)) = _ := hr
    refine ⟨P, mq_t V (x + 376) 1, (z.1 + 1, z.2 + 6), v, n, w, .int (nZ 1), .float FP.fconst0, ?_, lw_fin hI hB2 (mq_t_is hw2 _) (mq_t_X _ _ _) (mg_J_b (by omega) hJ)⟩
    rw [bk_L_law_2170, lw_rdj (c := 1) hx.1 hS 1 rfl (by omega)]
    simp only [mv_clI, mv_clF, mv_cl, hA]
    rw [lw_rdj (c := 1) hn2 hS 1 rfl (by omega), mz_rcv hM2.o]
    simp only [hr]
    rw [mz_rcv hM2.o]
    simp only [Q9_thrown (d := d + 13) hM2]
    rw [mq_t_0, if_pos (by first | trivial | rfl), if_neg (by decide)]
end LAWD
