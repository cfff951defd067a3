/-! THE LAW: changes -/
section LAWC
variable {X : mv_X} {P : mz_P} {V : mz_V} {z : Nat × Nat} {x v n d b0 L i : Nat} {w : mz_V} {b : Int} {y : Nat → Int}
theorem LS_272 (hI : lw_I X x P V z v n w b) (hS : lw_X X x b0 L y) (hi : i + 5 ≤ L) (hb : b ≤ 999999000) : lw_T X (d + 14) x b0 272 i P V z b := by
  intro j6 j7
  obtain ⟨⟨hP, hW, hM, hw, hJ⟩, ⟨hx, ho, hD⟩, ⟨hz, hvz⟩, hvv, hLn⟩ := id hI
  have hG := hJ.1
  have hI1 := hG.1.1
  have hbw := hG.1.2
  have m1 := hS.2.2.2 (i + 1)
  have m2 := hS.2.2.2 (i + 2)
  have m3 := hS.2.2.2 (i + 3)
  have m4 := hS.2.2.2 (i + 4)
  obtain ⟨u, hu⟩ : ∃ u : Nat → Int, u = fun q => if q = 0 then y (i + 1) else if q = 1 then y (i + 2) else if q = 2 then y (i + 3) else y (i + 4) := ⟨_, rfl⟩
  have hus : ∀ q, q < 4 → nS (u q) := fun q hq => by
    rw [hu]
    show nS (if q = 0 then y (i + 1) else if q = 1 then y (i + 2) else if q = 2 then y (i + 3) else y (i + 4))
    (repeat' split) <;> first | assumption | decide
  obtain ⟨V1, z1, hO, hB⟩ := lw_chg (X := X) (d := d + 4) hI (by omega) (k := 0) (by decide) m1 m2 m3 m4 hu
  obtain ⟨r, hr0⟩ : ∃ r, r = mc_rf (w 1) 0 u := ⟨_, rfl⟩
  have hrv : r = 0 ∨ r = 2 ∨ r = 8 := by
    rw [hr0]
    show mc_rf0 _ _ _ _ _ = 0 ∨ mc_rf0 _ _ _ _ _ = 2 ∨ mc_rf0 _ _ _ _ _ = 8
    unfold mc_rf0
    (repeat' split) <;> decide
  rw [← hr0] at hO
  have hO : lw_o (mv_call X (d + 12) 137 [.ref x, .int (nZ 0), .int (nZ (y (i + 1))), .int (nZ (y (i + 2))), .int (nZ (y (i + 3))), .int (nZ (y (i + 4)))] (mz_h P V, z)) (mg_cd 0 r) (mc_an (w 1) 0 u) (mg_ex r) P V1 z1 := hO
  have hO2 : lw_o (mv_call X (d + 13) 84 [.ref x, .int (nZ (y (i + 1))), .int (nZ (y (i + 2))), .int (nZ (y (i + 3))), .int (nZ (y (i + 4)))] (mz_h P V, z)) (mg_cd 0 r) (mc_an (w 1) 0 u) (mg_ex r) P V1 z1 := by
    rcases hO with ⟨c, e⟩ | ⟨c, q, e⟩
    · refine Or.inl ⟨c, ?_⟩
      rw [mc_X8_moor, bk_X8_moor_0, mz_rcv hP.o]
      simp only [mv_clI, mv_cl, e]
    · refine Or.inr ⟨c, q, ?_⟩
      rw [mc_X8_moor, bk_X8_moor_0, mz_rcv hP.o]
      simp only [mv_clI, mv_cl, e]
      rfl
  obtain ⟨V2, hA, h0, hV⟩ := LX_moor hP ho hO2 (by rcases hrv with e | e | e <;> rw [e] <;> first | (intro _; rfl) | (intro h; exact absurd rfl h))
  have hSt := mg_st_J hJ (by omega) (k := 0) (by decide) (y := u) (hus 1 (by decide))
  obtain ⟨hB2, hM2, hw2, hn2, ho2, hd2⟩ := lw_g hI hSt.1 hB (fun r r1 _ => hV r r1)
  have hA : mv_call X (d + 14) 285 [.ref x, .int (nZ (y (i + 1))), .int (nZ (y (i + 2))), .int (nZ (y (i + 3))), .int (nZ (y (i + 4))), .ref (x + 389)] (mz_h P V, z) = _ := hA
  obtain ⟨V3, e3, c3, s3, x3⟩ := X9_change (X := X) (z := z1) (d := d + 4) (V := V2) hM2 hw2 hI1 (by omega) hG.2.1 (k := 0) (by decide) (x := u) hus
  rw [← hr0] at e3 c3
  have ear : mg_ar 0 u = [.int (nZ (y (i + 1))), .int (nZ (y (i + 2))), .int (nZ (y (i + 3))), .int (nZ (y (i + 4)))] := by rw [hu]; rfl
  rw [ear] at e3
  have e3 : mv_call X (d + 14) 187 [.ref (x + 376), .int (nZ (y (i + 1))), .int (nZ (y (i + 2))), .int (nZ (y (i + 3))), .int (nZ (y (i + 4)))] (mz_h P V2, z1) = some (.inl (some (.int (nZ (if r = 0 then mc_an (w 1) 0 u else 0)))), (mz_h P V3, z1)) := e3
  refine ⟨P, V3, z1, v, n, mg_st w 0 u, .int (nZ (mg_cd 0 r)), .int (nZ (if r = 0 then mc_an (w 1) 0 u else 0)), ?_, lw_fin hI hB2 s3 x3 (mg_J_b (by omega) hSt)⟩
  rw [bk_L_law_272, lw_rdj (c := 1) hx.1 hS 1 rfl (by omega), lw_rdj (c := 2) hx.1 hS 2 rfl (by omega), lw_rdj (c := 3) hx.1 hS 3 rfl (by omega), lw_rdj (c := 4) hx.1 hS 4 rfl (by omega)]
  simp only [mv_clI, mv_cl, hA]
  rw [lw_rdj (c := 1) hn2 hS 1 rfl (by omega), lw_rdj (c := 2) hn2 hS 2 rfl (by omega), lw_rdj (c := 3) hn2 hS 3 rfl (by omega), lw_rdj (c := 4) hn2 hS 4 rfl (by omega), mz_rcv hM2.o]
  simp only [e3]
  rw [mz_rcv hM2.o]
  simp only [Q9_thrown (d := d + 13) hM2]
  exact lw_tail rfl rfl c3 (mg_cd3 0 r) ho2 (fun c0 => by rw [x3 _ (by omega), h0 c0, if_pos (mg_cd0.mp c0)])
theorem LS_364 (hI : lw_I X x P V z v n w b) (hS : lw_X X x b0 L y) (hi : i + 5 ≤ L) (hb : b ≤ 999999000) : lw_T X (d + 14) x b0 364 i P V z b := by
  intro j6 j7
  obtain ⟨⟨hP, hW, hM, hw, hJ⟩, ⟨hx, ho, hD⟩, ⟨hz, hvz⟩, hvv, hLn⟩ := id hI
  have hG := hJ.1
  have hI1 := hG.1.1
  have hbw := hG.1.2
  have m1 := hS.2.2.2 (i + 1)
  obtain ⟨u, hu⟩ : ∃ u : Nat → Int, u = fun q => if q = 0 then y (i + 1) else if q = 1 then 0 else if q = 2 then 0 else 0 := ⟨_, rfl⟩
  have hus : ∀ q, q < 4 → nS (u q) := fun q hq => by
    rw [hu]
    show nS (if q = 0 then y (i + 1) else if q = 1 then 0 else if q = 2 then 0 else 0)
    (repeat' split) <;> first | assumption | decide
  obtain ⟨V1, z1, hO, hB⟩ := lw_chg (X := X) (d := d + 4) hI (by omega) (k := 1) (by decide) m1 (show nS 0 by decide) (show nS 0 by decide) (show nS 0 by decide) hu
  obtain ⟨r, hr0⟩ : ∃ r, r = mc_rf (w 1) 1 u := ⟨_, rfl⟩
  have hrv : r = 0 ∨ r = 9 := by
    rw [hr0]
    show mc_rf1 _ _ = 0 ∨ mc_rf1 _ _ = 9
    unfold mc_rf1
    (repeat' split) <;> decide
  rw [← hr0] at hO
  have hO : lw_o (mv_call X (d + 12) 137 [.ref x, .int (nZ 1), .int (nZ (y (i + 1))), .int (nZ 0), .int (nZ 0), .int (nZ 0)] (mz_h P V, z)) (mg_cd 1 r) (mc_an (w 1) 1 u) (mg_ex r) P V1 z1 := hO
  have hO2 : lw_o (mv_call X (d + 13) 85 [.ref x, .int (nZ (y (i + 1)))] (mz_h P V, z)) (mg_cd 1 r) (mc_an (w 1) 1 u) (mg_ex r) P V1 z1 := by
    rcases hO with ⟨c, e⟩ | ⟨c, q, e⟩
    · refine Or.inl ⟨c, ?_⟩
      rw [mc_X8_castOff, bk_X8_castOff_0, mz_rcv hP.o]
      simp only [mv_clI, mv_cl, e]
    · refine Or.inr ⟨c, q, ?_⟩
      rw [mc_X8_castOff, bk_X8_castOff_0, mz_rcv hP.o]
      simp only [mv_clI, mv_cl, e]
      rfl
  obtain ⟨V2, hA, h0, hV⟩ := LX_castOff hP ho hO2 (by rcases hrv with e | e <;> rw [e] <;> first | (intro _; rfl) | (intro h; exact absurd rfl h))
  have hSt := mg_st_J hJ (by omega) (k := 1) (by decide) (y := u) (hus 1 (by decide))
  obtain ⟨hB2, hM2, hw2, hn2, ho2, hd2⟩ := lw_g hI hSt.1 hB (fun r r1 _ => hV r r1)
  have hA : mv_call X (d + 14) 286 [.ref x, .int (nZ (y (i + 1))), .ref (x + 389)] (mz_h P V, z) = _ := hA
  obtain ⟨V3, e3, c3, s3, x3⟩ := X9_change (X := X) (z := z1) (d := d + 4) (V := V2) hM2 hw2 hI1 (by omega) hG.2.1 (k := 1) (by decide) (x := u) hus
  rw [← hr0] at e3 c3
  have ear : mg_ar 1 u = [.int (nZ (y (i + 1)))] := by rw [hu]; rfl
  rw [ear] at e3
  have e3 : mv_call X (d + 14) 188 [.ref (x + 376), .int (nZ (y (i + 1)))] (mz_h P V2, z1) = some (.inl (some (.int (nZ (if r = 0 then mc_an (w 1) 1 u else 0)))), (mz_h P V3, z1)) := e3
  refine ⟨P, V3, z1, v, n, mg_st w 1 u, .int (nZ (mg_cd 1 r)), .int (nZ (if r = 0 then mc_an (w 1) 1 u else 0)), ?_, lw_fin hI hB2 s3 x3 (mg_J_b (by omega) hSt)⟩
  rw [bk_L_law_364, lw_rdj (c := 1) hx.1 hS 1 rfl (by omega)]
  simp only [mv_clI, mv_cl, hA]
  rw [lw_rdj (c := 1) hn2 hS 1 rfl (by omega), mz_rcv hM2.o]
  simp only [e3]
  rw [mz_rcv hM2.o]
  simp only [Q9_thrown (d := d + 13) hM2]
  exact lw_tail rfl rfl c3 (mg_cd3 1 r) ho2 (fun c0 => by rw [x3 _ (by omega), h0 c0, if_pos (mg_cd0.mp c0)])
theorem LS_783 (hI : lw_I X x P V z v n w b) (hS : lw_X X x b0 L y) (hi : i + 5 ≤ L) (hb : b ≤ 999999000) : lw_T X (d + 14) x b0 783 i P V z b := by
  intro j6 j7
  obtain ⟨⟨hP, hW, hM, hw, hJ⟩, ⟨hx, ho, hD⟩, ⟨hz, hvz⟩, hvv, hLn⟩ := id hI
  have hG := hJ.1
  have hI1 := hG.1.1
  have hbw := hG.1.2
  have m1 := hS.2.2.2 (i + 1)
  have m2 := hS.2.2.2 (i + 2)
  obtain ⟨u, hu⟩ : ∃ u : Nat → Int, u = fun q => if q = 0 then y (i + 1) else if q = 1 then y (i + 2) else if q = 2 then 0 else 0 := ⟨_, rfl⟩
  have hus : ∀ q, q < 4 → nS (u q) := fun q hq => by
    rw [hu]
    show nS (if q = 0 then y (i + 1) else if q = 1 then y (i + 2) else if q = 2 then 0 else 0)
    (repeat' split) <;> first | assumption | decide
  obtain ⟨V1, z1, hO, hB⟩ := lw_chg (X := X) (d := d + 4) hI (by omega) (k := 2) (by decide) m1 m2 (show nS 0 by decide) (show nS 0 by decide) hu
  obtain ⟨r, hr0⟩ : ∃ r, r = mc_rf (w 1) 2 u := ⟨_, rfl⟩
  have hrv : r = 0 ∨ r = 1 ∨ r = 8 ∨ r = 9 := by
    rw [hr0]
    show mc_rf2 _ _ _ = 0 ∨ mc_rf2 _ _ _ = 1 ∨ mc_rf2 _ _ _ = 8 ∨ mc_rf2 _ _ _ = 9
    unfold mc_rf2
    (repeat' split) <;> decide
  rw [← hr0] at hO
  have hO : lw_o (mv_call X (d + 12) 137 [.ref x, .int (nZ 2), .int (nZ (y (i + 1))), .int (nZ (y (i + 2))), .int (nZ 0), .int (nZ 0)] (mz_h P V, z)) (mg_cd 2 r) (mc_an (w 1) 2 u) (mg_ex r) P V1 z1 := hO
  have hO2 : lw_o (mv_call X (d + 13) 93 [.ref x, .int (nZ (y (i + 1))), .int (nZ (y (i + 2)))] (mz_h P V, z)) (mg_cd 2 r) (mc_an (w 1) 2 u) (mg_ex r) P V1 z1 := by
    rcases hO with ⟨c, e⟩ | ⟨c, q, e⟩
    · refine Or.inl ⟨c, ?_⟩
      rw [mc_X8_load, bk_X8_load_0, mz_rcv hP.o]
      simp only [mv_clI, mv_cl, e]
    · refine Or.inr ⟨c, q, ?_⟩
      rw [mc_X8_load, bk_X8_load_0, mz_rcv hP.o]
      simp only [mv_clI, mv_cl, e]
      rfl
  obtain ⟨V2, hA, h0, hV⟩ := LX_load hP ho hO2 (by rcases hrv with e | e | e | e <;> rw [e] <;> first | (intro _; rfl) | (intro h; exact absurd rfl h))
  have hSt := mg_st_J hJ (by omega) (k := 2) (by decide) (y := u) (hus 1 (by decide))
  obtain ⟨hB2, hM2, hw2, hn2, ho2, hd2⟩ := lw_g hI hSt.1 hB (fun r r1 _ => hV r r1)
  have hA : mv_call X (d + 14) 293 [.ref x, .int (nZ (y (i + 1))), .int (nZ (y (i + 2))), .ref (x + 389)] (mz_h P V, z) = _ := hA
  obtain ⟨V3, e3, c3, s3, x3⟩ := X9_change (X := X) (z := z1) (d := d + 4) (V := V2) hM2 hw2 hI1 (by omega) hG.2.1 (k := 2) (by decide) (x := u) hus
  rw [← hr0] at e3 c3
  have ear : mg_ar 2 u = [.int (nZ (y (i + 1))), .int (nZ (y (i + 2)))] := by rw [hu]; rfl
  rw [ear] at e3
  have e3 : mv_call X (d + 14) 189 [.ref (x + 376), .int (nZ (y (i + 1))), .int (nZ (y (i + 2)))] (mz_h P V2, z1) = some (.inl (some (.int (nZ (if r = 0 then mc_an (w 1) 2 u else 0)))), (mz_h P V3, z1)) := e3
  refine ⟨P, V3, z1, v, n, mg_st w 2 u, .int (nZ (mg_cd 2 r)), .int (nZ (if r = 0 then mc_an (w 1) 2 u else 0)), ?_, lw_fin hI hB2 s3 x3 (mg_J_b (by omega) hSt)⟩
  rw [bk_L_law_783, lw_rdj (c := 1) hx.1 hS 1 rfl (by omega), lw_rdj (c := 2) hx.1 hS 2 rfl (by omega)]
  simp only [mv_clI, mv_cl, hA]
  rw [lw_rdj (c := 1) hn2 hS 1 rfl (by omega), lw_rdj (c := 2) hn2 hS 2 rfl (by omega), mz_rcv hM2.o]
  simp only [e3]
  rw [mz_rcv hM2.o]
  simp only [Q9_thrown (d := d + 13) hM2]
  exact lw_tail rfl rfl c3 (mg_cd3 2 r) ho2 (fun c0 => by rw [x3 _ (by omega), h0 c0, if_pos (mg_cd0.mp c0)])
theorem LS_851 (hI : lw_I X x P V z v n w b) (hS : lw_X X x b0 L y) (hi : i + 5 ≤ L) (hb : b ≤ 999999000) : lw_T X (d + 14) x b0 851 i P V z b := by
  intro j6 j7
  obtain ⟨⟨hP, hW, hM, hw, hJ⟩, ⟨hx, ho, hD⟩, ⟨hz, hvz⟩, hvv, hLn⟩ := id hI
  have hG := hJ.1
  have hI1 := hG.1.1
  have hbw := hG.1.2
  have m1 := hS.2.2.2 (i + 1)
  have m2 := hS.2.2.2 (i + 2)
  obtain ⟨u, hu⟩ : ∃ u : Nat → Int, u = fun q => if q = 0 then y (i + 1) else if q = 1 then y (i + 2) else if q = 2 then 0 else 0 := ⟨_, rfl⟩
  have hus : ∀ q, q < 4 → nS (u q) := fun q hq => by
    rw [hu]
    show nS (if q = 0 then y (i + 1) else if q = 1 then y (i + 2) else if q = 2 then 0 else 0)
    (repeat' split) <;> first | assumption | decide
  obtain ⟨V1, z1, hO, hB⟩ := lw_chg (X := X) (d := d + 4) hI (by omega) (k := 3) (by decide) m1 m2 (show nS 0 by decide) (show nS 0 by decide) hu
  obtain ⟨r, hr0⟩ : ∃ r, r = mc_rf (w 1) 3 u := ⟨_, rfl⟩
  have hrv : r = 0 ∨ r = 9 ∨ r = 10 := by
    rw [hr0]
    show mc_rf3 _ _ _ = 0 ∨ mc_rf3 _ _ _ = 9 ∨ mc_rf3 _ _ _ = 10
    unfold mc_rf3
    (repeat' split) <;> decide
  rw [← hr0] at hO
  have hO : lw_o (mv_call X (d + 12) 137 [.ref x, .int (nZ 3), .int (nZ (y (i + 1))), .int (nZ (y (i + 2))), .int (nZ 0), .int (nZ 0)] (mz_h P V, z)) (mg_cd 3 r) (mc_an (w 1) 3 u) (mg_ex r) P V1 z1 := hO
  have hO2 : lw_o (mv_call X (d + 13) 94 [.ref x, .int (nZ (y (i + 1))), .int (nZ (y (i + 2)))] (mz_h P V, z)) (mg_cd 3 r) (mc_an (w 1) 3 u) (mg_ex r) P V1 z1 := by
    rcases hO with ⟨c, e⟩ | ⟨c, q, e⟩
    · refine Or.inl ⟨c, ?_⟩
      rw [mc_X8_drop, bk_X8_drop_0, mz_rcv hP.o]
      simp only [mv_clI, mv_cl, e]
    · refine Or.inr ⟨c, q, ?_⟩
      rw [mc_X8_drop, bk_X8_drop_0, mz_rcv hP.o]
      simp only [mv_clI, mv_cl, e]
      rfl
  obtain ⟨V2, hA, h0, hV⟩ := LX_drop hP ho hO2 (by rcases hrv with e | e | e <;> rw [e] <;> first | (intro _; rfl) | (intro h; exact absurd rfl h))
  have hSt := mg_st_J hJ (by omega) (k := 3) (by decide) (y := u) (hus 1 (by decide))
  obtain ⟨hB2, hM2, hw2, hn2, ho2, hd2⟩ := lw_g hI hSt.1 hB (fun r r1 _ => hV r r1)
  have hA : mv_call X (d + 14) 294 [.ref x, .int (nZ (y (i + 1))), .int (nZ (y (i + 2))), .ref (x + 389)] (mz_h P V, z) = _ := hA
  obtain ⟨V3, e3, c3, s3, x3⟩ := X9_change (X := X) (z := z1) (d := d + 4) (V := V2) hM2 hw2 hI1 (by omega) hG.2.1 (k := 3) (by decide) (x := u) hus
  rw [← hr0] at e3 c3
  have ear : mg_ar 3 u = [.int (nZ (y (i + 1))), .int (nZ (y (i + 2)))] := by rw [hu]; rfl
  rw [ear] at e3
  have e3 : mv_call X (d + 14) 190 [.ref (x + 376), .int (nZ (y (i + 1))), .int (nZ (y (i + 2)))] (mz_h P V2, z1) = some (.inl (some (.int (nZ (if r = 0 then mc_an (w 1) 3 u else 0)))), (mz_h P V3, z1)) := e3
  refine ⟨P, V3, z1, v, n, mg_st w 3 u, .int (nZ (mg_cd 3 r)), .int (nZ (if r = 0 then mc_an (w 1) 3 u else 0)), ?_, lw_fin hI hB2 s3 x3 (mg_J_b (by omega) hSt)⟩
  rw [bk_L_law_851, lw_rdj (c := 1) hx.1 hS 1 rfl (by omega), lw_rdj (c := 2) hx.1 hS 2 rfl (by omega)]
  simp only [mv_clI, mv_cl, hA]
  rw [lw_rdj (c := 1) hn2 hS 1 rfl (by omega), lw_rdj (c := 2) hn2 hS 2 rfl (by omega), mz_rcv hM2.o]
  simp only [e3]
  rw [mz_rcv hM2.o]
  simp only [Q9_thrown (d := d + 13) hM2]
  exact lw_tail rfl rfl c3 (mg_cd3 3 r) ho2 (fun c0 => by rw [x3 _ (by omega), h0 c0, if_pos (mg_cd0.mp c0)])
theorem LS_919 (hI : lw_I X x P V z v n w b) (hS : lw_X X x b0 L y) (hi : i + 5 ≤ L) (hb : b ≤ 999999000) : lw_T X (d + 14) x b0 919 i P V z b := by
  intro j6 j7
  obtain ⟨⟨hP, hW, hM, hw, hJ⟩, ⟨hx, ho, hD⟩, ⟨hz, hvz⟩, hvv, hLn⟩ := id hI
  have hG := hJ.1
  have hI1 := hG.1.1
  have hbw := hG.1.2
  have m1 := hS.2.2.2 (i + 1)
  have m2 := hS.2.2.2 (i + 2)
  obtain ⟨u, hu⟩ : ∃ u : Nat → Int, u = fun q => if q = 0 then y (i + 1) else if q = 1 then y (i + 2) else if q = 2 then 0 else 0 := ⟨_, rfl⟩
  have hus : ∀ q, q < 4 → nS (u q) := fun q hq => by
    rw [hu]
    show nS (if q = 0 then y (i + 1) else if q = 1 then y (i + 2) else if q = 2 then 0 else 0)
    (repeat' split) <;> first | assumption | decide
  obtain ⟨V1, z1, hO, hB⟩ := lw_chg (X := X) (d := d + 4) hI (by omega) (k := 4) (by decide) m1 m2 (show nS 0 by decide) (show nS 0 by decide) hu
  obtain ⟨r, hr0⟩ : ∃ r, r = mc_rf (w 1) 4 u := ⟨_, rfl⟩
  have hrv : r = 0 ∨ r = 3 ∨ r = 4 ∨ r = 8 ∨ r = 9 := by
    rw [hr0]
    show mc_rf4 _ _ _ = 0 ∨ mc_rf4 _ _ _ = 3 ∨ mc_rf4 _ _ _ = 4 ∨ mc_rf4 _ _ _ = 8 ∨ mc_rf4 _ _ _ = 9
    unfold mc_rf4
    (repeat' split) <;> decide
  rw [← hr0] at hO
  have hO : lw_o (mv_call X (d + 12) 137 [.ref x, .int (nZ 4), .int (nZ (y (i + 1))), .int (nZ (y (i + 2))), .int (nZ 0), .int (nZ 0)] (mz_h P V, z)) (mg_cd 4 r) (mc_an (w 1) 4 u) (mg_ex r) P V1 z1 := hO
  have hO2 : lw_o (mv_call X (d + 13) 95 [.ref x, .int (nZ (y (i + 1))), .int (nZ (y (i + 2)))] (mz_h P V, z)) (mg_cd 4 r) (mc_an (w 1) 4 u) (mg_ex r) P V1 z1 := by
    rcases hO with ⟨c, e⟩ | ⟨c, q, e⟩
    · refine Or.inl ⟨c, ?_⟩
      rw [mc_X8_rise, bk_X8_rise_0, mz_rcv hP.o]
      simp only [mv_clI, mv_cl, e]
    · refine Or.inr ⟨c, q, ?_⟩
      rw [mc_X8_rise, bk_X8_rise_0, mz_rcv hP.o]
      simp only [mv_clI, mv_cl, e]
      rfl
  obtain ⟨V2, hA, h0, hV⟩ := LX_rise hP ho hO2 (by rcases hrv with e | e | e | e | e <;> rw [e] <;> first | (intro _; rfl) | (intro h; exact absurd rfl h))
  have hSt := mg_st_J hJ (by omega) (k := 4) (by decide) (y := u) (hus 1 (by decide))
  obtain ⟨hB2, hM2, hw2, hn2, ho2, hd2⟩ := lw_g hI hSt.1 hB (fun r r1 _ => hV r r1)
  have hA : mv_call X (d + 14) 295 [.ref x, .int (nZ (y (i + 1))), .int (nZ (y (i + 2))), .ref (x + 389)] (mz_h P V, z) = _ := hA
  obtain ⟨V3, e3, c3, s3, x3⟩ := X9_change (X := X) (z := z1) (d := d + 4) (V := V2) hM2 hw2 hI1 (by omega) hG.2.1 (k := 4) (by decide) (x := u) hus
  rw [← hr0] at e3 c3
  have ear : mg_ar 4 u = [.int (nZ (y (i + 1))), .int (nZ (y (i + 2)))] := by rw [hu]; rfl
  rw [ear] at e3
  have e3 : mv_call X (d + 14) 191 [.ref (x + 376), .int (nZ (y (i + 1))), .int (nZ (y (i + 2)))] (mz_h P V2, z1) = some (.inl (some (.int (nZ (if r = 0 then mc_an (w 1) 4 u else 0)))), (mz_h P V3, z1)) := e3
  refine ⟨P, V3, z1, v, n, mg_st w 4 u, .int (nZ (mg_cd 4 r)), .int (nZ (if r = 0 then mc_an (w 1) 4 u else 0)), ?_, lw_fin hI hB2 s3 x3 (mg_J_b (by omega) hSt)⟩
  rw [bk_L_law_919, lw_rdj (c := 1) hx.1 hS 1 rfl (by omega), lw_rdj (c := 2) hx.1 hS 2 rfl (by omega)]
  simp only [mv_clI, mv_cl, hA]
  rw [lw_rdj (c := 1) hn2 hS 1 rfl (by omega), lw_rdj (c := 2) hn2 hS 2 rfl (by omega), mz_rcv hM2.o]
  simp only [e3]
  rw [mz_rcv hM2.o]
  simp only [Q9_thrown (d := d + 13) hM2]
  exact lw_tail rfl rfl c3 (mg_cd3 4 r) ho2 (fun c0 => by rw [x3 _ (by omega), h0 c0, if_pos (mg_cd0.mp c0)])
theorem LS_1315 (hI : lw_I X x P V z v n w b) (hS : lw_X X x b0 L y) (hi : i + 5 ≤ L) (hb : b ≤ 999999000) : lw_T X (d + 14) x b0 1315 i P V z b := by
  intro j6 j7
  obtain ⟨⟨hP, hW, hM, hw, hJ⟩, ⟨hx, ho, hD⟩, ⟨hz, hvz⟩, hvv, hLn⟩ := id hI
  have hG := hJ.1
  have hI1 := hG.1.1
  have hbw := hG.1.2
  have m1 := hS.2.2.2 (i + 1)
  have m2 := hS.2.2.2 (i + 2)
  obtain ⟨u, hu⟩ : ∃ u : Nat → Int, u = fun q => if q = 0 then y (i + 1) else if q = 1 then y (i + 2) else if q = 2 then 0 else 0 := ⟨_, rfl⟩
  have hus : ∀ q, q < 4 → nS (u q) := fun q hq => by
    rw [hu]
    show nS (if q = 0 then y (i + 1) else if q = 1 then y (i + 2) else if q = 2 then 0 else 0)
    (repeat' split) <;> first | assumption | decide
  obtain ⟨V1, z1, hO, hB⟩ := lw_chg (X := X) (d := d + 4) hI (by omega) (k := 5) (by decide) m1 m2 (show nS 0 by decide) (show nS 0 by decide) hu
  obtain ⟨r, hr0⟩ : ∃ r, r = mc_rf (w 1) 5 u := ⟨_, rfl⟩
  have hrv : r = 0 ∨ r = 5 ∨ r = 8 := by
    rw [hr0]
    show mc_rf5 _ _ _ = 0 ∨ mc_rf5 _ _ _ = 5 ∨ mc_rf5 _ _ _ = 8
    unfold mc_rf5
    (repeat' split) <;> decide
  rw [← hr0] at hO
  have hO : lw_o (mv_call X (d + 12) 137 [.ref x, .int (nZ 5), .int (nZ (y (i + 1))), .int (nZ (y (i + 2))), .int (nZ 0), .int (nZ 0)] (mz_h P V, z)) (mg_cd 5 r) (mc_an (w 1) 5 u) (mg_ex r) P V1 z1 := hO
  have hO2 : lw_o (mv_call X (d + 13) 101 [.ref x, .int (nZ (y (i + 1))), .int (nZ (y (i + 2)))] (mz_h P V, z)) (mg_cd 5 r) (mc_an (w 1) 5 u) (mg_ex r) P V1 z1 := by
    rcases hO with ⟨c, e⟩ | ⟨c, q, e⟩
    · refine Or.inl ⟨c, ?_⟩
      rw [mc_X8_setWind, bk_X8_setWind_0, mz_rcv hP.o]
      simp only [mv_clI, mv_cl, e]
    · refine Or.inr ⟨c, q, ?_⟩
      rw [mc_X8_setWind, bk_X8_setWind_0, mz_rcv hP.o]
      simp only [mv_clI, mv_cl, e]
      rfl
  obtain ⟨V2, hA, h0, hV⟩ := LX_setWind hP ho hO2 (by rcases hrv with e | e | e <;> rw [e] <;> first | (intro _; rfl) | (intro h; exact absurd rfl h))
  have hSt := mg_st_J hJ (by omega) (k := 5) (by decide) (y := u) (hus 1 (by decide))
  obtain ⟨hB2, hM2, hw2, hn2, ho2, hd2⟩ := lw_g hI hSt.1 hB (fun r r1 _ => hV r r1)
  have hA : mv_call X (d + 14) 301 [.ref x, .int (nZ (y (i + 1))), .int (nZ (y (i + 2))), .ref (x + 389)] (mz_h P V, z) = _ := hA
  obtain ⟨V3, e3, c3, s3, x3⟩ := X9_change (X := X) (z := z1) (d := d + 4) (V := V2) hM2 hw2 hI1 (by omega) hG.2.1 (k := 5) (by decide) (x := u) hus
  rw [← hr0] at e3 c3
  have ear : mg_ar 5 u = [.int (nZ (y (i + 1))), .int (nZ (y (i + 2)))] := by rw [hu]; rfl
  rw [ear] at e3
  have e3 : mv_call X (d + 14) 192 [.ref (x + 376), .int (nZ (y (i + 1))), .int (nZ (y (i + 2)))] (mz_h P V2, z1) = some (.inl (some (.int (nZ (if r = 0 then mc_an (w 1) 5 u else 0)))), (mz_h P V3, z1)) := e3
  refine ⟨P, V3, z1, v, n, mg_st w 5 u, .int (nZ (mg_cd 5 r)), .int (nZ (if r = 0 then mc_an (w 1) 5 u else 0)), ?_, lw_fin hI hB2 s3 x3 (mg_J_b (by omega) hSt)⟩
  rw [bk_L_law_1315, lw_rdj (c := 1) hx.1 hS 1 rfl (by omega), lw_rdj (c := 2) hx.1 hS 2 rfl (by omega)]
  simp only [mv_clI, mv_cl, hA]
  rw [lw_rdj (c := 1) hn2 hS 1 rfl (by omega), lw_rdj (c := 2) hn2 hS 2 rfl (by omega), mz_rcv hM2.o]
  simp only [e3]
  rw [mz_rcv hM2.o]
  simp only [Q9_thrown (d := d + 13) hM2]
  exact lw_tail rfl rfl c3 (mg_cd3 5 r) ho2 (fun c0 => by rw [x3 _ (by omega), h0 c0, if_pos (mg_cd0.mp c0)])
theorem LS_1958 (hI : lw_I X x P V z v n w b) (hS : lw_X X x b0 L y) (hi : i + 5 ≤ L) (hb : b ≤ 999999000) : lw_T X (d + 14) x b0 1958 i P V z b := by
  intro j6 j7
  obtain ⟨⟨hP, hW, hM, hw, hJ⟩, ⟨hx, ho, hD⟩, ⟨hz, hvz⟩, hvv, hLn⟩ := id hI
  have hG := hJ.1
  have hI1 := hG.1.1
  have hbw := hG.1.2
  have m1 := hS.2.2.2 (i + 1)
  obtain ⟨u, hu⟩ : ∃ u : Nat → Int, u = fun q => if q = 0 then y (i + 1) else if q = 1 then 0 else if q = 2 then 0 else 0 := ⟨_, rfl⟩
  have hus : ∀ q, q < 4 → nS (u q) := fun q hq => by
    rw [hu]
    show nS (if q = 0 then y (i + 1) else if q = 1 then 0 else if q = 2 then 0 else 0)
    (repeat' split) <;> first | assumption | decide
  obtain ⟨V1, z1, hO, hB⟩ := lw_chg (X := X) (d := d + 4) hI (by omega) (k := 6) (by decide) m1 (show nS 0 by decide) (show nS 0 by decide) (show nS 0 by decide) hu
  obtain ⟨r, hr0⟩ : ∃ r, r = mc_rf (w 1) 6 u := ⟨_, rfl⟩
  have hrv : r = 0 ∨ r = 8 := by
    rw [hr0]
    show mc_rf6 _ = 0 ∨ mc_rf6 _ = 8
    unfold mc_rf6
    (repeat' split) <;> decide
  rw [← hr0] at hO
  have hO : lw_o (mv_call X (d + 12) 137 [.ref x, .int (nZ 6), .int (nZ (y (i + 1))), .int (nZ 0), .int (nZ 0), .int (nZ 0)] (mz_h P V, z)) (mg_cd 6 r) (mc_an (w 1) 6 u) (mg_ex r) P V1 z1 := hO
  have hO2 : lw_o (mv_call X (d + 13) 115 [.ref x, .int (nZ (y (i + 1)))] (mz_h P V, z)) (mg_cd 6 r) (mc_an (w 1) 6 u) (mg_ex r) P V1 z1 := by
    rcases hO with ⟨c, e⟩ | ⟨c, q, e⟩
    · refine Or.inl ⟨c, ?_⟩
      rw [mc_X8_pass, bk_X8_pass_0, mz_rcv hP.o]
      simp only [mv_clI, mv_cl, e]
    · refine Or.inr ⟨c, q, ?_⟩
      rw [mc_X8_pass, bk_X8_pass_0, mz_rcv hP.o]
      simp only [mv_clI, mv_cl, e]
      rfl
  obtain ⟨V2, hA, h0, hV⟩ := LX_pass hP ho hO2 (by rcases hrv with e | e <;> rw [e] <;> first | (intro _; rfl) | (intro h; exact absurd rfl h))
  have hSt := mg_st_J hJ (by omega) (k := 6) (by decide) (y := u) (hus 1 (by decide))
  obtain ⟨hB2, hM2, hw2, hn2, ho2, hd2⟩ := lw_g hI hSt.1 hB (fun r r1 _ => hV r r1)
  have hA : mv_call X (d + 14) 310 [.ref x, .int (nZ (y (i + 1))), .ref (x + 389)] (mz_h P V, z) = _ := hA
  obtain ⟨V3, e3, c3, s3, x3⟩ := X9_change (X := X) (z := z1) (d := d + 4) (V := V2) hM2 hw2 hI1 (by omega) hG.2.1 (k := 6) (by decide) (x := u) hus
  rw [← hr0] at e3 c3
  have ear : mg_ar 6 u = [.int (nZ (y (i + 1)))] := by rw [hu]; rfl
  rw [ear] at e3
  have e3 : mv_call X (d + 14) 195 [.ref (x + 376), .int (nZ (y (i + 1)))] (mz_h P V2, z1) = some (.inl (some (.int (nZ (if r = 0 then mc_an (w 1) 6 u else 0)))), (mz_h P V3, z1)) := e3
  refine ⟨P, V3, z1, v, n, mg_st w 6 u, .int (nZ (mg_cd 6 r)), .int (nZ (if r = 0 then mc_an (w 1) 6 u else 0)), ?_, lw_fin hI hB2 s3 x3 (mg_J_b (by omega) hSt)⟩
  rw [bk_L_law_1958, lw_rdj (c := 1) hx.1 hS 1 rfl (by omega)]
  simp only [mv_clI, mv_cl, hA]
  rw [lw_rdj (c := 1) hn2 hS 1 rfl (by omega), mz_rcv hM2.o]
  simp only [e3]
  rw [mz_rcv hM2.o]
  simp only [Q9_thrown (d := d + 13) hM2]
  exact lw_tail rfl rfl c3 (mg_cd3 6 r) ho2 (fun c0 => by rw [x3 _ (by omega), h0 c0, if_pos (mg_cd0.mp c0)])
theorem LS_1633 (hI : lw_I X x P V z v n w b) (hS : lw_X X x b0 L y) (hi : i + 5 ≤ L) (hb : b ≤ 999999000) : lw_T X (d + 14) x b0 1633 i P V z b := by
  intro j6 j7
  obtain ⟨⟨hP, hW, hM, hw, hJ⟩, ⟨hx, ho, hD⟩, ⟨hz, hvz⟩, hvv, hLn⟩ := id hI
  have hG := hJ.1
  have hI1 := hG.1.1
  have hbw := hG.1.2
  have m1 := hS.2.2.2 (i + 1)
  have m2 := hS.2.2.2 (i + 2)
  have m3 := hS.2.2.2 (i + 3)
  obtain ⟨u, hu⟩ : ∃ u : Nat → Int, u = fun q => if q = 0 then y (i + 1) else if q = 1 then y (i + 2) else if q = 2 then y (i + 3) else 0 := ⟨_, rfl⟩
  have hus : ∀ q, q < 4 → nS (u q) := fun q hq => by
    rw [hu]
    show nS (if q = 0 then y (i + 1) else if q = 1 then y (i + 2) else if q = 2 then y (i + 3) else 0)
    (repeat' split) <;> first | assumption | decide
  obtain ⟨V1, z1, hO, hB⟩ := lw_chg (X := X) (d := d + 4) hI (by omega) (k := 7) (by decide) m1 m2 m3 (show nS 0 by decide) hu
  obtain ⟨r, hr0⟩ : ∃ r, r = mc_rf (w 1) 7 u := ⟨_, rfl⟩
  have hrv : r = 0 ∨ r = 1 ∨ r = 8 := by
    rw [hr0]
    show mc_rf7 _ _ _ _ = 0 ∨ mc_rf7 _ _ _ _ = 1 ∨ mc_rf7 _ _ _ _ = 8
    unfold mc_rf7
    (repeat' split) <;> decide
  rw [← hr0] at hO
  have hO : lw_o (mv_call X (d + 12) 137 [.ref x, .int (nZ 7), .int (nZ (y (i + 1))), .int (nZ (y (i + 2))), .int (nZ (y (i + 3))), .int (nZ 0)] (mz_h P V, z)) (mg_cd 7 r) (mc_an (w 1) 7 u) (mg_ex r) P V1 z1 := hO
  have hO2 : lw_o (mv_call X (d + 13) 108 [.ref x, .int (nZ (y (i + 1))), .int (nZ (y (i + 2))), .int (nZ (y (i + 3)))] (mz_h P V, z)) (mg_cd 7 r) (mc_an (w 1) 7 u) (mg_ex r) P V1 z1 := by
    rcases hO with ⟨c, e⟩ | ⟨c, q, e⟩
    · refine Or.inl ⟨c, ?_⟩
      rw [mc_X8_addPilot, bk_X8_addPilot_0, mz_rcv hP.o]
      simp only [mv_clI, mv_cl, e]
    · refine Or.inr ⟨c, q, ?_⟩
      rw [mc_X8_addPilot, bk_X8_addPilot_0, mz_rcv hP.o]
      simp only [mv_clI, mv_cl, e]
      rfl
  obtain ⟨V2, hA, h0, hV⟩ := LX_addPilot hP ho hO2 (by rcases hrv with e | e | e <;> rw [e] <;> first | (intro _; rfl) | (intro h; exact absurd rfl h))
  have hSt := mg_st_J hJ (by omega) (k := 7) (by decide) (y := u) (hus 1 (by decide))
  obtain ⟨hB2, hM2, hw2, hn2, ho2, hd2⟩ := lw_g hI hSt.1 hB (fun r r1 _ => hV r r1)
  have hA : mv_call X (d + 14) 306 [.ref x, .int (nZ (y (i + 1))), .int (nZ (y (i + 2))), .int (nZ (y (i + 3))), .ref (x + 389)] (mz_h P V, z) = _ := hA
  obtain ⟨V3, e3, c3, s3, x3⟩ := X9_change (X := X) (z := z1) (d := d + 4) (V := V2) hM2 hw2 hI1 (by omega) hG.2.1 (k := 7) (by decide) (x := u) hus
  rw [← hr0] at e3 c3
  have ear : mg_ar 7 u = [.int (nZ (y (i + 1))), .int (nZ (y (i + 2))), .int (nZ (y (i + 3)))] := by rw [hu]; rfl
  rw [ear] at e3
  have e3 : mv_call X (d + 14) 193 [.ref (x + 376), .int (nZ (y (i + 1))), .int (nZ (y (i + 2))), .int (nZ (y (i + 3)))] (mz_h P V2, z1) = some (.inl (some (.int (nZ (if r = 0 then mc_an (w 1) 7 u else 0)))), (mz_h P V3, z1)) := e3
  refine ⟨P, V3, z1, v, n, mg_st w 7 u, .int (nZ (mg_cd 7 r)), .int (nZ (if r = 0 then mc_an (w 1) 7 u else 0)), ?_, lw_fin hI hB2 s3 x3 (mg_J_b (by omega) hSt)⟩
  rw [bk_L_law_1633, lw_rdj (c := 1) hx.1 hS 1 rfl (by omega), lw_rdj (c := 2) hx.1 hS 2 rfl (by omega), lw_rdj (c := 3) hx.1 hS 3 rfl (by omega)]
  simp only [mv_clI, mv_cl, hA]
  rw [lw_rdj (c := 1) hn2 hS 1 rfl (by omega), lw_rdj (c := 2) hn2 hS 2 rfl (by omega), lw_rdj (c := 3) hn2 hS 3 rfl (by omega), mz_rcv hM2.o]
  simp only [e3]
  rw [mz_rcv hM2.o]
  simp only [Q9_thrown (d := d + 13) hM2]
  exact lw_tail rfl rfl c3 (mg_cd3 7 r) ho2 (fun c0 => by rw [x3 _ (by omega), h0 c0, if_pos (mg_cd0.mp c0)])
theorem LS_1713 (hI : lw_I X x P V z v n w b) (hS : lw_X X x b0 L y) (hi : i + 5 ≤ L) (hb : b ≤ 999999000) : lw_T X (d + 14) x b0 1713 i P V z b := by
  intro j6 j7
  obtain ⟨⟨hP, hW, hM, hw, hJ⟩, ⟨hx, ho, hD⟩, ⟨hz, hvz⟩, hvv, hLn⟩ := id hI
  have hG := hJ.1
  have hI1 := hG.1.1
  have hbw := hG.1.2
  have m1 := hS.2.2.2 (i + 1)
  obtain ⟨u, hu⟩ : ∃ u : Nat → Int, u = fun q => if q = 0 then y (i + 1) else if q = 1 then 0 else if q = 2 then 0 else 0 := ⟨_, rfl⟩
  have hus : ∀ q, q < 4 → nS (u q) := fun q hq => by
    rw [hu]
    show nS (if q = 0 then y (i + 1) else if q = 1 then 0 else if q = 2 then 0 else 0)
    (repeat' split) <;> first | assumption | decide
  obtain ⟨V1, z1, hO, hB⟩ := lw_chg (X := X) (d := d + 4) hI (by omega) (k := 8) (by decide) m1 (show nS 0 by decide) (show nS 0 by decide) (show nS 0 by decide) hu
  obtain ⟨r, hr0⟩ : ∃ r, r = mc_rf (w 1) 8 u := ⟨_, rfl⟩
  have hrv : r = 0 ∨ r = 10 := by
    rw [hr0]
    show mc_rf8 _ _ = 0 ∨ mc_rf8 _ _ = 10
    unfold mc_rf8
    (repeat' split) <;> decide
  rw [← hr0] at hO
  have hO : lw_o (mv_call X (d + 12) 137 [.ref x, .int (nZ 8), .int (nZ (y (i + 1))), .int (nZ 0), .int (nZ 0), .int (nZ 0)] (mz_h P V, z)) (mg_cd 8 r) (mc_an (w 1) 8 u) (mg_ex r) P V1 z1 := hO
  have hO2 : lw_o (mv_call X (d + 13) 109 [.ref x, .int (nZ (y (i + 1)))] (mz_h P V, z)) (mg_cd 8 r) (mc_an (w 1) 8 u) (mg_ex r) P V1 z1 := by
    rcases hO with ⟨c, e⟩ | ⟨c, q, e⟩
    · refine Or.inl ⟨c, ?_⟩
      rw [mc_X8_removePilot, bk_X8_removePilot_0, mz_rcv hP.o]
      simp only [mv_clI, mv_cl, e]
    · refine Or.inr ⟨c, q, ?_⟩
      rw [mc_X8_removePilot, bk_X8_removePilot_0, mz_rcv hP.o]
      simp only [mv_clI, mv_cl, e]
      rfl
  obtain ⟨V2, hA, h0, hV⟩ := LX_removePilot hP ho hO2 (by rcases hrv with e | e <;> rw [e] <;> first | (intro _; rfl) | (intro h; exact absurd rfl h))
  have hSt := mg_st_J hJ (by omega) (k := 8) (by decide) (y := u) (hus 1 (by decide))
  obtain ⟨hB2, hM2, hw2, hn2, ho2, hd2⟩ := lw_g hI hSt.1 hB (fun r r1 _ => hV r r1)
  have hA : mv_call X (d + 14) 307 [.ref x, .int (nZ (y (i + 1))), .ref (x + 389)] (mz_h P V, z) = _ := hA
  obtain ⟨V3, e3, c3, s3, x3⟩ := X9_change (X := X) (z := z1) (d := d + 4) (V := V2) hM2 hw2 hI1 (by omega) hG.2.1 (k := 8) (by decide) (x := u) hus
  rw [← hr0] at e3 c3
  have ear : mg_ar 8 u = [.int (nZ (y (i + 1)))] := by rw [hu]; rfl
  rw [ear] at e3
  have e3 : mv_call X (d + 14) 194 [.ref (x + 376), .int (nZ (y (i + 1)))] (mz_h P V2, z1) = some (.inl (some (.int (nZ (if r = 0 then mc_an (w 1) 8 u else 0)))), (mz_h P V3, z1)) := e3
  refine ⟨P, V3, z1, v, n, mg_st w 8 u, .int (nZ (mg_cd 8 r)), .int (nZ (if r = 0 then mc_an (w 1) 8 u else 0)), ?_, lw_fin hI hB2 s3 x3 (mg_J_b (by omega) hSt)⟩
  rw [bk_L_law_1713, lw_rdj (c := 1) hx.1 hS 1 rfl (by omega)]
  simp only [mv_clI, mv_cl, hA]
  rw [lw_rdj (c := 1) hn2 hS 1 rfl (by omega), mz_rcv hM2.o]
  simp only [e3]
  rw [mz_rcv hM2.o]
  simp only [Q9_thrown (d := d + 13) hM2]
  exact lw_tail rfl rfl c3 (mg_cd3 8 r) ho2 (fun c0 => by rw [x3 _ (by omega), h0 c0, if_pos (mg_cd0.mp c0)])
end LAWC
