/-! THE LAW: its loop -/
/-- the law came to its end with true; so many objects and elements -/
def lw_G (z : Nat × Nat) (f : Nat) (r : Option mv_R) : Prop := ∃ h' : mv_H, r = some (.inl (some (.int (nZ 1))), h') ∧ h'.2.1 ≤ z.1 + 24 * f ∧ h'.2.2 ≤ z.2 + 1290 * f
theorem lw_Gi {z : Nat × Nat} {f : Nat} {c : Prop} {i : Decidable c} {A B : Option mv_R} (hA : lw_G z f A) (hB : lw_G z f B) : lw_G z f (@ite _ c i A B) := by
  by_cases h : c
  · rw [if_pos h]; exact hA
  · rw [if_neg h]; exact hB
section LAWL
variable {X : mv_X} {x d b0 L : Nat} {y : Nat → Int}
theorem lw_lp (hS : lw_X X x b0 L y) (hS9 : ∀ k, k < 9 → mx_S X x (21 + k) (fm_l k)) (hR : mx_R X x) : ∀ (f i : Nat) (P : mz_P) (V : mz_V) (z : Nat × Nat) (v n : Nat) (w : mz_V) (b : Int) (j6 j7 : Value), lw_I X x P V z v n w b → L ≤ i + 5 * f + 4 → i ≤ 2560 → b + 432 * f ≤ 999999000 →
    lw_G z f (mv_run X (mv_call X (d + 14)) m_L_law 28 [.ref b0, .ref x, .ref (x + 376), .ref (x + 389), .ref (x + 390), .int (nZ i), j6, j7, .retAddr 0] [] (mz_h P V, z)) := by
  have hL := hS.2.1
  obtain ⟨g, hXb, hg⟩ := hS.2.2.1
  intro f
  induction f with
  | zero =>
    intro i P V z v n w b j6 j7 hI hi hi2 hb
    rw [bk_L_law_28, mx_lO (hI.2.1.1.1 b0 hS.1) hXb, nZ_sub, if_pos ((nZ_lt ⟨by omega, by omega⟩ ⟨by omega, by omega⟩).mpr (by omega))]
    exact ⟨_, rfl, Nat.le_refl _, Nat.le_refl _⟩
  | succ f ih =>
    intro i P V z v n w b j6 j7 hI hi hi2 hb
    rw [nc1] at hb
    have hx := hI.2.1.1
    by_cases c : L < i + 5
    · rw [bk_L_law_28, mx_lO (hx.1 b0 hS.1) hXb, nZ_sub, if_pos ((nZ_lt ⟨by omega, by omega⟩ ⟨by omega, by omega⟩).mpr (by omega))]
      exact ⟨_, rfl, by show z.1 ≤ _; omega, by show z.2 ≤ _; omega⟩
    · have hgo : ∀ pc, lw_T X (d + 14) x b0 pc i P V z b → lw_G z (f + 1) (mv_run X (mv_call X (d + 14)) m_L_law pc [.ref b0, .ref x, .ref (x + 376), .ref (x + 389), .ref (x + 390), .int (nZ i), j6, j7, .retAddr 0] [] (mz_h P V, z)) := fun pc hT => by
        obtain ⟨P', V', z', v', n', w', k6, k7, e, hI', hz1, hz2⟩ := hT j6 j7
        obtain ⟨h', e', b1, b2⟩ := ih (i + 5) P' V' z' v' n' w' (b + 432) k6 k7 hI' (by omega) (by omega) (by omega)
        refine ⟨h', ?_, by omega, by omega⟩
        rw [e, bk_L_law_2752, nZ_add]
        have e5 : ((i + 5 : Nat) : Int) = (i : Int) + 5 := by omega
        rw [e5] at e'
        exact e'
      rw [bk_L_law_28, mx_lO (hx.1 b0 hS.1) hXb, nZ_sub, if_neg (by rw [nZ_lt ⟨by omega, by omega⟩ ⟨by omega, by omega⟩]; omega), lw_rdi hx.1 hS (by omega)]
      refine lw_Gi (hgo _ (LS_272 hI hS (by omega) (by omega))) ?_
      refine lw_Gi (hgo _ (LS_364 hI hS (by omega) (by omega))) ?_
      refine lw_Gi (hgo _ (LS_420 hI)) ?_
      refine lw_Gi (hgo _ (LS_433 hI hS (by omega))) ?_
      refine lw_Gi (hgo _ (LS_496 hI hS (by omega))) ?_
      refine lw_Gi (hgo _ (LS_552 hI hS (by omega))) ?_
      refine lw_Gi (hgo _ (LS_608 hI hS (by omega))) ?_
      refine lw_Gi (hgo _ (LS_664 hI hS (by omega))) ?_
      refine lw_Gi (hgo _ (LS_727 hI hS (by omega))) ?_
      refine lw_Gi (hgo _ (LS_783 hI hS (by omega) (by omega))) ?_
      refine lw_Gi (hgo _ (LS_851 hI hS (by omega) (by omega))) ?_
      refine lw_Gi (hgo _ (LS_919 hI hS (by omega) (by omega))) ?_
      refine lw_Gi (hgo _ (LS_987 hI hS (by omega))) ?_
      refine lw_Gi (hgo _ (LS_1043 hI hS (by omega))) ?_
      refine lw_Gi (hgo _ (LS_1111 hI hS (by omega))) ?_
      refine lw_Gi (hgo _ (LS_1179 hI hS (by omega))) ?_
      refine lw_Gi (hgo _ (LS_1247 hI hS (by omega))) ?_
      refine lw_Gi (hgo _ (LS_1315 hI hS (by omega) (by omega))) ?_
      refine lw_Gi (hgo _ (LS_1383 hI hS (by omega))) ?_
      refine lw_Gi (hgo _ (LS_1439 hI hS (by omega))) ?_
      refine lw_Gi (hgo _ (LS_1495 hI)) ?_
      refine lw_Gi (hgo _ (LS_1508 hI)) ?_
      refine lw_Gi (hgo _ (LS_1521 hI hS (by omega))) ?_
      refine lw_Gi (hgo _ (LS_1577 hI hS (by omega))) ?_
      refine lw_Gi (hgo _ (LS_1633 hI hS (by omega) (by omega))) ?_
      refine lw_Gi (hgo _ (LS_1713 hI hS (by omega) (by omega))) ?_
      refine lw_Gi (hgo _ (LS_1769 hI)) ?_
      refine lw_Gi (hgo _ (LS_1782 hI hS (by omega))) ?_
      refine lw_Gi (hgo _ (LS_1857 hI hS (by omega))) ?_
      refine lw_Gi (hgo _ (LS_1932 hI)) ?_
      refine lw_Gi (hgo _ (LS_1945 hI)) ?_
      refine lw_Gi (hgo _ (LS_1958 hI hS (by omega) (by omega))) ?_
      refine lw_Gi (hgo _ (LS_2014 hI (by omega))) ?_
      refine lw_Gi (hgo _ (LS_2027 hI)) ?_
      refine lw_Gi (hgo _ (LS_2040 hI)) ?_
      refine lw_Gi (hgo _ (LS_2053 hI)) ?_
      refine lw_Gi (hgo _ (LS_2066 hI)) ?_
      refine lw_Gi (hgo _ (LS_2079 hI)) ?_
      refine lw_Gi (hgo _ (LS_2092 hI)) ?_
      refine lw_Gi (hgo _ (LS_2105 hI)) ?_
      refine lw_Gi (hgo _ (LS_2170 hI hS (by omega))) ?_
      refine lw_Gi (hgo _ (LS_2248 hI hS (by omega))) ?_
      refine lw_Gi (hgo _ (LS_2306 hI (by omega) hS9 hR)) ?_
      refine lw_Gi (hgo _ (LS_2350 hI hS (by omega))) ?_
      refine lw_Gi (hgo _ (LS_2394 hI hS (by omega))) ?_
      refine lw_Gi (hgo _ (LS_2450 hI hS (by omega))) ?_
      refine lw_Gi (hgo _ (LS_2506 hI hS (by omega))) ?_
      refine lw_Gi (hgo _ (LS_2550 hI hS (by omega))) ?_
      refine lw_Gi (hgo _ (LS_2594 hI hS (by omega))) ?_
      refine lw_Gi (hgo _ (LS_2638 hI)) ?_
      refine lw_Gi (hgo _ (LS_2682 hI)) ?_
      refine lw_Gi (hgo _ (LS_2695 hI)) ?_
      refine lw_Gi (hgo _ (LS_2708 hI)) ?_
      exact hgo 2752 fun j6 j7 => ⟨P, V, z, v, n, w, j6, j7, rfl, ⟨⟨hI.1.1, hI.1.2.1, hI.1.2.2.1, hI.1.2.2.2.1, mg_J_b (by omega) hI.1.2.2.2.2⟩, hI.2⟩, ⟨by omega, by omega⟩, by omega, by omega⟩
/-! THE LAW: its start -/
theorem mr_I_z : mr_I fun _ => 0 := by
  refine ⟨⟨Int.le_refl 0, (show (0 : Int) ≤ 1000000000 by decide)⟩, ⟨Int.le_refl 0, (show (0 : Int) ≤ 6 by decide)⟩, fun i hi => ⟨(show (-9 : Int) ≤ 0 by decide), (show (0 : Int) ≤ 9 by decide)⟩, fun b hb => ⟨Or.inl rfl, ⟨Int.le_refl 0, (show (0 : Int) ≤ 99 by decide)⟩, ⟨Int.le_refl 0, (show (0 : Int) ≤ 40 by decide)⟩, ⟨Int.le_refl 0, (show (0 : Int) ≤ 60 by decide)⟩, ⟨Int.le_refl 0, (show (0 : Int) ≤ 6 by decide)⟩, fun k hk => ⟨Int.le_refl 0, (show (0 : Int) ≤ 20 by decide)⟩⟩⟩
/-- the reference's cells at the start -/
def mg_z : mz_V := fun r => if r = 0 then mr_up (fun _ => 0) 17 (-1) else fun _ => 0
theorem mg_J_z : mg_J mg_z 0 := by
  refine ⟨⟨⟨mr_I_z, Int.le_refl 0⟩, ⟨Int.le_refl 0, (show (0 : Int) ≤ 8 by decide)⟩, fun i hi => ?_, Or.inl rfl, fun h => ?_, ⟨Int.le_refl 0, (show (0 : Int) ≤ 60 by decide)⟩, fun i hi => ?_, ⟨Int.le_refl 0, (show (0 : Int) ≤ 40 by decide)⟩, fun i hi => ?_, ⟨(show (-1 : Int) ≤ -1 by decide), (show (-1 : Int) ≤ 60 by decide)⟩, ⟨Int.le_refl 0, (show (0 : Int) ≤ 6 by decide)⟩, (show nS 0 by decide), Int.le_refl 0, (show (0 : Int) ≤ 7 by decide)⟩, fun _ => rfl⟩
  · have hi : (i : Int) < 0 := hi
    omega
  · have h : (0 : Int) = 1 := h
    omega
  · have hi : (i : Int) < 0 := hi
    omega
  · have hi : (i : Int) < 0 := hi
    omega
theorem lw_st (hX : mx_W X (fun _ => none, fun _ _ => none) x) : ∃ (P : mz_P) (V : mz_V), (∀ j6 j7 : Value, mv_run X (mv_call X (d + 14)) m_L_law 0 [.ref b0, .retAddr 0, .retAddr 0, .retAddr 0, .retAddr 0, .retAddr 0, .retAddr 0, .retAddr 0, .retAddr 0] [] ((fun _ => none), x, 0) = mv_run X (mv_call X (d + 14)) m_L_law 28 [.ref b0, .ref x, .ref (x + 376), .ref (x + 389), .ref (x + 390), .int (nZ (0 : Nat)), .retAddr 0, .retAddr 0, .retAddr 0] [] (mz_h P V, (x + 391, 5081))) ∧ lw_I X x P V (x + 391, 5081) (x + 368) 16 mg_z 0 := by
  obtain ⟨P0, hP0⟩ : ∃ P0 : mz_P, P0 = (fun _ => none, fun _ _ => none) := ⟨_, rfl⟩
  obtain ⟨V0, hV0⟩ : ∃ V0 : mz_V, V0 = fun _ _ => 0 := ⟨_, rfl⟩
  have e0 : ((fun _ => none : Nat → Option mv_C), x, 0) = ((mz_h P0 V0, (x, 0)) : mv_H) := by rw [hP0]; rfl
  obtain ⟨P1, V1, e1, ⟨f1, f2⟩, L1, h1, ⟨t1, t2⟩, t3, ⟨t4, t5⟩, t6, t7, t8, t9, t10⟩ := nw_X8 (X := X) (d := d + 10) (P := mz_g P0 x (.inl 12)) (V := mz_w V0 x fun _ => 0) (x := x) (s := 14) hX.2.1 mz_gs (mz_w_s _ _ _)
  have e1 : mv_call X (d + 14) 83 [.ref x] (mz_h (mz_g P0 x (.inl 12)) (mz_w V0 x fun _ => 0), (x + 1, 0 + 14)) = some (.inl none, (mz_h P1 V1, (x + 376, 2608))) := e1
  obtain ⟨P2, V2, e2, ⟨g1, g2⟩, M2, u2, u3⟩ := nw_X9 (X := X) (d := d + 13) (P := mz_g P1 (x + 376) (.inl 13)) (V := mz_w V1 (x + 376) fun _ => 0) (m := x + 376) (s := 2635) mz_gs (mz_w_s _ _ _)
  have e2 : mv_call X (d + 14) 147 [.ref (x + 376)] (mz_h (mz_g P1 (x + 376) (.inl 13)) (mz_w V1 (x + 376) fun _ => 0), (x + 376 + 1, 2608 + 27)) = some (.inl none, (mz_h P2 V2, (x + 389, 5079))) := e2
  obtain ⟨P3, hP3⟩ : ∃ P3, P3 = mz_g P2 (x + 389) (.inr (.long, 1)) := ⟨_, rfl⟩
  obtain ⟨V3, hV3⟩ : ∃ V3, V3 = mz_w V2 (x + 389) fun _ => 0 := ⟨_, rfl⟩
  obtain ⟨P4, hP4⟩ : ∃ P4, P4 = mz_g P3 (x + 390) (.inr (.double, 1)) := ⟨_, rfl⟩
  obtain ⟨V4, hV4⟩ : ∃ V4, V4 = mz_w V3 (x + 390) fun _ => 0 := ⟨_, rfl⟩
  have p4 : ∀ r, r < x + 389 → P4.1 r = P2.1 r ∧ P4.2 r = P2.2 r ∧ V4 r = V2 r := fun r hr => by
    rw [hP4, hP3, hV4, hV3]
    exact ⟨(mz_g1 (by omega)).trans (mz_g1 (by omega)), (mz_g2 (by omega)).trans (mz_g2 (by omega)), (mz_w_n _ _ (by omega)).trans (mz_w_n _ _ (by omega))⟩
  have p2 : ∀ r, r < x + 376 → P2.1 r = P1.1 r ∧ P2.2 r = P1.2 r ∧ V2 r = V1 r := fun r hr => ⟨(g1 r (by omega)).trans (mz_g1 (by omega)), ((g2 r (by omega) (by omega)).1).trans (mz_g2 (by omega)), ((g2 r (by omega) (by omega)).2).trans (mz_w_n _ _ (by omega))⟩
  have p41 : ∀ r, r < x + 376 → P4.1 r = P1.1 r ∧ P4.2 r = P1.2 r ∧ V4 r = V1 r := fun r hr => ⟨(p4 r (by omega)).1.trans (p2 r hr).1, (p4 r (by omega)).2.1.trans (p2 r hr).2.1, (p4 r (by omega)).2.2.trans (p2 r hr).2.2⟩
  have w4 : ∀ i, i < 12 → V4 (x + 376 + 1 + i) = fun _ => 0 := fun i hi => by rw [(p4 _ (by omega)).2.2]; exact u2 i hi
  have wm : V4 (x + 376) = mr_up (fun _ => 0) 17 (-1) := by rw [(p4 _ (by omega)).2.2]; exact u3
  have vx : ∀ k, V4 x k = V1 x k := fun k => by rw [(p41 x (by omega)).2.2]
  refine ⟨P4, V4, fun j6 j7 => ?_, ⟨?_, ⟨?_, ?_, ?_, ?_, ?_, ?_⟩, ?_, ⟨⟨w4 0 (by decide), w4 2 (by decide), w4 3 (by decide), w4 5 (by decide), w4 7 (by decide)⟩, fun k hk => by rw [wm]; rfl⟩, mg_J_z⟩, ⟨⟨fun r hr => ?_, hX.2⟩, ?_, ?_⟩, ⟨Nat.le_refl _, by show x + 368 < x + 391; omega⟩, Or.inl rfl, ?_⟩
  · rw [e0, bk_L_law_0, mz_new (by decide)]
    simp only [mv_clV, mv_cl, e1]
    rw [mz_new (by decide)]
    simp only [e2]
    rw [nw_na (t := .long) (v := .long 0) (y := 1) 1 rfl (by decide) rfl, nw_na (t := .double) (v := .double 0) (y := 1) 1 rfl (by decide) rfl, hP4, hV4, hP3, hV3]
    rfl
  · exact mX_P_c (v' := x + 368) (n' := 16) (P := P1) (fun r r1 r2 => (p41 r (by omega)).1) (fun r r1 r2 r3 => (p41 r (by omega)).2.1) (by rw [(p41 _ (by omega)).2.1]; exact L1.2.2.2.2.2.1.2.1) (by rw [(p41 _ (by omega)).1]; exact L1.2.2.2.2.2.1.2.2.1) (by decide) (Or.inl rfl) L1
  · exact mh_R_f (show (0 : Int) ≤ 6 by decide) (fun r r1 r2 => (p41 r (by omega)).2.2) h1
  · exact ⟨by rw [vx, t6]; rfl, fun h => absurd (show (0 : Int) = 1 from h) (by decide)⟩
  · refine ⟨0, by decide, by rw [(p41 _ (by omega)).2.2, t1]; rfl, by rw [(p41 _ (by omega)).2.2, t2]; rfl, fun i hi => ?_⟩
    have hi : (i : Int) < 0 := hi
    omega
  · refine ⟨by rw [(p41 _ (by omega)).2.2, t3]; rfl, fun i hi => ?_⟩
    have hi : (i : Int) < 0 := hi
    omega
  · refine ⟨by rw [(p41 _ (by omega)).2.2, t4], by rw [(p41 _ (by omega)).2.2, t5]; rfl, fun i hi => ?_⟩
    have hi : (i : Int) < 0 := hi
    omega
  · exact ⟨by rw [vx, t7]; rfl, by rw [vx, t8]; rfl, by rw [vx, t9]; rfl, by rw [vx, t10]; rfl⟩
  · exact mr_M_c (P := P2) (fun r r1 r2 => (p4 r (by omega)).1) (p4 _ (by omega)).2.1 M2
  · show P4.1 r = none
    rw [(p41 r (by omega)).1, f1 r (by omega), mz_g1 (by omega), hP0]
  · rw [hP4]
    refine (mz_g1 (by omega)).trans ?_
    rw [hP3]
    exact mz_gs
  · rw [hP4]; exact mz_gs
  · show (0 : Int) ≤ 16
    decide
end LAWL
