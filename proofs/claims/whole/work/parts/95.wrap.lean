/-! THE WRAPPERS: what is thrown told by a number, what is answered laid down -/
section WRAP
variable {X : mv_X} {P P1 : mz_P} {V V1 : mz_V} {z z1 : Nat × Nat} {x v n d o ex : Nat} {cd an : Int}
theorem LX_moor {a1 a2 a3 a4 : Int32} (hP : mX_P P x v n) (ho : P1.1 o = some (.inr (.long, 1))) (hO : lw_o (mv_call X d 84 [.ref x, .int a1, .int a2, .int a3, .int a4] (mz_h P V, z)) cd an ex P1 V1 z1) (hl : cd ≠ 0 → lw_lk [(0, 1), (3, 2)] ex = some cd) : ∃ V2 : mz_V, mv_call X (d + 1) 285 [.ref x, .int a1, .int a2, .int a3, .int a4, .ref o] (mz_h P V, z) = some (.inl (some (.int (nZ cd))), (mz_h P1 V2, z1)) ∧ (cd = 0 → V2 o 0 = (nZ an).toInt) ∧ ∀ r, r ≠ o → V2 r = V1 r := by
  rcases hO with ⟨h0, hr⟩ | ⟨h0, q, hr⟩
  · subst h0
    refine ⟨mz_u V1 o 0 (nZ an).toInt, ?_, fun _ => mz_u_s _ _ _ _, fun r hr => mz_u_o hr⟩
    rw [mc_L_moor, bk_L_moor_0, bk_L_moor_9, mz_rcv hP.o]
    simp only [mv_clI, mv_cl, hr]
    rw [bk_L_moor_12, mz_as3 ho]
  · have hl := hl h0
    refine ⟨V1, ?_, fun h => absurd h h0, fun _ _ => rfl⟩
    rw [mc_L_moor, bk_L_moor_0, bk_L_moor_9, mz_rcv hP.o]
    simp only [mv_clI, mv_cl, hr]
    by_cases c0 : ex = 0
    · subst c0
      have hl : some (1 : Int) = some cd := hl
      cases hl
      exact bk_L_moor_19 _ _ _ _ _ _ _ _ _
    · skip
      by_cases c1 : ex = 3
      · subst c1
        have hl : some (2 : Int) = some cd := hl
        cases hl
        exact bk_L_moor_23 _ _ _ _ _ _ _ _ _
      · skip
        have hn : lw_lk [(0, 1), (3, 2)] ex = none := (if_neg c0).trans (if_neg c1)
        rw [hn] at hl
        cases hl
theorem LX_castOff {a1 : Int32} (hP : mX_P P x v n) (ho : P1.1 o = some (.inr (.long, 1))) (hO : lw_o (mv_call X d 85 [.ref x, .int a1] (mz_h P V, z)) cd an ex P1 V1 z1) (hl : cd ≠ 0 → lw_lk [(1, 1)] ex = some cd) : ∃ V2 : mz_V, mv_call X (d + 1) 286 [.ref x, .int a1, .ref o] (mz_h P V, z) = some (.inl (some (.int (nZ cd))), (mz_h P1 V2, z1)) ∧ (cd = 0 → V2 o 0 = (nZ an).toInt) ∧ ∀ r, r ≠ o → V2 r = V1 r := by
  rcases hO with ⟨h0, hr⟩ | ⟨h0, q, hr⟩
  · subst h0
    refine ⟨mz_u V1 o 0 (nZ an).toInt, ?_, fun _ => mz_u_s _ _ _ _, fun r hr => mz_u_o hr⟩
    rw [mc_L_castOff, bk_L_castOff_0, bk_L_castOff_4, mz_rcv hP.o]
    simp only [mv_clI, mv_cl, hr]
    rw [bk_L_castOff_7, mz_as3 ho]
  · have hl := hl h0
    refine ⟨V1, ?_, fun h => absurd h h0, fun _ _ => rfl⟩
    rw [mc_L_castOff, bk_L_castOff_0, bk_L_castOff_4, mz_rcv hP.o]
    simp only [mv_clI, mv_cl, hr]
    by_cases c0 : ex = 1
    · subst c0
      have hl : some (1 : Int) = some cd := hl
      cases hl
      exact bk_L_castOff_13 _ _ _ _ _ _
    · skip
      have hn : lw_lk [(1, 1)] ex = none := if_neg c0
      rw [hn] at hl
      cases hl
theorem LX_isMoored {a1 : Int32} (hP : mX_P P x v n) (ho : P1.1 o = some (.inr (.long, 1))) (hO : lw_o (mv_call X d 87 [.ref x, .int a1] (mz_h P V, z)) cd an ex P1 V1 z1) (hl : cd ≠ 0 → lw_lk [(0, 1)] ex = some cd) : ∃ V2 : mz_V, mv_call X (d + 1) 287 [.ref x, .int a1, .ref o] (mz_h P V, z) = some (.inl (some (.int (nZ cd))), (mz_h P1 V2, z1)) ∧ (cd = 0 → V2 o 0 = if nZ an = 0 then 0 else 1) ∧ ∀ r, r ≠ o → V2 r = V1 r := by
  rcases hO with ⟨h0, hr⟩ | ⟨h0, q, hr⟩
  · subst h0
    refine ⟨mz_u V1 o 0 (if nZ an = 0 then ((0 : Nat) : Int) else ((1 : Nat) : Int)), ?_, fun _ => by rw [mz_u_s]; rfl, fun r hr => mz_u_o hr⟩
    rw [mc_L_isMoored, bk_L_isMoored_0, bk_L_isMoored_4, mz_rcv hP.o]
    simp only [mv_clI, mv_cl, hr]
    rw [bk_L_isMoored_7]
    by_cases c : nZ an = 0
    · rw [if_pos c, if_pos c, mz_as30 ho]
    · rw [if_neg c, if_neg c, mz_as30 ho]
  · have hl := hl h0
    refine ⟨V1, ?_, fun h => absurd h h0, fun _ _ => rfl⟩
    rw [mc_L_isMoored, bk_L_isMoored_0, bk_L_isMoored_4, mz_rcv hP.o]
    simp only [mv_clI, mv_cl, hr]
    by_cases c0 : ex = 0
    · subst c0
      have hl : some (1 : Int) = some cd := hl
      cases hl
      exact bk_L_isMoored_20 _ _ _ _ _ _
    · skip
      have hn : lw_lk [(0, 1)] ex = none := if_neg c0
      rw [hn] at hl
      cases hl
theorem LX_lift {a1 : Int32} (hP : mX_P P x v n) (ho : P1.1 o = some (.inr (.long, 1))) (hO : lw_o (mv_call X d 88 [.ref x, .int a1] (mz_h P V, z)) cd an ex P1 V1 z1) (hl : cd ≠ 0 → lw_lk [(1, 1)] ex = some cd) : ∃ V2 : mz_V, mv_call X (d + 1) 288 [.ref x, .int a1, .ref o] (mz_h P V, z) = some (.inl (some (.int (nZ cd))), (mz_h P1 V2, z1)) ∧ (cd = 0 → V2 o 0 = (nZ an).toInt) ∧ ∀ r, r ≠ o → V2 r = V1 r := by
  rcases hO with ⟨h0, hr⟩ | ⟨h0, q, hr⟩
  · subst h0
    refine ⟨mz_u V1 o 0 (nZ an).toInt, ?_, fun _ => mz_u_s _ _ _ _, fun r hr => mz_u_o hr⟩
    rw [mc_L_lift, bk_L_lift_0, bk_L_lift_4, mz_rcv hP.o]
    simp only [mv_clI, mv_cl, hr]
    rw [bk_L_lift_7, mz_as3 ho]
  · have hl := hl h0
    refine ⟨V1, ?_, fun h => absurd h h0, fun _ _ => rfl⟩
    rw [mc_L_lift, bk_L_lift_0, bk_L_lift_4, mz_rcv hP.o]
    simp only [mv_clI, mv_cl, hr]
    by_cases c0 : ex = 1
    · subst c0
      have hl : some (1 : Int) = some cd := hl
      cases hl
      exact bk_L_lift_13 _ _ _ _ _ _
    · skip
      have hn : lw_lk [(1, 1)] ex = none := if_neg c0
      rw [hn] at hl
      cases hl
theorem LX_ballast {a1 : Int32} (hP : mX_P P x v n) (ho : P1.1 o = some (.inr (.long, 1))) (hO : lw_o (mv_call X d 89 [.ref x, .int a1] (mz_h P V, z)) cd an ex P1 V1 z1) (hl : cd ≠ 0 → lw_lk [(1, 1)] ex = some cd) : ∃ V2 : mz_V, mv_call X (d + 1) 289 [.ref x, .int a1, .ref o] (mz_h P V, z) = some (.inl (some (.int (nZ cd))), (mz_h P1 V2, z1)) ∧ (cd = 0 → V2 o 0 = (nZ an).toInt) ∧ ∀ r, r ≠ o → V2 r = V1 r := by
  rcases hO with ⟨h0, hr⟩ | ⟨h0, q, hr⟩
  · subst h0
    refine ⟨mz_u V1 o 0 (nZ an).toInt, ?_, fun _ => mz_u_s _ _ _ _, fun r hr => mz_u_o hr⟩
    rw [mc_L_ballast, bk_L_ballast_0, bk_L_ballast_4, mz_rcv hP.o]
    simp only [mv_clI, mv_cl, hr]
    rw [bk_L_ballast_7, mz_as3 ho]
  · have hl := hl h0
    refine ⟨V1, ?_, fun h => absurd h h0, fun _ _ => rfl⟩
    rw [mc_L_ballast, bk_L_ballast_0, bk_L_ballast_4, mz_rcv hP.o]
    simp only [mv_clI, mv_cl, hr]
    by_cases c0 : ex = 1
    · subst c0
      have hl : some (1 : Int) = some cd := hl
      cases hl
      exact bk_L_ballast_13 _ _ _ _ _ _
    · skip
      have hn : lw_lk [(1, 1)] ex = none := if_neg c0
      rw [hn] at hl
      cases hl
theorem LX_height {a1 : Int32} (hP : mX_P P x v n) (ho : P1.1 o = some (.inr (.long, 1))) (hO : lw_o (mv_call X d 90 [.ref x, .int a1] (mz_h P V, z)) cd an ex P1 V1 z1) (hl : cd ≠ 0 → lw_lk [(1, 1)] ex = some cd) : ∃ V2 : mz_V, mv_call X (d + 1) 290 [.ref x, .int a1, .ref o] (mz_h P V, z) = some (.inl (some (.int (nZ cd))), (mz_h P1 V2, z1)) ∧ (cd = 0 → V2 o 0 = (nZ an).toInt) ∧ ∀ r, r ≠ o → V2 r = V1 r := by
  rcases hO with ⟨h0, hr⟩ | ⟨h0, q, hr⟩
  · subst h0
    refine ⟨mz_u V1 o 0 (nZ an).toInt, ?_, fun _ => mz_u_s _ _ _ _, fun r hr => mz_u_o hr⟩
    rw [mc_L_height, bk_L_height_0, bk_L_height_4, mz_rcv hP.o]
    simp only [mv_clI, mv_cl, hr]
    rw [bk_L_height_7, mz_as3 ho]
  · have hl := hl h0
    refine ⟨V1, ?_, fun h => absurd h h0, fun _ _ => rfl⟩
    rw [mc_L_height, bk_L_height_0, bk_L_height_4, mz_rcv hP.o]
    simp only [mv_clI, mv_cl, hr]
    by_cases c0 : ex = 1
    · subst c0
      have hl : some (1 : Int) = some cd := hl
      cases hl
      exact bk_L_height_13 _ _ _ _ _ _
    · skip
      have hn : lw_lk [(1, 1)] ex = none := if_neg c0
      rw [hn] at hl
      cases hl
theorem LX_isBursting {a1 : Int32} (hP : mX_P P x v n) (ho : P1.1 o = some (.inr (.long, 1))) (hO : lw_o (mv_call X d 91 [.ref x, .int a1] (mz_h P V, z)) cd an ex P1 V1 z1) (hl : cd ≠ 0 → lw_lk [(1, 1)] ex = some cd) : ∃ V2 : mz_V, mv_call X (d + 1) 291 [.ref x, .int a1, .ref o] (mz_h P V, z) = some (.inl (some (.int (nZ cd))), (mz_h P1 V2, z1)) ∧ (cd = 0 → V2 o 0 = if nZ an = 0 then 0 else 1) ∧ ∀ r, r ≠ o → V2 r = V1 r := by
  rcases hO with ⟨h0, hr⟩ | ⟨h0, q, hr⟩
  · subst h0
    refine ⟨mz_u V1 o 0 (if nZ an = 0 then ((0 : Nat) : Int) else ((1 : Nat) : Int)), ?_, fun _ => by rw [mz_u_s]; rfl, fun r hr => mz_u_o hr⟩
    rw [mc_L_isBursting, bk_L_isBursting_0, bk_L_isBursting_4, mz_rcv hP.o]
    simp only [mv_clI, mv_cl, hr]
    rw [bk_L_isBursting_7]
    by_cases c : nZ an = 0
    · rw [if_pos c, if_pos c, mz_as30 ho]
    · rw [if_neg c, if_neg c, mz_as30 ho]
  · have hl := hl h0
    refine ⟨V1, ?_, fun h => absurd h h0, fun _ _ => rfl⟩
    rw [mc_L_isBursting, bk_L_isBursting_0, bk_L_isBursting_4, mz_rcv hP.o]
    simp only [mv_clI, mv_cl, hr]
    by_cases c0 : ex = 1
    · subst c0
      have hl : some (1 : Int) = some cd := hl
      cases hl
      exact bk_L_isBursting_20 _ _ _ _ _ _
    · skip
      have hn : lw_lk [(1, 1)] ex = none := if_neg c0
      rw [hn] at hl
      cases hl
theorem LX_berthByHeight {a1 : Int32} (hP : mX_P P x v n) (ho : P1.1 o = some (.inr (.long, 1))) (hO : lw_o (mv_call X d 92 [.ref x, .int a1] (mz_h P V, z)) cd an ex P1 V1 z1) (hl : cd ≠ 0 → lw_lk [(1, 1)] ex = some cd) : ∃ V2 : mz_V, mv_call X (d + 1) 292 [.ref x, .int a1, .ref o] (mz_h P V, z) = some (.inl (some (.int (nZ cd))), (mz_h P1 V2, z1)) ∧ (cd = 0 → V2 o 0 = (nZ an).toInt) ∧ ∀ r, r ≠ o → V2 r = V1 r := by
  rcases hO with ⟨h0, hr⟩ | ⟨h0, q, hr⟩
  · subst h0
    refine ⟨mz_u V1 o 0 (nZ an).toInt, ?_, fun _ => mz_u_s _ _ _ _, fun r hr => mz_u_o hr⟩
    rw [mc_L_berthByHeight, bk_L_berthByHeight_0, bk_L_berthByHeight_4, mz_rcv hP.o]
    simp only [mv_clI, mv_cl, hr]
    rw [bk_L_berthByHeight_7, mz_as3 ho]
  · have hl := hl h0
    refine ⟨V1, ?_, fun h => absurd h h0, fun _ _ => rfl⟩
    rw [mc_L_berthByHeight, bk_L_berthByHeight_0, bk_L_berthByHeight_4, mz_rcv hP.o]
    simp only [mv_clI, mv_cl, hr]
    by_cases c0 : ex = 1
    · subst c0
      have hl : some (1 : Int) = some cd := hl
      cases hl
      exact bk_L_berthByHeight_13 _ _ _ _ _ _
    · skip
      have hn : lw_lk [(1, 1)] ex = none := if_neg c0
      rw [hn] at hl
      cases hl
theorem LX_load {a1 a2 : Int32} (hP : mX_P P x v n) (ho : P1.1 o = some (.inr (.long, 1))) (hO : lw_o (mv_call X d 93 [.ref x, .int a1, .int a2] (mz_h P V, z)) cd an ex P1 V1 z1) (hl : cd ≠ 0 → lw_lk [(1, 1), (0, 2), (3, 3)] ex = some cd) : ∃ V2 : mz_V, mv_call X (d + 1) 293 [.ref x, .int a1, .int a2, .ref o] (mz_h P V, z) = some (.inl (some (.int (nZ cd))), (mz_h P1 V2, z1)) ∧ (cd = 0 → V2 o 0 = (nZ an).toInt) ∧ ∀ r, r ≠ o → V2 r = V1 r := by
  rcases hO with ⟨h0, hr⟩ | ⟨h0, q, hr⟩
  · subst h0
    refine ⟨mz_u V1 o 0 (nZ an).toInt, ?_, fun _ => mz_u_s _ _ _ _, fun r hr => mz_u_o hr⟩
    rw [mc_L_load, bk_L_load_0, bk_L_load_5, mz_rcv hP.o]
    simp only [mv_clI, mv_cl, hr]
    rw [bk_L_load_8, mz_as3 ho]
  · have hl := hl h0
    refine ⟨V1, ?_, fun h => absurd h h0, fun _ _ => rfl⟩
    rw [mc_L_load, bk_L_load_0, bk_L_load_5, mz_rcv hP.o]
    simp only [mv_clI, mv_cl, hr]
    by_cases c0 : ex = 1
    · subst c0
      have hl : some (1 : Int) = some cd := hl
      cases hl
      exact bk_L_load_15 _ _ _ _ _ _ _
    · skip
      by_cases c1 : ex = 0
      · subst c1
        have hl : some (2 : Int) = some cd := hl
        cases hl
        exact bk_L_load_19 _ _ _ _ _ _ _
      · skip
        by_cases c2 : ex = 3
        · subst c2
          have hl : some (3 : Int) = some cd := hl
          cases hl
          exact bk_L_load_23 _ _ _ _ _ _ _
        · skip
          have hn : lw_lk [(1, 1), (0, 2), (3, 3)] ex = none := (if_neg c0).trans ((if_neg c1).trans (if_neg c2))
          rw [hn] at hl
          cases hl
theorem LX_drop {a1 a2 : Int32} (hP : mX_P P x v n) (ho : P1.1 o = some (.inr (.long, 1))) (hO : lw_o (mv_call X d 94 [.ref x, .int a1, .int a2] (mz_h P V, z)) cd an ex P1 V1 z1) (hl : cd ≠ 0 → lw_lk [(1, 1), (2, 2)] ex = some cd) : ∃ V2 : mz_V, mv_call X (d + 1) 294 [.ref x, .int a1, .int a2, .ref o] (mz_h P V, z) = some (.inl (some (.int (nZ cd))), (mz_h P1 V2, z1)) ∧ (cd = 0 → V2 o 0 = (nZ an).toInt) ∧ ∀ r, r ≠ o → V2 r = V1 r := by
  rcases hO with ⟨h0, hr⟩ | ⟨h0, q, hr⟩
  · subst h0
    refine ⟨mz_u V1 o 0 (nZ an).toInt, ?_, fun _ => mz_u_s _ _ _ _, fun r hr => mz_u_o hr⟩
    rw [mc_L_drop, bk_L_drop_0, bk_L_drop_5, mz_rcv hP.o]
    simp only [mv_clI, mv_cl, hr]
    rw [bk_L_drop_8, mz_as3 ho]
  · have hl := hl h0
    refine ⟨V1, ?_, fun h => absurd h h0, fun _ _ => rfl⟩
    rw [mc_L_drop, bk_L_drop_0, bk_L_drop_5, mz_rcv hP.o]
    simp only [mv_clI, mv_cl, hr]
    by_cases c0 : ex = 1
    · subst c0
      have hl : some (1 : Int) = some cd := hl
      cases hl
      exact bk_L_drop_15 _ _ _ _ _ _ _
    · skip
      by_cases c1 : ex = 2
      · subst c1
        have hl : some (2 : Int) = some cd := hl
        cases hl
        exact bk_L_drop_19 _ _ _ _ _ _ _
      · skip
        have hn : lw_lk [(1, 1), (2, 2)] ex = none := (if_neg c0).trans (if_neg c1)
        rw [hn] at hl
        cases hl
theorem LX_rise {a1 a2 : Int32} (hP : mX_P P x v n) (ho : P1.1 o = some (.inr (.long, 1))) (hO : lw_o (mv_call X d 95 [.ref x, .int a1, .int a2] (mz_h P V, z)) cd an ex P1 V1 z1) (hl : cd ≠ 0 → lw_lk [(1, 1), (0, 2), (3, 3)] ex = some cd) : ∃ V2 : mz_V, mv_call X (d + 1) 295 [.ref x, .int a1, .int a2, .ref o] (mz_h P V, z) = some (.inl (some (.int (nZ cd))), (mz_h P1 V2, z1)) ∧ (cd = 0 → V2 o 0 = (nZ an).toInt) ∧ ∀ r, r ≠ o → V2 r = V1 r := by
  rcases hO with ⟨h0, hr⟩ | ⟨h0, q, hr⟩
  · subst h0
    refine ⟨mz_u V1 o 0 (nZ an).toInt, ?_, fun _ => mz_u_s _ _ _ _, fun r hr => mz_u_o hr⟩
    rw [mc_L_rise, bk_L_rise_0, bk_L_rise_5, mz_rcv hP.o]
    simp only [mv_clI, mv_cl, hr]
    rw [bk_L_rise_8, mz_as3 ho]
  · have hl := hl h0
    refine ⟨V1, ?_, fun h => absurd h h0, fun _ _ => rfl⟩
    rw [mc_L_rise, bk_L_rise_0, bk_L_rise_5, mz_rcv hP.o]
    simp only [mv_clI, mv_cl, hr]
    by_cases c0 : ex = 1
    · subst c0
      have hl : some (1 : Int) = some cd := hl
      cases hl
      exact bk_L_rise_15 _ _ _ _ _ _ _
    · skip
      by_cases c1 : ex = 0
      · subst c1
        have hl : some (2 : Int) = some cd := hl
        cases hl
        exact bk_L_rise_19 _ _ _ _ _ _ _
      · skip
        by_cases c2 : ex = 3
        · subst c2
          have hl : some (3 : Int) = some cd := hl
          cases hl
          exact bk_L_rise_23 _ _ _ _ _ _ _
        · skip
          have hn : lw_lk [(1, 1), (0, 2), (3, 3)] ex = none := (if_neg c0).trans ((if_neg c1).trans (if_neg c2))
          rw [hn] at hl
          cases hl
theorem LX_bagCount {a1 : Int32} (hP : mX_P P x v n) (ho : P1.1 o = some (.inr (.long, 1))) (hO : lw_o (mv_call X d 96 [.ref x, .int a1] (mz_h P V, z)) cd an ex P1 V1 z1) (hl : cd ≠ 0 → lw_lk [(1, 1)] ex = some cd) : ∃ V2 : mz_V, mv_call X (d + 1) 296 [.ref x, .int a1, .ref o] (mz_h P V, z) = some (.inl (some (.int (nZ cd))), (mz_h P1 V2, z1)) ∧ (cd = 0 → V2 o 0 = (nZ an).toInt) ∧ ∀ r, r ≠ o → V2 r = V1 r := by
  rcases hO with ⟨h0, hr⟩ | ⟨h0, q, hr⟩
  · subst h0
    refine ⟨mz_u V1 o 0 (nZ an).toInt, ?_, fun _ => mz_u_s _ _ _ _, fun r hr => mz_u_o hr⟩
    rw [mc_L_bagCount, bk_L_bagCount_0, bk_L_bagCount_4, mz_rcv hP.o]
    simp only [mv_clI, mv_cl, hr]
    rw [bk_L_bagCount_7, mz_as3 ho]
  · have hl := hl h0
    refine ⟨V1, ?_, fun h => absurd h h0, fun _ _ => rfl⟩
    rw [mc_L_bagCount, bk_L_bagCount_0, bk_L_bagCount_4, mz_rcv hP.o]
    simp only [mv_clI, mv_cl, hr]
    by_cases c0 : ex = 1
    · subst c0
      have hl : some (1 : Int) = some cd := hl
      cases hl
      exact bk_L_bagCount_13 _ _ _ _ _ _
    · skip
      have hn : lw_lk [(1, 1)] ex = none := if_neg c0
      rw [hn] at hl
      cases hl
theorem LX_bagWeight {a1 a2 : Int32} (hP : mX_P P x v n) (ho : P1.1 o = some (.inr (.long, 1))) (hO : lw_o (mv_call X d 97 [.ref x, .int a1, .int a2] (mz_h P V, z)) cd an ex P1 V1 z1) (hl : cd ≠ 0 → lw_lk [(1, 1), (2, 2)] ex = some cd) : ∃ V2 : mz_V, mv_call X (d + 1) 297 [.ref x, .int a1, .int a2, .ref o] (mz_h P V, z) = some (.inl (some (.int (nZ cd))), (mz_h P1 V2, z1)) ∧ (cd = 0 → V2 o 0 = (nZ an).toInt) ∧ ∀ r, r ≠ o → V2 r = V1 r := by
  rcases hO with ⟨h0, hr⟩ | ⟨h0, q, hr⟩
  · subst h0
    refine ⟨mz_u V1 o 0 (nZ an).toInt, ?_, fun _ => mz_u_s _ _ _ _, fun r hr => mz_u_o hr⟩
    rw [mc_L_bagWeight, bk_L_bagWeight_0, bk_L_bagWeight_5, mz_rcv hP.o]
    simp only [mv_clI, mv_cl, hr]
    rw [bk_L_bagWeight_8, mz_as3 ho]
  · have hl := hl h0
    refine ⟨V1, ?_, fun h => absurd h h0, fun _ _ => rfl⟩
    rw [mc_L_bagWeight, bk_L_bagWeight_0, bk_L_bagWeight_5, mz_rcv hP.o]
    simp only [mv_clI, mv_cl, hr]
    by_cases c0 : ex = 1
    · subst c0
      have hl : some (1 : Int) = some cd := hl
      cases hl
      exact bk_L_bagWeight_15 _ _ _ _ _ _ _
    · skip
      by_cases c1 : ex = 2
      · subst c1
        have hl : some (2 : Int) = some cd := hl
        cases hl
        exact bk_L_bagWeight_19 _ _ _ _ _ _ _
      · skip
        have hn : lw_lk [(1, 1), (2, 2)] ex = none := (if_neg c0).trans (if_neg c1)
        rw [hn] at hl
        cases hl
theorem LX_fewestDrops {a1 a2 : Int32} (hP : mX_P P x v n) (ho : P1.1 o = some (.inr (.long, 1))) (hO : lw_o (mv_call X d 98 [.ref x, .int a1, .int a2] (mz_h P V, z)) cd an ex P1 V1 z1) (hl : cd ≠ 0 → lw_lk [(0, 1), (1, 2)] ex = some cd) : ∃ V2 : mz_V, mv_call X (d + 1) 298 [.ref x, .int a1, .int a2, .ref o] (mz_h P V, z) = some (.inl (some (.int (nZ cd))), (mz_h P1 V2, z1)) ∧ (cd = 0 → V2 o 0 = (nZ an).toInt) ∧ ∀ r, r ≠ o → V2 r = V1 r := by
  rcases hO with ⟨h0, hr⟩ | ⟨h0, q, hr⟩
  · subst h0
    refine ⟨mz_u V1 o 0 (nZ an).toInt, ?_, fun _ => mz_u_s _ _ _ _, fun r hr => mz_u_o hr⟩
    rw [mc_L_fewestDrops, bk_L_fewestDrops_0, bk_L_fewestDrops_5, mz_rcv hP.o]
    simp only [mv_clI, mv_cl, hr]
    rw [bk_L_fewestDrops_8, mz_as3 ho]
  · have hl := hl h0
    refine ⟨V1, ?_, fun h => absurd h h0, fun _ _ => rfl⟩
    rw [mc_L_fewestDrops, bk_L_fewestDrops_0, bk_L_fewestDrops_5, mz_rcv hP.o]
    simp only [mv_clI, mv_cl, hr]
    by_cases c0 : ex = 0
    · subst c0
      have hl : some (1 : Int) = some cd := hl
      cases hl
      exact bk_L_fewestDrops_15 _ _ _ _ _ _ _
    · skip
      by_cases c1 : ex = 1
      · subst c1
        have hl : some (2 : Int) = some cd := hl
        cases hl
        exact bk_L_fewestDrops_19 _ _ _ _ _ _ _
      · skip
        have hn : lw_lk [(0, 1), (1, 2)] ex = none := (if_neg c0).trans (if_neg c1)
        rw [hn] at hl
        cases hl
theorem LX_fewestDropsBySets {a1 a2 : Int32} (hP : mX_P P x v n) (ho : P1.1 o = some (.inr (.long, 1))) (hO : lw_o (mv_call X d 99 [.ref x, .int a1, .int a2] (mz_h P V, z)) cd an ex P1 V1 z1) (hl : cd ≠ 0 → lw_lk [(0, 1), (1, 2)] ex = some cd) : ∃ V2 : mz_V, mv_call X (d + 1) 299 [.ref x, .int a1, .int a2, .ref o] (mz_h P V, z) = some (.inl (some (.int (nZ cd))), (mz_h P1 V2, z1)) ∧ (cd = 0 → V2 o 0 = (nZ an).toInt) ∧ ∀ r, r ≠ o → V2 r = V1 r := by
  rcases hO with ⟨h0, hr⟩ | ⟨h0, q, hr⟩
  · subst h0
    refine ⟨mz_u V1 o 0 (nZ an).toInt, ?_, fun _ => mz_u_s _ _ _ _, fun r hr => mz_u_o hr⟩
    rw [mc_L_fewestDropsBySets, bk_L_fewestDropsBySets_0, bk_L_fewestDropsBySets_5, mz_rcv hP.o]
    simp only [mv_clI, mv_cl, hr]
    rw [bk_L_fewestDropsBySets_8, mz_as3 ho]
  · have hl := hl h0
    refine ⟨V1, ?_, fun h => absurd h h0, fun _ _ => rfl⟩
    rw [mc_L_fewestDropsBySets, bk_L_fewestDropsBySets_0, bk_L_fewestDropsBySets_5, mz_rcv hP.o]
    simp only [mv_clI, mv_cl, hr]
    by_cases c0 : ex = 0
    · subst c0
      have hl : some (1 : Int) = some cd := hl
      cases hl
      exact bk_L_fewestDropsBySets_15 _ _ _ _ _ _ _
    · skip
      by_cases c1 : ex = 1
      · subst c1
        have hl : some (2 : Int) = some cd := hl
        cases hl
        exact bk_L_fewestDropsBySets_19 _ _ _ _ _ _ _
      · skip
        have hn : lw_lk [(0, 1), (1, 2)] ex = none := (if_neg c0).trans (if_neg c1)
        rw [hn] at hl
        cases hl
theorem LX_dropWeight {a1 a2 : Int32} (hP : mX_P P x v n) (ho : P1.1 o = some (.inr (.long, 1))) (hO : lw_o (mv_call X d 100 [.ref x, .int a1, .int a2] (mz_h P V, z)) cd an ex P1 V1 z1) (hl : cd ≠ 0 → lw_lk [(0, 1), (1, 2)] ex = some cd) : ∃ V2 : mz_V, mv_call X (d + 1) 300 [.ref x, .int a1, .int a2, .ref o] (mz_h P V, z) = some (.inl (some (.int (nZ cd))), (mz_h P1 V2, z1)) ∧ (cd = 0 → V2 o 0 = (nZ an).toInt) ∧ ∀ r, r ≠ o → V2 r = V1 r := by
  rcases hO with ⟨h0, hr⟩ | ⟨h0, q, hr⟩
  · subst h0
    refine ⟨mz_u V1 o 0 (nZ an).toInt, ?_, fun _ => mz_u_s _ _ _ _, fun r hr => mz_u_o hr⟩
    rw [mc_L_dropWeight, bk_L_dropWeight_0, bk_L_dropWeight_5, mz_rcv hP.o]
    simp only [mv_clI, mv_cl, hr]
    rw [bk_L_dropWeight_8, mz_as3 ho]
  · have hl := hl h0
    refine ⟨V1, ?_, fun h => absurd h h0, fun _ _ => rfl⟩
    rw [mc_L_dropWeight, bk_L_dropWeight_0, bk_L_dropWeight_5, mz_rcv hP.o]
    simp only [mv_clI, mv_cl, hr]
    by_cases c0 : ex = 0
    · subst c0
      have hl : some (1 : Int) = some cd := hl
      cases hl
      exact bk_L_dropWeight_15 _ _ _ _ _ _ _
    · skip
      by_cases c1 : ex = 1
      · subst c1
        have hl : some (2 : Int) = some cd := hl
        cases hl
        exact bk_L_dropWeight_19 _ _ _ _ _ _ _
      · skip
        have hn : lw_lk [(0, 1), (1, 2)] ex = none := (if_neg c0).trans (if_neg c1)
        rw [hn] at hl
        cases hl
theorem LX_setWind {a1 a2 : Int32} (hP : mX_P P x v n) (ho : P1.1 o = some (.inr (.long, 1))) (hO : lw_o (mv_call X d 101 [.ref x, .int a1, .int a2] (mz_h P V, z)) cd an ex P1 V1 z1) (hl : cd ≠ 0 → lw_lk [(0, 1), (3, 2)] ex = some cd) : ∃ V2 : mz_V, mv_call X (d + 1) 301 [.ref x, .int a1, .int a2, .ref o] (mz_h P V, z) = some (.inl (some (.int (nZ cd))), (mz_h P1 V2, z1)) ∧ (cd = 0 → V2 o 0 = (nZ an).toInt) ∧ ∀ r, r ≠ o → V2 r = V1 r := by
  rcases hO with ⟨h0, hr⟩ | ⟨h0, q, hr⟩
  · subst h0
    refine ⟨mz_u V1 o 0 (nZ an).toInt, ?_, fun _ => mz_u_s _ _ _ _, fun r hr => mz_u_o hr⟩
    rw [mc_L_setWind, bk_L_setWind_0, bk_L_setWind_5, mz_rcv hP.o]
    simp only [mv_clI, mv_cl, hr]
    rw [bk_L_setWind_8, mz_as3 ho]
  · have hl := hl h0
    refine ⟨V1, ?_, fun h => absurd h h0, fun _ _ => rfl⟩
    rw [mc_L_setWind, bk_L_setWind_0, bk_L_setWind_5, mz_rcv hP.o]
    simp only [mv_clI, mv_cl, hr]
    by_cases c0 : ex = 0
    · subst c0
      have hl : some (1 : Int) = some cd := hl
      cases hl
      exact bk_L_setWind_15 _ _ _ _ _ _ _
    · skip
      by_cases c1 : ex = 3
      · subst c1
        have hl : some (2 : Int) = some cd := hl
        cases hl
        exact bk_L_setWind_19 _ _ _ _ _ _ _
      · skip
        have hn : lw_lk [(0, 1), (3, 2)] ex = none := (if_neg c0).trans (if_neg c1)
        rw [hn] at hl
        cases hl
theorem LX_wind {a1 : Int32} (hP : mX_P P x v n) (ho : P1.1 o = some (.inr (.long, 1))) (hO : lw_o (mv_call X d 102 [.ref x, .int a1] (mz_h P V, z)) cd an ex P1 V1 z1) (hl : cd ≠ 0 → lw_lk [(0, 1)] ex = some cd) : ∃ V2 : mz_V, mv_call X (d + 1) 302 [.ref x, .int a1, .ref o] (mz_h P V, z) = some (.inl (some (.int (nZ cd))), (mz_h P1 V2, z1)) ∧ (cd = 0 → V2 o 0 = (nZ an).toInt) ∧ ∀ r, r ≠ o → V2 r = V1 r := by
  rcases hO with ⟨h0, hr⟩ | ⟨h0, q, hr⟩
  · subst h0
    refine ⟨mz_u V1 o 0 (nZ an).toInt, ?_, fun _ => mz_u_s _ _ _ _, fun r hr => mz_u_o hr⟩
    rw [mc_L_wind, bk_L_wind_0, bk_L_wind_4, mz_rcv hP.o]
    simp only [mv_clI, mv_cl, hr]
    rw [bk_L_wind_7, mz_as3 ho]
  · have hl := hl h0
    refine ⟨V1, ?_, fun h => absurd h h0, fun _ _ => rfl⟩
    rw [mc_L_wind, bk_L_wind_0, bk_L_wind_4, mz_rcv hP.o]
    simp only [mv_clI, mv_cl, hr]
    by_cases c0 : ex = 0
    · subst c0
      have hl : some (1 : Int) = some cd := hl
      cases hl
      exact bk_L_wind_13 _ _ _ _ _ _
    · skip
      have hn : lw_lk [(0, 1)] ex = none := if_neg c0
      rw [hn] at hl
      cases hl
theorem LX_top {a1 : Int32} (hP : mX_P P x v n) (ho : P1.1 o = some (.inr (.long, 1))) (hO : lw_o (mv_call X d 103 [.ref x, .int a1] (mz_h P V, z)) cd an ex P1 V1 z1) (hl : cd ≠ 0 → lw_lk [(1, 1)] ex = some cd) : ∃ V2 : mz_V, mv_call X (d + 1) 303 [.ref x, .int a1, .ref o] (mz_h P V, z) = some (.inl (some (.int (nZ cd))), (mz_h P1 V2, z1)) ∧ (cd = 0 → V2 o 0 = (nZ an).toInt) ∧ ∀ r, r ≠ o → V2 r = V1 r := by
  rcases hO with ⟨h0, hr⟩ | ⟨h0, q, hr⟩
  · subst h0
    refine ⟨mz_u V1 o 0 (nZ an).toInt, ?_, fun _ => mz_u_s _ _ _ _, fun r hr => mz_u_o hr⟩
    rw [mc_L_top, bk_L_top_0, bk_L_top_4, mz_rcv hP.o]
    simp only [mv_clI, mv_cl, hr]
    rw [bk_L_top_7, mz_as3 ho]
  · have hl := hl h0
    refine ⟨V1, ?_, fun h => absurd h h0, fun _ _ => rfl⟩
    rw [mc_L_top, bk_L_top_0, bk_L_top_4, mz_rcv hP.o]
    simp only [mv_clI, mv_cl, hr]
    by_cases c0 : ex = 1
    · subst c0
      have hl : some (1 : Int) = some cd := hl
      cases hl
      exact bk_L_top_13 _ _ _ _ _ _
    · skip
      have hn : lw_lk [(1, 1)] ex = none := if_neg c0
      rw [hn] at hl
      cases hl
theorem LX_longestCalm {a1 : Int32} (hP : mX_P P x v n) (ho : P1.1 o = some (.inr (.long, 1))) (hO : lw_o (mv_call X d 106 [.ref x, .int a1] (mz_h P V, z)) cd an ex P1 V1 z1) (hl : cd ≠ 0 → lw_lk [(0, 1)] ex = some cd) : ∃ V2 : mz_V, mv_call X (d + 1) 304 [.ref x, .int a1, .ref o] (mz_h P V, z) = some (.inl (some (.int (nZ cd))), (mz_h P1 V2, z1)) ∧ (cd = 0 → V2 o 0 = (nZ an).toInt) ∧ ∀ r, r ≠ o → V2 r = V1 r := by
  rcases hO with ⟨h0, hr⟩ | ⟨h0, q, hr⟩
  · subst h0
    refine ⟨mz_u V1 o 0 (nZ an).toInt, ?_, fun _ => mz_u_s _ _ _ _, fun r hr => mz_u_o hr⟩
    rw [mc_L_longestCalm, bk_L_longestCalm_0, bk_L_longestCalm_4, mz_rcv hP.o]
    simp only [mv_clI, mv_cl, hr]
    rw [bk_L_longestCalm_7, mz_as3 ho]
  · have hl := hl h0
    refine ⟨V1, ?_, fun h => absurd h h0, fun _ _ => rfl⟩
    rw [mc_L_longestCalm, bk_L_longestCalm_0, bk_L_longestCalm_4, mz_rcv hP.o]
    simp only [mv_clI, mv_cl, hr]
    by_cases c0 : ex = 0
    · subst c0
      have hl : some (1 : Int) = some cd := hl
      cases hl
      exact bk_L_longestCalm_13 _ _ _ _ _ _
    · skip
      have hn : lw_lk [(0, 1)] ex = none := if_neg c0
      rw [hn] at hl
      cases hl
theorem LX_longestCalmByTrying {a1 : Int32} (hP : mX_P P x v n) (ho : P1.1 o = some (.inr (.long, 1))) (hO : lw_o (mv_call X d 107 [.ref x, .int a1] (mz_h P V, z)) cd an ex P1 V1 z1) (hl : cd ≠ 0 → lw_lk [(0, 1)] ex = some cd) : ∃ V2 : mz_V, mv_call X (d + 1) 305 [.ref x, .int a1, .ref o] (mz_h P V, z) = some (.inl (some (.int (nZ cd))), (mz_h P1 V2, z1)) ∧ (cd = 0 → V2 o 0 = (nZ an).toInt) ∧ ∀ r, r ≠ o → V2 r = V1 r := by
  rcases hO with ⟨h0, hr⟩ | ⟨h0, q, hr⟩
  · subst h0
    refine ⟨mz_u V1 o 0 (nZ an).toInt, ?_, fun _ => mz_u_s _ _ _ _, fun r hr => mz_u_o hr⟩
    rw [mc_L_longestCalmByTrying, bk_L_longestCalmByTrying_0, bk_L_longestCalmByTrying_4, mz_rcv hP.o]
    simp only [mv_clI, mv_cl, hr]
    rw [bk_L_longestCalmByTrying_7, mz_as3 ho]
  · have hl := hl h0
    refine ⟨V1, ?_, fun h => absurd h h0, fun _ _ => rfl⟩
    rw [mc_L_longestCalmByTrying, bk_L_longestCalmByTrying_0, bk_L_longestCalmByTrying_4, mz_rcv hP.o]
    simp only [mv_clI, mv_cl, hr]
    by_cases c0 : ex = 0
    · subst c0
      have hl : some (1 : Int) = some cd := hl
      cases hl
      exact bk_L_longestCalmByTrying_13 _ _ _ _ _ _
    · skip
      have hn : lw_lk [(0, 1)] ex = none := if_neg c0
      rw [hn] at hl
      cases hl
theorem LX_addPilot {a1 a2 a3 : Int32} (hP : mX_P P x v n) (ho : P1.1 o = some (.inr (.long, 1))) (hO : lw_o (mv_call X d 108 [.ref x, .int a1, .int a2, .int a3] (mz_h P V, z)) cd an ex P1 V1 z1) (hl : cd ≠ 0 → lw_lk [(0, 1), (3, 2)] ex = some cd) : ∃ V2 : mz_V, mv_call X (d + 1) 306 [.ref x, .int a1, .int a2, .int a3, .ref o] (mz_h P V, z) = some (.inl (some (.int (nZ cd))), (mz_h P1 V2, z1)) ∧ (cd = 0 → V2 o 0 = (nZ an).toInt) ∧ ∀ r, r ≠ o → V2 r = V1 r := by
  rcases hO with ⟨h0, hr⟩ | ⟨h0, q, hr⟩
  · subst h0
    refine ⟨mz_u V1 o 0 (nZ an).toInt, ?_, fun _ => mz_u_s _ _ _ _, fun r hr => mz_u_o hr⟩
    rw [mc_L_addPilot, bk_L_addPilot_0, bk_L_addPilot_7, mz_rcv hP.o]
    simp only [mv_clI, mv_cl, hr]
    rw [bk_L_addPilot_10, mz_as3 ho]
  · have hl := hl h0
    refine ⟨V1, ?_, fun h => absurd h h0, fun _ _ => rfl⟩
    rw [mc_L_addPilot, bk_L_addPilot_0, bk_L_addPilot_7, mz_rcv hP.o]
    simp only [mv_clI, mv_cl, hr]
    by_cases c0 : ex = 0
    · subst c0
      have hl : some (1 : Int) = some cd := hl
      cases hl
      exact bk_L_addPilot_17 _ _ _ _ _ _ _ _
    · skip
      by_cases c1 : ex = 3
      · subst c1
        have hl : some (2 : Int) = some cd := hl
        cases hl
        exact bk_L_addPilot_21 _ _ _ _ _ _ _ _
      · skip
        have hn : lw_lk [(0, 1), (3, 2)] ex = none := (if_neg c0).trans (if_neg c1)
        rw [hn] at hl
        cases hl
theorem LX_removePilot {a1 : Int32} (hP : mX_P P x v n) (ho : P1.1 o = some (.inr (.long, 1))) (hO : lw_o (mv_call X d 109 [.ref x, .int a1] (mz_h P V, z)) cd an ex P1 V1 z1) (hl : cd ≠ 0 → lw_lk [(2, 1)] ex = some cd) : ∃ V2 : mz_V, mv_call X (d + 1) 307 [.ref x, .int a1, .ref o] (mz_h P V, z) = some (.inl (some (.int (nZ cd))), (mz_h P1 V2, z1)) ∧ (cd = 0 → V2 o 0 = (nZ an).toInt) ∧ ∀ r, r ≠ o → V2 r = V1 r := by
  rcases hO with ⟨h0, hr⟩ | ⟨h0, q, hr⟩
  · subst h0
    refine ⟨mz_u V1 o 0 (nZ an).toInt, ?_, fun _ => mz_u_s _ _ _ _, fun r hr => mz_u_o hr⟩
    rw [mc_L_removePilot, bk_L_removePilot_0, bk_L_removePilot_4, mz_rcv hP.o]
    simp only [mv_clI, mv_cl, hr]
    rw [bk_L_removePilot_7, mz_as3 ho]
  · have hl := hl h0
    refine ⟨V1, ?_, fun h => absurd h h0, fun _ _ => rfl⟩
    rw [mc_L_removePilot, bk_L_removePilot_0, bk_L_removePilot_4, mz_rcv hP.o]
    simp only [mv_clI, mv_cl, hr]
    by_cases c0 : ex = 2
    · subst c0
      have hl : some (1 : Int) = some cd := hl
      cases hl
      exact bk_L_removePilot_13 _ _ _ _ _ _
    · skip
      have hn : lw_lk [(2, 1)] ex = none := if_neg c0
      rw [hn] at hl
      cases hl
theorem LX_isOnDuty {a1 a2 : Int32} (hP : mX_P P x v n) (ho : P1.1 o = some (.inr (.long, 1))) (hO : lw_o (mv_call X d 111 [.ref x, .int a1, .int a2] (mz_h P V, z)) cd an ex P1 V1 z1) (hl : cd ≠ 0 → lw_lk [(2, 1), (0, 2)] ex = some cd) : ∃ V2 : mz_V, mv_call X (d + 1) 308 [.ref x, .int a1, .int a2, .ref o] (mz_h P V, z) = some (.inl (some (.int (nZ cd))), (mz_h P1 V2, z1)) ∧ (cd = 0 → V2 o 0 = if nZ an = 0 then 0 else 1) ∧ ∀ r, r ≠ o → V2 r = V1 r := by
  rcases hO with ⟨h0, hr⟩ | ⟨h0, q, hr⟩
  · subst h0
    refine ⟨mz_u V1 o 0 (if nZ an = 0 then ((0 : Nat) : Int) else ((1 : Nat) : Int)), ?_, fun _ => by rw [mz_u_s]; rfl, fun r hr => mz_u_o hr⟩
    rw [mc_L_isOnDuty, bk_L_isOnDuty_0, bk_L_isOnDuty_5, mz_rcv hP.o]
    simp only [mv_clI, mv_cl, hr]
    rw [bk_L_isOnDuty_8]
    by_cases c : nZ an = 0
    · rw [if_pos c, if_pos c, mz_as30 ho]
    · rw [if_neg c, if_neg c, mz_as30 ho]
  · have hl := hl h0
    refine ⟨V1, ?_, fun h => absurd h h0, fun _ _ => rfl⟩
    rw [mc_L_isOnDuty, bk_L_isOnDuty_0, bk_L_isOnDuty_5, mz_rcv hP.o]
    simp only [mv_clI, mv_cl, hr]
    by_cases c0 : ex = 2
    · subst c0
      have hl : some (1 : Int) = some cd := hl
      cases hl
      exact bk_L_isOnDuty_22 _ _ _ _ _ _ _
    · skip
      by_cases c1 : ex = 0
      · subst c1
        have hl : some (2 : Int) = some cd := hl
        cases hl
        exact bk_L_isOnDuty_26 _ _ _ _ _ _ _
      · skip
        have hn : lw_lk [(2, 1), (0, 2)] ex = none := (if_neg c0).trans (if_neg c1)
        rw [hn] at hl
        cases hl
theorem LX_canCrew {a1 a2 : Int32} (hP : mX_P P x v n) (ho : P1.1 o = some (.inr (.long, 1))) (hO : lw_o (mv_call X d 112 [.ref x, .int a1, .int a2] (mz_h P V, z)) cd an ex P1 V1 z1) (hl : cd ≠ 0 → lw_lk [(2, 1), (1, 2)] ex = some cd) : ∃ V2 : mz_V, mv_call X (d + 1) 309 [.ref x, .int a1, .int a2, .ref o] (mz_h P V, z) = some (.inl (some (.int (nZ cd))), (mz_h P1 V2, z1)) ∧ (cd = 0 → V2 o 0 = if nZ an = 0 then 0 else 1) ∧ ∀ r, r ≠ o → V2 r = V1 r := by
  rcases hO with ⟨h0, hr⟩ | ⟨h0, q, hr⟩
  · subst h0
    refine ⟨mz_u V1 o 0 (if nZ an = 0 then ((0 : Nat) : Int) else ((1 : Nat) : Int)), ?_, fun _ => by rw [mz_u_s]; rfl, fun r hr => mz_u_o hr⟩
    rw [mc_L_canCrew, bk_L_canCrew_0, bk_L_canCrew_5, mz_rcv hP.o]
    simp only [mv_clI, mv_cl, hr]
    rw [bk_L_canCrew_8]
    by_cases c : nZ an = 0
    · rw [if_pos c, if_pos c, mz_as30 ho]
    · rw [if_neg c, if_neg c, mz_as30 ho]
  · have hl := hl h0
    refine ⟨V1, ?_, fun h => absurd h h0, fun _ _ => rfl⟩
    rw [mc_L_canCrew, bk_L_canCrew_0, bk_L_canCrew_5, mz_rcv hP.o]
    simp only [mv_clI, mv_cl, hr]
    by_cases c0 : ex = 2
    · subst c0
      have hl : some (1 : Int) = some cd := hl
      cases hl
      exact bk_L_canCrew_22 _ _ _ _ _ _ _
    · skip
      by_cases c1 : ex = 1
      · subst c1
        have hl : some (2 : Int) = some cd := hl
        cases hl
        exact bk_L_canCrew_26 _ _ _ _ _ _ _
      · skip
        have hn : lw_lk [(2, 1), (1, 2)] ex = none := (if_neg c0).trans (if_neg c1)
        rw [hn] at hl
        cases hl
theorem LX_pass {a1 : Int32} (hP : mX_P P x v n) (ho : P1.1 o = some (.inr (.long, 1))) (hO : lw_o (mv_call X d 115 [.ref x, .int a1] (mz_h P V, z)) cd an ex P1 V1 z1) (hl : cd ≠ 0 → lw_lk [(0, 1)] ex = some cd) : ∃ V2 : mz_V, mv_call X (d + 1) 310 [.ref x, .int a1, .ref o] (mz_h P V, z) = some (.inl (some (.int (nZ cd))), (mz_h P1 V2, z1)) ∧ (cd = 0 → V2 o 0 = (nZ an).toInt) ∧ ∀ r, r ≠ o → V2 r = V1 r := by
  rcases hO with ⟨h0, hr⟩ | ⟨h0, q, hr⟩
  · subst h0
    refine ⟨mz_u V1 o 0 (nZ an).toInt, ?_, fun _ => mz_u_s _ _ _ _, fun r hr => mz_u_o hr⟩
    rw [mc_L_pass, bk_L_pass_0, bk_L_pass_4, mz_rcv hP.o]
    simp only [mv_clI, mv_cl, hr]
    rw [bk_L_pass_7, mz_as3 ho]
  · have hl := hl h0
    refine ⟨V1, ?_, fun h => absurd h h0, fun _ _ => rfl⟩
    rw [mc_L_pass, bk_L_pass_0, bk_L_pass_4, mz_rcv hP.o]
    simp only [mv_clI, mv_cl, hr]
    by_cases c0 : ex = 0
    · subst c0
      have hl : some (1 : Int) = some cd := hl
      cases hl
      exact bk_L_pass_13 _ _ _ _ _ _
    · skip
      have hn : lw_lk [(0, 1)] ex = none := if_neg c0
      rw [hn] at hl
      cases hl
theorem LX_feed {a1 : Int32} (hP : mX_P P x v n) (ho : P1.1 o = some (.inr (.long, 1))) (hO : lw_o (mv_call X d 125 [.ref x, .int a1] (mz_h P V, z)) cd an ex P1 V1 z1) (hl : cd ≠ 0 → lw_lk [(4, 1)] ex = some cd) : ∃ V2 : mz_V, mv_call X (d + 1) 313 [.ref x, .int a1, .ref o] (mz_h P V, z) = some (.inl (some (.int (nZ cd))), (mz_h P1 V2, z1)) ∧ (cd = 0 → V2 o 0 = (nZ an).toInt) ∧ ∀ r, r ≠ o → V2 r = V1 r := by
  rcases hO with ⟨h0, hr⟩ | ⟨h0, q, hr⟩
  · subst h0
    refine ⟨mz_u V1 o 0 (nZ an).toInt, ?_, fun _ => mz_u_s _ _ _ _, fun r hr => mz_u_o hr⟩
    rw [mc_L_feed, bk_L_feed_0, bk_L_feed_4, mz_rcv hP.o]
    simp only [mv_clI, mv_cl, hr]
    rw [bk_L_feed_7, mz_as3 ho]
  · have hl := hl h0
    refine ⟨V1, ?_, fun h => absurd h h0, fun _ _ => rfl⟩
    rw [mc_L_feed, bk_L_feed_0, bk_L_feed_4, mz_rcv hP.o]
    simp only [mv_clI, mv_cl, hr]
    by_cases c0 : ex = 4
    · subst c0
      have hl : some (1 : Int) = some cd := hl
      cases hl
      exact bk_L_feed_13 _ _ _ _ _ _
    · skip
      have hn : lw_lk [(4, 1)] ex = none := if_neg c0
      rw [hn] at hl
      cases hl
theorem LX_execute (hP : mX_P P x v n) (ho : P1.1 o = some (.inr (.long, 1))) (hO : lw_o (mv_call X d 126 [.ref x] (mz_h P V, z)) cd an ex P1 V1 z1) (hl : cd ≠ 0 → lw_lk [(0, 1), (3, 2)] ex = some cd) : ∃ V2 : mz_V, mv_call X (d + 1) 314 [.ref x, .ref o] (mz_h P V, z) = some (.inl (some (.int (nZ cd))), (mz_h P1 V2, z1)) ∧ (cd = 0 → V2 o 0 = (nZ an).toInt) ∧ ∀ r, r ≠ o → V2 r = V1 r := by
  rcases hO with ⟨h0, hr⟩ | ⟨h0, q, hr⟩
  · subst h0
    refine ⟨mz_u V1 o 0 (nZ an).toInt, ?_, fun _ => mz_u_s _ _ _ _, fun r hr => mz_u_o hr⟩
    rw [mc_L_execute, bk_L_execute_0, bk_L_execute_3, mz_rcv hP.o]
    simp only [mv_clI, mv_cl, hr]
    rw [bk_L_execute_6, mz_as3 ho]
  · have hl := hl h0
    refine ⟨V1, ?_, fun h => absurd h h0, fun _ _ => rfl⟩
    rw [mc_L_execute, bk_L_execute_0, bk_L_execute_3, mz_rcv hP.o]
    simp only [mv_clI, mv_cl, hr]
    by_cases c0 : ex = 0
    · subst c0
      have hl : some (1 : Int) = some cd := hl
      cases hl
      exact bk_L_execute_12 _ _ _ _ _
    · skip
      by_cases c1 : ex = 3
      · subst c1
        have hl : some (2 : Int) = some cd := hl
        cases hl
        exact bk_L_execute_15 _ _ _ _ _
      · skip
        have hn : lw_lk [(0, 1), (3, 2)] ex = none := (if_neg c0).trans (if_neg c1)
        rw [hn] at hl
        cases hl
theorem LX_faultPosition (hP : mX_P P x v n) (ho : P1.1 o = some (.inr (.long, 1))) (hO : lw_o (mv_call X d 127 [.ref x] (mz_h P V, z)) cd an ex P1 V1 z1) (hl : cd ≠ 0 → lw_lk [(1, 1)] ex = some cd) : ∃ V2 : mz_V, mv_call X (d + 1) 315 [.ref x, .ref o] (mz_h P V, z) = some (.inl (some (.int (nZ cd))), (mz_h P1 V2, z1)) ∧ (cd = 0 → V2 o 0 = (nZ an).toInt) ∧ ∀ r, r ≠ o → V2 r = V1 r := by
  rcases hO with ⟨h0, hr⟩ | ⟨h0, q, hr⟩
  · subst h0
    refine ⟨mz_u V1 o 0 (nZ an).toInt, ?_, fun _ => mz_u_s _ _ _ _, fun r hr => mz_u_o hr⟩
    rw [mc_L_faultPosition, bk_L_faultPosition_0, bk_L_faultPosition_3, mz_rcv hP.o]
    simp only [mv_clI, mv_cl, hr]
    rw [bk_L_faultPosition_6, mz_as3 ho]
  · have hl := hl h0
    refine ⟨V1, ?_, fun h => absurd h h0, fun _ _ => rfl⟩
    rw [mc_L_faultPosition, bk_L_faultPosition_0, bk_L_faultPosition_3, mz_rcv hP.o]
    simp only [mv_clI, mv_cl, hr]
    by_cases c0 : ex = 1
    · subst c0
      have hl : some (1 : Int) = some cd := hl
      cases hl
      exact bk_L_faultPosition_12 _ _ _ _ _
    · skip
      have hn : lw_lk [(1, 1)] ex = none := if_neg c0
      rw [hn] at hl
      cases hl
theorem LX_writeBalloon {a1 : Int32} (hP : mX_P P x v n) (ho : P1.1 o = some (.inr (.long, 1))) (hO : lw_o (mv_call X d 128 [.ref x, .int a1] (mz_h P V, z)) cd an ex P1 V1 z1) (hl : cd ≠ 0 → lw_lk [(1, 1)] ex = some cd) : ∃ V2 : mz_V, mv_call X (d + 1) 316 [.ref x, .int a1, .ref o] (mz_h P V, z) = some (.inl (some (.int (nZ cd))), (mz_h P1 V2, z1)) ∧ (cd = 0 → V2 o 0 = (nZ an).toInt) ∧ ∀ r, r ≠ o → V2 r = V1 r := by
  rcases hO with ⟨h0, hr⟩ | ⟨h0, q, hr⟩
  · subst h0
    refine ⟨mz_u V1 o 0 (nZ an).toInt, ?_, fun _ => mz_u_s _ _ _ _, fun r hr => mz_u_o hr⟩
    rw [mc_L_writeBalloon, bk_L_writeBalloon_0, bk_L_writeBalloon_4, mz_rcv hP.o]
    simp only [mv_clI, mv_cl, hr]
    rw [bk_L_writeBalloon_7, mz_as3 ho]
  · have hl := hl h0
    refine ⟨V1, ?_, fun h => absurd h h0, fun _ _ => rfl⟩
    rw [mc_L_writeBalloon, bk_L_writeBalloon_0, bk_L_writeBalloon_4, mz_rcv hP.o]
    simp only [mv_clI, mv_cl, hr]
    by_cases c0 : ex = 1
    · subst c0
      have hl : some (1 : Int) = some cd := hl
      cases hl
      exact bk_L_writeBalloon_13 _ _ _ _ _ _
    · skip
      have hn : lw_lk [(1, 1)] ex = none := if_neg c0
      rw [hn] at hl
      cases hl
theorem LX_lineCharacter {a1 : Int32} (hP : mX_P P x v n) (ho : P1.1 o = some (.inr (.long, 1))) (hO : lw_o (mv_call X d 129 [.ref x, .int a1] (mz_h P V, z)) cd an ex P1 V1 z1) (hl : cd ≠ 0 → lw_lk [(2, 1)] ex = some cd) : ∃ V2 : mz_V, mv_call X (d + 1) 317 [.ref x, .int a1, .ref o] (mz_h P V, z) = some (.inl (some (.int (nZ cd))), (mz_h P1 V2, z1)) ∧ (cd = 0 → V2 o 0 = (nZ an).toInt) ∧ ∀ r, r ≠ o → V2 r = V1 r := by
  rcases hO with ⟨h0, hr⟩ | ⟨h0, q, hr⟩
  · subst h0
    refine ⟨mz_u V1 o 0 (nZ an).toInt, ?_, fun _ => mz_u_s _ _ _ _, fun r hr => mz_u_o hr⟩
    rw [mc_L_lineCharacter, bk_L_lineCharacter_0, bk_L_lineCharacter_4, mz_rcv hP.o]
    simp only [mv_clI, mv_cl, hr]
    rw [bk_L_lineCharacter_7, mz_as3 ho]
  · have hl := hl h0
    refine ⟨V1, ?_, fun h => absurd h h0, fun _ _ => rfl⟩
    rw [mc_L_lineCharacter, bk_L_lineCharacter_0, bk_L_lineCharacter_4, mz_rcv hP.o]
    simp only [mv_clI, mv_cl, hr]
    by_cases c0 : ex = 2
    · subst c0
      have hl : some (1 : Int) = some cd := hl
      cases hl
      exact bk_L_lineCharacter_13 _ _ _ _ _ _
    · skip
      have hn : lw_lk [(2, 1)] ex = none := if_neg c0
      rw [hn] at hl
      cases hl
theorem LX_denial (hP : mX_P P x v n) (ho : P1.1 o = some (.inr (.long, 1))) (hO : lw_o (mv_call X d 130 [.ref x] (mz_h P V, z)) cd an ex P1 V1 z1) (hl : cd ≠ 0 → lw_lk [(1, 1)] ex = some cd) : ∃ V2 : mz_V, mv_call X (d + 1) 318 [.ref x, .ref o] (mz_h P V, z) = some (.inl (some (.int (nZ cd))), (mz_h P1 V2, z1)) ∧ (cd = 0 → V2 o 0 = (nZ an).toInt) ∧ ∀ r, r ≠ o → V2 r = V1 r := by
  rcases hO with ⟨h0, hr⟩ | ⟨h0, q, hr⟩
  · subst h0
    refine ⟨mz_u V1 o 0 (nZ an).toInt, ?_, fun _ => mz_u_s _ _ _ _, fun r hr => mz_u_o hr⟩
    rw [mc_L_denial, bk_L_denial_0, bk_L_denial_3, mz_rcv hP.o]
    simp only [mv_clI, mv_cl, hr]
    rw [bk_L_denial_6, mz_as3 ho]
  · have hl := hl h0
    refine ⟨V1, ?_, fun h => absurd h h0, fun _ _ => rfl⟩
    rw [mc_L_denial, bk_L_denial_0, bk_L_denial_3, mz_rcv hP.o]
    simp only [mv_clI, mv_cl, hr]
    by_cases c0 : ex = 1
    · subst c0
      have hl : some (1 : Int) = some cd := hl
      cases hl
      exact bk_L_denial_12 _ _ _ _ _
    · skip
      have hn : lw_lk [(1, 1)] ex = none := if_neg c0
      rw [hn] at hl
      cases hl
theorem LX_denialDetail (hP : mX_P P x v n) (ho : P1.1 o = some (.inr (.long, 1))) (hO : lw_o (mv_call X d 131 [.ref x] (mz_h P V, z)) cd an ex P1 V1 z1) (hl : cd ≠ 0 → lw_lk [(1, 1)] ex = some cd) : ∃ V2 : mz_V, mv_call X (d + 1) 319 [.ref x, .ref o] (mz_h P V, z) = some (.inl (some (.int (nZ cd))), (mz_h P1 V2, z1)) ∧ (cd = 0 → V2 o 0 = (nZ an).toInt) ∧ ∀ r, r ≠ o → V2 r = V1 r := by
  rcases hO with ⟨h0, hr⟩ | ⟨h0, q, hr⟩
  · subst h0
    refine ⟨mz_u V1 o 0 (nZ an).toInt, ?_, fun _ => mz_u_s _ _ _ _, fun r hr => mz_u_o hr⟩
    rw [mc_L_denialDetail, bk_L_denialDetail_0, bk_L_denialDetail_3, mz_rcv hP.o]
    simp only [mv_clI, mv_cl, hr]
    rw [bk_L_denialDetail_6, mz_as3 ho]
  · have hl := hl h0
    refine ⟨V1, ?_, fun h => absurd h h0, fun _ _ => rfl⟩
    rw [mc_L_denialDetail, bk_L_denialDetail_0, bk_L_denialDetail_3, mz_rcv hP.o]
    simp only [mv_clI, mv_cl, hr]
    by_cases c0 : ex = 1
    · subst c0
      have hl : some (1 : Int) = some cd := hl
      cases hl
      exact bk_L_denialDetail_12 _ _ _ _ _
    · skip
      have hn : lw_lk [(1, 1)] ex = none := if_neg c0
      rw [hn] at hl
      cases hl
theorem LX_denialCause (hP : mX_P P x v n) (ho : P1.1 o = some (.inr (.long, 1))) (hO : lw_o (mv_call X d 132 [.ref x] (mz_h P V, z)) cd an ex P1 V1 z1) (hl : cd ≠ 0 → lw_lk [(1, 1)] ex = some cd) : ∃ V2 : mz_V, mv_call X (d + 1) 320 [.ref x, .ref o] (mz_h P V, z) = some (.inl (some (.int (nZ cd))), (mz_h P1 V2, z1)) ∧ (cd = 0 → V2 o 0 = (nZ an).toInt) ∧ ∀ r, r ≠ o → V2 r = V1 r := by
  rcases hO with ⟨h0, hr⟩ | ⟨h0, q, hr⟩
  · subst h0
    refine ⟨mz_u V1 o 0 (nZ an).toInt, ?_, fun _ => mz_u_s _ _ _ _, fun r hr => mz_u_o hr⟩
    rw [mc_L_denialCause, bk_L_denialCause_0, bk_L_denialCause_3, mz_rcv hP.o]
    simp only [mv_clI, mv_cl, hr]
    rw [bk_L_denialCause_6, mz_as3 ho]
  · have hl := hl h0
    refine ⟨V1, ?_, fun h => absurd h h0, fun _ _ => rfl⟩
    rw [mc_L_denialCause, bk_L_denialCause_0, bk_L_denialCause_3, mz_rcv hP.o]
    simp only [mv_clI, mv_cl, hr]
    by_cases c0 : ex = 1
    · subst c0
      have hl : some (1 : Int) = some cd := hl
      cases hl
      exact bk_L_denialCause_12 _ _ _ _ _
    · skip
      have hn : lw_lk [(1, 1)] ex = none := if_neg c0
      rw [hn] at hl
      cases hl
theorem LX_undo (hP : mX_P P x v n) (ho : P1.1 o = some (.inr (.long, 1))) (hO : lw_o (mv_call X d 133 [.ref x] (mz_h P V, z)) cd an ex P1 V1 z1) (hl : cd ≠ 0 → lw_lk [(4, 1)] ex = some cd) : ∃ V2 : mz_V, mv_call X (d + 1) 321 [.ref x, .ref o] (mz_h P V, z) = some (.inl (some (.int (nZ cd))), (mz_h P1 V2, z1)) ∧ (cd = 0 → V2 o 0 = (nZ an).toInt) ∧ ∀ r, r ≠ o → V2 r = V1 r := by
  rcases hO with ⟨h0, hr⟩ | ⟨h0, q, hr⟩
  · subst h0
    refine ⟨mz_u V1 o 0 (nZ an).toInt, ?_, fun _ => mz_u_s _ _ _ _, fun r hr => mz_u_o hr⟩
    rw [mc_L_undo, bk_L_undo_0, bk_L_undo_3, mz_rcv hP.o]
    simp only [mv_clI, mv_cl, hr]
    rw [bk_L_undo_6, mz_as3 ho]
  · have hl := hl h0
    refine ⟨V1, ?_, fun h => absurd h h0, fun _ _ => rfl⟩
    rw [mc_L_undo, bk_L_undo_0, bk_L_undo_3, mz_rcv hP.o]
    simp only [mv_clI, mv_cl, hr]
    by_cases c0 : ex = 4
    · subst c0
      have hl : some (1 : Int) = some cd := hl
      cases hl
      exact bk_L_undo_12 _ _ _ _ _
    · skip
      have hn : lw_lk [(4, 1)] ex = none := if_neg c0
      rw [hn] at hl
      cases hl
theorem LX_restoreSnapshot (hP : mX_P P x v n) (ho : P1.1 o = some (.inr (.long, 1))) (hO : lw_o (mv_call X d 136 [.ref x] (mz_h P V, z)) cd an ex P1 V1 z1) (hl : cd ≠ 0 → lw_lk [(4, 1)] ex = some cd) : ∃ V2 : mz_V, mv_call X (d + 1) 322 [.ref x, .ref o] (mz_h P V, z) = some (.inl (some (.int (nZ cd))), (mz_h P1 V2, z1)) ∧ (cd = 0 → V2 o 0 = (nZ an).toInt) ∧ ∀ r, r ≠ o → V2 r = V1 r := by
  rcases hO with ⟨h0, hr⟩ | ⟨h0, q, hr⟩
  · subst h0
    refine ⟨mz_u V1 o 0 (nZ an).toInt, ?_, fun _ => mz_u_s _ _ _ _, fun r hr => mz_u_o hr⟩
    rw [mc_L_restoreSnapshot, bk_L_restoreSnapshot_0, bk_L_restoreSnapshot_3, mz_rcv hP.o]
    simp only [mv_clI, mv_cl, hr]
    rw [bk_L_restoreSnapshot_6, mz_as3 ho]
  · have hl := hl h0
    refine ⟨V1, ?_, fun h => absurd h h0, fun _ _ => rfl⟩
    rw [mc_L_restoreSnapshot, bk_L_restoreSnapshot_0, bk_L_restoreSnapshot_3, mz_rcv hP.o]
    simp only [mv_clI, mv_cl, hr]
    by_cases c0 : ex = 4
    · subst c0
      have hl : some (1 : Int) = some cd := hl
      cases hl
      exact bk_L_restoreSnapshot_12 _ _ _ _ _
    · skip
      have hn : lw_lk [(4, 1)] ex = none := if_neg c0
      rw [hn] at hl
      cases hl
end WRAP
