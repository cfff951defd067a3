/-! THE LAW FROM ITS ENTRY TO ITS END -/
section LST
variable {X : mv_X} {x b0 : Nat}
theorem pl_w0 : pn_J (mg_z 1) 0 := by
  have e : mq_wgt (fun _ => 0) = 0 := by
    have hI := mr_I_z
    have h0 := pn_wgt0 hI
    have h1 := mz_s_b (f := fun b => mr_bal (fun _ => (0 : Int)) b 0) (c := 0) (n := 10) fun i hi => Int.le_refl 0
    unfold mq_wgt at h0 ⊢
    omega
  exact ⟨by rw [show mg_z 1 = (fun _ => (0 : Int)) from rfl, e]; decide, Int.le_refl 0, Int.le_refl 0, Int.le_refl 0, Int.le_refl 0, Int.le_refl 0⟩
theorem pl_st (hX : mx_W X (fun _ => none, fun _ _ => none) x) : ∃ (P : mz_P) (V : mz_V), (mv_run X (mv_call X 24) m_L_law 0 ([.ref b0] ++ List.replicate 29 (.retAddr 0)) [] ((fun _ => none), x, 0) = (mv_clL (mv_call X 24) 383 [.ref x] (mz_h P V, (x + 377, 2678)) mv_raise fun l1 h4 => mv_as h4 3 (x + 376) (nZ 0) (.long l1) fun h5 => mv_run X (mv_call X 24) m_L_law 28 ([.ref b0, .ref x, .ref (x + 376), .int (nZ 0), .int (nZ 0), .int (nZ 0)] ++ List.replicate 24 (.retAddr 0)) [] h5)) ∧ ph_H X x (fun _ => 0) mg_z 0 (x, 0) 450 (mz_h P V, (x + 377, 2678)) := by
  obtain ⟨P0, hP0⟩ : ∃ P0 : mz_P, P0 = (fun _ => none, fun _ _ => none) := ⟨_, rfl⟩
  obtain ⟨V0, hV0⟩ : ∃ V0 : mz_V, V0 = fun _ _ => 0 := ⟨_, rfl⟩
  have e0 : ((fun _ => none : Nat → Option mv_C), x, 0) = ((mz_h P0 V0, (x, 0)) : mv_H) := by rw [hP0]; rfl
  obtain ⟨P1, V1, e1, ⟨f1, f2⟩, L1, h1, ⟨t1, t2⟩, t3, ⟨t4, t5⟩, t6, t7, t8, t9, t10⟩ := nw_X8 (X := X) (d := 20) (P := mz_g P0 x (.inl 12)) (V := mz_w V0 x fun _ => 0) (x := x) (s := 14) hX.2.1 mz_gs (mz_w_s _ _ _)
  have e1 : mv_call X 24 83 [.ref x] (mz_h (mz_g P0 x (.inl 12)) (mz_w V0 x fun _ => 0), (x + 1, 0 + 14)) = some (.inl none, (mz_h P1 V1, (x + 376, 2608))) := e1
  obtain ⟨P4, hP4⟩ : ∃ P4, P4 = mz_g P1 (x + 376) (.inr (.long, 70)) := ⟨_, rfl⟩
  obtain ⟨V4, hV4⟩ : ∃ V4, V4 = mz_w V1 (x + 376) fun _ => 0 := ⟨_, rfl⟩
  have p41 : ∀ r, r < x + 376 → P4.1 r = P1.1 r ∧ P4.2 r = P1.2 r ∧ V4 r = V1 r := fun r hr => by
    rw [hP4, hV4]
    exact ⟨mz_g1 (by omega), mz_g2 (by omega), mz_w_n _ _ (by omega)⟩
  have vx : ∀ k, V4 x k = V1 x k := fun k => by rw [(p41 x (by omega)).2.2]
  refine ⟨P4, V4, ?_, P4, V4, x + 368, 16, mg_z, rfl, ⟨⟨?_, ⟨?_, ?_, ?_, ?_, ?_, ?_⟩, mg_J_z⟩, ⟨fun r hr => ?_, hX.2⟩, ⟨Nat.le_refl _, by show x + 368 < x + 377; omega⟩, Or.inl rfl, by show (0 : Int) ≤ 16; decide, by rw [hP4]; exact mz_gs, by rw [hV4, mz_w_s]⟩, ph_E_rfl _, by show x + 377 ≤ x + 450; omega, by show 2678 ≤ 0 + 6 * 450; decide⟩
  · show mv_run X (mv_call X 24) m_L_law 0 [.ref b0, .retAddr 0, .retAddr 0, .retAddr 0, .retAddr 0, .retAddr 0, .retAddr 0, .retAddr 0, .retAddr 0, .retAddr 0, .retAddr 0, .retAddr 0, .retAddr 0, .retAddr 0, .retAddr 0, .retAddr 0, .retAddr 0, .retAddr 0, .retAddr 0, .retAddr 0, .retAddr 0, .retAddr 0, .retAddr 0, .retAddr 0, .retAddr 0, .retAddr 0, .retAddr 0, .retAddr 0, .retAddr 0, .retAddr 0] [] ((fun _ => none), x, 0) = _
    rw [e0, bk_L_law_0, mz_new (by decide)]
    simp only [mv_clV, mv_cl, e1]
    rw [nw_na (t := .long) (v := .long 0) (y := 70) 70 rfl (by decide) rfl, hP4, hV4]
    rfl
  · exact mX_P_c (v' := x + 368) (n' := 16) (P := P1) (fun r r1 r2 => (p41 r (by omega)).1) (fun r r1 r2 r3 => (p41 r (by omega)).2.1) (by rw [(p41 _ (by omega)).2.1]; exact L1.2.2.2.2.2.1.2.1) (by rw [(p41 _ (by omega)).1]; exact L1.2.2.2.2.2.1.2.2.1) (by decide) (Or.inl rfl) L1
  · exact mh_R_f (show (0 : Int) ≤ 6 by decide) (fun r r1 r2 => (p41 r (by omega)).2.2) h1
  · exact ⟨by rw [vx, t6]; rfl, fun h => absurd (show (0 : Int) = 1 from h) (by decide)⟩
  · refine ⟨0, by decide, by rw [(p41 _ (by omega)).2.2, t1]; rfl, by rw [(p41 _ (by omega)).2.2, t2]; rfl, fun i hi => ?_⟩
    have hi : (i : Int) < 0 := hi
    omega
  · refine ⟨by rw [(p41 _ (by omega)).2.2, t3]; rfl, fun i hi => ?_⟩
    have hi : (i : Int) < 0 := hi
    omega
  · refine ⟨by rw [(p41 _ (by omega)).2.2, t4], by rw [(p41 _ (by omega)).2.2, t5]; rfl, fun i hi => ?_⟩
    have hi : (i : Int) < 0 := hi
    omega
  · exact ⟨by rw [vx, t7]; rfl, by rw [vx, t8]; rfl, by rw [vx, t9]; rfl, by rw [vx, t10]; rfl⟩
  · show P4.1 r = none
    rw [(p41 r (by omega)).1, f1 r (by omega), mz_g1 (by omega), hP0]
theorem pl_all (hX : mx_W X (fun _ => none, fun _ _ => none) x) (hS : pX_X X x b0) (hT : tx_H X x) (hS9 : ∀ k, k < 9 → mx_S X x (21 + k) (fm_l k)) : ∃ h' : mv_H, mv_run X (mv_call X 24) m_L_law 0 ([.ref b0] ++ List.replicate 29 (.retAddr 0)) [] ((fun _ => none), x, 0) = some (.inl (some (.int 1)), h') ∧ h'.2.1 ≤ x + 864245 ∧ h'.2.2 ≤ 6499946 := by
  obtain ⟨P, V, e, H⟩ := pl_st (b0 := b0) hX
  have hc : pl_c 54 = 199800 := by decide +kernel
  have hb : pl_b 54 = 23328 := by decide +kernel
  have hB : pl_B 54 = 233280 := by decide +kernel
  have hT2 : pk_T (x, 0) 201600 (mv_run X (mv_call X 24) m_L_law 0 ([.ref b0] ++ List.replicate 29 (.retAddr 0)) [] ((fun _ => none), x, 0)) := by
    rw [e]
    refine LP_sum (d := 17) H fun h1 H1 => ?_
    refine LH_store (j := 0) H1 (by decide) fun h2 H2 => ?_
    refine IT_lp (d := 12) hS hT hS9 54 0 0 560 _ mg_z 0 0 0 h2 _ _ _ _ _ _ _ _ _ _ _ _ _ _ _ _ _ _ _ _ _ _ _ rfl H2 rfl (by rw [hb]; decide) (by rw [hB]; decide) pl_w0 ⟨rfl, mr_up_s _ _ _, fun i hi => ?_⟩ (Nat.le_refl 0) (by rw [hc]; decide)
    have hi : (i : Int) < 0 := hi
    omega
  obtain ⟨h', q1, q2, q3⟩ := hT2
  refine ⟨h', q1, ?_, ?_⟩
  · have q2 : h'.2.1 ≤ x + 201600 := q2
    omega
  · have q3 : h'.2.2 ≤ 0 + 6 * 201600 := q3
    omega
end LST
