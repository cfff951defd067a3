theorem mkL_0 : (cdL_0.all fun q => mv_dck n_L_law m_L_law q.1 q.2) = true := by decide +kernel
theorem mkL_1 : (cdL_1.all fun q => mv_dck n_L_law m_L_law q.1 q.2) = true := by decide +kernel
theorem mkL_2 : (cdL_2.all fun q => mv_dck n_L_law m_L_law q.1 q.2) = true := by decide +kernel
theorem mkL_3 : (cdL_3.all fun q => mv_dck n_L_law m_L_law q.1 q.2) = true := by decide +kernel
theorem mkL_4 : (cdL_4.all fun q => mv_dck n_L_law m_L_law q.1 q.2) = true := by decide +kernel
theorem mkL_5 : (cdL_5.all fun q => mv_dck n_L_law m_L_law q.1 q.2) = true := by decide +kernel
theorem mkL_6 : (cdL_6.all fun q => mv_dck n_L_law m_L_law q.1 q.2) = true := by decide +kernel
theorem mkL_7 : (cdL_7.all fun q => mv_dck n_L_law m_L_law q.1 q.2) = true := by decide +kernel
theorem mkL_8 : (cdL_8.all fun q => mv_dck n_L_law m_L_law q.1 q.2) = true := by decide +kernel
theorem mkL_9 : (cdL_9.all fun q => mv_dck n_L_law m_L_law q.1 q.2) = true := by decide +kernel
theorem mkL_10 : (cdL_10.all fun q => mv_dck n_L_law m_L_law q.1 q.2) = true := by decide +kernel
theorem mkL_11 : (cdL_11.all fun q => mv_dck n_L_law m_L_law q.1 q.2) = true := by decide +kernel
theorem mkL_12 : (cdL_12.all fun q => mv_dck n_L_law m_L_law q.1 q.2) = true := by decide +kernel
theorem mkL_13 : (cdL_13.all fun q => mv_dck n_L_law m_L_law q.1 q.2) = true := by decide +kernel
theorem mkL_14 : (cdL_14.all fun q => mv_dck n_L_law m_L_law q.1 q.2) = true := by decide +kernel
theorem mkL_15 : (cdL_15.all fun q => mv_dck n_L_law m_L_law q.1 q.2) = true := by decide +kernel
theorem mkL_16 : (cdL_16.all fun q => mv_dck n_L_law m_L_law q.1 q.2) = true := by decide +kernel
theorem mkL_17 : (cdL_17.all fun q => mv_dck n_L_law m_L_law q.1 q.2) = true := by decide +kernel
theorem mkL_18 : (cdL_18.all fun q => mv_dck n_L_law m_L_law q.1 q.2) = true := by decide +kernel
theorem mkL_19 : (cdL_19.all fun q => mv_dck n_L_law m_L_law q.1 q.2) = true := by decide +kernel
theorem mkL_20 : (cdL_20.all fun q => mv_dck n_L_law m_L_law q.1 q.2) = true := by decide +kernel
theorem mkL_21 : (cdL_21.all fun q => mv_dck n_L_law m_L_law q.1 q.2) = true := by decide +kernel
theorem mkL_22 : (cdL_22.all fun q => mv_dck n_L_law m_L_law q.1 q.2) = true := by decide +kernel
theorem mkL_23 : (cdL_23.all fun q => mv_dck n_L_law m_L_law q.1 q.2) = true := by decide +kernel
theorem mkL_24 : (cdL_24.all fun q => mv_dck n_L_law m_L_law q.1 q.2) = true := by decide +kernel
theorem mkL_25 : (cdL_25.all fun q => mv_dck n_L_law m_L_law q.1 q.2) = true := by decide +kernel
theorem mkL_26 : (cdL_26.all fun q => mv_dck n_L_law m_L_law q.1 q.2) = true := by decide +kernel
theorem mkL_27 : (cdL_27.all fun q => mv_dck n_L_law m_L_law q.1 q.2) = true := by decide +kernel
theorem mkL_28 : (cdL_28.all fun q => mv_dck n_L_law m_L_law q.1 q.2) = true := by decide +kernel
theorem mkL_29 : (cdL_29.all fun q => mv_dck n_L_law m_L_law q.1 q.2) = true := by decide +kernel
theorem mkL_30 : (cdL_30.all fun q => mv_dck n_L_law m_L_law q.1 q.2) = true := by decide +kernel
theorem mkL_31 : (cdL_31.all fun q => mv_dck n_L_law m_L_law q.1 q.2) = true := by decide +kernel
theorem mk_L : ∀ l ∈ cd_L_law, (l.all fun q => mv_dck n_L_law m_L_law q.1 q.2) = true := by
  unfold cd_L_law
  exact List.forall_mem_cons.mpr ⟨mkL_0, List.forall_mem_cons.mpr ⟨mkL_1, List.forall_mem_cons.mpr ⟨mkL_2, List.forall_mem_cons.mpr ⟨mkL_3, List.forall_mem_cons.mpr ⟨mkL_4, List.forall_mem_cons.mpr ⟨mkL_5, List.forall_mem_cons.mpr ⟨mkL_6, List.forall_mem_cons.mpr ⟨mkL_7, List.forall_mem_cons.mpr ⟨mkL_8, List.forall_mem_cons.mpr ⟨mkL_9, List.forall_mem_cons.mpr ⟨mkL_10, List.forall_mem_cons.mpr ⟨mkL_11, List.forall_mem_cons.mpr ⟨mkL_12, List.forall_mem_cons.mpr ⟨mkL_13, List.forall_mem_cons.mpr ⟨mkL_14, List.forall_mem_cons.mpr ⟨mkL_15, List.forall_mem_cons.mpr ⟨mkL_16, List.forall_mem_cons.mpr ⟨mkL_17, List.forall_mem_cons.mpr ⟨mkL_18, List.forall_mem_cons.mpr ⟨mkL_19, List.forall_mem_cons.mpr ⟨mkL_20, List.forall_mem_cons.mpr ⟨mkL_21, List.forall_mem_cons.mpr ⟨mkL_22, List.forall_mem_cons.mpr ⟨mkL_23, List.forall_mem_cons.mpr ⟨mkL_24, List.forall_mem_cons.mpr ⟨mkL_25, List.forall_mem_cons.mpr ⟨mkL_26, List.forall_mem_cons.mpr ⟨mkL_27, List.forall_mem_cons.mpr ⟨mkL_28, List.forall_mem_cons.mpr ⟨mkL_29, List.forall_mem_cons.mpr ⟨mkL_30, List.forall_mem_cons.mpr ⟨mkL_31, fun l h => absurd h List.not_mem_nil⟩⟩⟩⟩⟩⟩⟩⟩⟩⟩⟩⟩⟩⟩⟩⟩⟩⟩⟩⟩⟩⟩⟩⟩⟩⟩⟩⟩⟩⟩⟩⟩
theorem mv_mck_of {N : mv_N} {M : mv_M} (h : (Nat.ble M.1 40 && mv_rkok M.2.2.1 N.2.2.1 && Nat.beq N.2.2.2.length M.2.2.2.2.2.length && (N.2.2.2.zip M.2.2.2.2.2).all (fun z => mv_hck N M z.1 z.2)) = true) (k : ∀ l ∈ M.2.2.2.1, (l.all fun q => mv_dck N M q.1 q.2) = true) : mv_mck N M = true := by
  unfold mv_mck
  rw [Bool.and_eq_true]
  exact ⟨h, List.all_eq_true.mpr k⟩
