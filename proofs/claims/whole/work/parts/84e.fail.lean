section ONEF
variable {X : mv_X} {P : mz_P} {V : mz_V} {z : Nat × Nat} {d m L x0 N : Nat} {t : Nat → Int} {s : rs_T}
/-- no command begins so -/
theorem X9_one9 (hM : mr_M P m) (hT : rz_T V m L N t) {p : Nat} {g : Nat → Int} (hp : p ≤ L) (h99 : ¬ pr_chr t L 99 p = true) (h100 : ¬ pr_chr t L 100 p = true) (h108 : ¬ pr_chr t L 108 p = true) (h109 : ¬ pr_chr t L 109 p = true) (h112 : ¬ pr_chr t L 112 p = true) (h114 : ¬ pr_chr t L 114 p = true) (h119 : ¬ pr_chr t L 119 p = true) : mv_call X (d + 7) 238 [.ref m] (mz_h P (rz_V V m (false, p, g)), z) = some (.inl none, (mz_h P (mz_w (rz_V V m (true, p, mr_up g (5 * N) (rs_h t L p))) m (mr_up (rz_V V m (true, p, mr_up g (5 * N) (rs_h t L p)) m) 25 ((N : Int) + 1))), z)) := by
  have y99 : ¬ nZ (rs_h t L p) = nZ 99 := by rw [nZ_inj (rs_h_S hT p) (by decide)]; exact rs_h_n (by decide) h99
  have y100 : ¬ nZ (rs_h t L p) = nZ 100 := by rw [nZ_inj (rs_h_S hT p) (by decide)]; exact rs_h_n (by decide) h100
  have y108 : ¬ nZ (rs_h t L p) = nZ 108 := by rw [nZ_inj (rs_h_S hT p) (by decide)]; exact rs_h_n (by decide) h108
  have y109 : ¬ nZ (rs_h t L p) = nZ 109 := by rw [nZ_inj (rs_h_S hT p) (by decide)]; exact rs_h_n (by decide) h109
  have y112 : ¬ nZ (rs_h t L p) = nZ 112 := by rw [nZ_inj (rs_h_S hT p) (by decide)]; exact rs_h_n (by decide) h112
  have y114 : ¬ nZ (rs_h t L p) = nZ 114 := by rw [nZ_inj (rs_h_S hT p) (by decide)]; exact rs_h_n (by decide) h114
  have y119 : ¬ nZ (rs_h t L p) = nZ 119 := by rw [nZ_inj (rs_h_S hT p) (by decide)]; exact rs_h_n (by decide) h119
  have e0 := X9_h0 (X := X) (z := z) (d := d + 5) (s := (false, p, g)) hM hT hp
  have e0 : mv_call X (d + 6) 234 [.ref m, .int (nZ 0)] (mz_h P (rz_V V m (false, p, g)), z) = some (.inl (some (.int (nZ (rs_h t L p)))), (mz_h P (rz_V V m (false, p, g)), z)) := e0
  rw [mc_X9_readsOne, bk_X9_readsOne_0, mz_rcv hM.o]
  simp only [mv_clI, mv_cl, e0]
  rw [if_neg y108, bk_X9_readsOne_22, if_neg y119, bk_X9_readsOne_42, mr_gto hM, mz_gI hM.o (by decide), rz_k (by decide) (by decide), hT.2.2.1, if_pos (by rfl), X9_kind hM hT]
  have F : mv_chk (mv_ok 6 (nZ 1)) (mv_pf (mz_h P (rz_V V m (false, p, mr_up g (5 * N) (rs_h t L p))), z) m 13 26 (.int (nZ 1)) fun h5 => mv_run X (mv_call X (d + 6)) m_X9_readsOne 351 [.ref m, .int (nZ (rs_h t L p)), .int (nZ 0), .retAddr 0] [] h5) = some (.inl none, (mz_h P (mz_w (rz_V V m (true, p, mr_up g (5 * N) (rs_h t L p))) m (mr_up (rz_V V m (true, p, mr_up g (5 * N) (rs_h t L p)) m) 25 ((N : Int) + 1))), z)) := by
    rw [mv_chk_t (by decide), mz_pW hM.o (by decide)]
    have a1 : mz_w (rz_V V m (false, p, mr_up g (5 * N) (rs_h t L p))) m (mr_up (rz_V V m (false, p, mr_up g (5 * N) (rs_h t L p)) m) 26 1) = rz_V V m (true, p, mr_up g (5 * N) (rs_h t L p)) := rz_mf (V := V) (m := m) (s := (false, p, mr_up g (5 * N) (rs_h t L p))) true
    rw [a1]
    exact X9_351 hM hT
  rw [if_neg y99]
  rw [if_neg y100]
  by_cases c101 : nZ (rs_h t L p) = nZ 101
  · rw [if_pos c101]; exact F
  rw [if_neg c101]
  by_cases c102 : nZ (rs_h t L p) = nZ 102
  · rw [if_pos c102]; exact F
  rw [if_neg c102]
  by_cases c103 : nZ (rs_h t L p) = nZ 103
  · rw [if_pos c103]; exact F
  rw [if_neg c103]
  by_cases c104 : nZ (rs_h t L p) = nZ 104
  · rw [if_pos c104]; exact F
  rw [if_neg c104]
  by_cases c105 : nZ (rs_h t L p) = nZ 105
  · rw [if_pos c105]; exact F
  rw [if_neg c105]
  by_cases c106 : nZ (rs_h t L p) = nZ 106
  · rw [if_pos c106]; exact F
  rw [if_neg c106]
  by_cases c107 : nZ (rs_h t L p) = nZ 107
  · rw [if_pos c107]; exact F
  rw [if_neg c107]
  rw [if_neg y108]
  rw [if_neg y109]
  by_cases c110 : nZ (rs_h t L p) = nZ 110
  · rw [if_pos c110]; exact F
  rw [if_neg c110]
  by_cases c111 : nZ (rs_h t L p) = nZ 111
  · rw [if_pos c111]; exact F
  rw [if_neg c111]
  rw [if_neg y112]
  by_cases c113 : nZ (rs_h t L p) = nZ 113
  · rw [if_pos c113]; exact F
  rw [if_neg c113]
  rw [if_neg y114]
  by_cases c115 : nZ (rs_h t L p) = nZ 115
  · rw [if_pos c115]; exact F
  rw [if_neg c115]
  by_cases c116 : nZ (rs_h t L p) = nZ 116
  · rw [if_pos c116]; exact F
  rw [if_neg c116]
  by_cases c117 : nZ (rs_h t L p) = nZ 117
  · rw [if_pos c117]; exact F
  rw [if_neg c117]
  by_cases c118 : nZ (rs_h t L p) = nZ 118
  · rw [if_pos c118]; exact F
  rw [if_neg c118]
  rw [if_neg y119]
  exact F
end ONEF
