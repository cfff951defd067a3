/-! ONE ROUND OF THE LAW (printed by program) -/
section ITR
variable {X : mv_X} {x b0 : Nat} {S : Nat → Int} {w w2 : mz_V} {b b2 B : Int} {c : Nat × Nat} {m M kind a wish d made n : Nat} {h h0 : mv_H} {k ri : Int} {v26 : Int32} {Φ : Option mv_R → Prop} {j27 j28 j29 : Value}
theorem WT_y (hkd : kind < 46) (hri : -78 ≤ ri ∧ ri ≤ 2000) (ok : pf_ok kind ri) {j26 : Value} (K : ∀ v26 : Int32, Φ (mv_run X (mv_call X (d + 12)) m_L_law 301 [.ref b0, .ref x, .ref (x + 376), .int (nZ made), .int (nZ k), .int (nZ n), .long (pu_sum (w 1)), .retAddr 0, .int (nZ (w 0 6)), .int (nZ kind), .int (nZ a), .int (nZ (pq (w 1) a (mr_ho (w 1) a 0))), .int (nZ wish), .int (nZ (pd_dr (w 1) a wish)), .int (nZ (pd_wt (w 1) a wish)), .int (nZ (pq (w 1) a (mr_bal (w 1) a 0))), .int (nZ (pq (w 1) a (w 1 (6 + 11 * a + 4)))), .int (nZ (mr_hr (w 1)).2), .int (nZ (mq_cnt (w 1))), .int (nZ (w 1 4)), .int (nZ (w 1 3)), .int (nZ (w 1 2)), .int (nZ (w 1 1)), .int (nZ (w 1 0)), .int (nZ (w 1 5)), .int (nZ ri), .int v26, j27, j28, j29] [.int (nZ 1)] h)) : Φ (if nZ kind ≤ nZ 27 then mv_run X (mv_call X (d + 12)) m_L_law 268 [.ref b0, .ref x, .ref (x + 376), .int (nZ made), .int (nZ k), .int (nZ n), .long (pu_sum (w 1)), .retAddr 0, .int (nZ (w 0 6)), .int (nZ kind), .int (nZ a), .int (nZ (pq (w 1) a (mr_ho (w 1) a 0))), .int (nZ wish), .int (nZ (pd_dr (w 1) a wish)), .int (nZ (pd_wt (w 1) a wish)), .int (nZ (pq (w 1) a (mr_bal (w 1) a 0))), .int (nZ (pq (w 1) a (w 1 (6 + 11 * a + 4)))), .int (nZ (mr_hr (w 1)).2), .int (nZ (mq_cnt (w 1))), .int (nZ (w 1 4)), .int (nZ (w 1 3)), .int (nZ (w 1 2)), .int (nZ (w 1 1)), .int (nZ (w 1 0)), .int (nZ (w 1 5)), .int (nZ ri), j26, j27, j28, j29] [] h else if nZ 32 ≤ nZ kind then mv_run X (mv_call X (d + 12)) m_L_law 268 [.ref b0, .ref x, .ref (x + 376), .int (nZ made), .int (nZ k), .int (nZ n), .long (pu_sum (w 1)), .retAddr 0, .int (nZ (w 0 6)), .int (nZ kind), .int (nZ a), .int (nZ (pq (w 1) a (mr_ho (w 1) a 0))), .int (nZ wish), .int (nZ (pd_dr (w 1) a wish)), .int (nZ (pd_wt (w 1) a wish)), .int (nZ (pq (w 1) a (mr_bal (w 1) a 0))), .int (nZ (pq (w 1) a (w 1 (6 + 11 * a + 4)))), .int (nZ (mr_hr (w 1)).2), .int (nZ (mq_cnt (w 1))), .int (nZ (w 1 4)), .int (nZ (w 1 3)), .int (nZ (w 1 2)), .int (nZ (w 1 1)), .int (nZ (w 1 0)), .int (nZ (w 1 5)), .int (nZ ri), j26, j27, j28, j29] [] h else mv_run X (mv_call X (d + 12)) m_L_law 269 [.ref b0, .ref x, .ref (x + 376), .int (nZ made), .int (nZ k), .int (nZ n), .long (pu_sum (w 1)), .retAddr 0, .int (nZ (w 0 6)), .int (nZ kind), .int (nZ a), .int (nZ (pq (w 1) a (mr_ho (w 1) a 0))), .int (nZ wish), .int (nZ (pd_dr (w 1) a wish)), .int (nZ (pd_wt (w 1) a wish)), .int (nZ (pq (w 1) a (mr_bal (w 1) a 0))), .int (nZ (pq (w 1) a (w 1 (6 + 11 * a + 4)))), .int (nZ (mr_hr (w 1)).2), .int (nZ (mq_cnt (w 1))), .int (nZ (w 1 4)), .int (nZ (w 1 3)), .int (nZ (w 1 2)), .int (nZ (w 1 1)), .int (nZ (w 1 0)), .int (nZ (w 1 5)), .int (nZ ri), j26, j27, j28, j29] [.int (nZ 1)] h) := by
  have kS : nS (kind : Int) := ⟨by omega, by omega⟩
  have hc : (28 ≤ kind ∧ kind < 32 ∧ -70 < ri) ∨ (¬ (28 ≤ kind ∧ kind < 32) ∧ 0 ≤ ri) := by
    exact ok
  by_cases k1 : kind ≤ 27
  · rw [if_pos (zl_y kS (by decide) (by omega)), bk_L_law_268, bk_L_law_269, if_pos (by decide)]
    rw [if_neg (by rw [nZ_lt0 ⟨by omega, by omega⟩]; omega)]
    exact K _
  rw [if_neg (zl_n kS (by decide) (by omega))]
  by_cases k2 : 32 ≤ kind
  · rw [if_pos (zl_y (by decide) kS (by omega)), bk_L_law_268, bk_L_law_269, if_pos (by decide)]
    rw [if_neg (by rw [nZ_lt0 ⟨by omega, by omega⟩]; omega)]
    exact K _
  rw [if_neg (zl_n (by decide) kS (by omega)), bk_L_law_269, if_neg (by decide)]
  rw [if_neg (zl_n ⟨by omega, by omega⟩ (by decide) (by omega))]
  exact K _
theorem WT_n (hkd : kind < 46) (hri : -78 ≤ ri ∧ ri ≤ 2000) (no : ¬ pf_ok kind ri) {j26 : Value} (K : ∀ v26 : Int32, Φ (mv_run X (mv_call X (d + 12)) m_L_law 301 [.ref b0, .ref x, .ref (x + 376), .int (nZ made), .int (nZ k), .int (nZ n), .long (pu_sum (w 1)), .retAddr 0, .int (nZ (w 0 6)), .int (nZ kind), .int (nZ a), .int (nZ (pq (w 1) a (mr_ho (w 1) a 0))), .int (nZ wish), .int (nZ (pd_dr (w 1) a wish)), .int (nZ (pd_wt (w 1) a wish)), .int (nZ (pq (w 1) a (mr_bal (w 1) a 0))), .int (nZ (pq (w 1) a (w 1 (6 + 11 * a + 4)))), .int (nZ (mr_hr (w 1)).2), .int (nZ (mq_cnt (w 1))), .int (nZ (w 1 4)), .int (nZ (w 1 3)), .int (nZ (w 1 2)), .int (nZ (w 1 1)), .int (nZ (w 1 0)), .int (nZ (w 1 5)), .int (nZ ri), .int v26, j27, j28, j29] [.int (nZ 0)] h)) : Φ (if nZ kind ≤ nZ 27 then mv_run X (mv_call X (d + 12)) m_L_law 268 [.ref b0, .ref x, .ref (x + 376), .int (nZ made), .int (nZ k), .int (nZ n), .long (pu_sum (w 1)), .retAddr 0, .int (nZ (w 0 6)), .int (nZ kind), .int (nZ a), .int (nZ (pq (w 1) a (mr_ho (w 1) a 0))), .int (nZ wish), .int (nZ (pd_dr (w 1) a wish)), .int (nZ (pd_wt (w 1) a wish)), .int (nZ (pq (w 1) a (mr_bal (w 1) a 0))), .int (nZ (pq (w 1) a (w 1 (6 + 11 * a + 4)))), .int (nZ (mr_hr (w 1)).2), .int (nZ (mq_cnt (w 1))), .int (nZ (w 1 4)), .int (nZ (w 1 3)), .int (nZ (w 1 2)), .int (nZ (w 1 1)), .int (nZ (w 1 0)), .int (nZ (w 1 5)), .int (nZ ri), j26, j27, j28, j29] [] h else if nZ 32 ≤ nZ kind then mv_run X (mv_call X (d + 12)) m_L_law 268 [.ref b0, .ref x, .ref (x + 376), .int (nZ made), .int (nZ k), .int (nZ n), .long (pu_sum (w 1)), .retAddr 0, .int (nZ (w 0 6)), .int (nZ kind), .int (nZ a), .int (nZ (pq (w 1) a (mr_ho (w 1) a 0))), .int (nZ wish), .int (nZ (pd_dr (w 1) a wish)), .int (nZ (pd_wt (w 1) a wish)), .int (nZ (pq (w 1) a (mr_bal (w 1) a 0))), .int (nZ (pq (w 1) a (w 1 (6 + 11 * a + 4)))), .int (nZ (mr_hr (w 1)).2), .int (nZ (mq_cnt (w 1))), .int (nZ (w 1 4)), .int (nZ (w 1 3)), .int (nZ (w 1 2)), .int (nZ (w 1 1)), .int (nZ (w 1 0)), .int (nZ (w 1 5)), .int (nZ ri), j26, j27, j28, j29] [] h else mv_run X (mv_call X (d + 12)) m_L_law 269 [.ref b0, .ref x, .ref (x + 376), .int (nZ made), .int (nZ k), .int (nZ n), .long (pu_sum (w 1)), .retAddr 0, .int (nZ (w 0 6)), .int (nZ kind), .int (nZ a), .int (nZ (pq (w 1) a (mr_ho (w 1) a 0))), .int (nZ wish), .int (nZ (pd_dr (w 1) a wish)), .int (nZ (pd_wt (w 1) a wish)), .int (nZ (pq (w 1) a (mr_bal (w 1) a 0))), .int (nZ (pq (w 1) a (w 1 (6 + 11 * a + 4)))), .int (nZ (mr_hr (w 1)).2), .int (nZ (mq_cnt (w 1))), .int (nZ (w 1 4)), .int (nZ (w 1 3)), .int (nZ (w 1 2)), .int (nZ (w 1 1)), .int (nZ (w 1 0)), .int (nZ (w 1 5)), .int (nZ ri), j26, j27, j28, j29] [.int (nZ 1)] h) := by
  have kS : nS (kind : Int) := ⟨by omega, by omega⟩
  have hc : (28 ≤ kind ∧ kind < 32 ∧ ri ≤ -70) ∨ (¬ (28 ≤ kind ∧ kind < 32) ∧ ri < 0) := by
    by_cases q : 28 ≤ kind ∧ kind < 32
    · refine Or.inl ⟨q.1, q.2, ?_⟩
      refine Classical.byContradiction fun z => no (Or.inl ⟨q.1, q.2, by omega⟩)
    · refine Or.inr ⟨q, ?_⟩
      refine Classical.byContradiction fun z => no (Or.inr ⟨q, by omega⟩)
  by_cases k1 : kind ≤ 27
  · rw [if_pos (zl_y kS (by decide) (by omega)), bk_L_law_268, bk_L_law_269, if_pos (by decide)]
    rw [if_pos ((nZ_lt0 ⟨by omega, by omega⟩).mpr (by omega))]
    exact K _
  rw [if_neg (zl_n kS (by decide) (by omega))]
  by_cases k2 : 32 ≤ kind
  · rw [if_pos (zl_y (by decide) kS (by omega)), bk_L_law_268, bk_L_law_269, if_pos (by decide)]
    rw [if_pos ((nZ_lt0 ⟨by omega, by omega⟩).mpr (by omega))]
    exact K _
  rw [if_neg (zl_n (by decide) kS (by omega)), bk_L_law_269, if_neg (by decide)]
  rw [if_pos (zl_y ⟨by omega, by omega⟩ (by decide) (by omega))]
  exact K _
theorem IT_960y (hS : pX_X X x b0) {m0 : Nat} (H : ph_H X x S w2 b2 c m0 h) (hm0 : m0 + 3320 ≤ m + 3700) (hk : 0 ≤ k ∧ k ≤ 900) (hb : b ≤ 999000000) (hb2 : b2 ≤ b + 432) (hJ2 : pn_J (w2 1) (B + 4320)) (hI : mr_I (w 1)) (hch : ph_ch w w2) (hK : pl_K w S made) (hn : n < 54) (hmd : made ≤ n) {v28 v29 q : Int32} (K : (∀ (S2 : Nat → Int) (w2 : mz_V) (b2 : Int) (made2 : Nat) (h2 : mv_H) (j6 : Value) (j8 j9 j10 j11 j12 j13 j14 j15 j16 j17 j18 j19 j20 j21 j22 j23 j24 j25 j26 j27 j28 j29 : Value), ph_H X x S2 w2 b2 c (m + 3700) h2 → b2 ≤ b + 432 → pn_J (w2 1) (B + 4320) → pl_K w2 S2 made2 → made2 ≤ n + 1 → Φ (mv_run X (mv_call X (d + 12)) m_L_law 28 [.ref b0, .ref x, .ref (x + 376), .int (nZ made2), .int (nZ (k + 5)), .int (nZ (n + 1 : Nat)), j6, .retAddr 0, j8, j9, j10, j11, j12, j13, j14, j15, j16, j17, j18, j19, j20, j21, j22, j23, j24, j25, j26, j27, j28, j29] [] h2))) : Φ (mv_run X (mv_call X (d + 12)) m_L_law 960 [.ref b0, .ref x, .ref (x + 376), .int (nZ made), .int (nZ (k + 5)), .int (nZ n), .long (pu_sum (w 1)), .retAddr 0, .int (nZ (w 0 6)), .int (nZ kind), .int (nZ a), .int (nZ (pq (w 1) a (mr_ho (w 1) a 0))), .int (nZ wish), .int (nZ (pd_dr (w 1) a wish)), .int (nZ (pd_wt (w 1) a wish)), .int (nZ (pq (w 1) a (mr_bal (w 1) a 0))), .int (nZ (pq (w 1) a (w 1 (6 + 11 * a + 4)))), .int (nZ (mr_hr (w 1)).2), .int (nZ (mq_cnt (w 1))), .int (nZ (w 1 4)), .int (nZ (w 1 3)), .int (nZ (w 1 2)), .int (nZ (w 1 1)), .int (nZ (w 1 0)), .int (nZ (w 1 5)), .int (nZ ri), .int v26, .int (nZ 1), .int v28, .int v29] [.int q, .int (nZ (k + 5)), .ref b0, .ref x] h) := by
  rw [bk_L_law_960]
  refine LP_isWhole (d := d) hS H (by omega) (by omega) hJ2 q fun h1 H1 => ?_
  rw [if_neg (by decide), if_neg (by decide)]
  refine LP_sum (d := d + 5) H1 fun h2 H2 => ?_
  rw [nZ_add, ← nc1]
  refine LH_store H2 (j := made + 1) (by omega) fun h3 H3 => ?_
  rw [bk_L_law_1004, nZ_add, ← nc1]
  exact K _ w2 b2 (made + 1) h3 _ _ _ _ _ _ _ _ _ _ _ _ _ _ _ _ _ _ _ _ _ _ _ (ph_mono (by omega) H3) hb2 hJ2 (pl_K_ch hI hch hK) (by omega)
theorem IT_960n (hS : pX_X X x b0) {m0 : Nat} (H : ph_H X x S w2 b2 c m0 h) (hm0 : m0 + 3320 ≤ m + 3700) (hk : 0 ≤ k ∧ k ≤ 900) (hb : b ≤ 999000000) (hb2 : b2 ≤ b + 432) (hJ : pn_J (w 1) B) (hno : ph_no w w2) (hK : pl_K w S made) (hn : n < 54) (hmd : made ≤ n) {v28 v29 q : Int32} (K : (∀ (S2 : Nat → Int) (w2 : mz_V) (b2 : Int) (made2 : Nat) (h2 : mv_H) (j6 : Value) (j8 j9 j10 j11 j12 j13 j14 j15 j16 j17 j18 j19 j20 j21 j22 j23 j24 j25 j26 j27 j28 j29 : Value), ph_H X x S2 w2 b2 c (m + 3700) h2 → b2 ≤ b + 432 → pn_J (w2 1) (B + 4320) → pl_K w2 S2 made2 → made2 ≤ n + 1 → Φ (mv_run X (mv_call X (d + 12)) m_L_law 28 [.ref b0, .ref x, .ref (x + 376), .int (nZ made2), .int (nZ (k + 5)), .int (nZ (n + 1 : Nat)), j6, .retAddr 0, j8, j9, j10, j11, j12, j13, j14, j15, j16, j17, j18, j19, j20, j21, j22, j23, j24, j25, j26, j27, j28, j29] [] h2))) : Φ (mv_run X (mv_call X (d + 12)) m_L_law 960 [.ref b0, .ref x, .ref (x + 376), .int (nZ made), .int (nZ (k + 5)), .int (nZ n), .long (pu_sum (w 1)), .retAddr 0, .int (nZ (w 0 6)), .int (nZ kind), .int (nZ a), .int (nZ (pq (w 1) a (mr_ho (w 1) a 0))), .int (nZ wish), .int (nZ (pd_dr (w 1) a wish)), .int (nZ (pd_wt (w 1) a wish)), .int (nZ (pq (w 1) a (mr_bal (w 1) a 0))), .int (nZ (pq (w 1) a (w 1 (6 + 11 * a + 4)))), .int (nZ (mr_hr (w 1)).2), .int (nZ (mq_cnt (w 1))), .int (nZ (w 1 4)), .int (nZ (w 1 3)), .int (nZ (w 1 2)), .int (nZ (w 1 1)), .int (nZ (w 1 0)), .int (nZ (w 1 5)), .int (nZ ri), .int v26, .int (nZ 0), .int v28, .int v29] [.int q, .int (nZ (k + 5)), .ref b0, .ref x] h) := by
  have hJ2 : pn_J (w2 1) (B + 4320) := by
    rw [hno.1]
    exact pn_J_m (by omega) hJ
  rw [bk_L_law_960]
  refine LP_isWhole (d := d) hS H (by omega) (by omega) hJ2 q fun h1 H1 => ?_
  rw [if_neg (by decide), if_pos (by decide)]
  refine LP_sum (d := d + 5) H1 fun h2 H2 => ?_
  have e : lg_cmp (pu_sum (w2 1)) (pu_sum (w 1)) = 0 := by
    rw [hno.1]
    exact (lg_cmp_eq _ _).mpr rfl
  rw [if_pos e]
  refine LD_undoCount H2 ?_
  rw [if_pos (congrArg nZ hno.2.2), bk_L_law_1004, nZ_add, ← nc1]
  exact K S w2 b2 made h2 _ _ _ _ _ _ _ _ _ _ _ _ _ _ _ _ _ _ _ _ _ _ _ (ph_mono (by omega) H2) hb2 hJ2 (pl_K_no hno hK) (by omega)
theorem IT_124 (hS : pX_X X x b0) (hT : tx_H X x) (hS9 : ∀ k, k < 9 → mx_S X x (21 + k) (fm_l k)) {from_ : Nat} (H : ph_H X x S w b c (m + 110) h) (hk : 0 ≤ k ∧ k ≤ 900) (hb : b ≤ 999000000) (hB : B ≤ 900000000) (hJ : pn_J (w 1) B) (hK : pl_K w S made) (hkd : kind < 46) (hf : from_ < 10) (hn : n < 54) (hmd : made ≤ n) {q : Int32} {j10 j11 j12 j13 j14 j15 j16 j17 j18 j19 j20 j21 j22 j23 j24 j25 j26 j27 j28 j29 : Value} (K : (∀ (S2 : Nat → Int) (w2 : mz_V) (b2 : Int) (made2 : Nat) (h2 : mv_H) (j6 : Value) (j8 j9 j10 j11 j12 j13 j14 j15 j16 j17 j18 j19 j20 j21 j22 j23 j24 j25 j26 j27 j28 j29 : Value), ph_H X x S2 w2 b2 c (m + 3700) h2 → b2 ≤ b + 432 → pn_J (w2 1) (B + 4320) → pl_K w2 S2 made2 → made2 ≤ n + 1 → Φ (mv_run X (mv_call X (d + 12)) m_L_law 28 [.ref b0, .ref x, .ref (x + 376), .int (nZ made2), .int (nZ (k + 5)), .int (nZ (n + 1 : Nat)), j6, .retAddr 0, j8, j9, j10, j11, j12, j13, j14, j15, j16, j17, j18, j19, j20, j21, j22, j23, j24, j25, j26, j27, j28, j29] [] h2))) : Φ (mv_run X (mv_call X (d + 12)) m_L_law 124 [.ref b0, .ref x, .ref (x + 376), .int (nZ made), .int (nZ k), .int (nZ n), .long (pu_sum (w 1)), .retAddr 0, .int (nZ (w 0 6)), .int (nZ kind), j10, j11, j12, j13, j14, j15, j16, j17, j18, j19, j20, j21, j22, j23, j24, j25, j26, j27, j28, j29] [.int q, .int (nZ from_), .ref x] h) := by
  have hI := (ph_I H).1
  have h00 := (ph_I H).2.1
  have hw0 := pn_wgt0 hI
  rw [bk_L_law_124]
  refine LP_berth (d := d + 7) H hf q fun a ha => ?_
  refine LP_height (d := d + 6) H ha fun h1 H1 => ?_
  rw [nZ_add]
  refine LP_pick (d := d + 10) hS H1 (by omega) (by omega) fun p hp => ?_
  rw [nZ_add, show (1 : Int) + (p : Int) = ((p + 1 : Nat) : Int) by omega]
  obtain ⟨wish, hwish⟩ : ∃ wish, wish = p + 1 := ⟨_, rfl⟩
  rw [← hwish]
  refine LP_fewestDrops (d := d + 6) H1 ha (by omega) fun h2 H2 => ?_
  refine LP_dropWeight (d := d + 6) H2 ha (by omega) fun h3 H3 => ?_
  refine LP_ballast (d := d + 6) H3 ha fun h4 H4 => ?_
  refine LP_bagCount (d := d + 6) H4 ha fun h5 H5 => ?_
  refine LD_burstsAhead (d := d + 5) H5 (by omega) fun h6 H6 => ?_
  refine LD_balloonCount (d := d + 9) H6 ?_
  refine LD_lost (d := d + 11) H6 ?_
  refine LD_dropped (d := d + 11) H6 ?_
  refine LD_loaded (d := d + 11) H6 ?_
  refine LD_bursts (d := d + 11) H6 ?_
  refine LD_hour (d := d + 11) H6 ?_
  refine LD_pilotCount (d := d + 11) H6 ?_
  refine LP_does (d := d) hS hT hS9 H6 (by omega) hkd ha (by omega) (by omega) hJ fun r h9 hD => ?_
  obtain ⟨w2, b2, ri, hb2, hr, hri, H9, hc⟩ := pd_F H6 (by omega) hJ ha (by omega) hD
  subst hr
  rcases hc with ⟨ok, hY, hch, hJ2⟩ | ⟨no, h5n, hno⟩
  · have q2 := pn_wgt0 (ph_I H9).1
    obtain ⟨y1, y2, y3, y4, y5, y6⟩ := hJ
    obtain ⟨x1, x2, x3, x4, x5, x6⟩ := hJ2
    refine WT_y hkd hri ok fun v26 => ?_
    refine WS_all H9 hI hkd ha (by omega) (by omega) ⟨y3, by omega⟩ ⟨x3, by omega⟩ hri hY fun qq h10 H10 => ?_
    rw [bk_L_law_932, n11, if_neg (by decide), if_neg (by decide), zm n (by omega) (by decide) (by decide), nZ_add]
    by_cases c1 : nZ ((n : Int) % 4) = nZ 3
    · rw [if_pos c1]
      exact IT_960y hS H10 (by omega) hk hb hb2 ⟨x1, x2, x3, x4, x5, x6⟩ hI hch hK hn hmd K
    · rw [if_neg c1]
      exact IT_960y hS H10 (by omega) hk hb hb2 ⟨x1, x2, x3, x4, x5, x6⟩ hI hch hK hn hmd K
  · refine WT_n hkd hri no fun v26 => ?_
    refine WF_all H9 hI hkd ha (by omega) hri h5n hno.1 ?_
    rw [bk_L_law_932, n11, if_neg (by decide), if_neg (by decide), zm n (by omega) (by decide) (by decide), nZ_add]
    by_cases c1 : nZ ((n : Int) % 4) = nZ 3
    · rw [if_pos c1]
      exact IT_960n hS H9 (by omega) hk hb hb2 hJ hno hK hn hmd K
    · rw [if_neg c1]
      exact IT_960n hS H9 (by omega) hk hb hb2 hJ hno hK hn hmd K
theorem IT_89 (hS : pX_X X x b0) (hT : tx_H X x) (hS9 : ∀ k, k < 9 → mx_S X x (21 + k) (fm_l k)) (H : ph_H X x S w b c (m + 110) h) (hk : 0 ≤ k ∧ k ≤ 900) (hb : b ≤ 999000000) (hB : B ≤ 900000000) (hJ : pn_J (w 1) B) (hK : pl_K w S made) (hkd : kind < 46) (hn : n < 54) (hmd : made ≤ n) {j9 j10 j11 j12 j13 j14 j15 j16 j17 j18 j19 j20 j21 j22 j23 j24 j25 j26 j27 j28 j29 : Value} (K : (∀ (S2 : Nat → Int) (w2 : mz_V) (b2 : Int) (made2 : Nat) (h2 : mv_H) (j6 : Value) (j8 j9 j10 j11 j12 j13 j14 j15 j16 j17 j18 j19 j20 j21 j22 j23 j24 j25 j26 j27 j28 j29 : Value), ph_H X x S2 w2 b2 c (m + 3700) h2 → b2 ≤ b + 432 → pn_J (w2 1) (B + 4320) → pl_K w2 S2 made2 → made2 ≤ n + 1 → Φ (mv_run X (mv_call X (d + 12)) m_L_law 28 [.ref b0, .ref x, .ref (x + 376), .int (nZ made2), .int (nZ (k + 5)), .int (nZ (n + 1 : Nat)), j6, .retAddr 0, j8, j9, j10, j11, j12, j13, j14, j15, j16, j17, j18, j19, j20, j21, j22, j23, j24, j25, j26, j27, j28, j29] [] h2))) : Φ (mv_run X (mv_call X (d + 12)) m_L_law 89 [.ref b0, .ref x, .ref (x + 376), .int (nZ made), .int (nZ k), .int (nZ n), .long (pu_sum (w 1)), .retAddr 0, .int (nZ (w 0 6)), j9, j10, j11, j12, j13, j14, j15, j16, j17, j18, j19, j20, j21, j22, j23, j24, j25, j26, j27, j28, j29] [.int (nZ kind)] h) := by
  rw [bk_L_law_89, nZ_add]
  refine LP_pick (d := d + 10) hS H (by omega) (by omega) fun p hp => ?_
  by_cases c1 : nZ (kind : Nat) < nZ 8
  · rw [if_pos c1, bk_L_law_119]
    exact IT_124 hS hT hS9 H hk hb hB hJ hK hkd (by omega) hn hmd K
  · rw [if_neg c1, if_neg (by decide)]
    by_cases c2 : nZ (n : Nat) - nZ (n : Nat) / nZ 13 * nZ 13 = nZ 12
    · rw [if_pos c2, bk_L_law_119]
      exact IT_124 hS hT hS9 H hk hb hB hJ hK hkd (by omega) hn hmd K
    · rw [if_neg c2]
      exact IT_124 hS hT hS9 H hk hb hB hJ hK hkd (by omega) hn hmd K
theorem IT_28 (hS : pX_X X x b0) (hT : tx_H X x) (hS9 : ∀ k, k < 9 → mx_S X x (21 + k) (fm_l k)) (H : ph_H X x S w b c m h) (hk : 0 ≤ k ∧ k ≤ 900) (hb : b ≤ 999000000) (hB : B ≤ 900000000) (hJ : pn_J (w 1) B) (hK : pl_K w S made) (hn : n < 54) (hmd : made ≤ n) {j6 : Value} {j8 j9 j10 j11 j12 j13 j14 j15 j16 j17 j18 j19 j20 j21 j22 j23 j24 j25 j26 j27 j28 j29 : Value} (K : (∀ (S2 : Nat → Int) (w2 : mz_V) (b2 : Int) (made2 : Nat) (h2 : mv_H) (j6 : Value) (j8 j9 j10 j11 j12 j13 j14 j15 j16 j17 j18 j19 j20 j21 j22 j23 j24 j25 j26 j27 j28 j29 : Value), ph_H X x S2 w2 b2 c (m + 3700) h2 → b2 ≤ b + 432 → pn_J (w2 1) (B + 4320) → pl_K w2 S2 made2 → made2 ≤ n + 1 → Φ (mv_run X (mv_call X (d + 12)) m_L_law 28 [.ref b0, .ref x, .ref (x + 376), .int (nZ made2), .int (nZ (k + 5)), .int (nZ (n + 1 : Nat)), j6, .retAddr 0, j8, j9, j10, j11, j12, j13, j14, j15, j16, j17, j18, j19, j20, j21, j22, j23, j24, j25, j26, j27, j28, j29] [] h2))) : Φ (mv_run X (mv_call X (d + 12)) m_L_law 28 [.ref b0, .ref x, .ref (x + 376), .int (nZ made), .int (nZ k), .int (nZ n), j6, .retAddr 0, j8, j9, j10, j11, j12, j13, j14, j15, j16, j17, j18, j19, j20, j21, j22, j23, j24, j25, j26, j27, j28, j29] [] h) := by
  have nS' : nS (n : Int) := ⟨by omega, by omega⟩
  rw [bk_L_law_28, if_neg (zl_n (by decide) nS' (by omega))]
  refine LP_sum (d := d + 5) H fun h1 H1 => ?_
  refine LD_undoCount (d := d + 11) H1 ?_
  by_cases c1 : 5 ≤ n
  · rw [if_pos (zl_y (by decide) nS' (by omega))]
    by_cases c2 : 10 ≤ n
    · rw [if_pos (zl_y (by decide) nS' (by omega))]
      by_cases c3 : 12 ≤ n
      · rw [if_pos (zl_y (by decide) nS' (by omega))]
        refine LP_pick (d := d + 10) hS H1 (by omega) (by omega) fun p hp => ?_
        exact IT_89 hS hT hS9 H1 hk hb hB hJ hK (by omega) hn hmd K
      · rw [if_neg (zl_n (by decide) nS' (by omega))]
        exact IT_89 (kind := 33) hS hT hS9 H1 hk hb hB hJ hK (by omega) hn hmd K
    · rw [if_neg (zl_n (by decide) nS' (by omega))]
      exact IT_89 (kind := 8) hS hT hS9 H1 hk hb hB hJ hK (by omega) hn hmd K
  · rw [if_neg (zl_n (by decide) nS' (by omega))]
    exact IT_89 (kind := 0) hS hT hS9 H1 hk hb hB hJ hK (by omega) hn hmd K
/-- what the rounds may cost -/
def pl_c : Nat → Nat
  | 0 => 0
  | i + 1 => pl_c i + 3700
def pl_b : Nat → Int
  | 0 => 0
  | i + 1 => pl_b i + 432
def pl_B : Nat → Int
  | 0 => 0
  | i + 1 => pl_B i + 4320
theorem pl_b0 : ∀ i, 0 ≤ pl_b i
  | 0 => Int.le_refl 0
  | i + 1 => by
    have := pl_b0 i
    show 0 ≤ pl_b i + 432
    omega
theorem pl_B0 : ∀ i, 0 ≤ pl_B i
  | 0 => Int.le_refl 0
  | i + 1 => by
    have := pl_B0 i
    show 0 ≤ pl_B i + 4320
    omega
theorem IT_lp (hS : pX_X X x b0) (hT : tx_H X x) (hS9 : ∀ k, k < 9 → mx_S X x (21 + k) (fm_l k)) : ∀ (i n made m : Nat) (S : Nat → Int) (w : mz_V) (b B k : Int) (h : mv_H) (j6 : Value) (j8 j9 j10 j11 j12 j13 j14 j15 j16 j17 j18 j19 j20 j21 j22 j23 j24 j25 j26 j27 j28 j29 : Value), n + i = 54 → ph_H X x S w b c m h → k = 5 * (n : Int) → b + pl_b i ≤ 999000000 → B + pl_B i ≤ 900000000 → pn_J (w 1) B → pl_K w S made → made ≤ n → m + pl_c i + 1200 ≤ M → pk_T c M (mv_run X (mv_call X (d + 12)) m_L_law 28 [.ref b0, .ref x, .ref (x + 376), .int (nZ made), .int (nZ k), .int (nZ n), j6, .retAddr 0, j8, j9, j10, j11, j12, j13, j14, j15, j16, j17, j18, j19, j20, j21, j22, j23, j24, j25, j26, j27, j28, j29] [] h)
  | 0, n, made, m, S, w, b, B, k, h, j6, j8, j9, j10, j11, j12, j13, j14, j15, j16, j17, j18, j19, j20, j21, j22, j23, j24, j25, j26, j27, j28, j29, hn, H, hk, hb, hB, hJ, hK, hmd, hM => by
    have e0 : pl_c 0 = 0 := rfl
    rw [bk_L_law_28, if_pos (zl_y (by decide) ⟨by omega, by omega⟩ (by omega))]
    refine LP_isKept (d := d + 4) (M := M) H hK (by omega) (by omega) fun h1 c1 c2 => ?_
    rw [nZ_ok6 (by decide) (by decide)]
    exact ⟨h1, rfl, c1, c2⟩
  | i + 1, n, made, m, S, w, b, B, k, h, j6, j8, j9, j10, j11, j12, j13, j14, j15, j16, j17, j18, j19, j20, j21, j22, j23, j24, j25, j26, j27, j28, j29, hn, H, hk, hb, hB, hJ, hK, hmd, hM => by
    have e1 : pl_c (i + 1) = pl_c i + 3700 := rfl
    have e2 : pl_b (i + 1) = pl_b i + 432 := rfl
    have e3 : pl_B (i + 1) = pl_B i + 4320 := rfl
    have p2 : 0 ≤ pl_b i := pl_b0 i
    have p3 : 0 ≤ pl_B i := pl_B0 i
    refine IT_28 hS hT hS9 H (by omega) (by omega) (by omega) hJ hK (by omega) hmd fun S2 w2 b2 made2 h2 j6 j8 j9 j10 j11 j12 j13 j14 j15 j16 j17 j18 j19 j20 j21 j22 j23 j24 j25 j26 j27 j28 j29 H2 hb2 hJ2 hK2 hm2 => ?_
    exact IT_lp hS hT hS9 i (n + 1) made2 (m + 3700) S2 w2 b2 (B + 4320) (k + 5) h2 j6 j8 j9 j10 j11 j12 j13 j14 j15 j16 j17 j18 j19 j20 j21 j22 j23 j24 j25 j26 j27 j28 j29 (by omega) H2 (by omega) (by omega) (by omega) hJ2 hK2 hm2 (by omega)
end ITR
