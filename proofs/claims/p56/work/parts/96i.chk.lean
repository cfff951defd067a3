/-! THE LAW'S CHECKS (printed by program) -/
theorem pq_in {s : Nat → Int} {a : Nat} {r : Int} (h : -1000 ≤ r ∧ r ≤ 1000) : -1000 ≤ pq s a r ∧ pq s a r ≤ 1000 := by
  unfold pq
  split <;> omega
theorem pS_in {r : Int} (h : -1000 ≤ r ∧ r ≤ 1000) : nS r := ⟨by omega, by omega⟩
theorem n11 : nZ 1 &&& nZ 1 = nZ 1 := by decide
section CHK
variable {X : mv_X} {x b0 : Nat} {S : Nat → Int} {w2 : mz_V} {b2 B : Int} {c : Nat × Nat} {m M kind a wish d : Nat} {h : mv_H} {s : Nat → Int} {ri : Int} {v3 v4 v5 v8 v26 : Int32} {w6 : Int64} {Φ : Option mv_R → Prop} {j27 j28 j29 : Value}
theorem pS_ho (hI : mr_I s) (ha : a < 10) : nS (pq s a (mr_ho s a 0)) := pS_in (pq_in (by have := mr_ho0 hI ha 0; have := mr_ho1 hI ha 0; omega))
theorem pS_bal (hI : mr_I s) (ha : a < 10) : nS (pq s a (mr_bal s a 0)) := pS_in (pq_in (by have := mr_bal0 hI ha 0; have := mr_bal1 hI ha 0; omega))
theorem pS_dr (s : Nat → Int) (a wish : Nat) : -75 ≤ pd_dr s a wish ∧ pd_dr s a wish ≤ 6 := by
  have := mb_pop0 (mr_bst s a wish).toNat
  have := mb_pop6 (mr_bst s a wish).toNat
  unfold pd_dr
  split <;> omega
theorem WS_1 (H : ph_H X x S w2 b2 c m h) (hkd : kind < 46) (ha : a < 10) (p1 : pf_1 s (w2 1) kind a ri) (K : ∀ h, ph_H X x S w2 b2 c (m + 5) h → Φ (mv_run X (mv_call X (d + 12)) m_L_law 351 [.ref b0, .ref x, .ref (x + 376), .int v3, .int v4, .int v5, .long w6, .retAddr 0, .int v8, .int (nZ kind), .int (nZ a), .int (nZ (pq s a (mr_ho s a 0))), .int (nZ wish), .int (nZ (pd_dr s a wish)), .int (nZ (pd_wt s a wish)), .int (nZ (pq s a (mr_bal s a 0))), .int (nZ (pq s a (s (6 + 11 * a + 4)))), .int (nZ (mr_hr s).2), .int (nZ (mq_cnt s)), .int (nZ (s 4)), .int (nZ (s 3)), .int (nZ (s 2)), .int (nZ (s 1)), .int (nZ (s 0)), .int (nZ (s 5)), .int (nZ ri), .int v26, .int (nZ 1), j28, j29] [.int (nZ 1)] h)) : Φ (mv_run X (mv_call X (d + 12)) m_L_law 301 [.ref b0, .ref x, .ref (x + 376), .int v3, .int v4, .int v5, .long w6, .retAddr 0, .int v8, .int (nZ kind), .int (nZ a), .int (nZ (pq s a (mr_ho s a 0))), .int (nZ wish), .int (nZ (pd_dr s a wish)), .int (nZ (pd_wt s a wish)), .int (nZ (pq s a (mr_bal s a 0))), .int (nZ (pq s a (s (6 + 11 * a + 4)))), .int (nZ (mr_hr s).2), .int (nZ (mq_cnt s)), .int (nZ (s 4)), .int (nZ (s 3)), .int (nZ (s 2)), .int (nZ (s 1)), .int (nZ (s 0)), .int (nZ (s 5)), .int (nZ ri), .int v26, j27, j28, j29] [.int (nZ 1)] h) := by
  have kS : nS (kind : Int) := ⟨by omega, by omega⟩
  rw [bk_L_law_301, if_neg (by decide)]
  by_cases k8 : kind < 8
  · obtain ⟨e1, e2, e3⟩ := p1 k8
    rw [if_neg (zt_n (by decide) kS (by omega))]
    refine LP_height H ha fun h1 H1 => ?_
    rw [if_pos (congrArg nZ e1)]
    refine LD_balloonCount H1 ?_
    rw [nZ_add, if_pos (congrArg nZ e2)]
    refine LP_bagCount H1 ha fun h2 H2 => ?_
    rw [if_pos (z0_y e3), bk_L_law_346]
    exact K h2 (ph_mono (by omega) H2)
  · rw [if_pos (zt_y (by decide) kS (by omega)), bk_L_law_346]
    exact K h (ph_mono (by omega) H)
theorem WS_2 (H : ph_H X x S w2 b2 c m h) (hI : mr_I s) (hkd : kind < 46) (ha : a < 10) (hri : -78 ≤ ri ∧ ri ≤ 2000) (p2 : pf_2 s (w2 1) kind a ri) (K : ∀ h, ph_H X x S w2 b2 c (m + 5) h → Φ (mv_run X (mv_call X (d + 12)) m_L_law 436 [.ref b0, .ref x, .ref (x + 376), .int v3, .int v4, .int v5, .long w6, .retAddr 0, .int v8, .int (nZ kind), .int (nZ a), .int (nZ (pq s a (mr_ho s a 0))), .int (nZ wish), .int (nZ (pd_dr s a wish)), .int (nZ (pd_wt s a wish)), .int (nZ (pq s a (mr_bal s a 0))), .int (nZ (pq s a (s (6 + 11 * a + 4)))), .int (nZ (mr_hr s).2), .int (nZ (mq_cnt s)), .int (nZ (s 4)), .int (nZ (s 3)), .int (nZ (s 2)), .int (nZ (s 1)), .int (nZ (s 0)), .int (nZ (s 5)), .int (nZ ri), .int v26, .int (nZ 1), .int (nZ 1), j29] [.int (nZ 1), .int (nZ 1)] h)) : Φ (mv_run X (mv_call X (d + 12)) m_L_law 351 [.ref b0, .ref x, .ref (x + 376), .int v3, .int v4, .int v5, .long w6, .retAddr 0, .int v8, .int (nZ kind), .int (nZ a), .int (nZ (pq s a (mr_ho s a 0))), .int (nZ wish), .int (nZ (pd_dr s a wish)), .int (nZ (pd_wt s a wish)), .int (nZ (pq s a (mr_bal s a 0))), .int (nZ (pq s a (s (6 + 11 * a + 4)))), .int (nZ (mr_hr s).2), .int (nZ (mq_cnt s)), .int (nZ (s 4)), .int (nZ (s 3)), .int (nZ (s 2)), .int (nZ (s 1)), .int (nZ (s 0)), .int (nZ (s 5)), .int (nZ ri), .int v26, .int (nZ 1), j28, j29] [.int (nZ 1)] h) := by
  have kS : nS (kind : Int) := ⟨by omega, by omega⟩
  rw [bk_L_law_351, if_neg (by decide)]
  by_cases k1 : kind < 8
  · rw [if_pos (zt_y kS (by decide) (by omega)), bk_L_law_431]
    exact K h (ph_mono (by omega) H)
  rw [if_neg (zt_n kS (by decide) (by omega))]
  by_cases k2 : 19 < kind
  · rw [if_pos (zt_y (by decide) kS (by omega)), bk_L_law_431]
    exact K h (ph_mono (by omega) H)
  rw [if_neg (zt_n (by decide) kS (by omega))]
  obtain ⟨e1, e2, e3, e4, e5⟩ := p2 (by omega) (by omega)
  rw [if_neg (zl_n ⟨by omega, by omega⟩ (pS_bal hI ha) e1)]
  refine LP_ballast H ha fun h1 H1 => ?_
  rw [if_pos (congrArg nZ e2)]
  refine LP_bagCount H1 ha fun h2 H2 => ?_
  rw [nZ_add, if_pos (congrArg nZ e3)]
  refine LD_loaded H2 ?_
  rw [nZ_add, nZ_sub, if_pos (congrArg nZ e4)]
  refine LP_height H2 ha fun h3 H3 => ?_
  rw [if_neg (zt_n (pS_ho hI ha) (pS_ho (ph_I H).1 ha) e5), bk_L_law_431]
  exact K h3 (ph_mono (by omega) H3)
theorem WS_3 (H : ph_H X x S w2 b2 c m h) (hkd : kind < 46) (ha : a < 10) (p3 : pf_3 s (w2 1) kind a ri) (K : Φ (mv_run X (mv_call X (d + 12)) m_L_law 486 [.ref b0, .ref x, .ref (x + 376), .int v3, .int v4, .int v5, .long w6, .retAddr 0, .int v8, .int (nZ kind), .int (nZ a), .int (nZ (pq s a (mr_ho s a 0))), .int (nZ wish), .int (nZ (pd_dr s a wish)), .int (nZ (pd_wt s a wish)), .int (nZ (pq s a (mr_bal s a 0))), .int (nZ (pq s a (s (6 + 11 * a + 4)))), .int (nZ (mr_hr s).2), .int (nZ (mq_cnt s)), .int (nZ (s 4)), .int (nZ (s 3)), .int (nZ (s 2)), .int (nZ (s 1)), .int (nZ (s 0)), .int (nZ (s 5)), .int (nZ ri), .int v26, .int (nZ 1), .int (nZ 1), j29] [.int (nZ 1), .int (nZ 1)] h)) : Φ (mv_run X (mv_call X (d + 12)) m_L_law 436 [.ref b0, .ref x, .ref (x + 376), .int v3, .int v4, .int v5, .long w6, .retAddr 0, .int v8, .int (nZ kind), .int (nZ a), .int (nZ (pq s a (mr_ho s a 0))), .int (nZ wish), .int (nZ (pd_dr s a wish)), .int (nZ (pd_wt s a wish)), .int (nZ (pq s a (mr_bal s a 0))), .int (nZ (pq s a (s (6 + 11 * a + 4)))), .int (nZ (mr_hr s).2), .int (nZ (mq_cnt s)), .int (nZ (s 4)), .int (nZ (s 3)), .int (nZ (s 2)), .int (nZ (s 1)), .int (nZ (s 0)), .int (nZ (s 5)), .int (nZ ri), .int v26, .int (nZ 1), .int (nZ 1), j29] [.int (nZ 1), .int (nZ 1)] h) := by
  have kS : nS (kind : Int) := ⟨by omega, by omega⟩
  rw [bk_L_law_436, if_neg (by decide), n11]
  by_cases k1 : kind = 20
  · obtain ⟨e1, e2, e3⟩ := p3 k1
    rw [if_pos (by rw [k1]; rfl), if_pos (congrArg nZ e1)]
    refine LD_dropped H ?_
    rw [nZ_add, if_pos (congrArg nZ e2)]
    refine LP_isMoored H ha ?_
    rw [if_neg e3, if_pos (by decide), bk_L_law_481]
    exact K
  · rw [if_neg (ze_n kS (by decide) (by omega)), bk_L_law_481]
    exact K
theorem WS_4 (H : ph_H X x S w2 b2 c m h) (hI : mr_I s) (hkd : kind < 46) (ha : a < 10) (p4 : pf_4 s (w2 1) kind a ri) (K : ∀ h, ph_H X x S w2 b2 c (m + 5) h → Φ (mv_run X (mv_call X (d + 12)) m_L_law 552 [.ref b0, .ref x, .ref (x + 376), .int v3, .int v4, .int v5, .long w6, .retAddr 0, .int v8, .int (nZ kind), .int (nZ a), .int (nZ (pq s a (mr_ho s a 0))), .int (nZ wish), .int (nZ (pd_dr s a wish)), .int (nZ (pd_wt s a wish)), .int (nZ (pq s a (mr_bal s a 0))), .int (nZ (pq s a (s (6 + 11 * a + 4)))), .int (nZ (mr_hr s).2), .int (nZ (mq_cnt s)), .int (nZ (s 4)), .int (nZ (s 3)), .int (nZ (s 2)), .int (nZ (s 1)), .int (nZ (s 0)), .int (nZ (s 5)), .int (nZ ri), .int v26, .int (nZ 1), .int (nZ 1), j29] [.int (nZ 1), .int (nZ 1)] h)) : Φ (mv_run X (mv_call X (d + 12)) m_L_law 486 [.ref b0, .ref x, .ref (x + 376), .int v3, .int v4, .int v5, .long w6, .retAddr 0, .int v8, .int (nZ kind), .int (nZ a), .int (nZ (pq s a (mr_ho s a 0))), .int (nZ wish), .int (nZ (pd_dr s a wish)), .int (nZ (pd_wt s a wish)), .int (nZ (pq s a (mr_bal s a 0))), .int (nZ (pq s a (s (6 + 11 * a + 4)))), .int (nZ (mr_hr s).2), .int (nZ (mq_cnt s)), .int (nZ (s 4)), .int (nZ (s 3)), .int (nZ (s 2)), .int (nZ (s 1)), .int (nZ (s 0)), .int (nZ (s 5)), .int (nZ ri), .int v26, .int (nZ 1), .int (nZ 1), j29] [.int (nZ 1), .int (nZ 1)] h) := by
  have kS : nS (kind : Int) := ⟨by omega, by omega⟩
  rw [bk_L_law_486, if_neg (by decide), n11]
  by_cases k1 : kind < 21
  · rw [if_pos (zt_y kS (by decide) (by omega)), bk_L_law_547]
    exact K h (ph_mono (by omega) H)
  rw [if_neg (zt_n kS (by decide) (by omega))]
  by_cases k2 : 22 < kind
  · rw [if_pos (zt_y (by decide) kS (by omega)), bk_L_law_547]
    exact K h (ph_mono (by omega) H)
  rw [if_neg (zt_n (by decide) kS (by omega))]
  obtain ⟨e1, e2, e3⟩ := p4 (by omega) (by omega)
  refine LD_dropped H ?_
  rw [nZ_add, if_pos (congrArg nZ e1)]
  refine LP_ballast H ha fun h1 H1 => ?_
  rw [nZ_sub, if_pos (congrArg nZ e2)]
  refine LP_height H1 ha fun h2 H2 => ?_
  rw [if_neg (zt_n (pS_ho (ph_I H).1 ha) (pS_ho hI ha) e3), bk_L_law_547]
  exact K h2 (ph_mono (by omega) H2)
theorem WS_5 (H : ph_H X x S w2 b2 c m h) (hkd : kind < 46) (ha : a < 10) (hw : 1 ≤ wish ∧ wish ≤ 40) (p5 : pf_5 s (w2 1) kind a wish ri) (K : ∀ h, ph_H X x S w2 b2 c (m + 5) h → Φ (mv_run X (mv_call X (d + 12)) m_L_law 713 [.ref b0, .ref x, .ref (x + 376), .int v3, .int v4, .int v5, .long w6, .retAddr 0, .int v8, .int (nZ kind), .int (nZ a), .int (nZ (pq s a (mr_ho s a 0))), .int (nZ wish), .int (nZ (pd_dr s a wish)), .int (nZ (pd_wt s a wish)), .int (nZ (pq s a (mr_bal s a 0))), .int (nZ (pq s a (s (6 + 11 * a + 4)))), .int (nZ (mr_hr s).2), .int (nZ (mq_cnt s)), .int (nZ (s 4)), .int (nZ (s 3)), .int (nZ (s 2)), .int (nZ (s 1)), .int (nZ (s 0)), .int (nZ (s 5)), .int (nZ ri), .int v26, .int (nZ 1), .int (nZ 1), j29] [.int (nZ 1), .int (nZ 1)] h)) : Φ (mv_run X (mv_call X (d + 12)) m_L_law 552 [.ref b0, .ref x, .ref (x + 376), .int v3, .int v4, .int v5, .long w6, .retAddr 0, .int v8, .int (nZ kind), .int (nZ a), .int (nZ (pq s a (mr_ho s a 0))), .int (nZ wish), .int (nZ (pd_dr s a wish)), .int (nZ (pd_wt s a wish)), .int (nZ (pq s a (mr_bal s a 0))), .int (nZ (pq s a (s (6 + 11 * a + 4)))), .int (nZ (mr_hr s).2), .int (nZ (mq_cnt s)), .int (nZ (s 4)), .int (nZ (s 3)), .int (nZ (s 2)), .int (nZ (s 1)), .int (nZ (s 0)), .int (nZ (s 5)), .int (nZ ri), .int v26, .int (nZ 1), .int (nZ 1), j29] [.int (nZ 1), .int (nZ 1)] h) := by
  have kS : nS (kind : Int) := ⟨by omega, by omega⟩
  have dS := pS_dr s a wish
  rw [bk_L_law_552, n11]
  by_cases k1 : kind < 23
  · rw [if_pos (zt_y kS (by decide) (by omega)), bk_L_law_708]
    exact K h (ph_mono (by omega) H)
  rw [if_neg (zt_n kS (by decide) (by omega))]
  by_cases k2 : 27 < kind
  · rw [if_pos (zt_y (by decide) kS (by omega)), bk_L_law_708]
    exact K h (ph_mono (by omega) H)
  rw [if_neg (zt_n (by decide) kS (by omega)), if_neg (by decide)]
  obtain ⟨e1, e2, e3, e4, e5⟩ := p5 (by omega) (by omega)
  rw [if_pos (congrArg nZ e1), if_neg (by rw [nZ_le0 ⟨by omega, by omega⟩]; omega)]
  refine LD_dropped H ?_
  rw [nZ_add, if_pos (congrArg nZ e3)]
  refine LP_ballast H ha fun h1 H1 => ?_
  rw [nZ_sub, if_pos (congrArg nZ e4)]
  refine LP_height H1 ha fun h2 H2 => ?_
  rw [if_neg (zt_n (pS_ho (ph_I H).1 ha) ⟨by omega, by omega⟩ e5), bk_L_law_708]
  exact K h2 (ph_mono (by omega) H2)
theorem WS_6 (H : ph_H X x S w2 b2 c m h) (hkd : kind < 46) (p6 : pf_6 s (w2 1) kind ri) (K : Φ (mv_run X (mv_call X (d + 12)) m_L_law 760 [.ref b0, .ref x, .ref (x + 376), .int v3, .int v4, .int v5, .long w6, .retAddr 0, .int v8, .int (nZ kind), .int (nZ a), .int (nZ (pq s a (mr_ho s a 0))), .int (nZ wish), .int (nZ (pd_dr s a wish)), .int (nZ (pd_wt s a wish)), .int (nZ (pq s a (mr_bal s a 0))), .int (nZ (pq s a (s (6 + 11 * a + 4)))), .int (nZ (mr_hr s).2), .int (nZ (mq_cnt s)), .int (nZ (s 4)), .int (nZ (s 3)), .int (nZ (s 2)), .int (nZ (s 1)), .int (nZ (s 0)), .int (nZ (s 5)), .int (nZ ri), .int v26, .int (nZ 1), .int (nZ 1), j29] [.int (nZ 1), .int (nZ 1)] h)) : Φ (mv_run X (mv_call X (d + 12)) m_L_law 713 [.ref b0, .ref x, .ref (x + 376), .int v3, .int v4, .int v5, .long w6, .retAddr 0, .int v8, .int (nZ kind), .int (nZ a), .int (nZ (pq s a (mr_ho s a 0))), .int (nZ wish), .int (nZ (pd_dr s a wish)), .int (nZ (pd_wt s a wish)), .int (nZ (pq s a (mr_bal s a 0))), .int (nZ (pq s a (s (6 + 11 * a + 4)))), .int (nZ (mr_hr s).2), .int (nZ (mq_cnt s)), .int (nZ (s 4)), .int (nZ (s 3)), .int (nZ (s 2)), .int (nZ (s 1)), .int (nZ (s 0)), .int (nZ (s 5)), .int (nZ ri), .int v26, .int (nZ 1), .int (nZ 1), j29] [.int (nZ 1), .int (nZ 1)] h) := by
  have kS : nS (kind : Int) := ⟨by omega, by omega⟩
  rw [bk_L_law_713, if_neg (by decide), n11]
  by_cases k1 : kind < 32
  · rw [if_pos (zt_y kS (by decide) (by omega)), bk_L_law_755]
    exact K
  rw [if_neg (zt_n kS (by decide) (by omega))]
  by_cases k2 : 35 < kind
  · rw [if_pos (zt_y (by decide) kS (by omega)), bk_L_law_755]
    exact K
  rw [if_neg (zt_n (by decide) kS (by omega))]
  obtain ⟨e1, e2⟩ := p6 (by omega) (by omega)
  rw [if_pos (congrArg nZ e1)]
  refine LD_pilotCount H ?_
  rw [nZ_add, if_pos (congrArg nZ e2), bk_L_law_755]
  exact K
theorem WS_7a {v27 : Int32} (H : ph_H X x S w2 b2 c m h) (hkd : kind < 46) (p8 : kind ≤ 43 → w2 1 0 = s 0 ∧ w2 1 1 = s 1 ∧ w2 1 4 = s 4) (K : Φ (mv_run X (mv_call X (d + 12)) m_L_law 932 [.ref b0, .ref x, .ref (x + 376), .int v3, .int v4, .int v5, .long w6, .retAddr 0, .int v8, .int (nZ kind), .int (nZ a), .int (nZ (pq s a (mr_ho s a 0))), .int (nZ wish), .int (nZ (pd_dr s a wish)), .int (nZ (pd_wt s a wish)), .int (nZ (pq s a (mr_bal s a 0))), .int (nZ (pq s a (s (6 + 11 * a + 4)))), .int (nZ (mr_hr s).2), .int (nZ (mq_cnt s)), .int (nZ (s 4)), .int (nZ (s 3)), .int (nZ (s 2)), .int (nZ (s 1)), .int (nZ (s 0)), .int (nZ (s 5)), .int (nZ ri), .int v26, .int v27, .int (nZ 1), .int (nZ 0)] [.int (nZ 1), .int (nZ 1)] h)) : Φ (mv_run X (mv_call X (d + 12)) m_L_law 787 [.ref b0, .ref x, .ref (x + 376), .int v3, .int v4, .int v5, .long w6, .retAddr 0, .int v8, .int (nZ kind), .int (nZ a), .int (nZ (pq s a (mr_ho s a 0))), .int (nZ wish), .int (nZ (pd_dr s a wish)), .int (nZ (pd_wt s a wish)), .int (nZ (pq s a (mr_bal s a 0))), .int (nZ (pq s a (s (6 + 11 * a + 4)))), .int (nZ (mr_hr s).2), .int (nZ (mq_cnt s)), .int (nZ (s 4)), .int (nZ (s 3)), .int (nZ (s 2)), .int (nZ (s 1)), .int (nZ (s 0)), .int (nZ (s 5)), .int (nZ ri), .int v26, .int v27, .int (nZ 1), j29] [.int (nZ 0)] h) := by
  have kS : nS (kind : Int) := ⟨by omega, by omega⟩
  rw [bk_L_law_787, if_pos (by decide), bk_L_law_878, bk_L_law_883, if_pos (by decide), n11]
  by_cases k1 : 43 < kind
  · rw [if_pos (zt_y (by decide) kS (by omega)), bk_L_law_927]
    exact K
  · obtain ⟨e1, e2, e3⟩ := p8 (by omega)
    rw [if_neg (zt_n (by decide) kS (by omega))]
    refine LD_hour H ?_
    rw [if_pos (congrArg nZ e1)]
    refine LD_bursts H ?_
    rw [if_pos (congrArg nZ e2)]
    refine LD_lost H ?_
    rw [if_pos (congrArg nZ e3), bk_L_law_927]
    exact K
theorem WS_7 (H : ph_H X x S w2 b2 c m h) (hI : mr_I s) (hkd : kind < 46) (hs0 : s 0 ≤ 999999900) (hs4 : 0 ≤ s 4 ∧ s 4 ≤ 1000000000) (ht4 : 0 ≤ w2 1 4 ∧ w2 1 4 ≤ 1000000000) (hri : -78 ≤ ri ∧ ri ≤ 2000) (p7 : pf_7 s (w2 1) kind ri) (p8 : pf_8 s (w2 1) kind) (K : ∀ q : Int32, Φ (mv_run X (mv_call X (d + 12)) m_L_law 932 [.ref b0, .ref x, .ref (x + 376), .int v3, .int v4, .int v5, .long w6, .retAddr 0, .int v8, .int (nZ kind), .int (nZ a), .int (nZ (pq s a (mr_ho s a 0))), .int (nZ wish), .int (nZ (pd_dr s a wish)), .int (nZ (pd_wt s a wish)), .int (nZ (pq s a (mr_bal s a 0))), .int (nZ (pq s a (s (6 + 11 * a + 4)))), .int (nZ (mr_hr s).2), .int (nZ (mq_cnt s)), .int (nZ (s 4)), .int (nZ (s 3)), .int (nZ (s 2)), .int (nZ (s 1)), .int (nZ (s 0)), .int (nZ (s 5)), .int (nZ ri), .int v26, .int (nZ 1), .int (nZ 1), .int q] [.int (nZ 1), .int (nZ 1)] h)) : Φ (mv_run X (mv_call X (d + 12)) m_L_law 760 [.ref b0, .ref x, .ref (x + 376), .int v3, .int v4, .int v5, .long w6, .retAddr 0, .int v8, .int (nZ kind), .int (nZ a), .int (nZ (pq s a (mr_ho s a 0))), .int (nZ wish), .int (nZ (pd_dr s a wish)), .int (nZ (pd_wt s a wish)), .int (nZ (pq s a (mr_bal s a 0))), .int (nZ (pq s a (s (6 + 11 * a + 4)))), .int (nZ (mr_hr s).2), .int (nZ (mq_cnt s)), .int (nZ (s 4)), .int (nZ (s 3)), .int (nZ (s 2)), .int (nZ (s 1)), .int (nZ (s 0)), .int (nZ (s 5)), .int (nZ ri), .int v26, .int (nZ 1), .int (nZ 1), j29] [.int (nZ 1), .int (nZ 1)] h) := by
  have kS : nS (kind : Int) := ⟨by omega, by omega⟩
  have q0 := hI.hour
  have q1 := (ph_I H).1.hour
  have q2 := mr_hr_n hI (by omega)
  rw [bk_L_law_760, if_neg (by decide), n11]
  by_cases k1 : kind ≤ 36
  · rw [if_pos (zl_y kS (by decide) (by omega)), bk_L_law_786]
    exact WS_7a H hkd (fun _ => p8 (by omega)) (K _)
  rw [if_neg (zl_n kS (by decide) (by omega))]
  by_cases k2 : 44 ≤ kind
  · rw [if_pos (zl_y (by decide) kS (by omega)), bk_L_law_786]
    exact WS_7a H hkd (fun _ => by omega) (K _)
  obtain ⟨e1, e2, e3, e4, e5⟩ := p7 (by omega) (by omega)
  rw [if_neg (zl_n (by decide) kS (by omega)), bk_L_law_787, if_neg (by decide)]
  refine LD_bursts H ?_
  rw [nZ_add, if_pos (congrArg nZ e1)]
  refine LD_balloonCount H ?_
  rw [nZ_sub, if_pos (congrArg nZ e2)]
  refine LD_hour H ?_
  rw [if_neg (zl_n ⟨by omega, by omega⟩ ⟨by omega, by omega⟩ e3)]
  refine LD_lost H ?_
  rw [if_neg (zt_n ⟨by omega, by omega⟩ ⟨by omega, by omega⟩ e4)]
  refine LD_hour H ?_
  rw [nZ_add]
  rcases e5 with ⟨e5, e6⟩ | ⟨e5, e6⟩
  · rw [if_pos (congrArg nZ e5), bk_L_law_857, if_neg (zt_n ⟨by omega, by omega⟩ ⟨by omega, by omega⟩ (by omega))]
    refine LD_hour H ?_
    rw [nZ_add, if_neg (zt_n ⟨by omega, by omega⟩ ⟨by omega, by omega⟩ (by omega)), if_pos (congrArg nZ e6), bk_L_law_878, bk_L_law_883, if_neg (by decide), n11, bk_L_law_927]
    exact K _
  · rw [if_neg (ze_n ⟨by omega, by omega⟩ ⟨by omega, by omega⟩ (by omega)), bk_L_law_857, if_neg (zt_n ⟨by omega, by omega⟩ (by decide) e6)]
    refine LD_hour H ?_
    rw [nZ_add, if_pos (zt_y ⟨by omega, by omega⟩ ⟨by omega, by omega⟩ (by omega)), bk_L_law_878, bk_L_law_883, if_neg (by decide), n11, bk_L_law_927]
    exact K _
theorem WS_all (H : ph_H X x S w2 b2 c m h) (hI : mr_I s) (hkd : kind < 46) (ha : a < 10) (hw : 1 ≤ wish ∧ wish ≤ 40) (hs0 : s 0 ≤ 999999900) (hs4 : 0 ≤ s 4 ∧ s 4 ≤ 1000000000) (ht4 : 0 ≤ w2 1 4 ∧ w2 1 4 ≤ 1000000000) (hri : -78 ≤ ri ∧ ri ≤ 2000) (hY : pf_Y s (w2 1) kind a wish ri) (K : ∀ (q : Int32) (h : mv_H), ph_H X x S w2 b2 c (m + 20) h → Φ (mv_run X (mv_call X (d + 12)) m_L_law 932 [.ref b0, .ref x, .ref (x + 376), .int v3, .int v4, .int v5, .long w6, .retAddr 0, .int v8, .int (nZ kind), .int (nZ a), .int (nZ (pq s a (mr_ho s a 0))), .int (nZ wish), .int (nZ (pd_dr s a wish)), .int (nZ (pd_wt s a wish)), .int (nZ (pq s a (mr_bal s a 0))), .int (nZ (pq s a (s (6 + 11 * a + 4)))), .int (nZ (mr_hr s).2), .int (nZ (mq_cnt s)), .int (nZ (s 4)), .int (nZ (s 3)), .int (nZ (s 2)), .int (nZ (s 1)), .int (nZ (s 0)), .int (nZ (s 5)), .int (nZ ri), .int v26, .int (nZ 1), .int (nZ 1), .int q] [.int (nZ 1), .int (nZ 1)] h)) : Φ (mv_run X (mv_call X (d + 12)) m_L_law 301 [.ref b0, .ref x, .ref (x + 376), .int v3, .int v4, .int v5, .long w6, .retAddr 0, .int v8, .int (nZ kind), .int (nZ a), .int (nZ (pq s a (mr_ho s a 0))), .int (nZ wish), .int (nZ (pd_dr s a wish)), .int (nZ (pd_wt s a wish)), .int (nZ (pq s a (mr_bal s a 0))), .int (nZ (pq s a (s (6 + 11 * a + 4)))), .int (nZ (mr_hr s).2), .int (nZ (mq_cnt s)), .int (nZ (s 4)), .int (nZ (s 3)), .int (nZ (s 2)), .int (nZ (s 1)), .int (nZ (s 0)), .int (nZ (s 5)), .int (nZ ri), .int v26, j27, j28, j29] [.int (nZ 1)] h) := by
  obtain ⟨p1, p2, p3, p4, p5, p6, p7, p8⟩ := hY
  refine WS_1 H hkd ha p1 fun h1 H1 => ?_
  refine WS_2 H1 hI hkd ha hri p2 fun h2 H2 => ?_
  refine WS_3 H2 hkd ha p3 ?_
  refine WS_4 H2 hI hkd ha p4 fun h3 H3 => ?_
  refine WS_5 H3 hkd ha hw p5 fun h4 H4 => ?_
  refine WS_6 H4 hkd p6 ?_
  exact WS_7 H4 hI hkd hs0 hs4 ht4 hri p7 p8 fun q => K q h4 (ph_mono (by omega) H4)
theorem WF_552 (H : ph_H X x S w2 b2 c m h) (hI : mr_I s) (hkd : kind < 46) (ha : a < 10) (hw : 1 ≤ wish ∧ wish ≤ 40) (hri : -78 ≤ ri ∧ ri ≤ 2000) (p5 : pf_5n s kind a wish (w2 0 19) (w2 0 20) ri) (K : Φ (mv_run X (mv_call X (d + 12)) m_L_law 713 [.ref b0, .ref x, .ref (x + 376), .int v3, .int v4, .int v5, .long w6, .retAddr 0, .int v8, .int (nZ kind), .int (nZ a), .int (nZ (pq s a (mr_ho s a 0))), .int (nZ wish), .int (nZ (pd_dr s a wish)), .int (nZ (pd_wt s a wish)), .int (nZ (pq s a (mr_bal s a 0))), .int (nZ (pq s a (s (6 + 11 * a + 4)))), .int (nZ (mr_hr s).2), .int (nZ (mq_cnt s)), .int (nZ (s 4)), .int (nZ (s 3)), .int (nZ (s 2)), .int (nZ (s 1)), .int (nZ (s 0)), .int (nZ (s 5)), .int (nZ ri), .int v26, .int (nZ 0), .int (nZ 1), j29] [.int (nZ 1), .int (nZ 1)] h)) : Φ (mv_run X (mv_call X (d + 12)) m_L_law 552 [.ref b0, .ref x, .ref (x + 376), .int v3, .int v4, .int v5, .long w6, .retAddr 0, .int v8, .int (nZ kind), .int (nZ a), .int (nZ (pq s a (mr_ho s a 0))), .int (nZ wish), .int (nZ (pd_dr s a wish)), .int (nZ (pd_wt s a wish)), .int (nZ (pq s a (mr_bal s a 0))), .int (nZ (pq s a (s (6 + 11 * a + 4)))), .int (nZ (mr_hr s).2), .int (nZ (mq_cnt s)), .int (nZ (s 4)), .int (nZ (s 3)), .int (nZ (s 2)), .int (nZ (s 1)), .int (nZ (s 0)), .int (nZ (s 5)), .int (nZ ri), .int v26, .int (nZ 0), .int (nZ 1), j29] [.int (nZ 1), .int (nZ 1)] h) := by
  have kS : nS (kind : Int) := ⟨by omega, by omega⟩
  have dS := pS_dr s a wish
  rw [bk_L_law_552, n11]
  by_cases k1 : kind < 23
  · rw [if_pos (zt_y kS (by decide) (by omega)), bk_L_law_708]
    exact K
  rw [if_neg (zt_n kS (by decide) (by omega))]
  by_cases k2 : 27 < kind
  · rw [if_pos (zt_y (by decide) kS (by omega)), bk_L_law_708]
    exact K
  rw [if_neg (zt_n (by decide) kS (by omega)), if_pos (by decide)]
  rcases p5 (by omega) (by omega) with ⟨e1, e2⟩ | ⟨e1, e2⟩
  · rw [if_pos (congrArg nZ e1), if_pos (congrArg nZ e2), bk_L_law_708]
    exact K
  · rw [if_neg (ze_n ⟨by omega, by omega⟩ (by decide) (by omega)), if_pos (congrArg nZ e1)]
    rcases e2 with ⟨f1, f2, f3, f4⟩ | ⟨f1, f2, f3, f4⟩
    · refine LP_denial H (by omega) ?_
      rw [if_pos (congrArg nZ f1), if_neg (zt_n (pS_ho hI ha) ⟨by omega, by omega⟩ f2)]
      refine LP_denialDetail H (by omega) ?_
      rw [if_pos (congrArg nZ f3), if_pos (z0_y f4), bk_L_law_708]
      exact K
    · refine LP_denial H (by omega) ?_
      rw [if_neg (ze_n (by rw [f1]; decide) (by decide) (by omega))]
      refine LP_denial H (by omega) ?_
      rw [if_pos (congrArg nZ f1), if_pos (congrArg nZ f2)]
      refine LP_denialDetail H (by omega) ?_
      rw [if_neg (zl_n ⟨by omega, by omega⟩ f4 f3), bk_L_law_708]
      exact K
theorem WF_all (H : ph_H X x S w2 b2 c m h) (hI : mr_I s) (hkd : kind < 46) (ha : a < 10) (hw : 1 ≤ wish ∧ wish ≤ 40) (hri : -78 ≤ ri ∧ ri ≤ 2000) (p5 : pf_5n s kind a wish (w2 0 19) (w2 0 20) ri) (hs : w2 1 = s) (K : Φ (mv_run X (mv_call X (d + 12)) m_L_law 932 [.ref b0, .ref x, .ref (x + 376), .int v3, .int v4, .int v5, .long w6, .retAddr 0, .int v8, .int (nZ kind), .int (nZ a), .int (nZ (pq s a (mr_ho s a 0))), .int (nZ wish), .int (nZ (pd_dr s a wish)), .int (nZ (pd_wt s a wish)), .int (nZ (pq s a (mr_bal s a 0))), .int (nZ (pq s a (s (6 + 11 * a + 4)))), .int (nZ (mr_hr s).2), .int (nZ (mq_cnt s)), .int (nZ (s 4)), .int (nZ (s 3)), .int (nZ (s 2)), .int (nZ (s 1)), .int (nZ (s 0)), .int (nZ (s 5)), .int (nZ ri), .int v26, .int (nZ 0), .int (nZ 1), .int (nZ 0)] [.int (nZ 1), .int (nZ 1)] h)) : Φ (mv_run X (mv_call X (d + 12)) m_L_law 301 [.ref b0, .ref x, .ref (x + 376), .int v3, .int v4, .int v5, .long w6, .retAddr 0, .int v8, .int (nZ kind), .int (nZ a), .int (nZ (pq s a (mr_ho s a 0))), .int (nZ wish), .int (nZ (pd_dr s a wish)), .int (nZ (pd_wt s a wish)), .int (nZ (pq s a (mr_bal s a 0))), .int (nZ (pq s a (s (6 + 11 * a + 4)))), .int (nZ (mr_hr s).2), .int (nZ (mq_cnt s)), .int (nZ (s 4)), .int (nZ (s 3)), .int (nZ (s 2)), .int (nZ (s 1)), .int (nZ (s 0)), .int (nZ (s 5)), .int (nZ ri), .int v26, j27, j28, j29] [.int (nZ 0)] h) := by
  rw [bk_L_law_301, if_pos (by decide), bk_L_law_346, bk_L_law_351, if_pos (by decide), bk_L_law_431, bk_L_law_436, if_pos (by decide), n11, bk_L_law_481, bk_L_law_486, if_pos (by decide), n11, bk_L_law_547]
  refine WF_552 H hI hkd ha hw hri p5 ?_
  rw [bk_L_law_713, if_pos (by decide), n11, bk_L_law_755, bk_L_law_760, if_pos (by decide), n11, bk_L_law_786]
  exact WS_7a H hkd (fun _ => by rw [hs]; exact ⟨rfl, rfl, rfl⟩) K
end CHK
