/-! THE LAW'S isWhole -/
section IWHL
variable {X : mv_X} {x b0 : Nat} {S : Nat → Int} {w : mz_V} {b B : Int} {c : Nat × Nat} {m M : Nat} {h h1 : mv_H} {d a p y : Nat} {Φ : Option mv_R → Prop} {g : Nat → Nat → mv_H → Option mv_R} {f : Int32 → mv_H → Option mv_R} {t : Nat} {k : Int} {q : Int32} {V0 : Value}
theorem IW_129 (hS : pX_X X x b0) (hk : 0 ≤ k ∧ k ≤ 1000) (ha : a < 10) (hh : w 1 (6 + 11 * a) = 1) (v4 v5 v6 v7 : Int32) (hH : ph_H X x S w b c m h) (K : ∀ h, ph_H X x S w b c (m + 250) h → pt X x S w b c M V0 (mv_run X (mv_call X (d + 11)) m_L_isWhole 151 [.ref x, .ref b0, .int (nZ k), .int q, .int v4, .int v5, .int v6, .int v7, .int (nZ a), .int (nZ 10), .retAddr 0, .retAddr 0, .retAddr 0, .retAddr 0, .retAddr 0, .retAddr 0] [] h)) : pt X x S w b c M V0 (mv_run X (mv_call X (d + 11)) m_L_isWhole 129 [.ref x, .ref b0, .int (nZ k), .int q, .int v4, .int v5, .int v6, .int v7, .int (nZ a), .int (nZ 10), .retAddr 0, .retAddr 0, .retAddr 0, .retAddr 0, .retAddr 0, .retAddr 0] [] h) := by
  rw [bk_L_isWhole_129, nZ_add]
  refine LP_pick hS hH (by omega) (by omega) fun r hr => ?_
  rw [nZ_add, show (1 : Int) + (r : Int) = ((r + 1 : Nat) : Int) by omega]
  refine LP_isBalloon hH ha hh (by omega) fun h1 H1 => ?_
  rw [if_neg (by decide)]
  exact K h1 H1
theorem IW_63 (hS : pX_X X x b0) (hk : 0 ≤ k ∧ k ≤ 1000) (ha : a < 10) (hh : w 1 (6 + 11 * a) = 1) (v4 v5 v6 : Int32) {N : Nat} : ∀ (i j m : Nat) (e : Int) (h : mv_H), ph_H X x S w b c m h → m + 2 * i + 250 ≤ N → j + i = 10 → (∀ h, ph_H X x S w b c N h → pt X x S w b c M V0 (mv_run X (mv_call X (d + 11)) m_L_isWhole 151 [.ref x, .ref b0, .int (nZ k), .int q, .int v4, .int v5, .int v6, .int (nZ (e + ml_c (mr_top (w 1) a) (ml_t (w 1) j i))), .int (nZ a), .int (nZ 10), .retAddr 0, .retAddr 0, .retAddr 0, .retAddr 0, .retAddr 0, .retAddr 0] [] h)) → pt X x S w b c M V0 (mv_run X (mv_call X (d + 11)) m_L_isWhole 63 [.ref x, .ref b0, .int (nZ k), .int q, .int v4, .int v5, .int v6, .int (nZ e), .int (nZ a), .int (nZ j), .retAddr 0, .retAddr 0, .retAddr 0, .retAddr 0, .retAddr 0, .retAddr 0] [] h)
  | 0, j, m, e, h, hH, hN, hj, K => by
    have ej : (j : Int) = 10 := by omega
    rw [ej, bk_L_isWhole_63, if_pos (Int32.le_refl _)]
    have ee : e + ml_c (mr_top (w 1) a) (ml_t (w 1) j 0) = e := by
      show e + 0 = e
      omega
    rw [ee] at K
    by_cases c1 : q = 0
    · rw [if_pos c1, nZ_add]
      refine LP_pick hS hH (by omega) (by omega) fun r hr => ?_
      by_cases c2 : nZ (a : Nat) = nZ (r : Nat)
      · rw [if_pos c2]
        exact IW_129 hS hk ha hh v4 v5 v6 (nZ e) hH fun h1 H1 => K h1 (ph_mono (by omega) H1)
      · rw [if_neg c2]
        exact K h (ph_mono (by omega) hH)
    · rw [if_neg c1]
      exact IW_129 hS hk ha hh v4 v5 v6 (nZ e) hH fun h1 H1 => K h1 (ph_mono (by omega) H1)
  | i + 1, j, m, e, h, hH, hN, hj, K => by
    have hI := (ph_I hH).1
    have t1 := mr_top_in hI ha
    have t2 := mr_top_in hI (show j < 10 by omega)
    rw [bk_L_isWhole_63, if_neg (by rw [nZ_le ⟨by omega, by omega⟩ ⟨by omega, by omega⟩]; omega)]
    refine LP_isMoored hH (by omega) ?_
    by_cases c1 : w 1 (6 + 11 * j) = 1
    · rw [if_pos c1, if_pos rfl]
      refine LP_top hH ha fun h1 H1 => ?_
      rw [if_pos hh]
      refine LP_top H1 (by omega) fun h2 H2 => ?_
      rw [if_pos c1]
      have et : ml_t (w 1) j (i + 1) = mr_top (w 1) j :: ml_t (w 1) (j + 1) i := if_pos c1
      rw [et] at K
      by_cases c2 : mr_top (w 1) a ≤ mr_top (w 1) j
      · rw [if_pos ((nZ_le ⟨by omega, by omega⟩ ⟨by omega, by omega⟩).mpr c2), bk_L_isWhole_101, bk_L_isWhole_102, nZ_add, nZ_add, ← nc1]
        refine IW_63 hS hk ha hh v4 v5 v6 (N := N) i (j + 1) (m + 1 + 1) _ h2 H2 (by omega) (by omega) fun h3 H3 => ?_
        have eK : e + 0 + ml_c (mr_top (w 1) a) (ml_t (w 1) (j + 1) i) = e + ml_c (mr_top (w 1) a) (mr_top (w 1) j :: ml_t (w 1) (j + 1) i) := by
          show _ = e + ((if mr_top (w 1) j < mr_top (w 1) a then 1 else 0) + ml_c (mr_top (w 1) a) (ml_t (w 1) (j + 1) i))
          rw [if_neg (by omega)]
          omega
        rw [eK]
        exact K h3 H3
      · rw [if_neg (by rw [nZ_le ⟨by omega, by omega⟩ ⟨by omega, by omega⟩]; exact c2), bk_L_isWhole_102, nZ_add, nZ_add, ← nc1]
        refine IW_63 hS hk ha hh v4 v5 v6 (N := N) i (j + 1) (m + 1 + 1) _ h2 H2 (by omega) (by omega) fun h3 H3 => ?_
        have eK : e + 1 + ml_c (mr_top (w 1) a) (ml_t (w 1) (j + 1) i) = e + ml_c (mr_top (w 1) a) (mr_top (w 1) j :: ml_t (w 1) (j + 1) i) := by
          show _ = e + ((if mr_top (w 1) j < mr_top (w 1) a then 1 else 0) + ml_c (mr_top (w 1) a) (ml_t (w 1) (j + 1) i))
          rw [if_pos (by omega)]
          omega
        rw [eK]
        exact K h3 H3
    · rw [if_neg c1, if_neg (by decide), bk_L_isWhole_101, bk_L_isWhole_102, nZ_add, nZ_add, ← nc1]
      have et : ml_t (w 1) j (i + 1) = ml_t (w 1) (j + 1) i := if_neg c1
      rw [et] at K
      refine IW_63 hS hk ha hh v4 v5 v6 (N := N) i (j + 1) m _ h hH (by omega) (by omega) fun h3 H3 => ?_
      rw [show e + 0 = e by omega]
      exact K h3 H3
theorem IW_15 (hS : pX_X X x b0) (hk : 0 ≤ k ∧ k ≤ 1000) {N : Nat} : ∀ (i a m : Nat) (e : Int) (j9 : Value) (h : mv_H), ph_H X x S w b c m h → m + 200 * i + 100 * i ≤ N → a + i = 10 → (∀ (j9 : Value) (h : mv_H), ph_H X x S w b c N h → pt X x S w b c M V0 (mv_run X (mv_call X (d + 11)) m_L_isWhole 160 [.ref x, .ref b0, .int (nZ k), .int q, .int (nZ (mq_cnt (w 1))), .int (nZ (mq_wgt (w 1))), .int (nZ (mq_hgt (w 1))), .int (nZ (e + ml_i (ml_t (w 1) a i))), .int (nZ 1), j9, .retAddr 0, .retAddr 0, .retAddr 0, .retAddr 0, .retAddr 0, .retAddr 0] [] h)) → pt X x S w b c M V0 (mv_run X (mv_call X (d + 11)) m_L_isWhole 15 [.ref x, .ref b0, .int (nZ k), .int q, .int (nZ (mz_s (fun b => w 1 (6 + 11 * b)) a)), .int (nZ (mz_s (fun b => mr_bal (w 1) b 0) a)), .int (nZ (mz_s (fun b => if w 1 (6 + 11 * b) = 1 then mr_ho (w 1) b 0 else 0) a)), .int (nZ e), .int (nZ a), j9, .retAddr 0, .retAddr 0, .retAddr 0, .retAddr 0, .retAddr 0, .retAddr 0] [] h)
  | 0, a, m, e, j9, h, hH, hM, ha, K => by
    have ea : a = 10 := by omega
    subst ea
    rw [bk_L_isWhole_15, if_pos ((nZ_le ⟨by omega, by omega⟩ ⟨by omega, by omega⟩).mpr (by omega))]
    have ee : e + ml_i (ml_t (w 1) 10 0) = e := by
      show e + 0 = e
      omega
    rw [ee] at K
    exact K j9 h (ph_mono (by omega) hH)
  | i + 1, a, m, e, j9, h, hH, hM, ha, K => by
    obtain ⟨N1, hN1, hN2⟩ : ∃ N1 : Nat, m + 1 + 1 + 2 * i + 250 ≤ N1 ∧ N1 + 200 * i + 100 * i ≤ N := ⟨m + 280, by omega, by omega⟩
    have hI := (ph_I hH).1
    have hN := ph_N hH
    rw [bk_L_isWhole_15, if_neg (by rw [nZ_le ⟨by omega, by omega⟩ ⟨by omega, by omega⟩]; omega)]
    refine LP_isMoored hH (by omega) ?_
    by_cases c1 : w 1 (6 + 11 * a) = 1
    · rw [if_pos c1, if_pos rfl]
      refine LP_ballast hH (by omega) fun h1 H1 => ?_
      refine LP_height H1 (by omega) fun h2 H2 => ?_
      rw [if_pos c1, if_pos c1, nZ_add, nZ_add, nZ_add, nZ_add, ← nc1]
      refine IW_63 hS hk (by omega) c1 _ _ _ (N := N1) i (a + 1) (m + 1 + 1) e h2 H2 hN1 (by omega) fun h3 H3 => ?_
      rw [bk_L_isWhole_151, nZ_add, ← nc1]
      have e1 : mz_s (fun b => w 1 (6 + 11 * b)) a + 1 = mz_s (fun b => w 1 (6 + 11 * b)) (a + 1) := by
        show _ = mz_s (fun b => w 1 (6 + 11 * b)) a + w 1 (6 + 11 * a)
        rw [c1]
      have e2 : mz_s (fun b => mr_bal (w 1) b 0) a + mr_bal (w 1) a 0 = mz_s (fun b => mr_bal (w 1) b 0) (a + 1) := rfl
      have e3 : mz_s (fun b => if w 1 (6 + 11 * b) = 1 then mr_ho (w 1) b 0 else 0) a + mr_ho (w 1) a 0 = mz_s (fun b => if w 1 (6 + 11 * b) = 1 then mr_ho (w 1) b 0 else 0) (a + 1) := by
        show _ = mz_s (fun b => if w 1 (6 + 11 * b) = 1 then mr_ho (w 1) b 0 else 0) a + (if w 1 (6 + 11 * a) = 1 then mr_ho (w 1) a 0 else 0)
        rw [if_pos c1]
      have et : ml_t (w 1) a (i + 1) = mr_top (w 1) a :: ml_t (w 1) (a + 1) i := if_pos c1
      rw [e1, e2, e3]
      refine IW_15 hS hk (N := N) i (a + 1) N1 _ _ h3 H3 hN2 (by omega) fun j h4 H4 => ?_
      have eK : e + ml_c (mr_top (w 1) a) (ml_t (w 1) (a + 1) i) + ml_i (ml_t (w 1) (a + 1) i) = e + ml_i (ml_t (w 1) a (i + 1)) := by
        rw [et]
        show _ = e + (ml_c (mr_top (w 1) a) (ml_t (w 1) (a + 1) i) + ml_i (ml_t (w 1) (a + 1) i))
        omega
      rw [eK]
      exact K j h4 H4
    · have c0 : w 1 (6 + 11 * a) = 0 := by have := hI.here (show a < 10 by omega); omega
      rw [if_neg c1, if_neg (by decide), bk_L_isWhole_151, nZ_add, ← nc1]
      have e1 : mz_s (fun b => w 1 (6 + 11 * b)) a = mz_s (fun b => w 1 (6 + 11 * b)) (a + 1) := by
        show _ = mz_s (fun b => w 1 (6 + 11 * b)) a + w 1 (6 + 11 * a)
        rw [c0]
        omega
      have e2 : mz_s (fun b => mr_bal (w 1) b 0) a = mz_s (fun b => mr_bal (w 1) b 0) (a + 1) := by
        show _ = mz_s (fun b => mr_bal (w 1) b 0) a + mr_bal (w 1) a 0
        rw [pn_bal_0 hN (by omega) c0]
        omega
      have e3 : mz_s (fun b => if w 1 (6 + 11 * b) = 1 then mr_ho (w 1) b 0 else 0) a = mz_s (fun b => if w 1 (6 + 11 * b) = 1 then mr_ho (w 1) b 0 else 0) (a + 1) := by
        show _ = mz_s (fun b => if w 1 (6 + 11 * b) = 1 then mr_ho (w 1) b 0 else 0) a + (if w 1 (6 + 11 * a) = 1 then mr_ho (w 1) a 0 else 0)
        rw [if_neg c1]
        omega
      have et : ml_t (w 1) a (i + 1) = ml_t (w 1) (a + 1) i := if_neg c1
      rw [e1, e2, e3]
      rw [et] at K
      exact IW_15 hS hk (N := N) i (a + 1) m _ _ h hH (by omega) (by omega) fun j h4 H4 => K j h4 H4
/-- the end: the sums -/
theorem IW_495 (hH : ph_H X x S w b c m h) (hm : m + 10 ≤ M) (hb : b ≤ 999999900) (v8 v9 v10 v11 v12 : Int32) : pt X x S w b c M (.int (nZ 1)) (mv_run X (mv_call X (d + 11)) m_L_isWhole 495 [.ref x, .ref b0, .int (nZ k), .int q, .int (nZ (mq_cnt (w 1))), .int (nZ (mq_wgt (w 1))), .int (nZ (mq_hgt (w 1))), .int (nZ (mq_tgl (w 1))), .int v8, .int v9, .int v10, .int v11, .int v12, .int (nZ 1), .int (nZ 1), .retAddr 0] [.int (nZ 1)] h) := by
  have hI := (ph_I hH).1
  have h0 := (ph_I hH).2.1
  have q1 := mq_cnt_in hI
  have q2 := hI.pil
  have q3 := pn_ahead hI (by omega)
  rw [bk_L_isWhole_495, if_neg (by decide), if_neg (by decide), if_neg (by decide)]
  refine LD_tangles hH fun h1 H1 => ?_
  rw [if_pos rfl]
  refine LD_tanglesByMerging H1 fun h2 H2 => ?_
  rw [if_pos rfl]
  refine LD_balloonCount H2 ?_
  rw [if_pos rfl]
  obtain ⟨n, hn⟩ : ∃ n : Nat, mq_cnt (w 1) = (n : Int) := ⟨(mq_cnt (w 1)).toNat, by omega⟩
  have hr := pr_end hI
  rw [hn] at hr ⊢
  refine LP_berthByHeight H2 (by omega) fun h3 H3 => ?_
  rw [if_neg (show ¬ mq_rnk (w 1) (n : Int) 10 0 ≠ -1 from fun z => z hr), if_pos rfl]
  refine LD_pilotCount H3 ?_
  rw [if_neg (by rw [nZ_lt ⟨by omega, by omega⟩ ⟨by omega, by omega⟩]; omega)]
  refine LD_burstsAhead H3 hb fun h4 H4 => ?_
  rw [if_neg (by rw [nZ_lt ⟨by omega, by omega⟩ ⟨by omega, by omega⟩]; omega), bk_L_isWhole_573, nZ_ok6 (by decide) (by decide)]
  exact pt_ret H4 (by omega)
theorem IW_434 (hH : ph_H X x S w b c m h) (hm : m + 12 ≤ M) (hb : b ≤ 999999900) (hJ : pn_J (w 1) B) (v8 v9 v10 v11 v12 : Int32) : pt X x S w b c M (.int (nZ 1)) (mv_run X (mv_call X (d + 11)) m_L_isWhole 434 [.ref x, .ref b0, .int (nZ k), .int q, .int (nZ (mq_cnt (w 1))), .int (nZ (mq_wgt (w 1))), .int (nZ (mq_hgt (w 1))), .int (nZ (mq_tgl (w 1))), .int v8, .int v9, .int v10, .int v11, .int v12, .int (nZ 1), .retAddr 0, .retAddr 0] [.int (nZ 1)] h) := by
  have hI := (ph_I hH).1
  have q1 := mq_cnt_in hI
  have q2 := mq_hgt_in hI
  rw [bk_L_isWhole_434]
  refine LD_aboard hH ?_
  rw [if_pos rfl]
  refine LD_loaded hH ?_
  refine LD_dropped hH ?_
  refine LD_lost hH ?_
  rw [nZ_add, nZ_add, if_pos (by rw [hJ.1])]
  refine LP_meanHeight hH fun h1 H1 => ?_
  by_cases c1 : mq_cnt (w 1) = 0
  · rw [if_pos c1, if_pos (by rw [c1]; rfl), bk_L_isWhole_486, if_pos pf_74]
    exact IW_495 H1 (by omega) hb v8 v9 v10 v11 v12
  · obtain ⟨e1, e2⟩ := mq_dd q2 (⟨by omega, q1.2⟩ : 1 ≤ mq_cnt (w 1) ∧ mq_cnt (w 1) ≤ 10)
    have e3 : Op.cmpValue (FP.dcmp (mq_mean (w 1)) (FP.ddiv (FP.i2d (nZ (mq_hgt (w 1)))) (FP.i2d (nZ (mq_cnt (w 1)))))) .l = 0 := e2
    rw [if_neg c1, if_neg (by rw [nZ_eq0 ⟨by omega, by omega⟩]; exact c1), mv_chk_t (decide_eq_true e1), bk_L_isWhole_486, if_pos e3]
    exact IW_495 H1 (by omega) hb v8 v9 v10 v11 v12
theorem IW_383 (hH : ph_H X x S w b c m h) (hm : m + 12 ≤ M) (hb : b ≤ 999999900) (hJ : pn_J (w 1) B) (hy : y < 10) {z : Int} (hz : z = if y = 0 then 0 else mq_clm (w 1) ((y : Int) - 1)) (v11 v12 : Int32) : pt X x S w b c M (.int (nZ 1)) (mv_run X (mv_call X (d + 11)) m_L_isWhole 383 [.ref x, .ref b0, .int (nZ k), .int q, .int (nZ (mq_cnt (w 1))), .int (nZ (mq_wgt (w 1))), .int (nZ (mq_hgt (w 1))), .int (nZ (mq_tgl (w 1))), .int (nZ y), .int (nZ (mq_clm (w 1) y)), .int (nZ z), .int v11, .int v12, .retAddr 0, .retAddr 0, .retAddr 0] [.int (nZ 1)] h) := by
  obtain ⟨e1, e2, e3⟩ := pw_clm (s := w 1) (y : Int)
  have e4 := (pw_clm (s := w 1) ((y : Int) - 1)).2
  have e5 := pw_clm9 (ph_I hH).1
  have hz1 : 0 ≤ z ∧ z ≤ mq_clm (w 1) y := by
    rw [hz]
    split <;> omega
  rw [bk_L_isWhole_383]
  refine LP_longestCalmByTrying hH hy ?_
  rw [if_pos rfl, if_neg (by rw [nZ_lt ⟨by omega, by omega⟩ ⟨by omega, by omega⟩]; omega), if_neg (by rw [nZ_lt0 ⟨by omega, by omega⟩]; omega), if_neg (by rw [nZ_lt ⟨by omega, by omega⟩ ⟨by omega, by omega⟩]; omega)]
  by_cases c1 : y < 9
  · rw [if_pos ((nZ_lt ⟨by omega, by omega⟩ ⟨by omega, by omega⟩).mpr (by omega)), bk_L_isWhole_429]
    exact IW_434 hH hm hb hJ _ _ _ v11 v12
  · have ey : (y : Int) = 9 := by omega
    rw [if_neg (by rw [nZ_lt ⟨by omega, by omega⟩ ⟨by omega, by omega⟩]; omega), if_pos (by rw [ey, e5]), bk_L_isWhole_429]
    exact IW_434 hH hm hb hJ _ _ _ v11 v12
theorem IW_304 (hb : b ≤ 999999900) (hJ : pn_J (w 1) B) (hy : y < 10) {z : Int} (hz : z = if y = 0 then 0 else mq_clm (w 1) ((y : Int) - 1)) : ∀ (i p : Nat) (h : mv_H), ph_H X x S w b c m h → m + 20 ≤ M → (p : Int) + i = w 1 5 → pt X x S w b c M (.int (nZ 1)) (mv_run X (mv_call X (d + 11)) m_L_isWhole 304 [.ref x, .ref b0, .int (nZ k), .int q, .int (nZ (mq_cnt (w 1))), .int (nZ (mq_wgt (w 1))), .int (nZ (mq_hgt (w 1))), .int (nZ (mq_tgl (w 1))), .int (nZ y), .int (nZ (mq_clm (w 1) y)), .int (nZ z), .int (nZ (pw_on (w 1) p)), .int (nZ p), .retAddr 0, .retAddr 0, .retAddr 0] [] h)
  | 0, p, h, hH, hm, hp => by
    have hI := (ph_I hH).1
    have hN := ph_N hH
    have ep : (w 1 5).toNat = p := by omega
    have q5 := hI.pil
    rw [bk_L_isWhole_304]
    refine LD_pilotCount hH ?_
    rw [if_pos ((nZ_le ⟨by omega, by omega⟩ ⟨by omega, by omega⟩).mpr (by omega))]
    by_cases c1 : q = 0
    · rw [if_pos c1, bk_L_isWhole_349, if_pos c1, bk_L_isWhole_378]
      exact IW_383 hH (by omega) hb hJ hy hz _ _
    · obtain ⟨N, hE⟩ := pw_ex (cw_E (w 1))
      obtain ⟨n1, n2⟩ := pw_le hN hE
      rw [ep] at n1
      have q1 := mq_cnt_in hI
      have n3 : 0 ≤ N := by
        obtain ⟨⟨T, -, -, e⟩, -⟩ := hE
        rw [← e]
        exact mb_pop0 T
      have n4 : pw_on (w 1) p ≤ 6 := by
        have := mz_s_b (f := fun p => if mq_on (w 1) p (w 1 0 % 24) = true then (1 : Int) else 0) (c := 1) (n := p) fun i hi => by
          show (if mq_on (w 1) i (w 1 0 % 24) = true then (1 : Int) else 0) ≤ 1
          split <;> omega
        unfold pw_on
        omega
      rw [if_neg c1]
      refine LD_mostCrewed hH hE fun h1 H1 => ?_
      rw [bk_L_isWhole_349, if_neg c1]
      refine LD_mostCrewedBySets H1 hE fun h2 H2 => ?_
      rw [if_pos rfl, if_neg (by rw [nZ_lt ⟨by omega, by omega⟩ ⟨by omega, by omega⟩]; omega), if_neg (by rw [nZ_lt ⟨by omega, by omega⟩ ⟨by omega, by omega⟩]; omega), bk_L_isWhole_378]
      exact IW_383 H2 (by omega) hb hJ hy hz _ _
  | i + 1, p, h, hH, hm, hp => by
    have hI := (ph_I hH).1
    have q5 := hI.pil
    have q9 := hI.hour
    rw [bk_L_isWhole_304]
    refine LD_pilotCount hH ?_
    rw [if_neg (by rw [nZ_le ⟨by omega, by omega⟩ ⟨by omega, by omega⟩]; omega)]
    refine LD_hour hH ?_
    rw [if_neg (by decide), nZ_mod24 (by omega) (by omega)]
    obtain ⟨t, ht⟩ : ∃ t : Nat, w 1 0 % 24 = (t : Int) := ⟨(w 1 0 % 24).toNat, by omega⟩
    have ht2 : t < 24 := by omega
    rw [ht]
    refine LP_isOnDuty hH (by omega) ht2 ?_
    have e1 : pw_on (w 1) p + (if mq_on (w 1) p (t : Int) = true then 1 else 0) = pw_on (w 1) (p + 1) := by
      rw [← ht]
      rfl
    rw [nZ_add, nZ_add, e1, ← nc1]
    exact IW_304 hb hJ hy hz i (p + 1) h hH hm (by omega)
theorem IW_160e (hS : pX_X X x b0) (hk : 0 ≤ k ∧ k ≤ 1000) (hH : ph_H X x S w b c m h) (hm : m + 20 ≤ M) (hb : b ≤ 999999900) (hJ : pn_J (w 1) B) {v8 : Int32} (h8 : nZ (mq_cnt (w 1)) ≤ v8) (j9 j10 : Value) : pt X x S w b c M (.int (nZ 1)) (mv_run X (mv_call X (d + 11)) m_L_isWhole 160 [.ref x, .ref b0, .int (nZ k), .int q, .int (nZ (mq_cnt (w 1))), .int (nZ (mq_wgt (w 1))), .int (nZ (mq_hgt (w 1))), .int (nZ (mq_tgl (w 1))), .int v8, j9, j10, .retAddr 0, .retAddr 0, .retAddr 0, .retAddr 0, .retAddr 0] [] h) := by
  have q5 := (ph_I hH).1.pil
  rw [bk_L_isWhole_160, if_pos h8, nZ_add]
  refine LP_pick hS hH (by omega) (by omega) fun y hy => ?_
  refine LP_longestCalm hH (by omega) ?_
  by_cases c1 : y = 0
  · rw [if_pos (by rw [c1]; rfl), bk_L_isWhole_296]
    exact IW_304 hb hJ (by omega) (if_pos c1).symm (w 1 5).toNat 0 h hH hm (by omega)
  · rw [if_neg (by rw [nZ_eq0 ⟨by omega, by omega⟩]; omega), nZ_sub]
    obtain ⟨y1, hy1⟩ : ∃ y1, y = y1 + 1 := ⟨y - 1, by omega⟩
    have e1 : (y : Int) - 1 = (y1 : Int) := by omega
    rw [e1]
    refine LP_longestCalm hH (by omega) ?_
    rw [bk_L_isWhole_296]
    exact IW_304 hb hJ (by omega) (by rw [if_neg c1, e1]) (w 1 5).toNat 0 h hH hm (by omega)
theorem IW_160 (hS : pX_X X x b0) (hk : 0 ≤ k ∧ k ≤ 1000) (hb : b ≤ 999999900) (hJ : pn_J (w 1) B) : ∀ (i r m : Nat) (j9 j10 : Value) (h : mv_H), ph_H X x S w b c m h → m + 10 * i + 20 ≤ M → r + i = 10 → pt X x S w b c M (.int (nZ 1)) (mv_run X (mv_call X (d + 11)) m_L_isWhole 160 [.ref x, .ref b0, .int (nZ k), .int q, .int (nZ (mq_cnt (w 1))), .int (nZ (mq_wgt (w 1))), .int (nZ (mq_hgt (w 1))), .int (nZ (mq_tgl (w 1))), .int (nZ (r + 1 : Nat)), j9, j10, .retAddr 0, .retAddr 0, .retAddr 0, .retAddr 0, .retAddr 0] [] h)
  | 0, r, m, j9, j10, h, hH, hm, hr => by
    have q1 := mq_cnt_in (ph_I hH).1
    exact IW_160e hS hk hH (by omega) hb hJ ((nZ_le ⟨by omega, by omega⟩ ⟨by omega, by omega⟩).mpr (by omega)) j9 j10
  | i + 1, r, m, j9, j10, h, hH, hm, hr => by
    have hI := (ph_I hH).1
    have q1 := mq_cnt_in hI
    by_cases c1 : mq_cnt (w 1) ≤ ((r + 1 : Nat) : Int)
    · exact IW_160e hS hk hH (by omega) hb hJ ((nZ_le ⟨by omega, by omega⟩ ⟨by omega, by omega⟩).mpr c1) j9 j10
    · obtain ⟨a1, e1, l1, m1, o1⟩ := pr_at' hI (r := r) (by omega)
      obtain ⟨a2, e2, l2, m2, o2⟩ := pr_at' hI (r := r + 1) (by omega)
      have hO := pr_ord l1 l2 m2 (by rw [o1, o2]; omega)
      have s1 : 0 ≤ mr_ho (w 1) a1 0 ∧ mr_ho (w 1) a1 0 ≤ 40 := ⟨mr_ho0 hI l1 0, mr_ho1 hI l1 0⟩
      have s2 : 0 ≤ mr_ho (w 1) a2 0 ∧ mr_ho (w 1) a2 0 ≤ 40 := ⟨mr_ho0 hI l2 0, mr_ho1 hI l2 0⟩
      have s3 : 0 ≤ mr_bal (w 1) a1 0 ∧ mr_bal (w 1) a1 0 ≤ 120 := ⟨mr_bal0 hI l1 0, mr_bal1 hI l1 0⟩
      have s4 : 0 ≤ mr_bal (w 1) a2 0 ∧ mr_bal (w 1) a2 0 ≤ 120 := ⟨mr_bal0 hI l2 0, mr_bal1 hI l2 0⟩
      have step : ∀ h1, ph_H X x S w b c (m + 10) h1 → pt X x S w b c M (.int (nZ 1)) (mv_run X (mv_call X (d + 11)) m_L_isWhole 254 [.ref x, .ref b0, .int (nZ k), .int q, .int (nZ (mq_cnt (w 1))), .int (nZ (mq_wgt (w 1))), .int (nZ (mq_hgt (w 1))), .int (nZ (mq_tgl (w 1))), .int (nZ (r + 1 : Nat)), .int (nZ a1), .int (nZ a2), .retAddr 0, .retAddr 0, .retAddr 0, .retAddr 0, .retAddr 0] [] h1) := by
        intro h1 H1
        rw [bk_L_isWhole_254, nZ_add, ← nc1]
        exact IW_160 hS hk hb hJ i (r + 1) (m + 10) _ _ h1 H1 (by omega) (by omega)
      rw [bk_L_isWhole_160, if_neg (by rw [nZ_le ⟨by omega, by omega⟩ ⟨by omega, by omega⟩]; exact c1), nZ_sub, show ((r + 1 : Nat) : Int) - 1 = (r : Int) by omega]
      refine LP_berthByHeight hH (by omega) fun h1 H1 => ?_
      rw [e1, if_pos (by omega)]
      refine LP_berthByHeight H1 (by omega) fun h2 H2 => ?_
      rw [e2, if_pos (by omega)]
      refine LP_height H2 l1 fun h3 H3 => ?_
      refine LP_height H3 l2 fun h4 H4 => ?_
      rw [if_pos m1, if_pos m2, if_neg (by rw [nZ_lt ⟨by omega, by omega⟩ ⟨by omega, by omega⟩]; omega)]
      refine LP_height H4 l1 fun h5 H5 => ?_
      refine LP_height H5 l2 fun h6 H6 => ?_
      rw [if_pos m1, if_pos m2]
      by_cases c2 : mr_ho (w 1) a1 0 = mr_ho (w 1) a2 0
      · rw [if_pos (by rw [c2])]
        refine LP_ballast H6 l1 fun h7 H7 => ?_
        refine LP_ballast H7 l2 fun h8 H8 => ?_
        rw [if_pos m1, if_pos m2, if_neg (by rw [nZ_lt ⟨by omega, by omega⟩ ⟨by omega, by omega⟩]; omega)]
        refine LP_ballast H8 l1 fun h9 H9 => ?_
        refine LP_ballast H9 l2 fun h10 H10 => ?_
        rw [if_pos m1, if_pos m2]
        by_cases c3 : mr_bal (w 1) a1 0 = mr_bal (w 1) a2 0
        · rw [if_pos (by rw [c3]), if_pos ((nZ_le ⟨by omega, by omega⟩ ⟨by omega, by omega⟩).mpr (by omega))]
          exact step h10 H10
        · rw [if_neg (by rw [nZ_inj ⟨by omega, by omega⟩ ⟨by omega, by omega⟩]; exact c3)]
          exact step h10 H10
      · rw [if_neg (by rw [nZ_inj ⟨by omega, by omega⟩ ⟨by omega, by omega⟩]; exact c2)]
        exact step h6 (ph_mono (by omega) H6)
theorem LP_isWhole (hS : pX_X X x b0) (hH : ph_H X x S w b c m h) (hk : 0 ≤ k ∧ k ≤ 1000) (hb : b ≤ 999999900) (hJ : pn_J (w 1) B) (q : Int32) (K : ∀ h1, ph_H X x S w b c (m + 3200) h1 → Φ (f (nZ 1) h1)) : Φ (mv_clI (mv_call X (d + 12)) 385 [.ref x, .ref b0, .int (nZ k), .int q] h g f) := by
  refine pt_I (M := m + 3200) ?_ K
  rw [mc_L_isWhole, bk_L_isWhole_0]
  refine IW_15 hS hk (N := m + 3000) 10 0 m 0 _ h hH (by omega) rfl fun j9 h1 H1 => ?_
  rw [show (0 : Int) + ml_i (ml_t (w 1) 0 10) = mq_tgl (w 1) by unfold mq_tgl; omega]
  exact IW_160 hS hk hb hJ 10 0 _ _ _ h1 H1 (by omega) rfl
end IWHL
