/-! THE LAW'S isBalloon -/
section IBAL
variable {X : mv_X} {x b0 : Nat} {S : Nat → Int} {w : mz_V} {b : Int} {c : Nat × Nat} {m M : Nat} {h h1 : mv_H} {d a k p y : Nat} {Φ : Option mv_R → Prop} {g : Nat → Nat → mv_H → Option mv_R} {f : Int32 → mv_H → Option mv_R} {v4 v5 v6 v7 : Int32} {t : Nat}
theorem mr_fit_2 {s : Nat → Int} {p b : Nat} (h : mq_fit s p b = true) : mq_on s p (s 0 % 24) = true ∧ s (140 + 3 * p) ≤ mr_sp s b 0 := by
  unfold mq_fit at h
  rw [Bool.and_eq_true] at h
  exact ⟨h.1, of_decide_eq_true h.2⟩
theorem IB_392 (hH : ph_H X x S w b c m h) (hm : m ≤ M) (v3 v8 v9 : Int32) : pt X x S w b c M (.int (nZ 1)) (mv_run X (mv_call X (d + 8)) m_L_isBalloon 392 [.ref x, .int (nZ a), .int (nZ k), .int v3, .int v4, .int v5, .int v6, .int v7, .int v8, .int v9] [.int (nZ 1)] h) := by
  rw [bk_L_isBalloon_392, nZ_ok6 (by decide) (by decide)]
  exact pt_ret hH hm
theorem IB_360 (hH : ph_H X x S w b c m h) (hm : m + 211 ≤ M) (ha : a < 10) (hh : w 1 (6 + 11 * a) = 1) (v3 v8 v9 : Int32) : pt X x S w b c M (.int (nZ 1)) (mv_run X (mv_call X (d + 8)) m_L_isBalloon 360 [.ref x, .int (nZ a), .int (nZ k), .int v3, .int v4, .int v5, .int v6, .int v7, .int v8, .int v9] [.int (if w 1 (6 + 11 * a + 3) < mr_ho (w 1) a 0 then nZ 1 else nZ 0)] h) := by
  have hI := (ph_I hH).1
  have hN := ph_N hH
  rw [bk_L_isBalloon_360]
  refine LP_strain hH ha fun h1 H1 => ?_
  rw [if_pos hh]
  have q3 : 0 ≤ mr_ho (w 1) a 0 ∧ mr_ho (w 1) a 0 ≤ 40 := ⟨mr_ho0 hI ha 0, mr_ho1 hI ha 0⟩
  have q4 := (pf_mul q3 ⟨(hN.2.1 a ha hh).2.2.1, (hI.strength ha).2⟩).2
  have key : ∀ q : Int32, (q = if w 1 (6 + 11 * a + 3) < mr_ho (w 1) a 0 then nZ 1 else nZ 0) → pt X x S w b c M (.int (nZ 1)) (mv_run X (mv_call X (d + 8)) m_L_isBalloon 375 [.ref x, .int (nZ a), .int (nZ k), .int v3, .int v4, .int v5, .int v6, .int v7, .int v8, .int v9] [.int q, .int (if w 1 (6 + 11 * a + 3) < mr_ho (w 1) a 0 then nZ 1 else nZ 0)] h1) := by
    intro q hq
    rw [bk_L_isBalloon_375, if_pos hq.symm]
    refine LP_writeBalloon H1 ha hh fun r h2 r1 r2 H2 => ?_
    rw [if_neg (by rw [nZ_lt ⟨by omega, by omega⟩ ⟨by omega, by omega⟩]; omega)]
    exact IB_392 H2 (by omega) v3 v8 v9
  by_cases c1 : w 1 (6 + 11 * a + 3) < mr_ho (w 1) a 0
  · have c2 : ¬ Op.cmpValue (FP.fcmp (mq_str (w 1) a) (mv_fc 1)) .l ≤ 0 := fun q => by
      have := q4.mp q
      omega
    rw [if_neg c2]
    exact key _ (if_pos c1).symm
  · have c2 : Op.cmpValue (FP.fcmp (mq_str (w 1) a) (mv_fc 1)) .l ≤ 0 := q4.mpr (by omega)
    rw [if_pos c2]
    exact key _ (if_neg c1).symm
theorem IB_end (hH : ph_H X x S w b c m h) (hm : m + 220 ≤ M) (ha : a < 10) (hh : w 1 (6 + 11 * a) = 1) {v9 : Int32} (h9 : v9 = nZ (w 1 5)) : pt X x S w b c M (.int (nZ 1)) (mv_run X (mv_call X (d + 8)) m_L_isBalloon 204 [.ref x, .int (nZ a), .int (nZ k), .int (nZ (mr_bal (w 1) a 0)), .int v4, .int v5, .int v6, .int (nZ 1), .int (nZ (mr_sp (w 1) a 0)), .int v9] [] h) := by
  have hI := (ph_I hH).1
  have hN := ph_N hH
  have q3 : 0 ≤ mr_ho (w 1) a 0 ∧ mr_ho (w 1) a 0 ≤ 40 := ⟨mr_ho0 hI ha 0, mr_ho1 hI ha 0⟩
  have q5 := pn_ho_sp (w 1) a 0
  have q6 := mr_sp1 hI ha 0
  have q7 := hI.lift ha
  have q8 := (hN.2.1 a ha hh).1
  have q9 := hI.hour
  rw [bk_L_isBalloon_204]
  refine LD_pilotCount hH ?_
  rw [h9, if_pos (Int32.le_refl _), if_neg (by decide)]
  refine LP_ballast hH ha fun h1 H1 => ?_
  rw [if_pos hh, if_pos rfl]
  refine LP_height H1 ha fun h2 H2 => ?_
  rw [if_pos hh, if_neg (by rw [nZ_lt ⟨by omega, by omega⟩ ⟨by omega, by omega⟩]; omega)]
  refine LP_height H2 ha fun h3 H3 => ?_
  rw [if_pos hh, if_neg (by rw [nZ_lt0 ⟨by omega, by omega⟩]; omega)]
  refine LP_height H3 ha fun h4 H4 => ?_
  rw [if_pos hh, if_neg (by rw [nZ_lt ⟨by omega, by omega⟩ ⟨by omega, by omega⟩]; omega)]
  refine LP_lift H4 ha fun h5 H5 => ?_
  rw [if_pos hh, if_neg (by rw [nZ_lt ⟨by omega, by omega⟩ ⟨by omega, by omega⟩]; omega)]
  refine LP_lift H5 ha fun h6 H6 => ?_
  rw [if_pos hh, if_neg (by rw [nZ_lt ⟨by omega, by omega⟩ ⟨by omega, by omega⟩]; omega)]
  refine LP_top H6 ha fun h7 H7 => ?_
  rw [if_pos hh]
  refine LP_height H7 ha fun h8 H8 => ?_
  rw [if_pos hh]
  refine LD_hour H8 ?_
  rw [if_neg (by decide), nZ_mod24 (by omega) (by omega)]
  obtain ⟨t, ht⟩ : ∃ t : Nat, w 1 0 % 24 = (t : Int) := ⟨(w 1 0 % 24).toNat, by omega⟩
  have ht2 : t < 24 := by omega
  rw [ht]
  refine LP_wind H8 ht2 ?_
  have et : nZ (mr_top (w 1) a) = nZ 10 * nZ (a : Nat) + nZ (mr_ho (w 1) a 0) * nZ (w 1 (116 + t)) := by
    unfold mr_top
    rw [ht, Int.toNat_natCast, nZ_mul, nZ_mul, nZ_add]
  rw [if_pos et]
  refine LP_isBursting H8 ha fun h9 H9 => ?_
  rw [if_pos hh]
  have hz := IB_360 (d := d) (k := k) (v4 := v4) (v5 := v5) (v6 := v6) (v7 := nZ 1) H9 (M := M) (by omega) ha hh (nZ (mr_bal (w 1) a 0)) (nZ (mr_sp (w 1) a 0)) (nZ (w 1 5))
  by_cases c1 : w 1 (6 + 11 * a + 3) < mr_ho (w 1) a 0
  · rw [if_pos c1] at hz ⊢
    rw [if_pos rfl]
    exact hz
  · rw [if_neg c1] at hz ⊢
    rw [if_neg (by decide)]
    exact hz
theorem IB_204 (ha : a < 10) (hh : w 1 (6 + 11 * a) = 1) : ∀ (i p : Nat) (h : mv_H), ph_H X x S w b c m h → m + 220 ≤ M → (p : Int) + i = w 1 5 → pt X x S w b c M (.int (nZ 1)) (mv_run X (mv_call X (d + 8)) m_L_isBalloon 204 [.ref x, .int (nZ a), .int (nZ k), .int (nZ (mr_bal (w 1) a 0)), .int v4, .int v5, .int v6, .int (nZ 1), .int (nZ (mr_sp (w 1) a 0)), .int (nZ p)] [] h)
  | 0, p, h, hH, hm, hp => IB_end hH hm ha hh (by rw [show (p : Int) = w 1 5 by omega])
  | i + 1, p, h, hH, hm, hp => by
    have hI := (ph_I hH).1
    have hN := ph_N hH
    have h5 := hI.pil
    have q9 := hI.hour
    have q6 := mr_sp1 hI ha 0
    have q0 := mr_sp0 (s := w 1) a 0
    have ih := IB_204 ha hh i (p + 1) h hH hm (by omega)
    rw [bk_L_isBalloon_204]
    refine LD_pilotCount hH ?_
    rw [if_neg (by rw [nZ_le ⟨by omega, by omega⟩ ⟨by omega, by omega⟩]; omega)]
    refine LP_canCrew hH (by omega) ha hh ?_
    by_cases c1 : mq_fit (w 1) p a = true
    · rw [if_pos c1, if_pos rfl]
      obtain ⟨c2, c3⟩ := mr_fit_2 c1
      have c4 := (hN.2.2.2 p (by omega)).1
      refine LD_hour hH ?_
      rw [if_neg (by decide), nZ_mod24 (by omega) (by omega)]
      obtain ⟨t, ht⟩ : ∃ t : Nat, w 1 0 % 24 = (t : Int) := ⟨(w 1 0 % 24).toNat, by omega⟩
      have ht2 : t < 24 := by omega
      rw [ht] at c2 ⊢
      refine LP_isOnDuty hH (by omega) ht2 ?_
      rw [if_pos c2, if_pos rfl, if_pos ((nZ_le ⟨by omega, by omega⟩ ⟨by omega, by omega⟩).mpr (by omega)), bk_L_isBalloon_249, nZ_add, ← nc1]
      exact ih
    · rw [if_neg c1, if_neg (by decide), bk_L_isBalloon_249, nZ_add, ← nc1]
      exact ih
theorem IB_181 (hH : ph_H X x S w b c m h) (hm : m + 222 ≤ M) (ha : a < 10) (hh : w 1 (6 + 11 * a) = 1) : pt X x S w b c M (.int (nZ 1)) (mv_run X (mv_call X (d + 8)) m_L_isBalloon 181 [.ref x, .int (nZ a), .int (nZ k), .int (nZ (mr_bal (w 1) a 0)), .int v4, .int v5, .int v6, .retAddr 0, .retAddr 0, .retAddr 0] [] h) := by
  have hI := (ph_I hH).1
  have q7 := hI.lift ha
  have q1 := mr_bal0 hI ha 0
  have q2 := mr_bal1 hI ha 0
  have h5 := hI.pil
  rw [bk_L_isBalloon_181, bk_L_isBalloon_186]
  refine LP_lift hH ha fun h1 H1 => ?_
  rw [if_pos hh, nZ_sub]
  refine ph_ret (J9_max (show nS 0 by decide) (show nS (w 1 (6 + 11 * a + 1) - mr_bal (w 1) a 0) from ⟨by omega, by omega⟩)) ?_
  have e : (if (0 : Int) < w 1 (6 + 11 * a + 1) - mr_bal (w 1) a 0 then w 1 (6 + 11 * a + 1) - mr_bal (w 1) a 0 else 0) = mr_sp (w 1) a 0 := by
    unfold mr_sp
    split <;> split <;> omega
  rw [e]
  exact IB_204 ha hh (w 1 5).toNat 0 h1 H1 (by omega) (by omega)
theorem IB_66 (hH : ph_H X x S w b c m h) (hm : m + 230 ≤ M) (ha : a < 10) (hh : w 1 (6 + 11 * a) = 1) (hk : 1 ≤ k ∧ k ≤ 40) {r D W : Int} (hr : r = -75 ∨ (mr_bst (w 1) a ((k : Int) + 1) ≠ -1 ∧ r = mb_pop (mr_bst (w 1) a ((k : Int) + 1)).toNat)) (hr2 : mr_bst (w 1) a k = -1 → r = -75) (hD : D = if w 1 (6 + 11 * a) = 1 ∧ mr_bst (w 1) a k ≠ -1 then (mb_pop (mr_bst (w 1) a k).toNat : Int) else -75) (hW : W = if w 1 (6 + 11 * a) = 1 ∧ mr_bst (w 1) a k ≠ -1 then mr_bal (w 1) a 0 - mr_bal (w 1) a (mr_bst (w 1) a k).toNat else -75) : pt X x S w b c M (.int (nZ 1)) (mv_run X (mv_call X (d + 8)) m_L_isBalloon 66 [.ref x, .int (nZ a), .int (nZ k), .int (nZ (mr_bal (w 1) a 0)), .int (nZ D), .int (nZ W), .retAddr 0, .retAddr 0, .retAddr 0, .retAddr 0] [.int (nZ r)] h) := by
  have hI := (ph_I hH).1
  have hN := ph_N hH
  have q7 := hI.lift ha
  have q1 := mr_bal0 hI ha 0
  have q2 := mr_bal1 hI ha 0
  have q4 := hI.bags ha
  rw [bk_L_isBalloon_66]
  refine LP_fewestDropsBySets hH ha hk fun h1 H1 => ?_
  rw [← hD, if_pos rfl]
  by_cases c1 : mr_bst (w 1) a k = -1
  · rw [if_neg (fun q => q.2 c1)] at hD hW
    rw [hD, hW, if_pos rfl, if_pos rfl, hr2 c1, if_pos rfl]
    exact IB_181 H1 (by omega) ha hh
  · obtain ⟨e1, e2, e3⟩ := pb_cnt hN ha hh c1
    have e4 := pb_lift (by omega : (1 : Int) ≤ k) c1
    have e5 := pb_zero hN ha (x := (k : Int))
    have e6 : mr_bst (w 1) a ((k : Int) + 1) ≠ -1 → (mb_pop (mr_bst (w 1) a k).toNat : Int) ≤ mb_pop (mr_bst (w 1) a ((k : Int) + 1)).toNat := fun q => (pb_mono q).2
    have e7 : mr_bst (w 1) a ((k : Int) + 1) ≠ -1 → (mb_pop (mr_bst (w 1) a ((k : Int) + 1)).toNat : Int) ≤ 6 := fun q => by have := (pb_cnt hN ha hh q).1; omega
    have e8 : 0 ≤ mr_bal (w 1) a (mr_bst (w 1) a k).toNat := mr_bal0 hI ha _
    have e9 : 0 ≤ (mb_pop (mr_bst (w 1) a k).toNat : Int) := mb_pop0 _
    have e10 : mr_bal (w 1) a 0 - W = mr_bal (w 1) a (mr_bst (w 1) a k).toNat := by
      rw [hW, if_pos ⟨hh, c1⟩]
      omega
    rw [if_pos ⟨hh, c1⟩] at hD
    rw [← hD] at e1 e3 e5 e6 e9
    rw [← e10] at e2 e3 e4 e8
    rw [if_neg (by rw [nZ_inj ⟨by omega, by omega⟩ ⟨by omega, by omega⟩]; omega)]
    refine LP_bagCount H1 ha fun h2 H2 => ?_
    rw [if_pos hh, if_neg (by rw [nZ_lt ⟨by omega, by omega⟩ ⟨by omega, by omega⟩]; omega), if_neg (by rw [nZ_lt ⟨by omega, by omega⟩ ⟨by omega, by omega⟩]; omega), if_neg (by rw [nZ_lt ⟨by omega, by omega⟩ ⟨by omega, by omega⟩]; omega)]
    have q3 : 0 ≤ mr_ho (w 1) a 0 ∧ mr_ho (w 1) a 0 ≤ 40 := ⟨mr_ho0 hI ha 0, mr_ho1 hI ha 0⟩
    have key : ∀ h3, ph_H X x S w b c (m + 1 + 1 + 1) h3 → ∀ q : Int32, pt X x S w b c M (.int (nZ 1)) (mv_run X (mv_call X (d + 8)) m_L_isBalloon 150 [.ref x, .int (nZ a), .int (nZ k), .int (nZ (mr_bal (w 1) a 0)), .int (nZ D), .int (nZ W), .int (nZ r), .retAddr 0, .retAddr 0, .retAddr 0] [.int q, .int q] h3) := by
      intro h3 H3 q
      rw [bk_L_isBalloon_150, if_pos rfl]
      refine LP_lift H3 ha fun h4 H4 => ?_
      rw [if_pos hh, nZ_sub, nZ_add, if_neg (by rw [nZ_lt ⟨by omega, by omega⟩ ⟨by omega, by omega⟩]; omega)]
      rcases hr with hr | ⟨hr, hr'⟩
      · rw [hr, if_pos rfl]
        exact IB_181 H4 (by omega) ha hh
      · have e6 := e6 hr
        have e7 := e7 hr
        rw [if_neg (by rw [nZ_inj ⟨by omega, by omega⟩ ⟨by omega, by omega⟩]; omega), if_neg (by rw [nZ_lt ⟨by omega, by omega⟩ ⟨by omega, by omega⟩]; omega)]
        exact IB_181 H4 (by omega) ha hh
    by_cases c2 : (k : Int) ≤ mr_ho (w 1) a 0
    · have c3 : D = 0 := (e5.mpr c2).2
      rw [if_pos (by rw [c3]; rfl), bk_L_isBalloon_136]
      refine LP_height H2 ha fun h3 H3 => ?_
      rw [if_pos hh, if_neg (by rw [nZ_lt ⟨by omega, by omega⟩ ⟨by omega, by omega⟩]; omega)]
      exact key h3 H3 _
    · have c3 : D ≠ 0 := fun q => c2 (e5.mp ⟨c1, q⟩)
      rw [if_neg (by rw [nZ_eq0 ⟨by omega, by omega⟩]; omega), bk_L_isBalloon_136]
      refine LP_height H2 ha fun h3 H3 => ?_
      rw [if_pos hh, if_pos ((nZ_lt ⟨by omega, by omega⟩ ⟨by omega, by omega⟩).mpr (by omega))]
      exact key h3 H3 _
theorem IB_5e (hH : ph_H X x S w b c m h) (hm : m + 240 ≤ M) (ha : a < 10) (hh : w 1 (6 + 11 * a) = 1) (hk : 1 ≤ k ∧ k ≤ 40) {v3 v9 : Int32} (h9 : v9 = nZ (w 1 (6 + 11 * a + 4))) (h3 : v3 = nZ (mr_bal (w 1) a 0)) : pt X x S w b c M (.int (nZ 1)) (mv_run X (mv_call X (d + 8)) m_L_isBalloon 5 [.ref x, .int (nZ a), .int (nZ k), .int v3, .int v9, .retAddr 0, .retAddr 0, .retAddr 0, .retAddr 0, .retAddr 0] [] h) := by
  rw [bk_L_isBalloon_5, h3, h9]
  refine LP_bagCount hH ha fun h1 H1 => ?_
  rw [if_pos hh, if_pos (Int32.le_refl _)]
  refine LP_fewestDrops H1 ha hk fun h2 H2 => ?_
  refine LP_dropWeight H2 ha hk fun h3 H3 => ?_
  by_cases c1 : k = 40
  · rw [if_pos (by rw [c1]; rfl)]
    exact IB_66 H3 (by omega) ha hh hk (Or.inl rfl) (fun _ => rfl) rfl rfl
  · rw [if_neg (by rw [nZ_inj ⟨by omega, by omega⟩ ⟨by omega, by omega⟩]; omega), nZ_add, ← nc1]
    refine LP_fewestDrops H3 ha (by omega) fun h4 H4 => ?_
    rw [nc1]
    refine IB_66 H4 (by omega) ha hh hk ?_ (fun q => if_neg fun q' => q'.2 (pb_none q)) rfl rfl
    by_cases c2 : mr_bst (w 1) a ((k : Int) + 1) = -1
    · exact Or.inl (if_neg fun q => q.2 c2)
    · exact Or.inr ⟨c2, if_pos ⟨hh, c2⟩⟩
theorem IB_5 (ha : a < 10) (hh : w 1 (6 + 11 * a) = 1) (hk : 1 ≤ k ∧ k ≤ 40) : ∀ (i j m : Nat) (h : mv_H), ph_H X x S w b c m h → m + i + 240 ≤ M → (j : Int) + i = w 1 (6 + 11 * a + 4) → pt X x S w b c M (.int (nZ 1)) (mv_run X (mv_call X (d + 8)) m_L_isBalloon 5 [.ref x, .int (nZ a), .int (nZ k), .int (nZ (mr_bw (w 1) a 0 j)), .int (nZ j), .retAddr 0, .retAddr 0, .retAddr 0, .retAddr 0, .retAddr 0] [] h)
  | 0, j, m, h, hH, hm, hj => by
    refine IB_5e hH (by omega) ha hh hk ?_ ?_
    · rw [show (j : Int) = w 1 (6 + 11 * a + 4) by omega]
    · unfold mr_bal
      rw [show (w 1 (6 + 11 * a + 4)).toNat = j by omega]
  | i + 1, j, m, h, hH, hm, hj => by
    have q4 := (ph_I hH).1.bags ha
    rw [bk_L_isBalloon_5]
    refine LP_bagCount hH ha fun h1 H1 => ?_
    rw [if_pos hh, if_neg (by rw [nZ_le ⟨by omega, by omega⟩ ⟨by omega, by omega⟩]; omega)]
    refine LP_bagWeight H1 ha hh (by omega) ?_
    rw [nZ_add, nZ_add, ← nc1, pn_bw0]
    have e : mz_s (fun k => w 1 (6 + 11 * a + (5 + k))) j + w 1 (6 + 11 * a + (5 + j)) = mr_bw (w 1) a 0 (j + 1) := (pn_bw0 (w 1) a (j + 1)).symm
    rw [e]
    exact IB_5 ha hh hk i (j + 1) (m + 1) h1 H1 (by omega) (by omega)
theorem LP_isBalloon (hH : ph_H X x S w b c m h) (ha : a < 10) (hh : w 1 (6 + 11 * a) = 1) (hk : 1 ≤ k ∧ k ≤ 40) (K : ∀ h1, ph_H X x S w b c (m + 250) h1 → Φ (f (nZ 1) h1)) : Φ (mv_clI (mv_call X (d + 9)) 384 [.ref x, .int (nZ a), .int (nZ k)] h g f) := by
  have q4 := (ph_I hH).1.bags ha
  refine pt_I (M := m + 250) ?_ K
  rw [mc_L_isBalloon, bk_L_isBalloon_0]
  exact IB_5 ha hh hk (w 1 (6 + 11 * a + 4)).toNat 0 m h hH (by omega) (by omega)
end IBAL
