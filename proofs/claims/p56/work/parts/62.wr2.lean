/-! A HARBOUR'S COMMANDS -/
section WR2
variable {X : mv_X} {P : mz_P} {V : mz_V} {z : Nat × Nat} {a d : Nat} {s : Nat → Int}
theorem mh_X_uu {V : mz_V} {a r k : Nat} {x : Int} (h1 : a ≤ r) (h2 : r < a + 31) : mh_X V (mz_u V r k x) a := mh_X_u (mh_X_rfl V a) h1 h2
theorem mh_X_rm {V : mz_V} {a i k : Nat} (hi : i < 10) : mh_X V (mb_rm V (a + 5 + 2 * i) k) a := fun r hr => by
  unfold mb_rm
  rw [mz_u_o (by omega), mz_u_o (by omega)]
  funext j
  exact mb_sh_o _ _ _ _ (by omega)
theorem mh_X_rm_a (V : mz_V) (a k i : Nat) : mb_rm V (a + 5 + 2 * k) i a = V a := by
  unfold mb_rm
  rw [mz_u_o (by omega), mz_u_o (by omega)]
  funext j
  exact mb_sh_o _ _ _ _ (by omega)
theorem Y3_putBalloon (hH : mz_H P a) (hI : mr_I s) (h : mh_R V a s) {k : Nat} (hk : k < 10) {l c t : Int} (hl : 1 ≤ l ∧ l ≤ 99) (hc : 1 ≤ c ∧ c ≤ 40) (ht : 1 ≤ t ∧ t ≤ 60) :
    ∃ V', mv_call X (d + 3) 49 [.ref a, .int (nZ k), .int (nZ l), .int (nZ c), .int (nZ t)] (mz_h P V, z) = some (.inl (some (.int (nZ (mr_ho (mc_st0 s k l c t) k 0)))), (mz_h P V', z)) ∧ mh_R V' a (mc_st0 s k l c t) ∧ mh_X V V' a := by
  have hR := mh_R_beg h hI.pil.2 hk hl hc ht
  have e1 : mc_st0 s k l c t (6 + 11 * k) = 1 := by
    unfold mc_st0
    rw [mr_up_n _ _ (by omega), mr_up_n _ _ (by omega), mr_up_n _ _ (by omega)]; exact mr_up_s _ _ _
  refine ⟨_, ?_, hR, fun r hr => by rw [mz_u_o (by omega), mz_u_o (by omega), mz_u_o (by omega), mz_u_o (by omega), mz_u_o (by omega), mz_u_o (by omega)]⟩
  rw [mc_X3_putBalloon, bk_X3_putBalloon_0]
  simp only [mv_clI, mv_clV, mv_cl, nZ_b1, X8_isWithin (show nS (k : Int) from ⟨by omega, by omega⟩) (show nS 0 by decide) (show nS 9 by decide)]
  rw [if_neg (fun q => q ⟨by omega, by omega⟩), mh_bal hH hk, mz_rcv (hH.b hk).1]
  simp only [X0_begin (hH.b hk)]
  rw [mh_bal hH hk, mz_rcv (hH.b hk).1]
  simp only [Y0_height hH hR hk e1]
theorem Y3_removeBalloon (hH : mz_H P a) (hI : mr_I s) (h : mh_R V a s) {k : Nat} (hk : k < 10) (hh : s (6 + 11 * k) = 1) :
    ∃ V', mv_call X (d + 2) 50 [.ref a, .int (nZ k)] (mz_h P V, z) = some (.inl (some (.int (nZ (mr_bal s k 0)))), (mz_h P V', z)) ∧ mh_R V' a (mc_st1 s k) ∧ mh_X V V' a := by
  have hb := mb_bal_0 h hk hh
  have hR := mh_R_ct (k := 7) (j := 3) (x := V a 7 + V (a + 5 + 2 * k) 4) (mh_R_clr h hI.pil.2 hk) (by unfold mr_clr; rw [mr_zr_n _ (by omega)]; exact hI.pil.2) (by omega)
  have e3 : mr_up (mr_clr s k) 3 (V a 7 + V (a + 5 + 2 * k) 4) = mc_st1 s k := by
    unfold mc_st1
    rw [mr_clr_up (by omega), hb, h.2.1.2.2.2.2.1]
  rw [e3] at hR
  refine ⟨_, ?_, hR, mh_X_u (mh_X_uu (by omega) (by omega)) (by omega) (by omega)⟩
  have ha : mr_has s k := by rw [mr_has_n hk]; exact hh
  rw [mc_X3_removeBalloon, bk_X3_removeBalloon_0]
  simp only [mz_rcv hH.1, mv_clI, mv_cl, nZ_b1, Y3_has hH hI h (show nS (k : Int) from ⟨by omega, by omega⟩)]
  rw [if_neg (fun q => q ha), mh_bal hH hk, mv_chk_t (by decide), mz_pf (hH.b hk).1 (by decide), mz_gI hH.1 (by decide), mh_bal hH hk, mz_gI (hH.b hk).1 (by decide), nZ_add, mz_pf hH.1 (by decide), mh_bal hH hk, mz_gI (hH.b hk).1 (by decide)]
  rw [mz_u_a _ _ (show a + 5 + 2 * k ≠ a by omega), mz_u_k _ _ (show (4 : Nat) ≠ 0 by decide), mz_u_a _ _ (show a ≠ a + 5 + 2 * k by omega), hb]
theorem Y3_loadBag (hH : mz_H P a) (hI : mr_I s) (h : mh_R V a s) {k : Nat} (hk : k < 10) (hh : s (6 + 11 * k) = 1) {b : Int} (hb : 1 ≤ b ∧ b ≤ 20) (h6 : s (6 + 11 * k + 4) ≠ 6) :
    ∃ V', mv_call X (d + 2) 51 [.ref a, .int (nZ k), .int (nZ b)] (mz_h P V, z) = some (.inl (some (.int (nZ (mr_bal (mc_st2 s k b) k 0)))), (mz_h P V', z)) ∧ mh_R V' a (mc_st2 s k b) ∧ mh_X V V' a := by
  have h1 := hI.bags hk
  obtain ⟨p1, p2, p3, p4, p5⟩ := (h.1 k hk).2.2.1 hh
  obtain ⟨n, hn⟩ : ∃ n : Nat, V (a + 5 + 2 * k) 5 = n := ⟨(V (a + 5 + 2 * k) 5).toNat, by omega⟩
  have hR := mh_R_ct (k := 6) (j := 2) (x := V a 6 + b) (mh_R_add h hI.pil.2 hk hh hn (by omega) hb) (by rw [mr_up_n _ _ (by omega), mr_up_n _ _ (by omega)]; exact hI.pil.2) (by omega)
  have e3 : mr_up (mr_up (mr_up s (6 + 11 * k + (5 + (s (6 + 11 * k + 4)).toNat)) b) (6 + 11 * k + 4) (s (6 + 11 * k + 4) + 1)) 2 (V a 6 + b) = mc_st2 s k b := by
    unfold mc_st2
    rw [h.2.1.2.2.2.1]
  rw [e3] at hR
  have e1 : mc_st2 s k b (6 + 11 * k) = 1 := by
    unfold mc_st2
    rw [mr_up_n _ _ (by omega), mr_up_n _ _ (by omega), mr_up_n _ _ (by omega)]; exact hh
  have eb := mb_bal_0 hR hk e1
  rw [mz_u_a _ _ (show a + 5 + 2 * k ≠ a by omega), mz_u_s] at eb
  refine ⟨_, ?_, hR, mh_X_u (mh_X_u (mh_X_u (mh_X_uu (by omega) (by omega)) (by omega) (by omega)) (by omega) (by omega)) (by omega) (by omega)⟩
  have ha : mr_has s k := by rw [mr_has_n hk]; exact hh
  rw [mc_X3_loadBag, bk_X3_loadBag_0]
  simp only [mz_rcv hH.1, mv_clI, mv_cl, nZ_b1, Y3_has hH hI h (show nS (k : Int) from ⟨by omega, by omega⟩)]
  rw [if_neg (fun q => q ha), mh_bal hH hk, mz_rcv (hH.b hk).1]
  simp only [mv_clV, mv_cl, X0_addBag (hH.b hk) hn (show n < 6 by omega)]
  rw [mz_gI hH.1 (by decide), nZ_add, mz_pf hH.1 (by decide), mh_bal hH hk, mz_gI (hH.b hk).1 (by decide), mz_u_a _ _ (show a + 5 + 2 * k ≠ a by omega), mz_u_s, eb,
    mz_u_a _ _ (show a ≠ a + 5 + 2 * k by omega), mz_u_a _ _ (show a ≠ a + 5 + 2 * k by omega), mz_u_a _ _ (show a ≠ a + 5 + 2 * k + 1 by omega)]
theorem Y3_dropBag (hH : mz_H P a) (hI : mr_I s) (h : mh_R V a s) {k i : Nat} (hk : k < 10) (hh : s (6 + 11 * k) = 1) (hi : (i : Int) < s (6 + 11 * k + 4)) :
    ∃ V', mv_call X (d + 3) 52 [.ref a, .int (nZ k), .int (nZ i)] (mz_h P V, z) = some (.inl (some (.int (nZ (s (6 + 11 * k + (5 + i)))))), (mz_h P V', z)) ∧ mh_R V' a (mc_st3 s k i) ∧ mh_X V V' a := by
  have h1 := hI.bags hk
  obtain ⟨p1, p2, p3, p4, p5⟩ := (h.1 k hk).2.2.1 hh
  have eg := p5 i (by omega)
  have hR := mh_R_ct (k := 7) (j := 3) (x := V a 7 + V (a + 5 + 2 * k + 1) i) (mh_R_rm h hI.pil.2 hk hh hi) (by rw [mr_take_o (by omega) (by omega)]; exact hI.pil.2) (by omega)
  have e3 : mr_up (mr_take s k i) 3 (V a 7 + V (a + 5 + 2 * k + 1) i) = mc_st3 s k i := by
    unfold mc_st3
    rw [h.2.1.2.2.2.2.1, eg]
  rw [e3] at hR
  refine ⟨_, ?_, hR, mh_X_u (mh_X_rm hk) (by omega) (by omega)⟩
  have ha : mr_has s k := by rw [mr_has_n hk]; exact hh
  rw [mc_X3_dropBag, bk_X3_dropBag_0]
  simp only [mz_rcv hH.1, mv_clI, mv_cl, nZ_b1, Y3_has hH hI h (show nS (k : Int) from ⟨by omega, by omega⟩)]
  rw [if_neg (fun q => q ha), mh_bal hH hk, mz_rcv (hH.b hk).1]
  simp only [X0_removeBag (hH.b hk) (h.1 k hk).1 (k := i) (by omega)]
  have e7 : mb_rm V (a + 5 + 2 * k) i a = V a := mh_X_rm_a V a k i
  rw [mz_gI hH.1 (by decide), nZ_add, mz_pf hH.1 (by decide), e7, eg]
theorem Y3_dropBestSet_l (hH : mz_H P a) {k t : Nat} {b : Int32} (hk : k < 10) (ht : t < 64) : ∀ (n : Nat) (s : Nat → Int) (V : mz_V), n ≤ 6 → mr_I s → mh_R V a s → s (6 + 11 * k) = 1 → (∀ j, j < n → t.testBit j = true → (j : Int) < s (6 + 11 * k + 4)) →
    ∃ V', mv_run X (mv_call X (d + 3)) m_X3_dropBestSet 33 [.ref a, .int (nZ k), .int b, .int (nZ t), .int (nZ ((n : Int) - 1))] [] (mz_h P V, z) = some (.inl (some (.int (nZ (mb_pop t)))), (mz_h P V', z)) ∧ mh_R V' a (mr_drp t k n s) ∧ mh_X V V' a := by
  intro n
  induction n with
  | zero =>
    intro s V _ _ hR _ _
    refine ⟨V, ?_, hR, mh_X_rfl V a⟩
    rw [bk_X3_dropBestSet_33, if_pos (by decide)]
    simp only [mv_clI, mv_cl, J6_bitCount ht]
  | succ n ih =>
    intro s V hn hI hR hh hb
    have e1 : ((n + 1 : Nat) : Int) - 1 = n := by omega
    have e2 : (n : Int) + -1 = (n : Int) - 1 := rfl
    have ed : mr_drp t k (n + 1) s = mr_drp t k n (if t.testBit n then mr_take (mr_up s 3 (s 3 + s (6 + 11 * k + (5 + n)))) k n else s) := rfl
    rw [bk_X3_dropBestSet_33, e1, if_neg (by rw [nZ_lt0 ⟨by omega, by omega⟩]; omega)]
    simp only [mb_bit ht (show n < 6 by omega), nZ_add, e2]
    rw [ed]
    by_cases c : t.testBit n = true
    · have h1 := hb n (by omega) c
      obtain ⟨V1, e, hR1, hX1⟩ := Y3_dropBag (X := X) (z := z) (d := d) hH hI hR hk hh h1
      have e4 : mr_up s 3 (s 3 + s (6 + 11 * k + (5 + n))) (6 + 11 * k + 4) = s (6 + 11 * k + 4) := mr_up_n _ _ (by omega)
      have et : mc_st3 s k n = mr_take (mr_up s 3 (s 3 + s (6 + 11 * k + (5 + n)))) k n := by unfold mc_st3; rw [mr_take_up (by omega)]
      have h2 := hI.bags hk
      have hI1 : mr_I (mr_take (mr_up s 3 (s 3 + s (6 + 11 * k + (5 + n)))) k n) := mr_I_take (mr_I_up hI (by omega)) hk (by rw [e4]; exact h1)
      rw [et] at hR1
      obtain ⟨V', e', hR', hX'⟩ := ih (mr_take (mr_up s 3 (s 3 + s (6 + 11 * k + (5 + n)))) k n) V1 (by omega) hI1 hR1 (by rw [mr_take_o (by rw [e4]; omega) (by omega), mr_up_n _ _ (by omega)]; exact hh) (fun j hj hj2 => by unfold mr_take; rw [mr_up_s, e4]; omega)
      refine ⟨V', ?_, by rw [if_pos c]; exact hR', mh_X_tr hX1 hX'⟩
      rw [if_neg (by rw [c]; decide), mz_rcv hH.1]
      simp only [mv_clI, mv_cl, e]
      exact e'
    · obtain ⟨V', e', hR', hX'⟩ := ih s V (by omega) hI hR hh (fun j hj hj2 => hb j (by omega) hj2)
      refine ⟨V', ?_, by rw [if_neg c]; exact hR', hX'⟩
      rw [if_pos (by simpa using c)]
      exact e'
theorem Y3_dropBestSet (hH : mz_H P a) (hI : mr_I s) (h : mh_R V a s) {k : Nat} (hk : k < 10) (hh : s (6 + 11 * k) = 1) {b : Int} (hb : nS b) (hne : mr_bst s k b ≠ -1) :
    ∃ V', mv_call X (d + 4) 53 [.ref a, .int (nZ k), .int (nZ b)] (mz_h P V, z) = some (.inl (some (.int (nZ (mb_pop (mr_bst s k b).toNat)))), (mz_h P V', z)) ∧ mh_R V' a (mc_st4 s k b) ∧ mh_X V V' a := by
  have hbits := mr_bst_bits hI hk hne
  have hin : mr_bst s k b = -1 ∨ (0 ≤ mr_bst s k b ∧ mr_bst s k b < (2 ^ (s (6 + 11 * k + 4)).toNat : Nat)) := mr_best_in s k b (2 ^ (s (6 + 11 * k + 4)).toNat)
  have e2 : mr_bst s k b = ((mr_bst s k b).toNat : Int) := by
    rcases hin with q | q
    · exact absurd q hne
    · omega
  have ha : mr_has s k := by rw [mr_has_n hk]; exact hh
  obtain ⟨V', e', hR', hX'⟩ := Y3_dropBestSet_l (X := X) (z := z) (d := d) hH (b := nZ b) hk hbits.1 6 s V (Nat.le_refl _) hI h hh (fun j _ hj => hbits.2 j hj)
  refine ⟨V', ?_, hR', hX'⟩
  rw [mc_X3_dropBestSet, bk_X3_dropBestSet_0]
  simp only [mz_rcv hH.1, mv_clI, mv_cl, nZ_b1, Y3_has hH hI h (show nS (k : Int) from ⟨by omega, by omega⟩)]
  rw [if_neg (fun q => q ha), mh_bal hH hk, mz_rcv (hH.b hk).1]
  simp only [X0_bestDropSet (hH.b hk) (h.1 k hk).1 hb, mb_bst_eq h hk hh]
  rw [if_neg (by rw [nZ_inj ⟨by omega, by omega⟩ (by decide)]; exact hne), e2]
  exact e'
theorem Y3_replaceWind (hH : mz_H P a) (hI : mr_I s) (h : mh_R V a s) {k : Nat} (hk : k < 24) {b : Int} :
    ∃ V', mv_call X (d + 2) 54 [.ref a, .int (nZ k), .int (nZ b)] (mz_h P V, z) = some (.inl (some (.int (nZ (s (116 + k))))), (mz_h P V', z)) ∧ mh_R V' a (mc_st5 s k b) ∧ mh_X V V' a := by
  obtain ⟨g1, ⟨c1, c2, c3, c4, c5, c6⟩, g3, g4, g5⟩ := h
  have hp := hI.pil
  refine ⟨mz_w V (a + 2) (mr_up (V (a + 2)) k b), ?_, ⟨fun i hi => mb_R_c (mz_w_n _ _ (by omega)) (mz_w_n _ _ (by omega)) (fun q hq => mr_up_n _ _ (by omega)) (g1 i hi), ?_, fun i hi => ?_, fun j hj => mp_I_c (mz_w_n _ _ (by omega)) (g4 j hj), fun j hj => ?_⟩, mh_X_w (by omega) (by omega)⟩
  · rw [mc_X3_replaceWind, bk_X3_replaceWind_0]
    simp only [mv_clI, mv_cl, nZ_b1, X8_isWithin (show nS (k : Int) from ⟨by omega, by omega⟩) (show nS 0 by decide) (show nS 23 by decide)]
    rw [if_neg (fun q => q ⟨by omega, by omega⟩), mz_gR hH.1 (by decide) hH.2.2.2.2.1, mz_aJ hH.2.2.2.2.2.1 (by omega) (by omega) (by decide), mz_gR hH.1 (by decide) hH.2.2.2.2.1, mz_sJ hH.2.2.2.2.2.1 (by omega) (by omega) (by decide), Int.toNat_natCast, g3 k hk]
  · unfold mh_C mc_st5
    rw [mz_w_n _ _ (by omega), mr_up_n _ _ (by omega), mr_up_n _ _ (by omega), mr_up_n _ _ (by omega), mr_up_n _ _ (by omega), mr_up_n _ _ (by omega), mr_up_n _ _ (by omega)]
    exact ⟨c1, c2, c3, c4, c5, c6⟩
  · rw [mz_w_s]
    unfold mc_st5
    by_cases e : i = k
    · subst e; rw [mr_up_s, mr_up_s]
    · rw [mr_up_n _ _ e, mr_up_n _ _ (by omega)]; exact g3 i hi
  · unfold mc_st5 at hj ⊢
    rw [mr_up_n _ _ (by omega)] at hj
    rw [mz_w_n _ _ (by omega), mr_up_n _ _ (by omega), mr_up_n _ _ (by omega), mr_up_n _ _ (by omega)]
    exact g5 j hj
theorem Y3_putPilot (hH : mz_H P a) (hI : mr_I s) (h : mh_R V a s) (h6 : s 5 ≠ 6) {w f t : Int} (hw : 1 ≤ w ∧ w ≤ 30) (hf : 0 ≤ f ∧ f ≤ 23) (ht : 0 ≤ t ∧ t ≤ 23) :
    ∃ V', mv_call X (d + 2) 55 [.ref a, .int (nZ w), .int (nZ f), .int (nZ t)] (mz_h P V, z) = some (.inl (some (.int (nZ (s 5)))), (mz_h P V', z)) ∧ mh_R V' a (mc_st7 s w f t) ∧ mh_X V V' a := by
  obtain ⟨g1, ⟨c1, c2, c3, c4, c5, c6⟩, g3, g4, g5⟩ := h
  have hp := hI.pil
  obtain ⟨n, hn⟩ : ∃ n : Nat, s 5 = n := ⟨(s 5).toNat, by omega⟩
  have hn6 : n < 6 := by omega
  have es : ∀ j, j ≠ 5 → (∀ q, q < 3 → j ≠ 140 + 3 * n + q) → mc_st7 s w f t j = s j := fun j h1 h2 => by
    unfold mc_st7
    rw [hn, Int.toNat_natCast, mr_up_n _ _ h1, mr_up_n _ _ (h2 2 (by decide)), mr_up_n _ _ (h2 1 (by decide)), mr_up_n _ _ (show j ≠ 140 + 3 * n from h2 0 (by decide))]
  have e5 : mc_st7 s w f t 5 = n + 1 := by unfold mc_st7; rw [mr_up_s, hn]
  have eo : ∀ r, r ≠ a → r ≠ a + 25 + n → (mz_u (mz_u (mz_u (mz_u V (a + 25 + n) 0 w) (a + 25 + n) 1 f) (a + 25 + n) 2 t) a 3 (n + 1)) r = V r := fun r h1 h2 => by rw [mz_u_o h1, mz_u_o h2, mz_u_o h2, mz_u_o h2]
  have ep0 : (mz_u (mz_u (mz_u (mz_u V (a + 25 + n) 0 w) (a + 25 + n) 1 f) (a + 25 + n) 2 t) a 3 (n + 1)) (a + 25 + n) 0 = w := by rw [mz_u_a _ _ (by omega), mz_u_k _ _ (by decide), mz_u_k _ _ (by decide), mz_u_s]
  have ep1 : (mz_u (mz_u (mz_u (mz_u V (a + 25 + n) 0 w) (a + 25 + n) 1 f) (a + 25 + n) 2 t) a 3 (n + 1)) (a + 25 + n) 1 = f := by rw [mz_u_a _ _ (by omega), mz_u_k _ _ (by decide), mz_u_s]
  have ep2 : (mz_u (mz_u (mz_u (mz_u V (a + 25 + n) 0 w) (a + 25 + n) 1 f) (a + 25 + n) 2 t) a 3 (n + 1)) (a + 25 + n) 2 = t := by rw [mz_u_a _ _ (by omega), mz_u_s]
  have ea : ∀ k, k ≠ 3 → (mz_u (mz_u (mz_u (mz_u V (a + 25 + n) 0 w) (a + 25 + n) 1 f) (a + 25 + n) 2 t) a 3 (n + 1)) a k = V a k := fun k hk => by rw [mz_u_k _ _ hk, mz_u_a _ _ (by omega), mz_u_a _ _ (by omega), mz_u_a _ _ (by omega)]
  refine ⟨_, ?_, ⟨fun i hi => mb_R_c (eo _ (by omega) (by omega)) (eo _ (by omega) (by omega)) (fun q hq => es _ (by omega) (fun _ _ => by omega)) (g1 i hi), ?_, fun i hi => ?_, fun j hj => ?_, fun j hj => ?_⟩, fun r hr => eo r (by omega) (by omega)⟩
  · rw [mc_X3_putPilot, bk_X3_putPilot_0, mz_gI hH.1 (by decide), c1, hn, if_pos (by rw [nZ_lt ⟨by omega, by omega⟩ (by decide)]; omega)]
    rw [mz_gR hH.1 (by decide) hH.2.2.2.2.2.2.1, mz_gI hH.1 (by decide), c1, hn, mz_aR hH.2.2.2.2.2.2.2.1 (j := n) (nZ_i ⟨by omega, by omega⟩) hn6 (hH.2.2.2.2.2.2.2.2.1 n hn6).1, mz_rcv (hH.q hn6)]
    simp only [mv_clV, mv_cl, X5_set (hH.q hn6)]
    rw [mz_gI hH.1 (by decide), mz_u_a _ _ (show a ≠ a + 25 + n by omega), mz_u_a _ _ (show a ≠ a + 25 + n by omega), mz_u_a _ _ (show a ≠ a + 25 + n by omega), c1, hn, nZ_add, mz_pf hH.1 (by decide), mz_gI hH.1 (by decide), mz_u_s, nZ_sub]
    rw [show (n : Int) + 1 - 1 = n by omega]
  · unfold mh_C
    rw [mz_u_s, e5, ea 4 (by decide), ea 5 (by decide), ea 6 (by decide), ea 7 (by decide), ea 8 (by decide), es 0 (by decide) (fun _ _ => by omega), es 1 (by decide) (fun _ _ => by omega), es 2 (by decide) (fun _ _ => by omega), es 3 (by decide) (fun _ _ => by omega), es 4 (by decide) (fun _ _ => by omega)]
    exact ⟨rfl, c2, c3, c4, c5, c6⟩
  · rw [eo _ (by omega) (by omega), es _ (by omega) (fun _ _ => by omega)]; exact g3 i hi
  · by_cases e : j = n
    · subst e
      unfold mp_I
      rw [ep0, ep1, ep2]
      exact ⟨hw, hf, ht⟩
    · exact mp_I_c (eo _ (by omega) (by omega)) (g4 j hj)
  · rw [e5] at hj
    by_cases e : j = n
    · subst e
      rw [ep0, ep1, ep2]
      unfold mc_st7
      rw [hn, Int.toNat_natCast]
      refine ⟨?_, ?_, ?_⟩
      · rw [mr_up_n _ _ (by omega), mr_up_n _ _ (by omega), mr_up_n _ _ (by omega), mr_up_s]
      · rw [mr_up_n _ _ (by omega), mr_up_n _ _ (by omega), mr_up_s]
      · rw [mr_up_n _ _ (by omega), mr_up_s]
    · rw [eo _ (by omega) (by omega), es _ (by omega) (fun _ _ => by omega), es _ (by omega) (fun _ _ => by omega), es _ (by omega) (fun _ _ => by omega)]
      exact g5 j (by omega)
/-- pilots behind k moved down, as far as i -/
def mp_sh (V : mz_V) (a k i : Nat) : mz_V := fun r j => if a + 25 + k ≤ r ∧ r + 1 < a + 25 + i ∧ j < 3 then V (r + 1) j else V r j
theorem mp_sh0 (V : mz_V) (a k : Nat) : mp_sh V a k (k + 1) = V := by
  funext r j
  unfold mp_sh
  rw [if_neg (by omega)]
theorem mp_sh1 (V : mz_V) (a k i : Nat) (hi : k + 1 ≤ i) : mz_u (mz_u (mz_u (mp_sh V a k i) (a + 25 + (i - 1)) 0 (V (a + 25 + i) 0)) (a + 25 + (i - 1)) 1 (V (a + 25 + i) 1)) (a + 25 + (i - 1)) 2 (V (a + 25 + i) 2) = mp_sh V a k (i + 1) := by
  funext r j
  unfold mz_u mp_sh
  by_cases e : r = a + 25 + (i - 1)
  · by_cases h2 : j = 2
    · subst h2
      rw [if_pos ⟨e, rfl⟩, if_pos (by omega), show r + 1 = a + 25 + i by omega]
    · rw [if_neg (fun q => h2 q.2)]
      by_cases h1 : j = 1
      · subst h1
        rw [if_pos ⟨e, rfl⟩, if_pos (by omega), show r + 1 = a + 25 + i by omega]
      · rw [if_neg (fun q => h1 q.2)]
        by_cases h0 : j = 0
        · subst h0
          rw [if_pos ⟨e, rfl⟩, if_pos (by omega), show r + 1 = a + 25 + i by omega]
        · rw [if_neg (fun q => h0 q.2), if_neg (by omega), if_neg (by omega)]
  · rw [if_neg (fun q => e q.1), if_neg (fun q => e q.1), if_neg (fun q => e q.1)]
    by_cases c : a + 25 + k ≤ r ∧ r + 1 < a + 25 + i ∧ j < 3
    · rw [if_pos c, if_pos (by omega)]
    · rw [if_neg c, if_neg (by omega)]
theorem mp_sh_o (V : mz_V) (a k i : Nat) {r : Nat} (h : r < a + 25 + k ∨ a + 25 + i ≤ r + 1) : mp_sh V a k i r = V r := by
  funext j
  unfold mp_sh
  rw [if_neg (by omega)]
theorem mh_pil2 {f : Nat → Option mv_R} (hH : mz_H P a) {i : Nat} (hi : i < 6) : (mv_gR X (mz_h P V, z) a 7 2 fun r => mv_aR X (mz_h P V, z) r (nZ i) f) = f (a + 25 + i) := mh_pil hH hi
theorem Y3_takePilot (hH : mz_H P a) (hI : mr_I s) (h : mh_R V a s) {k : Nat} (hk : (k : Int) < s 5) :
    ∃ V', mv_call X (d + 3) 56 [.ref a, .int (nZ k)] (mz_h P V, z) = some (.inl (some (.int (nZ (s 5 - 1)))), (mz_h P V', z)) ∧ mh_R V' a (mc_st8 s k) ∧ mh_X V V' a := by
  have hR := h
  obtain ⟨g1, ⟨c1, c2, c3, c4, c5, c6⟩, g3, g4, g5⟩ := h
  have hp := hI.pil
  obtain ⟨n, hn⟩ : ∃ n : Nat, s 5 = (n : Int) + 1 := ⟨(s 5).toNat - 1, by omega⟩
  have hn6 : n < 6 := by omega
  have hn2 : (s 5).toNat - 1 = n := by omega
  have es : ∀ j, j ≠ 5 → j < 140 → mc_st8 s k j = s j := fun j h1 h2 => by
    unfold mc_st8
    rw [mr_up_n _ _ h1, mr_zr_n _ (by omega), mr_shf3_n _ (by omega)]
  have e5 : mc_st8 s k 5 = n := by unfold mc_st8; rw [mr_up_s, hn]; omega
  have ep : ∀ j, j < n → ∀ q, q < 3 → mc_st8 s k (140 + 3 * j + q) = if k ≤ j then s (140 + 3 * (j + 1) + q) else s (140 + 3 * j + q) := fun j hj q hq => by
    unfold mc_st8
    rw [hn2, mr_up_n _ _ (by omega), mr_zr_n _ (by omega)]
    unfold mr_shf3
    by_cases c : k ≤ j
    · rw [if_pos c, if_pos (by omega), show 140 + 3 * j + q + 3 = 140 + 3 * (j + 1) + q by omega]
    · rw [if_neg c, if_neg (by omega)]
  refine ⟨mz_u (mp_sh V a k (n + 1)) a 3 n, ?_, ⟨fun i hi => mb_R_c ?_ ?_ (fun q hq => es _ (by omega) (by omega)) (g1 i hi), ?_, fun i hi => ?_, fun j hj => ?_, fun j hj => ?_⟩, fun r hr => ?_⟩
  · rw [mc_X3_takePilot, bk_X3_takePilot_0]
    simp only [mz_rcv hH.1, mv_clI, mv_cl, nZ_b1, Y3_hasP hH hI hR (show nS (k : Int) from ⟨by omega, by omega⟩)]
    rw [if_neg (fun q => q ⟨by omega, hk⟩), nZ_add]
    have key := mz_loop (φ := fun i => k + 1 ≤ i → mv_run X (mv_call X (d + 2)) m_X3_takePilot 12 [.ref a, .int (nZ k), .int (nZ i)] [] (mz_h P (mp_sh V a k i), z) = some (.inl (some (.int (nZ (s 5 - 1)))), (mz_h P (mz_u (mp_sh V a k (n + 1)) a 3 n), z))) (n + 1) ?_ (fun i hi ih => ?_) (k + 1) (by omega) (Nat.le_refl _)
    · rw [mp_sh0, nc1] at key
      exact key
    · intro _
      rw [bk_X3_takePilot_12, mz_gI hH.1 (by decide), mp_sh_o V a k _ (Or.inl (by omega)), c1, hn, ← nc1, if_pos (by exact Int32.le_refl _), mz_gI hH.1 (by decide), mp_sh_o V a k _ (Or.inl (by omega)), c1, hn, nZ_sub, mz_pf hH.1 (by decide), mz_gI hH.1 (by decide), mz_u_s]
      rw [show (n : Int) + 1 - 1 = n by omega, show ((n + 1 : Nat) : Int) - 1 = n by omega]
    · intro hki
      have ih := ih (by omega)
      rw [nc1, hn] at ih
      obtain ⟨i', rfl⟩ : ∃ i', i = i' + 1 := ⟨i - 1, by omega⟩
      rw [bk_X3_takePilot_12, mz_gI hH.1 (by decide), mp_sh_o V a k _ (Or.inl (by omega)), c1, hn, if_neg (by rw [nZ_le ⟨by omega, by omega⟩ ⟨by omega, by omega⟩]; omega), nZ_sub, show ((i' + 1 : Nat) : Int) - 1 = (i' : Int) by omega, mh_pil hH (i := i') (by omega), mh_pil hH (i := i' + 1) (by omega), mz_rcv (hH.q (show i' < 6 by omega))]
      simp only [mv_clV, mv_cl, X5_copyFrom (hH.q (show i' < 6 by omega)) (hH.q (show i' + 1 < 6 by omega)), nZ_add]
      rw [mp_sh_o V a k (i' + 1) (r := a + 25 + (i' + 1)) (Or.inr (by omega))]
      have := mp_sh1 V a k (i' + 1) hki
      rw [Nat.add_sub_cancel] at this
      rw [this]
      exact ih
  · rw [mz_u_o (by omega), mp_sh_o V a k _ (Or.inl (by omega))]
  · rw [mz_u_o (by omega), mp_sh_o V a k _ (Or.inl (by omega))]
  · unfold mh_C
    rw [mz_u_s, e5, mz_u_k _ _ (by decide), mz_u_k _ _ (by decide), mz_u_k _ _ (by decide), mz_u_k _ _ (by decide), mz_u_k _ _ (by decide), mp_sh_o V a k _ (Or.inl (by omega)), es 0 (by decide) (by decide), es 1 (by decide) (by decide), es 2 (by decide) (by decide), es 3 (by decide) (by decide), es 4 (by decide) (by decide)]
    exact ⟨rfl, c2, c3, c4, c5, c6⟩
  · rw [mz_u_o (by omega), mp_sh_o V a k _ (Or.inl (by omega)), es _ (by omega) (by omega)]; exact g3 i hi
  · unfold mp_I
    rw [mz_u_o (by omega)]
    unfold mp_sh
    by_cases c : a + 25 + k ≤ a + 25 + j ∧ a + 25 + j + 1 < a + 25 + (n + 1)
    · rw [if_pos ⟨c.1, c.2, by decide⟩, if_pos ⟨c.1, c.2, by decide⟩, if_pos ⟨c.1, c.2, by decide⟩]
      exact g4 (j + 1) (by omega)
    · rw [if_neg (fun q => c ⟨q.1, q.2.1⟩), if_neg (fun q => c ⟨q.1, q.2.1⟩), if_neg (fun q => c ⟨q.1, q.2.1⟩)]
      exact g4 j hj
  · rw [e5] at hj
    rw [mz_u_o (by omega)]
    have hj' : j < n := by omega
    have r0 := ep j hj' 0 (by decide)
    have r1 := ep j hj' 1 (by decide)
    have r2 := ep j hj' 2 (by decide)
    rw [Nat.add_zero] at r0
    rw [r0, r1, r2]
    unfold mp_sh
    by_cases c : k ≤ j
    · have t : ∀ q, q < 3 → (a + 25 + k ≤ a + 25 + j ∧ a + 25 + j + 1 < a + 25 + (n + 1) ∧ q < 3) := fun q hq => ⟨by omega, by omega, hq⟩
      rw [if_pos (t 0 (by decide)), if_pos (t 1 (by decide)), if_pos (t 2 (by decide)), if_pos c, if_pos c, if_pos c]
      exact g5 (j + 1) (by omega)
    · have t : ∀ q, ¬ (a + 25 + k ≤ a + 25 + j ∧ a + 25 + j + 1 < a + 25 + (n + 1) ∧ q < 3) := fun q h => c (by omega)
      rw [if_neg (t 0), if_neg (t 1), if_neg (t 2), if_neg c, if_neg c, if_neg c]
      exact g5 j (by omega)
  · rw [mz_u_o (by omega), mp_sh_o V a k _ (by omega)]
/-- a harbour's numbers as far as i taken over from c -/
def mh_cpb (V : mz_V) (a c i : Nat) : mz_V := fun r j => if a + 5 ≤ r ∧ r < a + 5 + 2 * i ∧ j < 6 then V (c + (r - a)) j else V r j
theorem mh_cpb1 (V : mz_V) {a c i : Nat} (hac : a + 31 ≤ c ∨ c + 31 ≤ a) (hi : i < 10) : mb_cp (mh_cpb V a c i) (a + 5 + 2 * i) (c + 5 + 2 * i) = mh_cpb V a c (i + 1) := by
  have e1 : mh_cpb V a c i (c + 5 + 2 * i) = V (c + 5 + 2 * i) := by funext j; unfold mh_cpb; rw [if_neg (by omega)]
  have e2 : mh_cpb V a c i (c + 5 + 2 * i + 1) = V (c + 5 + 2 * i + 1) := by funext j; unfold mh_cpb; rw [if_neg (by omega)]
  funext r j
  unfold mb_cp
  rw [e1, e2]
  unfold mh_cpb
  by_cases h1 : r = a + 5 + 2 * i ∧ j < 6
  · rw [if_pos h1, if_pos (by omega), show c + (r - a) = c + 5 + 2 * i by omega]
  · rw [if_neg h1]
    by_cases h2 : r = a + 5 + 2 * i + 1 ∧ j < 6
    · rw [if_pos h2, if_pos (by omega), show c + (r - a) = c + 5 + 2 * i + 1 by omega]
    · rw [if_neg h2]
      by_cases h3 : a + 5 ≤ r ∧ r < a + 5 + 2 * i ∧ j < 6
      · rw [if_pos h3, if_pos (by omega)]
      · rw [if_neg h3, if_neg (by omega)]
def mh_cpp (V : mz_V) (a c i : Nat) : mz_V := fun r j => if a + 25 ≤ r ∧ r < a + 25 + i ∧ j < 3 then V (c + (r - a)) j else V r j
theorem mh_cpp1 (V : mz_V) {a c i : Nat} (hac : a + 31 ≤ c ∨ c + 31 ≤ a) (hi : i < 6) : mz_u (mz_u (mz_u (mh_cpp V a c i) (a + 25 + i) 0 (mh_cpp V a c i (c + 25 + i) 0)) (a + 25 + i) 1 (mh_cpp V a c i (c + 25 + i) 1)) (a + 25 + i) 2 (mh_cpp V a c i (c + 25 + i) 2) = mh_cpp V a c (i + 1) := by
  have e1 : mh_cpp V a c i (c + 25 + i) = V (c + 25 + i) := by funext j; unfold mh_cpp; rw [if_neg (by omega)]
  rw [e1]
  funext r j
  unfold mz_u mh_cpp
  by_cases e : r = a + 25 + i
  · have e9 : c + (r - a) = c + 25 + i := by omega
    by_cases h2 : j = 2
    · subst h2
      rw [if_pos ⟨e, rfl⟩, if_pos (by omega), e9]
    · rw [if_neg (fun q => h2 q.2)]
      by_cases h1 : j = 1
      · subst h1
        rw [if_pos ⟨e, rfl⟩, if_pos (by omega), e9]
      · rw [if_neg (fun q => h1 q.2)]
        by_cases h0 : j = 0
        · subst h0
          rw [if_pos ⟨e, rfl⟩, if_pos (by omega), e9]
        · rw [if_neg (fun q => h0 q.2), if_neg (by omega), if_neg (by omega)]
  · rw [if_neg (fun q => e q.1), if_neg (fun q => e q.1), if_neg (fun q => e q.1)]
    by_cases c : a + 25 ≤ r ∧ r < a + 25 + i ∧ j < 3
    · rw [if_pos c, if_pos (by omega)]
    · rw [if_neg c, if_neg (by omega)]
theorem Y3_copyFrom (hH : mz_H P a) {c : Nat} (hC : mz_H P c) (hac : a + 31 ≤ c ∨ c + 31 ≤ a) (hI : mr_I s) (h : mh_R V c s) :
    ∃ V', mv_call X (d + 3) 26 [.ref a, .ref c] (mz_h P V, z) = some (.inl none, (mz_h P V', z)) ∧ mh_R V' a s ∧ mh_X V V' a := by
  obtain ⟨V1, hV1⟩ : ∃ V1, V1 = mh_cpb V a c 10 := ⟨_, rfl⟩
  obtain ⟨V2, hV2⟩ : ∃ V2, V2 = mz_cp V1 (c + 2) 0 (a + 2) 0 24 := ⟨_, rfl⟩
  obtain ⟨V3, hV3⟩ : ∃ V3, V3 = mh_cpp V2 a c 6 := ⟨_, rfl⟩
  have q1 : ∀ r, (r < a + 5 ∨ a + 25 ≤ r) → V1 r = V r := fun r hr => by rw [hV1]; funext j; unfold mh_cpb; rw [if_neg (by omega)]
  have q2 : ∀ r, r ≠ a + 2 → V2 r = V1 r := fun r hr => by rw [hV2]; funext j; unfold mz_cp; rw [if_neg (fun q => hr q.1)]
  have q3 : ∀ r, (r < a + 25 ∨ a + 31 ≤ r) → V3 r = V2 r := fun r hr => by rw [hV3]; funext j; unfold mh_cpp; rw [if_neg (by omega)]
  have qc : ∀ r, r < a ∨ a + 31 ≤ r → V3 r = V r := fun r hr => by rw [q3 r (by omega), q2 r (by omega), q1 r (by omega)]
  have qa : V3 a = V a := by rw [q3 a (by omega), q2 a (by omega), q1 a (by omega)]
  have qcc : V3 c = V c := qc c (by omega)
  refine ⟨mz_u (mz_u (mz_u (mz_u (mz_u (mz_u V3 a 3 (V c 3)) a 4 (V c 4)) a 5 (V c 5)) a 6 (V c 6)) a 7 (V c 7)) a 8 (V c 8), ?_, ?_, fun r hr => ?_⟩
  · rw [mc_X3_copyFrom, bk_X3_copyFrom_0]
    have key := mz_loop (φ := fun i => mv_run X (mv_call X (d + 2)) m_X3_copyFrom 2 [.ref a, .ref c, .int (nZ i)] [] (mz_h P (mh_cpb V a c i), z) = some (.inl none, (mz_h P (mz_u (mz_u (mz_u (mz_u (mz_u (mz_u V3 a 3 (V c 3)) a 4 (V c 4)) a 5 (V c 5)) a 6 (V c 6)) a 7 (V c 7)) a 8 (V c 8)), z))) 10 ?_ (fun i hi ih => ?_) 0 (Nat.zero_le _)
    · have e0 : mh_cpb V a c 0 = V := by funext r j; unfold mh_cpb; rw [if_neg (by omega)]
      rw [e0] at key
      exact key
    · rw [bk_X3_copyFrom_2, if_pos (by exact Int32.le_refl _), mz_gR hC.1 (by decide) hC.2.2.2.2.1, mz_gR hH.1 (by decide) hH.2.2.2.2.1, mz_cpy (s := 0) (d := 0) (m := 24) hC.2.2.2.2.2.1 hH.2.2.2.2.2.1 (by decide) (by decide) (by decide) (by decide) (by decide) (by decide), ← hV1, ← hV2]
      have key := mz_loop (φ := fun i => mv_run X (mv_call X (d + 2)) m_X3_copyFrom 46 [.ref a, .ref c, .int (nZ i)] [] (mz_h P (mh_cpp V2 a c i), z) = some (.inl none, (mz_h P (mz_u (mz_u (mz_u (mz_u (mz_u (mz_u V3 a 3 (V c 3)) a 4 (V c 4)) a 5 (V c 5)) a 6 (V c 6)) a 7 (V c 7)) a 8 (V c 8)), z))) 6 ?_ (fun i hi ih => ?_) 0 (Nat.zero_le _)
      · have e0 : mh_cpp V2 a c 0 = V2 := by funext r j; unfold mh_cpp; rw [if_neg (by omega)]
        rw [e0] at key
        exact key
      · rw [bk_X3_copyFrom_46, if_pos (by exact Int32.le_refl _), ← hV3]
        have hca : c ≠ a := by omega
        simp (disch := first | decide | exact hca) only [mz_gI hC.1, mz_pf hH.1, mz_u_a, qcc]
      · rw [nc1] at ih
        rw [bk_X3_copyFrom_46, if_neg (by rw [nZ_le ⟨by omega, by omega⟩ ⟨by omega, by omega⟩]; omega), mh_pil hH hi, mh_pil hC hi, mz_rcv (hH.q hi)]
        simp only [mv_clV, mv_cl, X5_copyFrom (hH.q hi) (hC.q hi), nZ_add]
        rw [mh_cpp1 V2 hac hi]
        exact ih
    · rw [nc1] at ih
      have hBc : mz_BI (mh_cpb V a c i) (c + 5 + 2 * i) := mz_BI_p (fun j hj => by unfold mh_cpb; rw [if_neg (by omega)]) (fun j hj => by unfold mh_cpb; rw [if_neg (by omega)]) (h.1 i hi).1
      rw [bk_X3_copyFrom_2, if_neg (by rw [nZ_le ⟨by omega, by omega⟩ ⟨by omega, by omega⟩]; omega), mh_bal hH hi, mh_bal hC hi, mz_rcv (hH.b hi).1]
      simp only [mv_clV, mv_cl, X0_copyFrom (hH.b hi) (hC.b hi) hBc (show a + 5 + 2 * i ≠ c + 5 + 2 * i by omega) (show a + 5 + 2 * i + 1 ≠ c + 5 + 2 * i by omega) (show c + 5 + 2 * i + 1 ≠ a + 5 + 2 * i by omega), nZ_add]
      rw [mh_cpb1 V hac hi]
      exact ih
  · have eo : ∀ r, r ≠ a → (mz_u (mz_u (mz_u (mz_u (mz_u (mz_u V3 a 3 (V c 3)) a 4 (V c 4)) a 5 (V c 5)) a 6 (V c 6)) a 7 (V c 7)) a 8 (V c 8)) r = V3 r := fun r hr => by rw [mz_u_o hr, mz_u_o hr, mz_u_o hr, mz_u_o hr, mz_u_o hr, mz_u_o hr]
    refine mh_R_p (V := V) (a := c) hI.pil.2 (fun i hi j hj => ?_) (fun i hi j hj => ?_) (fun i hi => ?_) (fun j hj k hk => ?_) (fun k h3 h9 => ?_) h
    · rw [eo _ (by omega), q3 _ (by omega), q2 _ (by omega), hV1]
      unfold mh_cpb
      rw [if_pos (by omega), show c + (a + 5 + 2 * i - a) = c + 5 + 2 * i by omega]
    · rw [eo _ (by omega), q3 _ (by omega), q2 _ (by omega), hV1]
      unfold mh_cpb
      rw [if_pos (by omega), show c + (a + 5 + 2 * i + 1 - a) = c + 5 + 2 * i + 1 by omega]
    · rw [eo _ (by omega), q3 _ (by omega), hV2]
      unfold mz_cp
      rw [if_pos ⟨rfl, by omega, by omega⟩, q1 _ (by omega)]
      congr 1
      omega
    · rw [eo _ (by omega), hV3]
      unfold mh_cpp
      rw [if_pos (by omega), show c + (a + 25 + j - a) = c + 25 + j by omega, q2 _ (by omega), q1 _ (by omega)]
    · have hk : k = 3 ∨ k = 4 ∨ k = 5 ∨ k = 6 ∨ k = 7 ∨ k = 8 := by omega
      rcases hk with rfl | rfl | rfl | rfl | rfl | rfl <;> simp [mz_u]
  · rw [mz_u_o (by omega), mz_u_o (by omega), mz_u_o (by omega), mz_u_o (by omega), mz_u_o (by omega), mz_u_o (by omega)]
    exact qc r hr
end WR2
