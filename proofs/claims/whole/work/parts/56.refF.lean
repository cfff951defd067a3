/-! THE REFERENCE: the other commands -/
section REFF
variable {X : mv_X} {P : mz_P} {V : mz_V} {z : Nat × Nat} {m d : Nat}
theorem mr_I_add {s : Nat → Int} (hI : mr_I s) {k : Nat} (hk : k < 10) {b : Int} (c2 : 1 ≤ b ∧ b ≤ 20) (c3 : s (6 + 11 * k + 4) ≠ 6) : mr_I (mr_up (mr_up s (6 + 11 * k + (5 + (s (6 + 11 * k + 4)).toNat)) b) (6 + 11 * k + 4) (s (6 + 11 * k + 4) + 1)) := by
  have h1 := hI.bags hk
  refine mr_I_b hI hk (fun j hj => ?_) ⟨?_, ?_, ?_, ?_, ?_, fun i hi => ?_⟩
  · rw [mr_up_n _ _ (by omega), mr_up_n _ _ (by omega)]
  · rw [mr_up_n _ _ (by omega), mr_up_n _ _ (by omega)]; exact hI.here hk
  · rw [mr_up_n _ _ (by omega), mr_up_n _ _ (by omega)]; exact hI.lift hk
  · rw [mr_up_n _ _ (by omega), mr_up_n _ _ (by omega)]; exact hI.string hk
  · rw [mr_up_n _ _ (by omega), mr_up_n _ _ (by omega)]; exact hI.strength hk
  · rw [mr_up_s]; omega
  · unfold mr_bag
    rw [mr_up_n _ _ (by omega)]
    have := hI.bag hk hi
    unfold mr_up
    split <;> omega
theorem X9_loads (hM : mr_M P m) (hI : mr_I (V (m + 1))) {a b : Int} (ha : nS a) (hb : nS b) : ∃ V', mv_call X (d + 4) 180 [.ref m, .int (nZ a), .int (nZ b)] (mz_h P V, z) = some (.inl (some (.int (nZ (mc_rs 2 (mc_rf2 (V (m + 1)) a b))))), (mz_h P V', z)) ∧
    mr_E V V' m (mc_rs 2 (mc_rf2 (V (m + 1)) a b)) (mc_st2 (V (m + 1)) a.toNat b) (mr_bal (mc_st2 (V (m + 1)) a.toNat b) a.toNat 0) 6 := by
  rw [mc_X9_loads, bk_X9_loads_0]
  simp only [mz_rcv hM.o, mv_clI, mv_clV, mv_cl, mz_rcv hM.o, mv_clI, mv_cl, X9_hereI hM hI ha, nZ_b1, X9_in hb (show nS 1 by decide) (show nS 20 by decide)]
  unfold mc_rf2
  by_cases c1 : mr_has (V (m + 1)) a
  · obtain ⟨k, rfl⟩ : ∃ k : Nat, a = k := ⟨a.toNat, by have := c1.1; omega⟩
    have hk : k < 10 := by have := c1.2.1; omega
    have h1 := hI.bags hk
    rw [if_neg (fun q => q c1), if_pos c1, Int.toNat_natCast]
    by_cases c2 : 1 ≤ b ∧ b ≤ 20
    · rw [if_neg (fun q => q c2), if_pos c2]
      by_cases c3 : V (m + 1) (6 + 11 * k + 4) = 6
      · refine ⟨_, ?_, by rw [if_pos c3]; exact mr_E_den (n := 1) (by decide)⟩
        simp (disch := omega) only [mz_rcv hM.o, mv_clI, mv_clV, mv_cl, X9_ofz hM hk, Int.reduceToNat, c3, if_true, X9_denied hM]
        rfl
      · have hI1 := mr_I_add hI hk c2 c3
        have hI2 : mr_I (mc_st2 (V (m + 1)) k b) := mr_I_up hI1 (by omega)
        have hh := X9_bal0 (X := X) (z := z) (d := d + 1) (V := mz_w V (m + 1) (mc_st2 (V (m + 1)) k b)) hM (by rw [mz_w_s]; exact hI2) hk
        rw [mz_w_s] at hh
        have e3 : ¬ (nZ (V (m + 1) (6 + 11 * k + 4)) = nZ 6) := by rw [nZ_inj ⟨by omega, by omega⟩ (by decide)]; exact c3
        have e4 : (5 + V (m + 1) (6 + 11 * k + 4)).toNat = 5 + (V (m + 1) (6 + 11 * k + 4)).toNat := by omega
        have e6 : mr_up (V (m + 1)) (6 + 11 * k + (5 + (V (m + 1) (6 + 11 * k + 4)).toNat)) b (6 + 11 * k + 4) = V (m + 1) (6 + 11 * k + 4) := mr_up_n _ _ (by omega)
        have e7 : mr_up (mr_up (V (m + 1)) (6 + 11 * k + (5 + (V (m + 1) (6 + 11 * k + 4)).toNat)) b) (6 + 11 * k + 4) (V (m + 1) (6 + 11 * k + 4) + 1) 2 = V (m + 1) 2 := by rw [mr_up_n _ _ (by omega), mr_up_n _ _ (by omega)]
        have e5 : mr_up (mr_up (mr_up (V (m + 1)) (6 + 11 * k + (5 + (V (m + 1) (6 + 11 * k + 4)).toNat)) b) (6 + 11 * k + 4) (V (m + 1) (6 + 11 * k + 4) + 1)) 2 (V (m + 1) 2 + b) = mc_st2 (V (m + 1)) k b := rfl
        refine ⟨_, ?_, by rw [if_neg c3]; exact mr_E_s⟩
        simp (disch := omega) only [mz_rcv hM.o, mv_clI, mv_clV, mv_cl, X9_ofz hM hk, Int.reduceToNat, e3, if_false, nZ_add, mv_clV, mv_cl, X9_setsz hM hk, e4, mz_w_s, mz_w_w, e6, mr_gs hM, mr_as hM, mr_ps hM, e7, e5, hh, X9_done hM]
        rw [if_neg c3]
        rfl
    · rw [if_pos c2, if_neg c2]
      exact ⟨V, rfl, mr_E_ex (by decide)⟩
  · rw [if_pos c1, if_neg c1]
    exact ⟨V, rfl, mr_E_ex (by decide)⟩
theorem X9_drops (hM : mr_M P m) (hI : mr_I (V (m + 1))) {a b : Int} (ha : nS a) (hb : nS b) : ∃ V', mv_call X (d + 4) 181 [.ref m, .int (nZ a), .int (nZ b)] (mz_h P V, z) = some (.inl (some (.int (nZ (mc_rs 3 (mc_rf3 (V (m + 1)) a b))))), (mz_h P V', z)) ∧
    mr_E V V' m (mc_rs 3 (mc_rf3 (V (m + 1)) a b)) (mc_st3 (V (m + 1)) a.toNat b.toNat) (V (m + 1) (6 + 11 * a.toNat + (5 + b.toNat))) 0 := by
  rw [mc_X9_drops, bk_X9_drops_0]
  simp only [mz_rcv hM.o, mv_clI, mv_clV, mv_cl, mz_rcv hM.o, mv_clI, mv_cl, X9_hereI hM hI ha, nZ_b1]
  unfold mc_rf3
  by_cases c1 : mr_has (V (m + 1)) a
  · obtain ⟨k, rfl⟩ : ∃ k : Nat, a = k := ⟨a.toNat, by have := c1.1; omega⟩
    have hk : k < 10 := by have := c1.2.1; omega
    have h1 := hI.bags hk
    rw [if_neg (fun q => q c1), if_pos c1, Int.toNat_natCast]
    simp (disch := omega) only [mz_rcv hM.o, mv_clI, mv_clV, mv_cl, X9_ofz hM hk, Int.reduceToNat, nZ_sub]
    simp only [X9_in hb (show nS 0 by decide) (show nS (V (m + 1) (6 + 11 * k + 4) - 1) from ⟨by omega, by omega⟩), nZ_b1]
    by_cases c2 : 0 ≤ b ∧ b < V (m + 1) (6 + 11 * k + 4)
    · rw [if_pos c2, if_neg (fun q => q ⟨c2.1, by omega⟩)]
      obtain ⟨i, rfl⟩ : ∃ i : Nat, b = i := ⟨b.toNat, by omega⟩
      have hi : i < 6 := by omega
      rw [Int.toNat_natCast]
      have e7 : mr_take (V (m + 1)) k i 3 = V (m + 1) 3 := mr_take_o (by omega) (by omega)
      have e5 : mr_up (mr_take (V (m + 1)) k i) 3 (V (m + 1) 3 + V (m + 1) (6 + 11 * k + (5 + i))) = mc_st3 (V (m + 1)) k i := rfl
      refine ⟨_, ?_, mr_E_s⟩
      simp (disch := omega) only [mz_rcv hM.o, mv_clI, mv_clV, mv_cl, nZ_add, X9_ofz hM hk, mr_t5, mv_clV, mv_cl, X9_takesBag hM hI hk c2.2, mz_w_s, mz_w_w, mr_gs hM, mr_as hM, mr_ps hM, Int.reduceToNat, e7, e5, X9_done hM]
      rfl
    · rw [if_neg c2, if_pos (fun q => c2 ⟨q.1, by omega⟩)]
      exact ⟨V, rfl, mr_E_ex (by decide)⟩
  · rw [if_pos c1, if_neg c1]
    exact ⟨V, rfl, mr_E_ex (by decide)⟩
theorem mr_drp_ok {t : Nat} : ∀ (n : Nat) (s : Nat → Int) (a : Nat), mr_I s → a < 10 → n ≤ 6 → (∀ k, k < n → t.testBit k = true → (k : Int) < s (6 + 11 * a + 4)) → mr_I (mr_drp t a n s)
  | 0, s, a, h, _, _, _ => h
  | n + 1, s, a, h, ha, hn, hb => by
    show mr_I (mr_drp t a n (if t.testBit n then mr_take (mr_up s 3 (s 3 + s (6 + 11 * a + (5 + n)))) a n else s))
    by_cases c : t.testBit n = true
    · rw [if_pos c]
      have h1 := hb n (by omega) c
      have h2 : mr_I (mr_up s 3 (s 3 + s (6 + 11 * a + (5 + n)))) := mr_I_up h (by omega)
      have e4 : mr_up s 3 (s 3 + s (6 + 11 * a + (5 + n))) (6 + 11 * a + 4) = s (6 + 11 * a + 4) := mr_up_n _ _ (by omega)
      refine mr_drp_ok n _ a (mr_I_take h2 ha (by rw [e4]; exact h1)) ha (by omega) fun k hk hk2 => ?_
      unfold mr_take
      rw [mr_up_s, e4]
      omega
    · rw [if_neg c]
      exact mr_drp_ok n s a h ha (by omega) fun k hk hk2 => hb k (by omega) hk2
theorem X9_rises_l (hM : mr_M P m) {a t : Nat} {b : Int32} (ha : a < 10) (ht : t < 64) (W : mz_V) : ∀ (n : Nat) (s : Nat → Int), n ≤ 6 → mr_I s → (∀ k, k < n → t.testBit k = true → (k : Int) < s (6 + 11 * a + 4)) →
    mv_run X (mv_call X (d + 2)) m_X9_rises 70 [.ref m, .int (nZ a), .int b, .int (nZ t), .int (nZ ((n : Int) - 1))] [] (mz_h P (mz_w W (m + 1) s), z) =
      some (.inl (some (.int (nZ 0))), (mz_h P (mz_w (mz_w W (m + 1) (mr_drp t a n s)) m (mr_up (mz_w W (m + 1) (mr_drp t a n s) m) 18 (mb_pop t))), z)) := by
  intro n
  induction n with
  | zero =>
    intro s _ _ _
    rw [bk_X9_rises_70, if_pos (by decide)]
    simp only [mz_rcv hM.o, mv_clI, mv_clV, mv_cl, mv_clI, mv_cl, X9_bits ht, mz_rcv hM.o, X9_done hM]
    rfl
  | succ n ih =>
    intro s hn hI hb
    have e1 : ((n + 1 : Nat) : Int) - 1 = n := by omega
    rw [bk_X9_rises_70, e1, if_neg (by rw [nZ_lt0 ⟨by omega, by omega⟩]; omega), mb_shr ht (show n < 6 by omega)]
    simp only [nZ_b1, nZ_add]
    have e2 : (n : Int) + -1 = (n : Int) - 1 := rfl
    have ed : mr_drp t a (n + 1) s = mr_drp t a n (if t.testBit n then mr_take (mr_up s 3 (s 3 + s (6 + 11 * a + (5 + n)))) a n else s) := rfl
    rw [e2, ed]
    by_cases c : t.testBit n = true
    · rw [if_neg (fun q => q c), if_pos c]
      have h1 := hb n (by omega) c
      have h2 : mr_I (mr_up s 3 (s 3 + s (6 + 11 * a + (5 + n)))) := mr_I_up hI (by omega)
      have e4 : mr_up s 3 (s 3 + s (6 + 11 * a + (5 + n))) (6 + 11 * a + 4) = s (6 + 11 * a + 4) := mr_up_n _ _ (by omega)
      have et := X9_takesBag (X := X) (z := z) (d := d) (V := mz_w W (m + 1) (mr_up s 3 (s 3 + s (6 + 11 * a + (5 + n))))) (k := n) hM (by rw [mz_w_s]; exact h2) ha (by rw [mz_w_s, e4]; exact h1)
      rw [mz_w_s, mz_w_w] at et
      simp (disch := omega) only [mz_rcv hM.o, mv_clI, mv_clV, mv_cl, mr_gs hM, mr_as hM, Int.reduceToNat, mz_w_s, mz_rcv hM.o, mv_clI, mv_clV, mv_cl, X9_ofz hM ha, nZ_add, mr_t5, mr_ps hM, mz_w_w, et]
      refine ih _ (by omega) (mr_I_take h2 ha (by rw [e4]; exact h1)) fun k hk hk2 => ?_
      unfold mr_take
      rw [mr_up_s, e4]
      omega
    · rw [if_pos c, if_neg c]
      exact ih s (by omega) hI fun k hk hk2 => hb k (by omega) hk2
theorem mr_bst_bits {s : Nat → Int} (hI : mr_I s) {k : Nat} (hk : k < 10) {b : Int} (h : mr_bst s k b ≠ -1) : (mr_bst s k b).toNat < 64 ∧ ∀ j, (mr_bst s k b).toNat.testBit j = true → (j : Int) < s (6 + 11 * k + 4) := by
  have h1 := hI.bags hk
  have h2 := mr_pow hI hk
  have h3 := mr_best_in s k b (2 ^ (s (6 + 11 * k + 4)).toNat)
  have h4 : (mr_bst s k b).toNat < 2 ^ (s (6 + 11 * k + 4)).toNat := by
    rcases h3 with h3 | h3
    · exact absurd h3 h
    · show (mr_best s k b (2 ^ (s (6 + 11 * k + 4)).toNat)).toNat < _
      omega
  refine ⟨by omega, fun j hj => ?_⟩
  refine Classical.byContradiction fun q => ?_
  have h5 : (mr_bst s k b).toNat < 2 ^ j := Nat.lt_of_lt_of_le h4 (Nat.pow_le_pow_right (by decide) (by omega))
  rw [Nat.testBit_lt_two_pow h5] at hj
  cases hj
theorem X9_rises (hM : mr_M P m) (hI : mr_I (V (m + 1))) {a b : Int} (ha : nS a) (hb : nS b) : ∃ V', mv_call X (d + 6) 182 [.ref m, .int (nZ a), .int (nZ b)] (mz_h P V, z) = some (.inl (some (.int (nZ (mc_rs 4 (mc_rf4 (V (m + 1)) a b))))), (mz_h P V', z)) ∧
    mr_E V V' m (mc_rs 4 (mc_rf4 (V (m + 1)) a b)) (mc_st4 (V (m + 1)) a.toNat b) (mb_pop (mr_bst (V (m + 1)) a.toNat b).toNat) (if b ≤ mr_ho (V (m + 1)) a.toNat 0 then mr_ho (V (m + 1)) a.toNat 0 else mr_ho (V (m + 1)) a.toNat 63) := by
  rw [mc_X9_rises, bk_X9_rises_0]
  simp only [mz_rcv hM.o, mv_clI, mv_clV, mv_cl, mz_rcv hM.o, mv_clI, mv_cl, X9_hereI hM hI ha, nZ_b1, X9_in hb (show nS 1 by decide) (show nS 40 by decide)]
  unfold mc_rf4
  by_cases c1 : mr_has (V (m + 1)) a
  · obtain ⟨k, rfl⟩ : ∃ k : Nat, a = k := ⟨a.toNat, by have := c1.1; omega⟩
    have hk : k < 10 := by have := c1.2.1; omega
    have h1 := hI.bags hk
    rw [if_neg (fun q => q c1), if_pos c1, Int.toNat_natCast]
    by_cases c2 : 1 ≤ b ∧ b ≤ 40
    · rw [if_neg (fun q => q c2), if_pos c2]
      have h2 := mr_ho0 hI hk 0
      have h3 := mr_ho1 hI hk 0
      have h5 := mr_ho0 hI hk 63
      have h6 := mr_ho1 hI hk 63
      simp only [mz_rcv hM.o, mv_clI, mv_clV, mv_cl, X9_high hM hI hk, nZ_lt (show nS (mr_ho (V (m + 1)) k 0) from ⟨by omega, by omega⟩) hb]
      by_cases c3 : b ≤ mr_ho (V (m + 1)) k 0
      · rw [if_neg (by omega), if_pos c3, if_pos c3]
        refine ⟨_, ?_, mr_E_den (n := 4) (by decide)⟩
        simp only [mz_rcv hM.o, mv_clI, mv_clV, mv_cl, X9_denied hM]
        rfl
      · rw [if_pos (by omega), if_neg c3, if_neg c3]
        simp only [mz_rcv hM.o, mv_clI, mv_clV, mv_cl, X9_best hM hI hk hb]
        have hin : mr_bst (V (m + 1)) k b = -1 ∨ (0 ≤ mr_bst (V (m + 1)) k b ∧ mr_bst (V (m + 1)) k b < (2 ^ (V (m + 1) (6 + 11 * k + 4)).toNat : Nat)) := mr_best_in (V (m + 1)) k b (2 ^ (V (m + 1) (6 + 11 * k + 4)).toNat)
        have hpw := mr_pow hI hk
        by_cases c4 : mr_ho (V (m + 1)) k 63 < b
        · rw [if_pos c4]
          have e := (mr_bst_none hI hk).mpr c4
          have eh := X9_highOf (X := X) (z := z) (d := d + 1) hM hI hk (t := 63) (by decide)
          have eh : mv_call X (d + 1 + 4) 166 [.ref m, .int (nZ k), .int (nZ 63)] (mz_h P V, z) = some (.inl (some (.int (nZ (mr_ho (V (m + 1)) k 63)))), (mz_h P V, z)) := eh
          refine ⟨_, ?_, mr_E_den (n := 3) (by decide)⟩
          simp only [mz_rcv hM.o, mv_clI, mv_clV, mv_cl, e, if_true, eh, X9_denied hM]
          rfl
        · rw [if_neg c4]
          have e : mr_bst (V (m + 1)) k b ≠ -1 := fun q => c4 ((mr_bst_none hI hk).mp q)
          have hbits := mr_bst_bits hI hk e
          have e2 : nZ (mr_bst (V (m + 1)) k b) = nZ ((mr_bst (V (m + 1)) k b).toNat : Int) := by
            congr 1
            rcases hin with q | q
            · exact absurd q e
            · omega
          have e3 : ¬ (nZ ((mr_bst (V (m + 1)) k b).toNat : Int) = nZ (-1)) := by
            rw [nZ_inj ⟨by omega, by omega⟩ (by decide)]; omega
          refine ⟨_, ?_, mr_E_s⟩
          simp only [e2, e3, if_false]
          have := X9_rises_l (X := X) (P := P) (z := z) (d := d + 3) hM hk hbits.1 V 6 (V (m + 1)) (b := nZ b) (Nat.le_refl _) hI (fun j _ => hbits.2 j)
          rw [mz_w_id] at this
          exact this
    · rw [if_pos c2, if_neg c2]
      exact ⟨V, rfl, mr_E_ex (by decide)⟩
  · rw [if_pos c1, if_neg c1]
    exact ⟨V, rfl, mr_E_ex (by decide)⟩
theorem X9_blows (hM : mr_M P m) (hI : mr_I (V (m + 1))) {a b : Int} (ha : nS a) (hb : nS b) : ∃ V', mv_call X (d + 4) 183 [.ref m, .int (nZ a), .int (nZ b)] (mz_h P V, z) = some (.inl (some (.int (nZ (mc_rs 5 (mc_rf5 (V (m + 1)) a b))))), (mz_h P V', z)) ∧
    mr_E V V' m (mc_rs 5 (mc_rf5 (V (m + 1)) a b)) (mc_st5 (V (m + 1)) a.toNat b) (V (m + 1) (116 + a.toNat)) b := by
  rw [mc_X9_blows, bk_X9_blows_0]
  simp only [mv_clI, mv_cl, X9_isHour ha, nZ_b1, X9_in hb (show nS (-9) by decide) (show nS 9 by decide)]
  unfold mc_rf5
  by_cases c1 : 0 ≤ a ∧ a ≤ 23
  · rw [if_neg (fun q => q c1)]
    by_cases c2 : -9 ≤ b ∧ b ≤ 9
    · rw [if_neg (fun q => q c2), if_pos (show (0 ≤ a ∧ a ≤ 23) ∧ (-9 ≤ b ∧ b ≤ 9) from ⟨c1, c2⟩)]
      obtain ⟨k, rfl⟩ : ∃ k : Nat, a = k := ⟨a.toNat, by omega⟩
      have hk : k < 24 := by omega
      have h1 := hI.wind hk
      have e4 : (116 + (k : Int)).toNat = 116 + k := by omega
      simp (disch := omega) only [mz_rcv hM.o, mv_clI, mv_clV, mv_cl, mr_gs hM, mr_as hM, nZ_add, e4, Int.toNat_natCast, mz_rcv hM.o]
      by_cases c3 : V (m + 1) (116 + k) = b
      · rw [if_pos (by rw [c3]), if_pos c3]
        refine ⟨_, ?_, mr_E_den (n := 5) (by decide)⟩
        simp only [mz_rcv hM.o, mv_clI, mv_clV, mv_cl, X9_denied hM]
        rfl
      · rw [if_neg (by rw [nZ_inj ⟨by omega, by omega⟩ hb]; exact c3), if_neg c3]
        refine ⟨_, ?_, mr_E_s⟩
        simp (disch := omega) only [mz_rcv hM.o, mv_clI, mv_clV, mv_cl, mr_ps hM, e4, X9_done hM]
        rfl
    · rw [if_pos c2, if_neg (fun q => c2 q.2)]
      exact ⟨V, rfl, mr_E_ex (by decide)⟩
  · rw [if_pos c1, if_neg (fun q => c1 q.1)]
    exact ⟨V, rfl, mr_E_ex (by decide)⟩
theorem X9_passes_l (hM : mr_M P m) (hI : mr_I (V (m + 1))) {a : Nat} (ha : V (m + 1) 0 + a ≤ 999999999) (ha2 : a ≤ 48) : ∀ i, i ≤ a → ∀ q u w,
    ∃ q' u' w', mv_run X (mv_call X (d + 8)) m_X9_passes 16 [.ref m, .int (nZ a), .int (nZ (mr_pas (V (m + 1)) i).2), .int (nZ i)] [] (mz_h P (mr_q V m (mr_pas (V (m + 1)) i).1 q u w), z) =
      some (.inl (some (.int (nZ 0))), (mz_h P (mz_w (mr_q V m (mr_pas (V (m + 1)) a).1 q' u' w') m (mr_up (mr_q V m (mr_pas (V (m + 1)) a).1 q' u' w' m) 18 (mr_pas (V (m + 1)) a).2)), z)) := by
  refine mz_loop (φ := fun i => ∀ q u w, ∃ q' u' w', mv_run X (mv_call X (d + 8)) m_X9_passes 16 [.ref m, .int (nZ a), .int (nZ (mr_pas (V (m + 1)) i).2), .int (nZ i)] [] (mz_h P (mr_q V m (mr_pas (V (m + 1)) i).1 q u w), z) = _) a ?_ (fun i hi ih => ?_)
  · intro q u w
    refine ⟨q, u, w, ?_⟩
    rw [bk_X9_passes_16, if_pos (by exact Int32.le_refl _)]
    simp only [mz_rcv hM.o, mv_clI, mv_clV, mv_cl, mz_rcv hM.o, mv_clI, mv_cl, X9_done hM]
  · intro q u w
    have h1 := mr_pas_I hI i (by omega)
    have hh := X9_oneHour (X := X) (P := P) (V := mr_q V m (mr_pas (V (m + 1)) i).1 q u w) (z := z) (d := d) hM (by rw [mr_q_s]; exact h1.1) (by rw [mr_q_s, h1.2]; omega)
    obtain ⟨q1, u1, w1, hh⟩ := hh
    have e : mr_q (mr_q V m (mr_pas (V (m + 1)) i).1 q u w) m (mr_hr (mr_q V m (mr_pas (V (m + 1)) i).1 q u w (m + 1))).1 q1 u1 w1 = mr_q V m (mr_pas (V (m + 1)) (i + 1)).1 q1 u1 w1 := by
      rw [mr_q_s]
      show mr_q (mr_q V m (mr_pas (V (m + 1)) i).1 q u w) m (mr_pas (V (m + 1)) (i + 1)).1 q1 u1 w1 = _
      funext b j
      unfold mr_q
      repeat' split
      all_goals first | rfl | omega
    rw [e, mr_q_s] at hh
    obtain ⟨q', u', w', h⟩ := ih q1 u1 w1
    refine ⟨q', u', w', ?_⟩
    rw [bk_X9_passes_16, if_neg (by rw [nZ_le ⟨by omega, by omega⟩ ⟨by omega, by omega⟩]; omega)]
    simp only [mz_rcv hM.o, mv_clI, mv_clV, mv_cl, mz_rcv hM.o, mv_clI, mv_cl, hh, nZ_add]
    have e3 : ((mr_pas (V (m + 1)) (i + 1)).2 : Int) = (mr_pas (V (m + 1)) i).2 + (mr_hr (mr_pas (V (m + 1)) i).1).2 := by
      show (((mr_pas (V (m + 1)) i).2 + (mr_hr (mr_pas (V (m + 1)) i).1).2 : Nat) : Int) = _
      omega
    rw [nc1, e3] at h
    exact h
theorem X9_passes (hM : mr_M P m) (hI : mr_I (V (m + 1))) (hh : V (m + 1) 0 ≤ 999999900) {a : Int} (ha : nS a) : ∃ V', mv_call X (d + 9) 184 [.ref m, .int (nZ a)] (mz_h P V, z) = some (.inl (some (.int (nZ (mc_rs 6 (mc_rf6 a))))), (mz_h P V', z)) ∧
    mr_E V V' m (mc_rs 6 (mc_rf6 a)) (mc_st6 (V (m + 1)) a.toNat) (mr_pas (V (m + 1)) a.toNat).2 0 := by
  rw [mc_X9_passes, bk_X9_passes_0]
  simp only [mv_clI, mv_cl, nZ_b1, X9_in ha (show nS 1 by decide) (show nS 48 by decide)]
  unfold mc_rf6
  by_cases c1 : 1 ≤ a ∧ a ≤ 48
  · rw [if_neg (fun q => q c1), if_pos c1]
    obtain ⟨k, rfl⟩ : ∃ k : Nat, a = k := ⟨a.toNat, by omega⟩
    rw [Int.toNat_natCast]
    obtain ⟨q', u', w', h⟩ := X9_passes_l (X := X) (P := P) (z := z) (d := d) hM hI (a := k) (by omega) (by omega) 0 (Nat.zero_le _) (V (m + 9)) (V (m + 10)) (V m 22)
    have e0 : mr_q V m (mr_pas (V (m + 1)) 0).1 (V (m + 9)) (V (m + 10)) (V m 22) = V := mr_q_id V m
    rw [e0] at h
    refine ⟨_, h, mr_E_done (mr_q_s _ _ _ _ _ _) (fun k hk => mr_q_o _ _ _ _ _ (by omega) (by omega) (by omega) (fun q => hk q.2)) (fun a a1 a2 a3 a4 => ?_)⟩
    funext j
    exact mr_q_o _ _ _ _ _ a2 a3 a4 (fun q => a1 q.1)
  · rw [if_pos c1, if_neg c1]
    exact ⟨V, rfl, mr_E_ex (by decide)⟩
theorem X9_joins (hM : mr_M P m) (hI : mr_I (V (m + 1))) {a b c : Int} (ha : nS a) (hb : nS b) (hc : nS c) : ∃ V', mv_call X (d + 4) 185 [.ref m, .int (nZ a), .int (nZ b), .int (nZ c)] (mz_h P V, z) = some (.inl (some (.int (nZ (mc_rs 7 (mc_rf7 (V (m + 1)) a b c))))), (mz_h P V', z)) ∧
    mr_E V V' m (mc_rs 7 (mc_rf7 (V (m + 1)) a b c)) (mc_st7 (V (m + 1)) a b c) (V (m + 1) 5) 6 := by
  rw [mc_X9_joins, bk_X9_joins_0]
  simp only [mv_clI, mv_cl, nZ_b1, X9_in ha (show nS 1 by decide) (show nS 30 by decide), X9_isHour hb, X9_isHour hc]
  unfold mc_rf7
  have h1 := hI.pil
  by_cases c1 : 1 ≤ a ∧ a ≤ 30
  · rw [if_neg (fun q => q c1)]
    by_cases c2 : 0 ≤ b ∧ b ≤ 23
    · rw [if_neg (fun q => q c2)]
      by_cases c3 : 0 ≤ c ∧ c ≤ 23
      · rw [if_neg (fun q => q c3), if_pos (show (1 ≤ a ∧ a ≤ 30) ∧ (0 ≤ b ∧ b ≤ 23) ∧ (0 ≤ c ∧ c ≤ 23) from ⟨c1, c2, c3⟩)]
        simp (disch := omega) only [mz_rcv hM.o, mv_clI, mv_clV, mv_cl, mr_gs hM, mr_as hM, Int.reduceToNat, mz_rcv hM.o]
        by_cases c4 : V (m + 1) 5 = 6
        · rw [if_pos (by rw [c4]), if_pos c4]
          refine ⟨_, ?_, mr_E_den (n := 1) (by decide)⟩
          simp only [mz_rcv hM.o, mv_clI, mv_clV, mv_cl, X9_denied hM]
          rfl
        · rw [if_neg (by rw [nZ_inj ⟨by omega, by omega⟩ (by decide)]; exact c4), if_neg c4]
          refine ⟨_, ?_, mr_E_s⟩
          have e0 : (140 + 3 * V (m + 1) 5 + 0).toNat = 140 + 3 * (V (m + 1) 5).toNat := by omega
          have e1 : (140 + 3 * V (m + 1) 5 + 1).toNat = 140 + 3 * (V (m + 1) 5).toNat + 1 := by omega
          have e2 : (140 + 3 * V (m + 1) 5 + 2).toNat = 140 + 3 * (V (m + 1) 5).toNat + 2 := by omega
          simp (disch := omega) only [mz_rcv hM.o, mv_clI, mv_clV, mv_cl, nZ_mul, nZ_add, mr_gs hM, mr_ps hM, e0, e1, e2, mz_w_s, mz_w_w, Int.reduceToNat, X9_done hM]
          rfl
      · rw [if_pos c3, if_neg (fun q => c3 q.2.2)]
        exact ⟨V, rfl, mr_E_ex (by decide)⟩
    · rw [if_pos c2, if_neg (fun q => c2 q.2.1)]
      exact ⟨V, rfl, mr_E_ex (by decide)⟩
  · rw [if_pos c1, if_neg (fun q => c1 q.1)]
    exact ⟨V, rfl, mr_E_ex (by decide)⟩
theorem X9_isPilot (hM : mr_M P m) (hI : mr_I (V (m + 1))) {a : Int} (ha : nS a) : mv_call X (d + 2) 161 [.ref m, .int (nZ a)] (mz_h P V, z) = some (.inl (some (.int (nZ (if 0 ≤ a ∧ a < V (m + 1) 5 then 1 else 0)))), (mz_h P V, z)) := by
  have h1 := hI.pil
  rw [mc_X9_isPilot, bk_X9_isPilot_0]
  simp (disch := omega) only [mz_rcv hM.o, mv_clI, mv_clV, mv_cl, mr_gs hM, mr_as hM, Int.reduceToNat, nZ_sub, mv_clI, mv_cl, X9_in ha (show nS 0 by decide) (show nS (V (m + 1) 5 - 1) from ⟨by omega, by omega⟩)]
  by_cases c : 0 ≤ a ∧ a < V (m + 1) 5
  · rw [if_pos c, if_pos (by omega)]; rfl
  · rw [if_neg c, if_neg (by omega)]; rfl
theorem X9_leaves (hM : mr_M P m) (hI : mr_I (V (m + 1))) {a : Int} (ha : nS a) : ∃ V', mv_call X (d + 3) 186 [.ref m, .int (nZ a)] (mz_h P V, z) = some (.inl (some (.int (nZ (mc_rs 8 (mc_rf8 (V (m + 1)) a))))), (mz_h P V', z)) ∧
    mr_E V V' m (mc_rs 8 (mc_rf8 (V (m + 1)) a)) (mc_st8 (V (m + 1)) a.toNat) (V (m + 1) 5 - 1) 0 := by
  have h1 := hI.pil
  rw [mc_X9_leaves, bk_X9_leaves_0]
  simp only [mz_rcv hM.o, mv_clI, mv_clV, mv_cl, mz_rcv hM.o, mv_clI, mv_cl, nZ_b1, X9_isPilot hM hI ha]
  unfold mc_rf8
  by_cases c1 : 0 ≤ a ∧ a < V (m + 1) 5
  · rw [if_neg (fun q => q c1), if_pos c1]
    obtain ⟨k, rfl⟩ : ∃ k : Nat, a = k := ⟨a.toNat, by omega⟩
    obtain ⟨n, hn⟩ : ∃ n : Nat, V (m + 1) 5 = (n : Int) + 1 := ⟨(V (m + 1) 5).toNat - 1, by omega⟩
    have hn2 : (V (m + 1) 5).toNat - 1 = n := by omega
    rw [Int.toNat_natCast]
    refine ⟨_, ?_, mr_E_s⟩
    simp (disch := omega) only [mz_rcv hM.o, mv_clI, mv_clV, mv_cl, mr_gs hM, mr_as hM, Int.reduceToNat, nZ_sub, nZ_mul, hn]
    rw [show (n : Int) + 1 - 1 = n by omega]
    have zz := mz_loop (φ := fun i => mv_run X (mv_call X (d + 2)) m_X9_leaves 60 [.ref m, .int (nZ k), .int (nZ n), .int (nZ i)] [] (mz_h P (mz_w V (m + 1) (mr_zr (mr_shf3 (V (m + 1)) (140 + 3 * k) (140 + 3 * n)) (140 + 3 * n) (140 + 3 * n + i))), z) =
      some (.inl (some (.int (nZ 0))), (mz_h P (mz_w (mz_w V (m + 1) (mr_up (mr_zr (mr_shf3 (V (m + 1)) (140 + 3 * k) (140 + 3 * n)) (140 + 3 * n) (140 + 3 * n + 3)) 5 n)) m (mr_up (mz_w V (m + 1) (mr_up (mr_zr (mr_shf3 (V (m + 1)) (140 + 3 * k) (140 + 3 * n)) (140 + 3 * n) (140 + 3 * n + 3)) 5 n) m) 18 n)), z))) 3 ?_ (fun i hi ih => ?_) 0 (Nat.zero_le _)
    · rw [show 140 + 3 * n + 0 = 140 + 3 * n from rfl, mr_zr0] at zz
      have key := mz_loop (φ := fun i => 3 * k ≤ i → mv_run X (mv_call X (d + 2)) m_X9_leaves 23 [.ref m, .int (nZ k), .int (nZ n), .int (nZ i)] [] (mz_h P (mz_w V (m + 1) (mr_shf3 (V (m + 1)) (140 + 3 * k) (140 + i))), z) =
        some (.inl (some (.int (nZ 0))), (mz_h P (mz_w (mz_w V (m + 1) (mr_up (mr_zr (mr_shf3 (V (m + 1)) (140 + 3 * k) (140 + 3 * n)) (140 + 3 * n) (140 + 3 * n + 3)) 5 n)) m (mr_up (mz_w V (m + 1) (mr_up (mr_zr (mr_shf3 (V (m + 1)) (140 + 3 * k) (140 + 3 * n)) (140 + 3 * n) (140 + 3 * n + 3)) 5 n) m) 18 n)), z))) (3 * n) ?_ (fun i hi ih => ?_) (3 * k) (by omega) (Nat.le_refl _)
      · rw [mr_shf30, mz_w_id] at key
        have e9 : ((3 * k : Nat) : Int) = 3 * (k : Int) := by omega
        rw [e9] at key
        rw [key]
        unfold mc_st8
        rw [hn2, hn, show (n : Int) + 1 - 1 = n by omega]
        rfl
      · intro _
        rw [bk_X9_leaves_23, nZ_mul, if_pos (by rw [nZ_le ⟨by omega, by omega⟩ ⟨by omega, by omega⟩]; omega)]
        exact zz
      · intro hki
        have ih := ih (by omega)
        rw [nc1] at ih
        rw [bk_X9_leaves_23, nZ_mul, if_neg (by rw [nZ_le ⟨by omega, by omega⟩ ⟨by omega, by omega⟩]; omega)]
        have e3 : (140 + (i : Int) + 3).toNat = 140 + i + 3 := by omega
        have e4 : (140 + (i : Int)).toNat = 140 + i := by omega
        simp (disch := omega) only [mz_rcv hM.o, mv_clI, mv_clV, mv_cl, mr_gs hM, mr_as hM, nZ_add, e3, e4, mz_w_s, mr_ps hM, mz_w_w]
        rw [mr_shf3_n _ (show ¬ (140 + 3 * k ≤ 140 + i + 3 ∧ 140 + i + 3 < 140 + i) by omega), mr_shf31 _ (by omega)]
        exact ih
    · rw [bk_X9_leaves_60, if_pos (by exact Int32.le_refl _)]
      simp (disch := omega) only [mz_rcv hM.o, mv_clI, mv_clV, mv_cl, mr_gs hM, mr_ps hM, Int.reduceToNat, mz_w_s, mz_w_w, mz_rcv hM.o, mv_clI, mv_cl, X9_done hM]
    · rw [nc1] at ih
      rw [bk_X9_leaves_60, if_neg (by rw [nZ_le ⟨by omega, by omega⟩ ⟨by omega, by omega⟩]; omega)]
      have e3 : (140 + 3 * (n : Int) + i).toNat = 140 + 3 * n + i := by omega
      simp (disch := omega) only [mz_rcv hM.o, mv_clI, mv_clV, mv_cl, mr_gs hM, nZ_mul, nZ_add, mr_ps hM, e3, mz_w_s, mz_w_w]
      rw [mr_zr1 _ (by omega)]
      exact ih
  · rw [if_pos c1, if_neg c1]
    exact ⟨V, rfl, mr_E_ex (by decide)⟩
end REFF
