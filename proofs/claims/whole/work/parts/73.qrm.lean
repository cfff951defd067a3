/-! QUERIES, THE REFERENCE: the code is set, the answer told -/
def mq_t (V : mz_V) (m : Nat) (cd : Int) : mz_V := mz_w V m (mr_up (V m) 0 cd)
def mq_m (P : mz_P) (V : mz_V) (z : Nat × Nat) (m : Nat) (cd an : Int) : Option mv_R := some (.inl (some (.int (nZ an))), (mz_h P (mq_t V m cd), z))
theorem mq_t_1 (V : mz_V) (m : Nat) (cd : Int) : mq_t V m cd (m + 1) = V (m + 1) := mz_w_n _ _ (by omega)
theorem mq_t_0 (V : mz_V) (m : Nat) (cd : Int) : mq_t V m cd m 0 = cd := by unfold mq_t; rw [mz_w_s, mr_up_s]
theorem mq_t_k (V : mz_V) (m : Nat) (cd : Int) {k : Nat} (hk : k ≠ 0) : mq_t V m cd m k = V m k := by unfold mq_t; rw [mz_w_s, mr_up_n _ _ hk]
theorem mq_t_r (V : mz_V) {m : Nat} (cd : Int) {r : Nat} (hr : r ≠ m) : mq_t V m cd r = V r := mz_w_n _ _ hr
theorem mq_t_t (V : mz_V) (m : Nat) (c e : Int) : mq_t (mq_t V m c) m e = mq_t V m e := by unfold mq_t; rw [mz_w_w, mz_w_s, mr_up_up]
theorem mq_t_is {V : mz_V} {m : Nat} {w : mz_V} (h : mr_is V m w) (cd : Int) : mr_is (mq_t V m cd) m w := by
  obtain ⟨⟨h1, h3, h4, h6, h8⟩, hf⟩ := h
  refine ⟨⟨by rw [mq_t_r _ _ (by omega)]; exact h1, by rw [mq_t_r _ _ (by omega)]; exact h3, by rw [mq_t_r _ _ (by omega)]; exact h4, by rw [mq_t_r _ _ (by omega)]; exact h6, by rw [mq_t_r _ _ (by omega)]; exact h8⟩, fun k hk => ?_⟩
  rw [mq_t_k _ _ _ (by unfold mg_f at hk; omega)]
  exact hf k hk
theorem mq_t_X (V : mz_V) (m : Nat) (cd : Int) : mr_X V (mq_t V m cd) m := mr_X_w (by omega) (by omega)
section QRM
variable {X : mv_X} {P : mz_P} {V : mz_V} {z : Nat × Nat} {m d : Nat} {s : Nat → Int}
theorem mq_p0 {f : mv_H → Option mv_R} {c : Int} (hM : mr_M P m) : mv_pf (mz_h P V, z) m 13 0 (.int (nZ c)) f = f (mz_h P (mq_t V m c), z) := mz_pW hM.o (by decide)
theorem mq_g0 {f : Int32 → Option mv_R} {c : Int} (hM : mr_M P m) : mv_gI X (mz_h P (mq_t V m c), z) m 13 0 f = f (nZ c) := by rw [mz_gI hM.o (by decide), mq_t_0]
theorem Q9_thrown (hM : mr_M P m) : mv_call X (d + 1) 148 [.ref m] (mz_h P V, z) = some (.inl (some (.int (nZ (V m 0)))), (mz_h P V, z)) := by
  rw [mc_X9_thrown, bk_X9_thrown_0, mz_gI hM.o (by decide)]
theorem mr_It (hI : mr_I (V (m + 1))) (c : Int) : mr_I (mq_t V m c (m + 1)) := by rw [mq_t_1]; exact hI
theorem nZ_pos {c : Int} (h : 0 ≤ c) (h2 : c ≤ 10) : (nZ c ≤ 0) = (c = 0) := by
  rw [nZ_le0 ⟨by omega, by omega⟩]
  exact propext ⟨fun q => by omega, fun q => by omega⟩
theorem X9_asked_y (hM : mr_M P m) (hI : mr_I (V (m + 1))) {a : Int} (ha : nS a) (h : mr_has (V (m + 1)) a) : mv_call X (d + 4) 198 [.ref m, .int (nZ a)] (mz_h P V, z) = some (.inl (some (.int (nZ 1))), (mz_h P (mq_t V m 0), z)) := by
  rw [mc_X9_isAsked, bk_X9_isAsked_0]
  simp only [mz_rcv hM.o, mv_clI, mv_cl, X9_hereI hM hI ha, nZ_b1]
  rw [if_neg (fun q => q h), mq_p0 hM, mq_g0 hM, if_pos (by rfl)]
theorem X9_asked_n (hM : mr_M P m) (hI : mr_I (V (m + 1))) {a : Int} (ha : nS a) (h : ¬ mr_has (V (m + 1)) a) : mv_call X (d + 4) 198 [.ref m, .int (nZ a)] (mz_h P V, z) = some (.inl (some (.int (nZ 0))), (mz_h P (mq_t V m 1), z)) := by
  rw [mc_X9_isAsked, bk_X9_isAsked_0]
  simp only [mz_rcv hM.o, mv_clI, mv_cl, X9_hereI hM hI ha, nZ_b1]
  rw [if_pos h, mq_p0 hM, mq_g0 hM, if_neg (by decide)]
theorem Q9_lift (hM : mr_M P m) (hI : mr_I (V (m + 1))) {a : Int} (ha : nS a) : mv_call X (d + 5) 199 [.ref m, .int (nZ a)] (mz_h P V, z) = mq_m P V z m (mq_b (V (m + 1)) a) (if mr_has (V (m + 1)) a then V (m + 1) (6 + 11 * a.toNat + 1) else 0) := by
  rw [mc_X9_lift, bk_X9_lift_0]
  by_cases c : mr_has (V (m + 1)) a
  · unfold mq_m
    rw [mq_by c, if_pos c]
    obtain ⟨k, rfl, hk, hh⟩ := mr_has_h c
    have hI0 := mr_It hI 0
    simp (disch := first | omega | decide) only [mz_rcv hM.o, mv_clI, mv_cl, X9_asked_y hM hI ha c, nZ_10, if_false, Int.toNat_natCast, X9_ofz hM hk, mq_t_1, Int.reduceToNat]
  · unfold mq_m
    rw [show mq_b (V (m + 1)) a = 1 from if_neg c, if_neg c]
    simp only [mz_rcv hM.o, mv_clI, mv_cl, X9_asked_n hM hI ha c, nZ_00, if_true]
theorem Q9_ballast (hM : mr_M P m) (hI : mr_I (V (m + 1))) {a : Int} (ha : nS a) : mv_call X (d + 5) 200 [.ref m, .int (nZ a)] (mz_h P V, z) = mq_m P V z m (mq_b (V (m + 1)) a) (if mr_has (V (m + 1)) a then mr_bal (V (m + 1)) a.toNat 0 else 0) := by
  rw [mc_X9_ballast, bk_X9_ballast_0]
  by_cases c : mr_has (V (m + 1)) a
  · unfold mq_m
    rw [mq_by c, if_pos c]
    obtain ⟨k, rfl, hk, hh⟩ := mr_has_h c
    have hI0 := mr_It hI 0
    simp (disch := first | omega | decide) only [mz_rcv hM.o, mv_clI, mv_cl, X9_asked_y hM hI ha c, nZ_10, if_false, Int.toNat_natCast, X9_bal0 hM hI0 hk, mq_t_1, Int.reduceToNat]
  · unfold mq_m
    rw [show mq_b (V (m + 1)) a = 1 from if_neg c, if_neg c]
    simp only [mz_rcv hM.o, mv_clI, mv_cl, X9_asked_n hM hI ha c, nZ_00, if_true]
theorem Q9_height (hM : mr_M P m) (hI : mr_I (V (m + 1))) {a : Int} (ha : nS a) : mv_call X (d + 6) 201 [.ref m, .int (nZ a)] (mz_h P V, z) = mq_m P V z m (mq_b (V (m + 1)) a) (if mr_has (V (m + 1)) a then mr_ho (V (m + 1)) a.toNat 0 else 0) := by
  rw [mc_X9_height, bk_X9_height_0]
  by_cases c : mr_has (V (m + 1)) a
  · unfold mq_m
    rw [mq_by c, if_pos c]
    obtain ⟨k, rfl, hk, hh⟩ := mr_has_h c
    have hI0 := mr_It hI 0
    simp (disch := first | omega | decide) only [mz_rcv hM.o, mv_clI, mv_cl, X9_asked_y hM hI ha c, nZ_10, if_false, Int.toNat_natCast, X9_high hM hI0 hk, mq_t_1, Int.reduceToNat]
  · unfold mq_m
    rw [show mq_b (V (m + 1)) a = 1 from if_neg c, if_neg c]
    simp only [mz_rcv hM.o, mv_clI, mv_cl, X9_asked_n hM hI ha c, nZ_00, if_true]
theorem Q9_bagCount (hM : mr_M P m) (hI : mr_I (V (m + 1))) {a : Int} (ha : nS a) : mv_call X (d + 5) 205 [.ref m, .int (nZ a)] (mz_h P V, z) = mq_m P V z m (mq_b (V (m + 1)) a) (if mr_has (V (m + 1)) a then V (m + 1) (6 + 11 * a.toNat + 4) else 0) := by
  rw [mc_X9_bagCount, bk_X9_bagCount_0]
  by_cases c : mr_has (V (m + 1)) a
  · unfold mq_m
    rw [mq_by c, if_pos c]
    obtain ⟨k, rfl, hk, hh⟩ := mr_has_h c
    have hI0 := mr_It hI 0
    simp (disch := first | omega | decide) only [mz_rcv hM.o, mv_clI, mv_cl, X9_asked_y hM hI ha c, nZ_10, if_false, Int.toNat_natCast, X9_ofz hM hk, mq_t_1, Int.reduceToNat]
  · unfold mq_m
    rw [show mq_b (V (m + 1)) a = 1 from if_neg c, if_neg c]
    simp only [mz_rcv hM.o, mv_clI, mv_cl, X9_asked_n hM hI ha c, nZ_00, if_true]
theorem Q9_top (hM : mr_M P m) (hI : mr_I (V (m + 1))) {a : Int} (ha : nS a) : mv_call X (d + 7) 212 [.ref m, .int (nZ a)] (mz_h P V, z) = mq_m P V z m (mq_b (V (m + 1)) a) (if mr_has (V (m + 1)) a then mr_top (V (m + 1)) a.toNat else 0) := by
  rw [mc_X9_top, bk_X9_top_0]
  by_cases c : mr_has (V (m + 1)) a
  · unfold mq_m
    rw [mq_by c, if_pos c]
    obtain ⟨k, rfl, hk, hh⟩ := mr_has_h c
    have hI0 := mr_It hI 0
    simp (disch := first | omega | decide) only [mz_rcv hM.o, mv_clI, mv_cl, X9_asked_y hM hI ha c, nZ_10, if_false, Int.toNat_natCast, X9_topOf hM hI0 hk, mq_t_1, Int.reduceToNat]
  · unfold mq_m
    rw [show mq_b (V (m + 1)) a = 1 from if_neg c, if_neg c]
    simp only [mz_rcv hM.o, mv_clI, mv_cl, X9_asked_n hM hI ha c, nZ_00, if_true]
theorem Q9_isBursting (hM : mr_M P m) (hI : mr_I (V (m + 1))) {a : Int} (ha : nS a) : mv_call X (d + 7) 202 [.ref m, .int (nZ a)] (mz_h P V, z) = mq_m P V z m (mq_b (V (m + 1)) a) (if mr_has (V (m + 1)) a then (if V (m + 1) (6 + 11 * a.toNat + 3) < mr_ho (V (m + 1)) a.toNat 0 then 1 else 0) else 0) := by
  rw [mc_X9_isBursting, bk_X9_isBursting_0]
  by_cases c : mr_has (V (m + 1)) a
  · unfold mq_m
    rw [mq_by c, if_pos c]
    obtain ⟨k, rfl, hk, hh⟩ := mr_has_h c
    have hI0 := mr_It hI 0
    simp only [mz_rcv hM.o, mv_clI, mv_cl, X9_asked_y hM hI ha c, nZ_10, if_false, Int.toNat_natCast, X9_isTooHigh hM hI0 hk, mq_t_1, nZ_b0]
    by_cases c2 : mr_ho (V (m + 1)) k 0 ≤ V (m + 1) (6 + 11 * k + 3)
    · rw [if_pos c2, if_neg (by omega)]
    · rw [if_neg c2, if_pos (by omega)]
  · unfold mq_m
    rw [show mq_b (V (m + 1)) a = 1 from if_neg c, if_neg c]
    simp only [mz_rcv hM.o, mv_clI, mv_cl, X9_asked_n hM hI ha c, nZ_00, if_true]
theorem Q9_isMoored (hM : mr_M P m) (hI : mr_I (V (m + 1))) {a : Int} (ha : nS a) : mv_call X (d + 4) 197 [.ref m, .int (nZ a)] (mz_h P V, z) = mq_m P V z m (if 0 ≤ a ∧ a ≤ 9 then 0 else 1) (if mr_has (V (m + 1)) a then 1 else 0) := by
  rw [mc_X9_isMoored, bk_X9_isMoored_0]
  unfold mq_m
  simp only [mv_clI, mv_cl, X9_isBerth ha, nZ_b1]
  by_cases c : 0 ≤ a ∧ a ≤ 9
  · rw [if_neg (fun q => q c), if_pos c, mq_p0 hM]
    simp only [mz_rcv hM.o, X9_hereI hM (mr_It hI 0) ha, mq_t_1]
    rw [mv_chk_t (by split <;> decide)]
  · rw [if_pos c, if_neg c, mq_p0 hM]
    simp only [mz_rcv hM.o, X9_hereI hM (mr_It hI 1) ha, mq_t_1]
    rw [mv_chk_t (by split <;> decide)]
theorem Q9_bagWeight (hM : mr_M P m) (hI : mr_I (V (m + 1))) {a b : Int} (ha : nS a) (hb : nS b) : mv_call X (d + 4) 206 [.ref m, .int (nZ a), .int (nZ b)] (mz_h P V, z) = mq_m P V z m (if mr_has (V (m + 1)) a then (if 0 ≤ b ∧ b < V (m + 1) (6 + 11 * a.toNat + 4) then 0 else 2) else 1) (if mr_has (V (m + 1)) a ∧ 0 ≤ b ∧ b < V (m + 1) (6 + 11 * a.toNat + 4) then V (m + 1) (6 + 11 * a.toNat + (5 + b.toNat)) else 0) := by
  rw [mc_X9_bagWeight, bk_X9_bagWeight_0]
  unfold mq_m
  simp only [mz_rcv hM.o, mv_clI, mv_cl, X9_hereI hM hI ha, nZ_b1]
  by_cases c : mr_has (V (m + 1)) a
  · rw [if_neg (fun q => q c), if_pos c]
    obtain ⟨k, rfl, hk, hh⟩ := mr_has_h c
    have h1 := hI.bags hk
    simp (disch := omega) only [Int.toNat_natCast, X9_ofz hM hk, Int.reduceToNat, nZ_sub, X9_in hb (show nS 0 by decide) (show nS (V (m + 1) (6 + 11 * k + 4) - 1) from ⟨by omega, by omega⟩), nZ_b1]
    by_cases c2 : 0 ≤ b ∧ b < V (m + 1) (6 + 11 * k + 4)
    · obtain ⟨i, rfl⟩ : ∃ i : Nat, b = i := ⟨b.toNat, by omega⟩
      rw [if_neg (fun q => q ⟨c2.1, by omega⟩), if_pos c2, if_pos ⟨c, c2⟩, mq_p0 hM, mq_g0 hM, if_pos (by decide), nZ_add]
      simp (disch := omega) only [mz_rcv hM.o, X9_ofz hM hk, mr_t5, mq_t_1, Int.toNat_natCast]
    · rw [if_pos (fun q => c2 ⟨q.1, by omega⟩), if_neg c2, if_neg (fun q => c2 q.2), mq_p0 hM, mq_g0 hM, if_neg (by decide)]
  · rw [if_pos c, if_neg c, if_neg (fun q => c q.1), mq_p0 hM, mq_g0 hM, if_neg (by decide)]
theorem X9_cnt (hM : mr_M P m) : mv_call X (d + 2) 196 [.ref m] (mz_h P V, z) = mq_m P V z m 0 (mq_cnt (V (m + 1))) := by
  rw [mc_X9_balloonCount, bk_X9_balloonCount_0, mq_p0 hM]
  unfold mq_m
  refine mz_loop (φ := fun i => mv_run X (mv_call X (d + 1)) m_X9_balloonCount 9 [.ref m, .int (nZ (mz_s (fun b => V (m + 1) (6 + 11 * b)) i)), .int (nZ i)] [] (mz_h P (mq_t V m 0), z) = _) 10 ?_ (fun i hi ih => ?_) 0 (Nat.zero_le _)
  · show mv_run X (mv_call X (d + 1)) m_X9_balloonCount 9 _ _ _ = _
    rw [bk_X9_balloonCount_9, if_pos (by exact Int32.le_refl _)]
    rfl
  · show mv_run X (mv_call X (d + 1)) m_X9_balloonCount 9 _ _ _ = _
    have ih : mv_run X (mv_call X (d + 1)) m_X9_balloonCount 9 [.ref m, .int (nZ (mz_s (fun b => V (m + 1) (6 + 11 * b)) i + V (m + 1) (6 + 11 * i))), .int (nZ (i + 1 : Nat))] [] (mz_h P (mq_t V m 0), z) = _ := ih
    rw [nc1] at ih
    rw [bk_X9_balloonCount_9, if_neg (by rw [nZ_le (by decide) ⟨by omega, by omega⟩]; omega)]
    simp (disch := omega) only [mz_rcv hM.o, mv_clI, mv_cl, X9_ofz hM hi, Int.reduceToNat, mq_t_1, nZ_add, Nat.add_zero]
    exact ih
theorem Q9_aboard (hM : mr_M P m) (hI : mr_I (V (m + 1))) : mv_call X (d + 3) 228 [.ref m] (mz_h P V, z) = mq_m P V z m 0 (mq_wgt (V (m + 1))) := by
  rw [mc_X9_aboard, bk_X9_aboard_0, mq_p0 hM]
  unfold mq_m
  refine mz_loop (φ := fun i => mv_run X (mv_call X (d + 2)) m_X9_aboard 9 [.ref m, .int (nZ (mz_s (fun b => mr_bal (V (m + 1)) b 0) i)), .int (nZ i)] [] (mz_h P (mq_t V m 0), z) = _) 10 ?_ (fun i hi ih => ?_) 0 (Nat.zero_le _)
  · show mv_run X (mv_call X (d + 2)) m_X9_aboard 9 _ _ _ = _
    rw [bk_X9_aboard_9, if_pos (by exact Int32.le_refl _)]
    rfl
  · show mv_run X (mv_call X (d + 2)) m_X9_aboard 9 _ _ _ = _
    have ih : mv_run X (mv_call X (d + 2)) m_X9_aboard 9 [.ref m, .int (nZ (mz_s (fun b => mr_bal (V (m + 1)) b 0) i + mr_bal (V (m + 1)) i 0)), .int (nZ (i + 1 : Nat))] [] (mz_h P (mq_t V m 0), z) = _ := ih
    rw [nc1] at ih
    rw [bk_X9_aboard_9, if_neg (by rw [nZ_le (by decide) ⟨by omega, by omega⟩]; omega)]
    simp only [mz_rcv hM.o, mv_clI, mv_cl, X9_bal0 hM (mr_It hI 0) hi, mq_t_1, nZ_add]
    exact ih
theorem Q9_pilotCount (hM : mr_M P m) : mv_call X (d + 1) 217 [.ref m] (mz_h P V, z) = mq_m P V z m 0 (V (m + 1) 5) := by
  rw [mc_X9_pilotCount, bk_X9_pilotCount_0, mq_p0 hM]
  unfold mq_m
  simp (disch := omega) only [mr_gs hM, mr_as hM, Int.reduceToNat, mq_t_1]
theorem Q9_hour (hM : mr_M P m) : mv_call X (d + 1) 225 [.ref m] (mz_h P V, z) = mq_m P V z m 0 (V (m + 1) 0) := by
  rw [mc_X9_hour, bk_X9_hour_0, mq_p0 hM]
  unfold mq_m
  simp (disch := omega) only [mr_gs hM, mr_as hM, Int.reduceToNat, mq_t_1]
theorem Q9_bursts (hM : mr_M P m) : mv_call X (d + 1) 226 [.ref m] (mz_h P V, z) = mq_m P V z m 0 (V (m + 1) 1) := by
  rw [mc_X9_bursts, bk_X9_bursts_0, mq_p0 hM]
  unfold mq_m
  simp (disch := omega) only [mr_gs hM, mr_as hM, Int.reduceToNat, mq_t_1]
theorem Q9_loaded (hM : mr_M P m) : mv_call X (d + 1) 227 [.ref m] (mz_h P V, z) = mq_m P V z m 0 (V (m + 1) 2) := by
  rw [mc_X9_loaded, bk_X9_loaded_0, mq_p0 hM]
  unfold mq_m
  simp (disch := omega) only [mr_gs hM, mr_as hM, Int.reduceToNat, mq_t_1]
theorem Q9_dropped (hM : mr_M P m) : mv_call X (d + 1) 229 [.ref m] (mz_h P V, z) = mq_m P V z m 0 (V (m + 1) 3) := by
  rw [mc_X9_dropped, bk_X9_dropped_0, mq_p0 hM]
  unfold mq_m
  simp (disch := omega) only [mr_gs hM, mr_as hM, Int.reduceToNat, mq_t_1]
theorem Q9_lost (hM : mr_M P m) : mv_call X (d + 1) 230 [.ref m] (mz_h P V, z) = mq_m P V z m 0 (V (m + 1) 4) := by
  rw [mc_X9_lost, bk_X9_lost_0, mq_p0 hM]
  unfold mq_m
  simp (disch := omega) only [mr_gs hM, mr_as hM, Int.reduceToNat, mq_t_1]
theorem X9_isAhead (hM : mr_M P m) (hI : mr_I (V (m + 1))) {i j : Nat} (hi : i < 10) (hj : j < 10) : mv_call X (d + 6) 203 [.ref m, .int (nZ i), .int (nZ j)] (mz_h P V, z) = some (.inl (some (.int (nZ (if mq_ahd (V (m + 1)) i j then 1 else 0)))), (mz_h P V, z)) := by
  have h1 := mr_ho0 hI hi 0; have h2 := mr_ho1 hI hi 0; have h3 := mr_ho0 hI hj 0; have h4 := mr_ho1 hI hj 0
  have h5 := mr_bal0 hI hi 0; have h6 := mr_bal1 hI hi 0; have h7 := mr_bal0 hI hj 0; have h8 := mr_bal1 hI hj 0
  rw [mc_X9_isAhead, bk_X9_isAhead_0]
  simp (disch := first | omega | (apply And.intro <;> omega)) only [mz_rcv hM.o, mv_clI, mv_cl, X9_high hM hI hi, X9_high hM hI hj, X9_bal0 hM hI hi, X9_bal0 hM hI hj, nZ_sub, nZ_inj, nZ_eq0, nZ_le0, nZ_le]
  unfold mq_ahd
  by_cases c1 : mr_ho (V (m + 1)) i 0 = mr_ho (V (m + 1)) j 0
  · rw [if_pos c1, if_pos c1]
    by_cases c2 : mr_bal (V (m + 1)) i 0 = mr_bal (V (m + 1)) j 0
    · rw [if_pos (by omega), if_pos c2]
      by_cases c3 : i < j
      · rw [if_neg (by omega), if_pos (by simpa using c3)]
      · rw [if_pos (by omega), if_neg (by simpa using c3)]
    · rw [if_neg (by omega), if_neg c2]
      by_cases c3 : mr_bal (V (m + 1)) j 0 < mr_bal (V (m + 1)) i 0
      · rw [if_neg (by omega), if_pos (by simpa using c3)]
      · rw [if_pos (by omega), if_neg (by simpa using c3)]
  · rw [if_neg c1, if_neg c1]
    by_cases c3 : mr_ho (V (m + 1)) j 0 < mr_ho (V (m + 1)) i 0
    · rw [if_neg (by omega), if_pos (by simpa using c3)]
    · rw [if_pos (by omega), if_neg (by simpa using c3)]
theorem mq_ahd_self (s : Nat → Int) (i : Nat) : mq_ahd s i i = false := by
  unfold mq_ahd
  rw [if_pos rfl, if_pos rfl]
  simp
theorem mq_ahs0 (s : Nat → Int) (i n : Nat) : 0 ≤ mq_ahs s i n := mz_s_0 fun j _ => by split <;> omega
theorem mq_ahs1 (s : Nat → Int) (i n : Nat) : mq_ahs s i n ≤ n := by
  have := mz_s_20 (f := fun j => if s (6 + 11 * j) = 1 ∧ mq_ahd s j i = true then (1 : Int) else 0) (m := 1) (n := n) fun j _ => by split <;> omega
  unfold mq_ahs
  omega
theorem X9_rank_no (hM : mr_M P m) (hI : mr_I (V (m + 1))) {r v3 v4 : Int32} {i : Nat} (hi : i < 10) (c : ¬ V (m + 1) (6 + 11 * i) = 1) {R : Option mv_R} (H : ∀ j3 j4 : Value, mv_run X (mv_call X (d + 6)) m_X9_berthByHeight 7 [.ref m, .int r, .int (nZ ((i : Int) + 1)), j3, j4] [] (mz_h P V, z) = R) :
    mv_run X (mv_call X (d + 6)) m_X9_berthByHeight 18 [.ref m, .int r, .int (nZ i), .int v3, .int v4] [] (mz_h P V, z) = R := by
  rw [bk_X9_berthByHeight_18]
  simp only [mz_rcv hM.o, mv_clI, mv_cl, X9_hereN hM hI hi, nZ_b1, nZ_add, if_pos c, H]
  split <;> rfl
theorem X9_rank_in (hM : mr_M P m) (hI : mr_I (V (m + 1))) {r : Int32} {i : Nat} (hi : i < 10) (c : V (m + 1) (6 + 11 * i) = 1) {R : Option mv_R} (H : ∀ j3 j4 : Value, mv_run X (mv_call X (d + 6)) m_X9_berthByHeight 7 [.ref m, .int r, .int (nZ ((i : Int) + 1)), j3, j4] [] (mz_h P V, z) = R) : ∀ j, j ≤ 10 →
    mv_run X (mv_call X (d + 6)) m_X9_berthByHeight 18 [.ref m, .int r, .int (nZ i), .int (nZ (mq_ahs (V (m + 1)) i j)), .int (nZ j)] [] (mz_h P V, z) =
      if nZ (mq_ahs (V (m + 1)) i 10) = r then some (.inl (some (.int (nZ i))), (mz_h P V, z)) else R := by
  refine mz_loop (φ := fun j => mv_run X (mv_call X (d + 6)) m_X9_berthByHeight 18 [.ref m, .int r, .int (nZ i), .int (nZ (mq_ahs (V (m + 1)) i j)), .int (nZ j)] [] (mz_h P V, z) = _) 10 ?_ (fun j hj ih => ?_)
  · rw [bk_X9_berthByHeight_18, if_pos (by exact Int32.le_refl _)]
    simp only [mz_rcv hM.o, mv_clI, mv_cl, X9_hereN hM hI hi, nZ_b1, nZ_add, H]
    rw [if_neg (fun q => q c)]
  · have e : mq_ahs (V (m + 1)) i (j + 1) = mq_ahs (V (m + 1)) i j + if V (m + 1) (6 + 11 * j) = 1 ∧ mq_ahd (V (m + 1)) j i = true then 1 else 0 := rfl
    rw [nc1] at ih
    rw [bk_X9_berthByHeight_18, if_neg (by rw [nZ_le ⟨by omega, by omega⟩ ⟨by omega, by omega⟩]; omega)]
    simp only [mz_rcv hM.o, mv_clI, mv_cl, X9_hereN hM hI hi, nZ_b1, nZ_add]
    rw [if_neg (fun q => q c)]
    by_cases cj : j = i
    · subst cj
      rw [e, mq_ahd_self, if_neg (fun q => by cases q.2), Int.add_zero] at ih
      rw [if_pos rfl, Int.add_zero]
      exact ih
    · rw [if_neg (by rw [nZ_inj ⟨by omega, by omega⟩ ⟨by omega, by omega⟩]; omega)]
      simp only [X9_hereN hM hI hj, nZ_b1, X9_isAhead hM hI hj hi, mz_rcv hM.o]
      by_cases c2 : V (m + 1) (6 + 11 * j) = 1
      · rw [if_neg (fun q => q c2)]
        by_cases c3 : mq_ahd (V (m + 1)) j i = true
        · rw [if_neg (fun q => q c3)]
          rw [e, if_pos ⟨c2, c3⟩] at ih
          exact ih
        · rw [if_pos c3, Int.add_zero]
          rw [e, if_neg (fun q => c3 q.2), Int.add_zero] at ih
          exact ih
      · rw [if_pos c2, Int.add_zero]
        rw [e, if_neg (fun q => c2 q.1), Int.add_zero] at ih
        exact ih
theorem Q9_berthByHeight (hM : mr_M P m) (hI : mr_I (V (m + 1))) {r : Int} (hr : nS r) : mv_call X (d + 7) 204 [.ref m, .int (nZ r)] (mz_h P V, z) = mq_m P V z m (if mq_rnk (V (m + 1)) r 10 0 = -1 then 1 else 0) (if mq_rnk (V (m + 1)) r 10 0 = -1 then 0 else mq_rnk (V (m + 1)) r 10 0) := by
  rw [mc_X9_berthByHeight, bk_X9_berthByHeight_0, mq_p0 hM]
  have key := mz_loop (φ := fun i => ∀ j3 j4 : Value, mv_run X (mv_call X (d + 6)) m_X9_berthByHeight 7 [.ref m, .int (nZ r), .int (nZ i), j3, j4] [] (mz_h P (mq_t V m 0), z) = mq_m P V z m (if mq_rnk (V (m + 1)) r (10 - i) i = -1 then 1 else 0) (if mq_rnk (V (m + 1)) r (10 - i) i = -1 then 0 else mq_rnk (V (m + 1)) r (10 - i) i)) 10 ?_ (fun i hi ih => ?_) 0 (Nat.zero_le _)
  · exact key _ _
  · intro j3 j4
    have e : mq_rnk (V (m + 1)) r (10 - 10) 10 = -1 := rfl
    rw [e, bk_X9_berthByHeight_7, if_pos (by exact Int32.le_refl _)]
    simp only [mz_rcv hM.o, mv_clI, mv_cl, X9_fails hM, if_true]
    show some (Sum.inl (some (Value.int (nZ 0))), (mz_h P (mq_t (mq_t V m 0) m 1), z)) = _
    rw [mq_t_t]
    rfl
  · intro j3 j4
    have hI0 := mr_It hI 0
    have e3 : 10 - i = (10 - (i + 1)) + 1 := by omega
    rw [nc1] at ih
    have h1 := mq_ahs0 (V (m + 1)) i 10
    have h2 := mq_ahs1 (V (m + 1)) i 10
    rw [bk_X9_berthByHeight_7, if_neg (by rw [nZ_le ⟨by omega, by omega⟩ ⟨by omega, by omega⟩]; omega), e3]
    by_cases c : V (m + 1) (6 + 11 * i) = 1
    · have := X9_rank_in (X := X) (P := P) (z := z) (d := d) hM hI0 (r := nZ r) hi (by rw [mq_t_1]; exact c) ih 0 (Nat.zero_le _)
      rw [mq_t_1] at this
      have z0 : mq_ahs (V (m + 1)) i 0 = 0 := rfl
      rw [z0] at this
      refine Eq.trans this ?_
      by_cases c2 : mq_ahs (V (m + 1)) i 10 = r
      · have ex : mq_rnk (V (m + 1)) r (10 - (i + 1) + 1) i = i := if_pos ⟨c, c2⟩
        rw [if_pos (by rw [c2]), ex, if_neg (by omega), if_neg (by omega)]
        rfl
      · have ex : mq_rnk (V (m + 1)) r (10 - (i + 1) + 1) i = mq_rnk (V (m + 1)) r (10 - (i + 1)) (i + 1) := if_neg (fun q => c2 q.2)
        rw [if_neg (by rw [nZ_inj ⟨by omega, by omega⟩ hr]; exact c2), ex]
    · have ex : mq_rnk (V (m + 1)) r (10 - (i + 1) + 1) i = mq_rnk (V (m + 1)) r (10 - (i + 1)) (i + 1) := if_neg (fun q => c q.1)
      rw [ex]
      exact X9_rank_no hM hI0 hi (by rw [mq_t_1]; exact c) ih
/-- sets -/
theorem X9_askedS (hM : mr_M P m) (hI : mr_I (V (m + 1))) {a b : Int} (ha : nS a) (hb : nS b) : mv_call X (d + 6) 207 [.ref m, .int (nZ a), .int (nZ b)] (mz_h P V, z) = mq_m P V z m (mq_ds (V (m + 1)) a b) (if mq_ds (V (m + 1)) a b = 0 then mr_bst (V (m + 1)) a.toNat b else 0) := by
  rw [mc_X9_asked, bk_X9_asked_0]
  unfold mq_m
  simp only [mz_rcv hM.o, mv_clI, mv_cl, X9_hereI hM hI ha, nZ_b1, X9_in hb (show nS 1 by decide) (show nS 40 by decide)]
  by_cases c : mr_has (V (m + 1)) a
  · rw [if_neg (fun q => q c)]
    obtain ⟨k, rfl, hk, hh⟩ := mr_has_h c
    simp only [X9_best hM hI hk hb]
    have hin : mr_bst (V (m + 1)) k b = -1 ∨ (0 ≤ mr_bst (V (m + 1)) k b ∧ mr_bst (V (m + 1)) k b < (2 ^ (V (m + 1) (6 + 11 * k + 4)).toNat : Nat)) := mr_best_in (V (m + 1)) k b (2 ^ (V (m + 1) (6 + 11 * k + 4)).toNat)
    have hpw := mr_pow hI hk
    by_cases c1 : 1 ≤ b ∧ b ≤ 40
    · rw [if_neg (fun q => q c1)]
      by_cases c2 : mr_bst (V (m + 1)) k b = -1
      · have ed : mq_ds (V (m + 1)) k b = 2 := by
          unfold mq_ds
          simp only [Int.toNat_natCast]
          rw [if_pos c1, if_neg (fun q => q.2 c2)]
        rw [if_pos (by rw [c2]), ed, if_neg (by decide), mq_p0 hM, mq_g0 hM, if_neg (by decide)]
      · have ed : mq_ds (V (m + 1)) k b = 0 := by
          unfold mq_ds
          simp only [Int.toNat_natCast]
          rw [if_pos c1, if_pos ⟨c, c2⟩]
        rw [if_neg (by rw [nZ_inj ⟨by omega, by omega⟩ (by decide)]; exact c2), ed, if_pos rfl, mq_p0 hM, mq_g0 hM, if_pos (by decide), Int.toNat_natCast]
    · have ed : mq_ds (V (m + 1)) k b = 1 := if_neg c1
      rw [if_pos c1, ed, if_neg (by decide), mq_p0 hM, mq_g0 hM, if_neg (by decide)]
  · rw [if_pos c]
    by_cases c1 : 1 ≤ b ∧ b ≤ 40
    · have ed : mq_ds (V (m + 1)) a b = 2 := by
        unfold mq_ds
        rw [if_pos c1, if_neg (fun q => c q.1)]
      rw [if_neg (fun q => q c1), if_pos trivial, ed, if_neg (by decide), mq_p0 hM, mq_g0 hM, if_neg (by decide)]
    · have ed : mq_ds (V (m + 1)) a b = 1 := if_neg c1
      rw [if_pos c1, ed, if_neg (by decide), mq_p0 hM, mq_g0 hM, if_neg (by decide)]
theorem Q9_fewestDrops (hM : mr_M P m) (hI : mr_I (V (m + 1))) {a b : Int} (ha : nS a) (hb : nS b) : mv_call X (d + 7) 208 [.ref m, .int (nZ a), .int (nZ b)] (mz_h P V, z) = mq_m P V z m (mq_ds (V (m + 1)) a b) (if mq_ds (V (m + 1)) a b = 0 then mb_pop (mr_bst (V (m + 1)) a.toNat b).toNat else 0) := by
  rw [mc_X9_fewestDrops, bk_X9_fewestDrops_0, mz_rcv hM.o]
  simp only [mv_clI, mv_cl, X9_askedS hM hI ha hb]
  unfold mq_m
  by_cases c : mq_ds (V (m + 1)) a b = 0
  · rw [if_pos c, if_pos c]
    have hc : mr_has (V (m + 1)) a ∧ mr_bst (V (m + 1)) a.toNat b ≠ -1 := by
      unfold mq_ds at c
      split at c
      · split at c
        · assumption
        · exact absurd c (by decide)
      · exact absurd c (by decide)
    obtain ⟨k, hk1, hk, hh⟩ := mr_has_h hc.1
    rw [hk1, Int.toNat_natCast] at hc ⊢
    have hn := mr_bst_nat hI hk hc.2
    rw [hn.1]
    simp only [X9_bits hn.2, Int.toNat_natCast]
  · rw [if_neg c, if_neg c]
    have := X9_bits (X := X) (d := d + 5) (t := 0) (by decide) (h := (mz_h P (mq_t V m (mq_ds (V (m + 1)) a b)), z))
    rw [show ((0 : Nat) : Int) = 0 from rfl, show mb_pop 0 = 0 by decide] at this
    simp only [this]
theorem Q9_fewestDropsBySets (hM : mr_M P m) (hI : mr_I (V (m + 1))) {a b : Int} (ha : nS a) (hb : nS b) : mv_call X (d + 8) 209 [.ref m, .int (nZ a), .int (nZ b)] (mz_h P V, z) = mq_m P V z m (mq_ds (V (m + 1)) a b) (if mq_ds (V (m + 1)) a b = 0 then mb_pop (mr_bst (V (m + 1)) a.toNat b).toNat else 0) := by
  rw [mc_X9_fewestDropsBySets, bk_X9_fewestDropsBySets_0, mz_rcv hM.o]
  simp only [mv_clI, mv_cl, Q9_fewestDrops hM hI ha hb]
  rfl
theorem Q9_dropWeight (hM : mr_M P m) (hI : mr_I (V (m + 1))) {a b : Int} (ha : nS a) (hb : nS b) : mv_call X (d + 7) 210 [.ref m, .int (nZ a), .int (nZ b)] (mz_h P V, z) = mq_m P V z m (mq_ds (V (m + 1)) a b) (if mq_ds (V (m + 1)) a b = 0 then mr_bal (V (m + 1)) a.toNat 0 - mr_bal (V (m + 1)) a.toNat (mr_bst (V (m + 1)) a.toNat b).toNat else 0) := by
  rw [mc_X9_dropWeight, bk_X9_dropWeight_0, mz_rcv hM.o]
  simp only [mv_clI, mv_cl, X9_askedS hM hI ha hb]
  unfold mq_m
  by_cases c : mq_ds (V (m + 1)) a b = 0
  · rw [if_pos c, if_pos c]
    have hc : mr_has (V (m + 1)) a ∧ mr_bst (V (m + 1)) a.toNat b ≠ -1 := by
      unfold mq_ds at c
      split at c
      · split at c
        · assumption
        · exact absurd c (by decide)
      · exact absurd c (by decide)
    obtain ⟨k, hk1, hk, hh⟩ := mr_has_h hc.1
    rw [c]
    rw [hk1, Int.toNat_natCast] at hc ⊢
    have hn := mr_bst_nat hI hk hc.2
    have hI0 := mr_It hI 0
    simp only [mq_g0 hM]
    rw [if_pos (by decide), hn.1]
    simp only [mz_rcv hM.o, X9_bal0 hM hI0 hk, X9_ballastWithout hM hI0 hk hn.2, mq_t_1, nZ_sub, Int.toNat_natCast]
  · rw [if_neg c, if_neg c]
    have hd : mq_ds (V (m + 1)) a b = 1 ∨ mq_ds (V (m + 1)) a b = 2 := by
      unfold mq_ds at c ⊢
      repeat' split
      all_goals first | omega | skip
      all_goals simp_all
    simp only [mq_g0 hM]
    rw [if_neg (by rw [nZ_le0 ⟨by omega, by omega⟩]; omega)]
theorem Q9_wind (hM : mr_M P m) {a : Int} (ha : nS a) : mv_call X (d + 3) 211 [.ref m, .int (nZ a)] (mz_h P V, z) = mq_m P V z m (if 0 ≤ a ∧ a ≤ 23 then 0 else 1) (if 0 ≤ a ∧ a ≤ 23 then V (m + 1) (116 + a.toNat) else 0) := by
  rw [mc_X9_wind, bk_X9_wind_0]
  unfold mq_m
  simp only [mv_clI, mv_cl, X9_isHour ha, nZ_b1]
  by_cases c : 0 ≤ a ∧ a ≤ 23
  · rw [if_neg (fun q => q c), if_pos c, if_pos c, mq_p0 hM, mq_g0 hM, if_pos (by decide)]
    have e : (116 + a).toNat = 116 + a.toNat := by omega
    simp (disch := omega) only [mr_gs hM, nZ_add, mr_as hM, e, mq_t_1]
  · rw [if_pos c, if_neg c, if_neg c, mq_p0 hM, mq_g0 hM, if_neg (by decide)]
theorem X9_pilot (hM : mr_M P m) {p : Nat} {k : Int} (hp : p < 6) (hk : 0 ≤ k) (hk2 : k < 3) : mv_call X (d + 1) 162 [.ref m, .int (nZ p), .int (nZ k)] (mz_h P V, z) = some (.inl (some (.int (nZ (V (m + 1) (140 + 3 * p + k.toNat))))), (mz_h P V, z)) := by
  have e : (140 + 3 * (p : Int) + k).toNat = 140 + 3 * p + k.toNat := by omega
  rw [mc_X9_pilot, bk_X9_pilot_0]
  simp (disch := omega) only [mr_gs hM, nZ_mul, nZ_add, mr_as hM, e]
/-- what holds of pilots -/
def mq_pI (s : Nat → Int) : Prop := ∀ p : Nat, (p : Int) < s 5 → (1 ≤ s (140 + 3 * p) ∧ s (140 + 3 * p) ≤ 30) ∧ (0 ≤ s (140 + 3 * p + 1) ∧ s (140 + 3 * p + 1) ≤ 23) ∧ (0 ≤ s (140 + 3 * p + 2) ∧ s (140 + 3 * p + 2) ≤ 23)
theorem X9_isOn (hM : mr_M P m) {p : Nat} (hp : p < 6) (hpI : (0 ≤ V (m + 1) (140 + 3 * p + 1) ∧ V (m + 1) (140 + 3 * p + 1) ≤ 23) ∧ (0 ≤ V (m + 1) (140 + 3 * p + 2) ∧ V (m + 1) (140 + 3 * p + 2) ≤ 23)) {t : Int} (ht : nS t) : mv_call X (d + 2) 218 [.ref m, .int (nZ p), .int (nZ t)] (mz_h P V, z) = some (.inl (some (.int (nZ (if mq_on (V (m + 1)) p t then 1 else 0)))), (mz_h P V, z)) := by
  obtain ⟨⟨h1, h2⟩, h3, h4⟩ := hpI
  rw [mc_X9_isOn, bk_X9_isOn_0]
  simp (disch := first | assumption | omega | (apply And.intro <;> omega)) only [mz_rcv hM.o, mv_clI, mv_cl, X9_pilot hM hp, Int.reduceToNat, nZ_lt, nZ_le, X9_in ht (show nS (V (m + 1) (140 + 3 * p + 1)) from ⟨by omega, by omega⟩) (show nS (V (m + 1) (140 + 3 * p + 2)) from ⟨by omega, by omega⟩)]
  unfold mq_on
  by_cases c : V (m + 1) (140 + 3 * p + 1) ≤ V (m + 1) (140 + 3 * p + 2)
  · rw [if_neg (by omega), if_pos c, mv_chk_t (by split <;> decide)]
    by_cases c2 : V (m + 1) (140 + 3 * p + 1) ≤ t ∧ t ≤ V (m + 1) (140 + 3 * p + 2)
    · rw [if_pos c2, if_pos (by simpa using c2)]
    · rw [if_neg c2, if_neg (by simpa using c2)]
  · rw [if_pos (by omega), if_neg c]
    by_cases c2 : V (m + 1) (140 + 3 * p + 1) ≤ t ∨ t ≤ V (m + 1) (140 + 3 * p + 2)
    · rw [if_pos (by simpa using c2) (c := decide (V (m + 1) (140 + 3 * p + 1) ≤ t ∨ t ≤ V (m + 1) (140 + 3 * p + 2)) = true)]
      repeat' split
      all_goals first | rfl | omega
    · rw [if_neg (by simpa using c2) (c := decide (V (m + 1) (140 + 3 * p + 1) ≤ t ∨ t ≤ V (m + 1) (140 + 3 * p + 2)) = true)]
      repeat' split
      all_goals first | rfl | omega
theorem X9_crews (hM : mr_M P m) (hI : mr_I (V (m + 1))) (hpI : mq_pI (V (m + 1))) {p b : Nat} (hp : (p : Int) < V (m + 1) 5) (hb : b < 10) : mv_call X (d + 4) 219 [.ref m, .int (nZ p), .int (nZ b)] (mz_h P V, z) = some (.inl (some (.int (nZ (if mq_fit (V (m + 1)) p b then 1 else 0)))), (mz_h P V, z)) := by
  have h5 := hI.pil
  have h0 := hI.hour
  obtain ⟨g1, g2⟩ := hpI p hp
  have hs0 := mr_sp0 (s := V (m + 1)) b 0
  have hs1 := mr_sp1 hI hb 0
  rw [mc_X9_crews, bk_X9_crews_0]
  simp (disch := first | omega | (apply And.intro <;> omega)) only [mz_rcv hM.o, mv_clI, mv_cl, X9_now hM hI, X9_isOn hM (show p < 6 by omega) g2 (t := V (m + 1) 0 % 24) ⟨by omega, by omega⟩, nZ_b1, X9_sp0 hM hI hb, X9_pilot hM (show p < 6 by omega), Int.reduceToNat, Nat.add_zero, nZ_lt]
  unfold mq_fit
  by_cases c : mq_on (V (m + 1)) p (V (m + 1) 0 % 24) = true
  · rw [if_neg (fun q => q c), c]
    by_cases c2 : V (m + 1) (140 + 3 * p) ≤ mr_sp (V (m + 1)) b 0
    · rw [if_neg (by omega), if_pos (by simpa using c2)]
    · rw [if_pos (by omega), if_neg (by simpa using c2)]
  · rw [if_pos c, if_neg (by rw [Bool.and_eq_true]; exact fun q => c q.1)]
theorem Q9_isOnDuty (hM : mr_M P m) (hI : mr_I (V (m + 1))) (hpI : mq_pI (V (m + 1))) {p t : Int} (hp : nS p) (ht : nS t) : mv_call X (d + 3) 220 [.ref m, .int (nZ p), .int (nZ t)] (mz_h P V, z) = mq_m P V z m (if 0 ≤ p ∧ p < V (m + 1) 5 then (if 0 ≤ t ∧ t ≤ 23 then 0 else 2) else 1) (if (0 ≤ p ∧ p < V (m + 1) 5) ∧ (0 ≤ t ∧ t ≤ 23) ∧ mq_on (V (m + 1)) p.toNat t = true then 1 else 0) := by
  have h5 := hI.pil
  rw [mc_X9_isOnDuty, bk_X9_isOnDuty_0]
  unfold mq_m
  simp only [mz_rcv hM.o, mv_clI, mv_cl, X9_isPilot hM hI hp, nZ_b1, X9_isHour ht]
  by_cases c : 0 ≤ p ∧ p < V (m + 1) 5
  · rw [if_neg (fun q => q c), if_pos c]
    by_cases c2 : 0 ≤ t ∧ t ≤ 23
    · obtain ⟨q, rfl⟩ : ∃ q : Nat, p = q := ⟨p.toNat, by omega⟩
      have g := (hpI q c.2).2
      rw [if_neg (fun q => q c2), if_pos c2, mq_p0 hM, mq_g0 hM, if_pos (by rfl), Int.toNat_natCast]
      have ho := X9_isOn (X := X) (P := P) (z := z) (d := d) (V := mq_t V m 0) hM (p := q) (by omega) (by rw [mq_t_1]; exact g) ht
      rw [mq_t_1] at ho
      simp only [mz_rcv hM.o, ho, nZ_b1]
      by_cases c3 : mq_on (V (m + 1)) q t = true
      · rw [if_neg (fun w => w c3), if_pos ⟨c, c2, c3⟩]
      · rw [if_pos c3, if_neg (fun w => c3 w.2.2)]
    · rw [if_pos c2, if_neg c2, if_neg (fun w => c2 w.2.1), mq_p0 hM, mq_g0 hM, if_neg (by decide)]
  · rw [if_pos c, if_neg c, if_neg (fun w => c w.1), mq_p0 hM, mq_g0 hM, if_neg (by decide)]
theorem Q9_canCrew (hM : mr_M P m) (hI : mr_I (V (m + 1))) (hpI : mq_pI (V (m + 1))) {p a : Int} (hp : nS p) (ha : nS a) : mv_call X (d + 5) 221 [.ref m, .int (nZ p), .int (nZ a)] (mz_h P V, z) = mq_m P V z m (if 0 ≤ p ∧ p < V (m + 1) 5 then (if mr_has (V (m + 1)) a then 0 else 2) else 1) (if (0 ≤ p ∧ p < V (m + 1) 5) ∧ mr_has (V (m + 1)) a ∧ mq_fit (V (m + 1)) p.toNat a.toNat = true then 1 else 0) := by
  rw [mc_X9_canCrew, bk_X9_canCrew_0]
  unfold mq_m
  simp only [mz_rcv hM.o, mv_clI, mv_cl, X9_isPilot hM hI hp, nZ_b1, X9_hereI hM hI ha]
  by_cases c : 0 ≤ p ∧ p < V (m + 1) 5
  · rw [if_neg (fun q => q c), if_pos c]
    by_cases c2 : mr_has (V (m + 1)) a
    · obtain ⟨k, hk1, hk, hh⟩ := mr_has_h c2
      obtain ⟨q, hq⟩ : ∃ q : Nat, p = q := ⟨p.toNat, by omega⟩
      rw [if_neg (fun q => q c2), if_pos c2, mq_p0 hM, mq_g0 hM, if_pos (by rfl)]
      have ho := X9_crews (X := X) (P := P) (z := z) (d := d) (V := mq_t V m 0) hM (mr_It hI 0) (by rw [mq_t_1]; exact hpI) (p := q) (b := k) (by rw [mq_t_1]; omega) hk
      rw [mq_t_1] at ho
      subst hk1
      subst hq
      simp only [mz_rcv hM.o, ho, nZ_b1, Int.toNat_natCast]
      by_cases c3 : mq_fit (V (m + 1)) q k = true
      · rw [if_neg (fun w => w c3), if_pos ⟨c, c2, c3⟩]
      · rw [if_pos c3, if_neg (fun w => c3 w.2.2)]
    · rw [if_pos c2, if_neg c2, if_neg (fun w => c2 w.2.1), mq_p0 hM, mq_g0 hM, if_neg (by decide)]
  · rw [if_pos c, if_neg c, if_neg (fun w => c w.1), mq_p0 hM, mq_g0 hM, if_neg (by decide)]
end QRM
