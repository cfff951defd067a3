/-! THE LAW'S WRAPPERS: questions (printed by program) -/
section WRQ
variable {X : mv_X} {x : Nat} {S : Nat → Int} {w : mz_V} {b : Int} {c : Nat × Nat} {m : Nat} {h : mv_H} {d a k p : Nat} {Φ : Option mv_R → Prop} {g : Nat → Nat → mv_H → Option mv_R} {f : Int32 → mv_H → Option mv_R} {fF : UInt32 → mv_H → Option mv_R} {fD : UInt64 → mv_H → Option mv_R}
theorem pd_y {s : Nat → Int} (ha : a < 10) (hk : 1 ≤ k ∧ k ≤ 40) (hh : s (6 + 11 * a) = 1 ∧ mr_bst s a k ≠ -1) : mq_ds s (a : Int) (k : Int) = 0 := by
  unfold mq_ds
  rw [if_pos ⟨by omega, by omega⟩, if_pos ⟨(pq_has ha).mpr hh.1, by rw [pq_n]; exact hh.2⟩]
theorem pd_n {s : Nat → Int} (ha : a < 10) (hk : 1 ≤ k ∧ k ≤ 40) (hh : ¬ (s (6 + 11 * a) = 1 ∧ mr_bst s a k ≠ -1)) : mq_ds s (a : Int) (k : Int) ≠ 0 := by
  unfold mq_ds
  rw [if_pos ⟨by omega, by omega⟩, if_neg (fun q => hh ⟨(pq_has ha).mp q.1, by have := q.2; rw [pq_n] at this; exact this⟩)]
  decide
theorem LP_lift (hH : ph_H X x S w b c m h) (ha : a < 10) (K : ∀ h1, ph_H X x S w b c (m + 1) h1 → Φ (f (nZ (if w 1 (6 + 11 * a) = 1 then w 1 (6 + 11 * a + 1) else -75)) h1)) : Φ (mv_clI (mv_call X (d + 6)) 347 [.ref x, .int (nZ (a : Nat))] h g f) := by
  by_cases hh : w 1 (6 + 11 * a) = 1
  · have e : mv_call X (d + 5) 88 [.ref x, .int (nZ (a : Nat))] h = some (.inl (some (.int (nZ (w 1 (6 + 11 * a + 1))))), h) := ph_ok hH (fun P V v n z w1 hP hW hJ hE => by
      have hI := hJ.1.1.1
      have hR := hW.1
      rw [hE.1] at hI hR
      exact ((Q8_lift (d := d) hP hI hR (pq_S ha))).trans (mq_r0 (pq_y ha hh)))
    have e2 : mv_call X (d + 6) 347 [.ref x, .int (nZ (a : Nat))] h = some (.inl (some (.int (nZ (w 1 (6 + 11 * a + 1))))), h) := by
      rw [mc_L_lift, bk_L_lift_0, bk_L_lift_2, ph_rcv hH]
      simp only [mv_clI, mv_cl, e]
      exact bk_L_lift_5 _ _ _ _ _ _
    have K1 := K h (ph_mono (Nat.le_succ _) hH)
    rw [if_pos hh] at K1
    exact ph_ret e2 K1
  · obtain ⟨q, h1, e, H1⟩ := ph_ex (d := d + 5) (y := 88) (as := [.ref x, .int (nZ (a : Nat))]) (ex := 1) hH (fun P V v n z w1 hP hW hJ hE => by
      have hI := hJ.1.1.1
      have hR := hW.1
      rw [hE.1] at hI hR
      exact ((Q8_lift (d := d) hP hI hR (pq_S ha))).trans (mq_r1 (pq_no ha hh)))
    have e2 : mv_call X (d + 6) 347 [.ref x, .int (nZ (a : Nat))] h = some (.inl (some (.int (nZ (-75)))), h1) := by
      rw [mc_L_lift, bk_L_lift_0, bk_L_lift_2, ph_rcv hH]
      simp only [mv_clI, mv_cl, e]
      exact bk_L_lift_7 _ _ _ _ _
    have K1 := K h1 H1
    rw [if_neg hh] at K1
    exact ph_ret e2 K1
theorem LP_ballast (hH : ph_H X x S w b c m h) (ha : a < 10) (K : ∀ h1, ph_H X x S w b c (m + 1) h1 → Φ (f (nZ (if w 1 (6 + 11 * a) = 1 then mr_bal (w 1) a 0 else -75)) h1)) : Φ (mv_clI (mv_call X (d + 6)) 348 [.ref x, .int (nZ (a : Nat))] h g f) := by
  by_cases hh : w 1 (6 + 11 * a) = 1
  · have e : mv_call X (d + 5) 89 [.ref x, .int (nZ (a : Nat))] h = some (.inl (some (.int (nZ (mr_bal (w 1) a 0)))), h) := ph_ok hH (fun P V v n z w1 hP hW hJ hE => by
      have hI := hJ.1.1.1
      have hR := hW.1
      rw [hE.1] at hI hR
      exact ((Q8_ballast (d := d) hP hI hR (pq_S ha))).trans (mq_r0 (pq_y ha hh)))
    have e2 : mv_call X (d + 6) 348 [.ref x, .int (nZ (a : Nat))] h = some (.inl (some (.int (nZ (mr_bal (w 1) a 0)))), h) := by
      rw [mc_L_ballast, bk_L_ballast_0, bk_L_ballast_2, ph_rcv hH]
      simp only [mv_clI, mv_cl, e]
      exact bk_L_ballast_5 _ _ _ _ _ _
    have K1 := K h (ph_mono (Nat.le_succ _) hH)
    rw [if_pos hh] at K1
    exact ph_ret e2 K1
  · obtain ⟨q, h1, e, H1⟩ := ph_ex (d := d + 5) (y := 89) (as := [.ref x, .int (nZ (a : Nat))]) (ex := 1) hH (fun P V v n z w1 hP hW hJ hE => by
      have hI := hJ.1.1.1
      have hR := hW.1
      rw [hE.1] at hI hR
      exact ((Q8_ballast (d := d) hP hI hR (pq_S ha))).trans (mq_r1 (pq_no ha hh)))
    have e2 : mv_call X (d + 6) 348 [.ref x, .int (nZ (a : Nat))] h = some (.inl (some (.int (nZ (-75)))), h1) := by
      rw [mc_L_ballast, bk_L_ballast_0, bk_L_ballast_2, ph_rcv hH]
      simp only [mv_clI, mv_cl, e]
      exact bk_L_ballast_7 _ _ _ _ _
    have K1 := K h1 H1
    rw [if_neg hh] at K1
    exact ph_ret e2 K1
theorem LP_height (hH : ph_H X x S w b c m h) (ha : a < 10) (K : ∀ h1, ph_H X x S w b c (m + 1) h1 → Φ (f (nZ (if w 1 (6 + 11 * a) = 1 then mr_ho (w 1) a 0 else -75)) h1)) : Φ (mv_clI (mv_call X (d + 6)) 349 [.ref x, .int (nZ (a : Nat))] h g f) := by
  by_cases hh : w 1 (6 + 11 * a) = 1
  · have e : mv_call X (d + 5) 90 [.ref x, .int (nZ (a : Nat))] h = some (.inl (some (.int (nZ (mr_ho (w 1) a 0)))), h) := ph_ok hH (fun P V v n z w1 hP hW hJ hE => by
      have hI := hJ.1.1.1
      have hR := hW.1
      rw [hE.1] at hI hR
      exact ((Q8_height (d := d) hP hI hR (pq_S ha))).trans (mq_r0 (pq_y ha hh)))
    have e2 : mv_call X (d + 6) 349 [.ref x, .int (nZ (a : Nat))] h = some (.inl (some (.int (nZ (mr_ho (w 1) a 0)))), h) := by
      rw [mc_L_height, bk_L_height_0, bk_L_height_2, ph_rcv hH]
      simp only [mv_clI, mv_cl, e]
      exact bk_L_height_5 _ _ _ _ _ _
    have K1 := K h (ph_mono (Nat.le_succ _) hH)
    rw [if_pos hh] at K1
    exact ph_ret e2 K1
  · obtain ⟨q, h1, e, H1⟩ := ph_ex (d := d + 5) (y := 90) (as := [.ref x, .int (nZ (a : Nat))]) (ex := 1) hH (fun P V v n z w1 hP hW hJ hE => by
      have hI := hJ.1.1.1
      have hR := hW.1
      rw [hE.1] at hI hR
      exact ((Q8_height (d := d) hP hI hR (pq_S ha))).trans (mq_r1 (pq_no ha hh)))
    have e2 : mv_call X (d + 6) 349 [.ref x, .int (nZ (a : Nat))] h = some (.inl (some (.int (nZ (-75)))), h1) := by
      rw [mc_L_height, bk_L_height_0, bk_L_height_2, ph_rcv hH]
      simp only [mv_clI, mv_cl, e]
      exact bk_L_height_7 _ _ _ _ _
    have K1 := K h1 H1
    rw [if_neg hh] at K1
    exact ph_ret e2 K1
theorem LP_bagCount (hH : ph_H X x S w b c m h) (ha : a < 10) (K : ∀ h1, ph_H X x S w b c (m + 1) h1 → Φ (f (nZ (if w 1 (6 + 11 * a) = 1 then w 1 (6 + 11 * a + 4) else -75)) h1)) : Φ (mv_clI (mv_call X (d + 6)) 355 [.ref x, .int (nZ (a : Nat))] h g f) := by
  by_cases hh : w 1 (6 + 11 * a) = 1
  · have e : mv_call X (d + 5) 96 [.ref x, .int (nZ (a : Nat))] h = some (.inl (some (.int (nZ (w 1 (6 + 11 * a + 4))))), h) := ph_ok hH (fun P V v n z w1 hP hW hJ hE => by
      have hI := hJ.1.1.1
      have hR := hW.1
      rw [hE.1] at hI hR
      exact ((Q8_bagCount (d := d) hP hI hR (pq_S ha))).trans (mq_r0 (pq_y ha hh)))
    have e2 : mv_call X (d + 6) 355 [.ref x, .int (nZ (a : Nat))] h = some (.inl (some (.int (nZ (w 1 (6 + 11 * a + 4))))), h) := by
      rw [mc_L_bagCount, bk_L_bagCount_0, bk_L_bagCount_2, ph_rcv hH]
      simp only [mv_clI, mv_cl, e]
      exact bk_L_bagCount_5 _ _ _ _ _ _
    have K1 := K h (ph_mono (Nat.le_succ _) hH)
    rw [if_pos hh] at K1
    exact ph_ret e2 K1
  · obtain ⟨q, h1, e, H1⟩ := ph_ex (d := d + 5) (y := 96) (as := [.ref x, .int (nZ (a : Nat))]) (ex := 1) hH (fun P V v n z w1 hP hW hJ hE => by
      have hI := hJ.1.1.1
      have hR := hW.1
      rw [hE.1] at hI hR
      exact ((Q8_bagCount (d := d) hP hI hR (pq_S ha))).trans (mq_r1 (pq_no ha hh)))
    have e2 : mv_call X (d + 6) 355 [.ref x, .int (nZ (a : Nat))] h = some (.inl (some (.int (nZ (-75)))), h1) := by
      rw [mc_L_bagCount, bk_L_bagCount_0, bk_L_bagCount_2, ph_rcv hH]
      simp only [mv_clI, mv_cl, e]
      exact bk_L_bagCount_7 _ _ _ _ _
    have K1 := K h1 H1
    rw [if_neg hh] at K1
    exact ph_ret e2 K1
theorem LP_top (hH : ph_H X x S w b c m h) (ha : a < 10) (K : ∀ h1, ph_H X x S w b c (m + 1) h1 → Φ (f (nZ (if w 1 (6 + 11 * a) = 1 then mr_top (w 1) a else -975)) h1)) : Φ (mv_clI (mv_call X (d + 6)) 362 [.ref x, .int (nZ (a : Nat))] h g f) := by
  by_cases hh : w 1 (6 + 11 * a) = 1
  · have e : mv_call X (d + 5) 103 [.ref x, .int (nZ (a : Nat))] h = some (.inl (some (.int (nZ (mr_top (w 1) a)))), h) := ph_ok hH (fun P V v n z w1 hP hW hJ hE => by
      have hI := hJ.1.1.1
      have hR := hW.1
      rw [hE.1] at hI hR
      exact ((Q8_top (d := d) hP hI hR (pq_S ha))).trans (mq_r0 (pq_y ha hh)))
    have e2 : mv_call X (d + 6) 362 [.ref x, .int (nZ (a : Nat))] h = some (.inl (some (.int (nZ (mr_top (w 1) a)))), h) := by
      rw [mc_L_top, bk_L_top_0, bk_L_top_2, ph_rcv hH]
      simp only [mv_clI, mv_cl, e]
      exact bk_L_top_5 _ _ _ _ _ _
    have K1 := K h (ph_mono (Nat.le_succ _) hH)
    rw [if_pos hh] at K1
    exact ph_ret e2 K1
  · obtain ⟨q, h1, e, H1⟩ := ph_ex (d := d + 5) (y := 103) (as := [.ref x, .int (nZ (a : Nat))]) (ex := 1) hH (fun P V v n z w1 hP hW hJ hE => by
      have hI := hJ.1.1.1
      have hR := hW.1
      rw [hE.1] at hI hR
      exact ((Q8_top (d := d) hP hI hR (pq_S ha))).trans (mq_r1 (pq_no ha hh)))
    have e2 : mv_call X (d + 6) 362 [.ref x, .int (nZ (a : Nat))] h = some (.inl (some (.int (nZ (-975)))), h1) := by
      rw [mc_L_top, bk_L_top_0, bk_L_top_2, ph_rcv hH]
      simp only [mv_clI, mv_cl, e]
      exact bk_L_top_7 _ _ _ _ _
    have K1 := K h1 H1
    rw [if_neg hh] at K1
    exact ph_ret e2 K1
theorem LP_isBursting (hH : ph_H X x S w b c m h) (ha : a < 10) (K : ∀ h1, ph_H X x S w b c (m + 1) h1 → Φ (f (nZ (if w 1 (6 + 11 * a) = 1 then if w 1 (6 + 11 * a + 3) < mr_ho (w 1) a 0 then 1 else 0 else -75)) h1)) : Φ (mv_clI (mv_call X (d + 6)) 350 [.ref x, .int (nZ (a : Nat))] h g f) := by
  by_cases hh : w 1 (6 + 11 * a) = 1
  · have e : mv_call X (d + 5) 91 [.ref x, .int (nZ (a : Nat))] h = some (.inl (some (.int (nZ (if w 1 (6 + 11 * a + 3) < mr_ho (w 1) a 0 then 1 else 0)))), h) := ph_ok hH (fun P V v n z w1 hP hW hJ hE => by
      have hI := hJ.1.1.1
      have hR := hW.1
      rw [hE.1] at hI hR
      exact ((Q8_isBursting (d := d) hP hI hR (pq_S ha))).trans (mq_r0 (pq_y ha hh)))
    have e2 : mv_call X (d + 6) 350 [.ref x, .int (nZ (a : Nat))] h = some (.inl (some (.int (nZ (if w 1 (6 + 11 * a + 3) < mr_ho (w 1) a 0 then 1 else 0)))), h) := by
      rw [mc_L_isBursting, bk_L_isBursting_0, bk_L_isBursting_2, ph_rcv hH]
      simp only [mv_clI, mv_cl, e]
      rw [bk_L_isBursting_5]
      by_cases cb : w 1 (6 + 11 * a + 3) < mr_ho (w 1) a 0
      · rw [if_pos cb]; rfl
      · rw [if_neg cb]; rfl
    have K1 := K h (ph_mono (Nat.le_succ _) hH)
    rw [if_pos hh] at K1
    exact ph_ret e2 K1
  · obtain ⟨q, h1, e, H1⟩ := ph_ex (d := d + 5) (y := 91) (as := [.ref x, .int (nZ (a : Nat))]) (ex := 1) hH (fun P V v n z w1 hP hW hJ hE => by
      have hI := hJ.1.1.1
      have hR := hW.1
      rw [hE.1] at hI hR
      exact ((Q8_isBursting (d := d) hP hI hR (pq_S ha))).trans (mq_r1 (pq_no ha hh)))
    have e2 : mv_call X (d + 6) 350 [.ref x, .int (nZ (a : Nat))] h = some (.inl (some (.int (nZ (-75)))), h1) := by
      rw [mc_L_isBursting, bk_L_isBursting_0, bk_L_isBursting_2, ph_rcv hH]
      simp only [mv_clI, mv_cl, e]
      exact bk_L_isBursting_15 _ _ _ _ _
    have K1 := K h1 H1
    rw [if_neg hh] at K1
    exact ph_ret e2 K1
theorem LP_isMoored (hH : ph_H X x S w b c m h) (ha : a < 10) (K : Φ (f (nZ (if w 1 (6 + 11 * a) = 1 then 1 else 0)) h)) : Φ (mv_clI (mv_call X (d + 4)) 346 [.ref x, .int (nZ (a : Nat))] h g f) := by
  have e : mv_call X (d + 3) 87 [.ref x, .int (nZ (a : Nat))] h = some (.inl (some (.int (nZ (if w 1 (6 + 11 * a) = 1 then 1 else 0)))), h) := ph_ok hH (fun P V v n z w1 hP hW hJ hE => by
      have hI := hJ.1.1.1
      have hR := hW.1
      rw [hE.1] at hI hR
      exact ((Q8_isMoored (d := d) hP hI hR (pq_S ha)).trans (by rw [if_pos (⟨by omega, by omega⟩ : 0 ≤ ((a : Nat) : Int) ∧ ((a : Nat) : Int) ≤ 9), show (if mr_has (w 1) ((a : Nat) : Int) then (1 : Int) else 0) = if w 1 (6 + 11 * a) = 1 then 1 else 0 by simp only [pq_has ha]])).trans (mq_r0 (rfl)))
  have e2 : mv_call X (d + 4) 346 [.ref x, .int (nZ (a : Nat))] h = some (.inl (some (.int (nZ (if w 1 (6 + 11 * a) = 1 then 1 else 0)))), h) := by
    rw [mc_L_isMoored, bk_L_isMoored_0, bk_L_isMoored_2, ph_rcv hH]
    simp only [mv_clI, mv_cl, e]
    rw [bk_L_isMoored_5]
    by_cases cb : w 1 (6 + 11 * a) = 1
    · rw [if_pos cb]; rfl
    · rw [if_neg cb]; rfl
  exact ph_ret e2 K
theorem LP_bagWeight (hH : ph_H X x S w b c m h) (ha : a < 10) (hh : w 1 (6 + 11 * a) = 1) (hk : (k : Int) < w 1 (6 + 11 * a + 4)) (K : Φ (f (nZ (w 1 (6 + 11 * a + (5 + k)))) h)) : Φ (mv_clI (mv_call X (d + 5)) 356 [.ref x, .int (nZ (a : Nat)), .int (nZ (k : Nat))] h g f) := by
  have e : mv_call X (d + 4) 97 [.ref x, .int (nZ (a : Nat)), .int (nZ (k : Nat))] h = some (.inl (some (.int (nZ (w 1 (6 + 11 * a + (5 + k)))))), h) := ph_ok hH (fun P V v n z w1 hP hW hJ hE => by
      have hI := hJ.1.1.1
      have hR := hW.1
      rw [hE.1] at hI hR
      exact ((Q8_bagWeight (d := d) hP hI hR (pq_S ha) (show nS ((k : Nat) : Int) by have := (hI.bags ha).2; exact ⟨by omega, by omega⟩)).trans (by simp only [pq_n, if_pos ((pq_has ha).mpr hh)]; rw [if_pos (⟨by omega, hk⟩ : 0 ≤ ((k : Nat) : Int) ∧ ((k : Nat) : Int) < w 1 (6 + 11 * a + 4))])).trans (mq_r0 (rfl)))
  have e2 : mv_call X (d + 5) 356 [.ref x, .int (nZ (a : Nat)), .int (nZ (k : Nat))] h = some (.inl (some (.int (nZ (w 1 (6 + 11 * a + (5 + k)))))), h) := by
    rw [mc_L_bagWeight, bk_L_bagWeight_0, bk_L_bagWeight_3, ph_rcv hH]
    simp only [mv_clI, mv_cl, e]
    exact bk_L_bagWeight_6 _ _ _ _ _ _ _
  exact ph_ret e2 K
theorem LP_berthByHeight (hH : ph_H X x S w b c m h) (hk : k < 100) (K : ∀ h1, ph_H X x S w b c (m + 1) h1 → Φ (f (nZ (if mq_rnk (w 1) k 10 0 ≠ -1 then mq_rnk (w 1) k 10 0 else -75)) h1)) : Φ (mv_clI (mv_call X (d + 7)) 351 [.ref x, .int (nZ (k : Nat))] h g f) := by
  by_cases hh : mq_rnk (w 1) k 10 0 ≠ -1
  · have e : mv_call X (d + 6) 92 [.ref x, .int (nZ (k : Nat))] h = some (.inl (some (.int (nZ (mq_rnk (w 1) k 10 0)))), h) := ph_ok hH (fun P V v n z w1 hP hW hJ hE => by
      have hI := hJ.1.1.1
      have hR := hW.1
      rw [hE.1] at hI hR
      exact ((Q8_berthByHeight (d := d) hP hI hR (r := ((k : Nat) : Int)) ⟨by omega, by omega⟩)).trans (mq_r0 (if_neg hh)))
    have e2 : mv_call X (d + 7) 351 [.ref x, .int (nZ (k : Nat))] h = some (.inl (some (.int (nZ (mq_rnk (w 1) k 10 0)))), h) := by
      rw [mc_L_berthByHeight, bk_L_berthByHeight_0, bk_L_berthByHeight_2, ph_rcv hH]
      simp only [mv_clI, mv_cl, e]
      exact bk_L_berthByHeight_5 _ _ _ _ _ _
    have K1 := K h (ph_mono (Nat.le_succ _) hH)
    rw [if_pos hh] at K1
    exact ph_ret e2 K1
  · obtain ⟨q, h1, e, H1⟩ := ph_ex (d := d + 6) (y := 92) (as := [.ref x, .int (nZ (k : Nat))]) (ex := 1) hH (fun P V v n z w1 hP hW hJ hE => by
      have hI := hJ.1.1.1
      have hR := hW.1
      rw [hE.1] at hI hR
      exact ((Q8_berthByHeight (d := d) hP hI hR (r := ((k : Nat) : Int)) ⟨by omega, by omega⟩)).trans (mq_r1 (by rw [if_pos (Classical.byContradiction hh)]; decide)))
    have e2 : mv_call X (d + 7) 351 [.ref x, .int (nZ (k : Nat))] h = some (.inl (some (.int (nZ (-75)))), h1) := by
      rw [mc_L_berthByHeight, bk_L_berthByHeight_0, bk_L_berthByHeight_2, ph_rcv hH]
      simp only [mv_clI, mv_cl, e]
      exact bk_L_berthByHeight_7 _ _ _ _ _
    have K1 := K h1 H1
    rw [if_neg hh] at K1
    exact ph_ret e2 K1
theorem LP_fewestDrops (hH : ph_H X x S w b c m h) (ha : a < 10) (hk : 1 ≤ k ∧ k ≤ 40) (K : ∀ h1, ph_H X x S w b c (m + 1) h1 → Φ (f (nZ (if w 1 (6 + 11 * a) = 1 ∧ mr_bst (w 1) a k ≠ -1 then mb_pop (mr_bst (w 1) a k).toNat else -75)) h1)) : Φ (mv_clI (mv_call X (d + 6)) 357 [.ref x, .int (nZ (a : Nat)), .int (nZ (k : Nat))] h g f) := by
  by_cases hh : w 1 (6 + 11 * a) = 1 ∧ mr_bst (w 1) a k ≠ -1
  · have e : mv_call X (d + 5) 98 [.ref x, .int (nZ (a : Nat)), .int (nZ (k : Nat))] h = some (.inl (some (.int (nZ (mb_pop (mr_bst (w 1) a k).toNat)))), h) := ph_ok hH (fun P V v n z w1 hP hW hJ hE => by
      have hI := hJ.1.1.1
      have hR := hW.1
      rw [hE.1] at hI hR
      exact ((Q8_fewestDrops (d := d) hP hI hR (pq_S ha) (b := ((k : Nat) : Int)) ⟨by omega, by omega⟩).trans (by rw [pq_n, show mq_dx ((k : Nat) : Int) = 1 from if_pos ⟨by omega, by omega⟩])).trans (mq_r0 (pd_y ha hk hh)))
    have e2 : mv_call X (d + 6) 357 [.ref x, .int (nZ (a : Nat)), .int (nZ (k : Nat))] h = some (.inl (some (.int (nZ (mb_pop (mr_bst (w 1) a k).toNat)))), h) := by
      rw [mc_L_fewestDrops, bk_L_fewestDrops_0, bk_L_fewestDrops_3, ph_rcv hH]
      simp only [mv_clI, mv_cl, e]
      exact bk_L_fewestDrops_6 _ _ _ _ _ _ _
    have K1 := K h (ph_mono (Nat.le_succ _) hH)
    rw [if_pos hh] at K1
    exact ph_ret e2 K1
  · obtain ⟨q, h1, e, H1⟩ := ph_ex (d := d + 5) (y := 98) (as := [.ref x, .int (nZ (a : Nat)), .int (nZ (k : Nat))]) (ex := 1) hH (fun P V v n z w1 hP hW hJ hE => by
      have hI := hJ.1.1.1
      have hR := hW.1
      rw [hE.1] at hI hR
      exact ((Q8_fewestDrops (d := d) hP hI hR (pq_S ha) (b := ((k : Nat) : Int)) ⟨by omega, by omega⟩).trans (by rw [pq_n, show mq_dx ((k : Nat) : Int) = 1 from if_pos ⟨by omega, by omega⟩])).trans (mq_r1 (pd_n ha hk hh)))
    have e2 : mv_call X (d + 6) 357 [.ref x, .int (nZ (a : Nat)), .int (nZ (k : Nat))] h = some (.inl (some (.int (nZ (-75)))), h1) := by
      rw [mc_L_fewestDrops, bk_L_fewestDrops_0, bk_L_fewestDrops_3, ph_rcv hH]
      simp only [mv_clI, mv_cl, e]
      exact bk_L_fewestDrops_12 _ _ _ _ _ _
    have K1 := K h1 H1
    rw [if_neg hh] at K1
    exact ph_ret e2 K1
theorem LP_fewestDropsBySets (hH : ph_H X x S w b c m h) (ha : a < 10) (hk : 1 ≤ k ∧ k ≤ 40) (K : ∀ h1, ph_H X x S w b c (m + 1) h1 → Φ (f (nZ (if w 1 (6 + 11 * a) = 1 ∧ mr_bst (w 1) a k ≠ -1 then mb_pop (mr_bst (w 1) a k).toNat else -75)) h1)) : Φ (mv_clI (mv_call X (d + 6)) 358 [.ref x, .int (nZ (a : Nat)), .int (nZ (k : Nat))] h g f) := by
  by_cases hh : w 1 (6 + 11 * a) = 1 ∧ mr_bst (w 1) a k ≠ -1
  · have e : mv_call X (d + 5) 99 [.ref x, .int (nZ (a : Nat)), .int (nZ (k : Nat))] h = some (.inl (some (.int (nZ (mb_pop (mr_bst (w 1) a k).toNat)))), h) := ph_ok hH (fun P V v n z w1 hP hW hJ hE => by
      have hI := hJ.1.1.1
      have hR := hW.1
      rw [hE.1] at hI hR
      exact ((Q8_fewestDropsBySets (d := d) hP hI hR (pq_S ha) (b := ((k : Nat) : Int)) ⟨by omega, by omega⟩).trans (by rw [pq_n, show mq_dx ((k : Nat) : Int) = 1 from if_pos ⟨by omega, by omega⟩])).trans (mq_r0 (pd_y ha hk hh)))
    have e2 : mv_call X (d + 6) 358 [.ref x, .int (nZ (a : Nat)), .int (nZ (k : Nat))] h = some (.inl (some (.int (nZ (mb_pop (mr_bst (w 1) a k).toNat)))), h) := by
      rw [mc_L_fewestDropsBySets, bk_L_fewestDropsBySets_0, bk_L_fewestDropsBySets_3, ph_rcv hH]
      simp only [mv_clI, mv_cl, e]
      exact bk_L_fewestDropsBySets_6 _ _ _ _ _ _ _
    have K1 := K h (ph_mono (Nat.le_succ _) hH)
    rw [if_pos hh] at K1
    exact ph_ret e2 K1
  · obtain ⟨q, h1, e, H1⟩ := ph_ex (d := d + 5) (y := 99) (as := [.ref x, .int (nZ (a : Nat)), .int (nZ (k : Nat))]) (ex := 1) hH (fun P V v n z w1 hP hW hJ hE => by
      have hI := hJ.1.1.1
      have hR := hW.1
      rw [hE.1] at hI hR
      exact ((Q8_fewestDropsBySets (d := d) hP hI hR (pq_S ha) (b := ((k : Nat) : Int)) ⟨by omega, by omega⟩).trans (by rw [pq_n, show mq_dx ((k : Nat) : Int) = 1 from if_pos ⟨by omega, by omega⟩])).trans (mq_r1 (pd_n ha hk hh)))
    have e2 : mv_call X (d + 6) 358 [.ref x, .int (nZ (a : Nat)), .int (nZ (k : Nat))] h = some (.inl (some (.int (nZ (-75)))), h1) := by
      rw [mc_L_fewestDropsBySets, bk_L_fewestDropsBySets_0, bk_L_fewestDropsBySets_3, ph_rcv hH]
      simp only [mv_clI, mv_cl, e]
      exact bk_L_fewestDropsBySets_12 _ _ _ _ _ _
    have K1 := K h1 H1
    rw [if_neg hh] at K1
    exact ph_ret e2 K1
theorem LP_dropWeight (hH : ph_H X x S w b c m h) (ha : a < 10) (hk : 1 ≤ k ∧ k ≤ 40) (K : ∀ h1, ph_H X x S w b c (m + 1) h1 → Φ (f (nZ (if w 1 (6 + 11 * a) = 1 ∧ mr_bst (w 1) a k ≠ -1 then mr_bal (w 1) a 0 - mr_bal (w 1) a (mr_bst (w 1) a k).toNat else -75)) h1)) : Φ (mv_clI (mv_call X (d + 6)) 359 [.ref x, .int (nZ (a : Nat)), .int (nZ (k : Nat))] h g f) := by
  by_cases hh : w 1 (6 + 11 * a) = 1 ∧ mr_bst (w 1) a k ≠ -1
  · have e : mv_call X (d + 5) 100 [.ref x, .int (nZ (a : Nat)), .int (nZ (k : Nat))] h = some (.inl (some (.int (nZ (mr_bal (w 1) a 0 - mr_bal (w 1) a (mr_bst (w 1) a k).toNat)))), h) := ph_ok hH (fun P V v n z w1 hP hW hJ hE => by
      have hI := hJ.1.1.1
      have hR := hW.1
      rw [hE.1] at hI hR
      exact ((Q8_dropWeight (d := d) hP hI hR (pq_S ha) (b := ((k : Nat) : Int)) ⟨by omega, by omega⟩).trans (by rw [pq_n, show mq_dx ((k : Nat) : Int) = 1 from if_pos ⟨by omega, by omega⟩])).trans (mq_r0 (pd_y ha hk hh)))
    have e2 : mv_call X (d + 6) 359 [.ref x, .int (nZ (a : Nat)), .int (nZ (k : Nat))] h = some (.inl (some (.int (nZ (mr_bal (w 1) a 0 - mr_bal (w 1) a (mr_bst (w 1) a k).toNat)))), h) := by
      rw [mc_L_dropWeight, bk_L_dropWeight_0, bk_L_dropWeight_3, ph_rcv hH]
      simp only [mv_clI, mv_cl, e]
      exact bk_L_dropWeight_6 _ _ _ _ _ _ _
    have K1 := K h (ph_mono (Nat.le_succ _) hH)
    rw [if_pos hh] at K1
    exact ph_ret e2 K1
  · obtain ⟨q, h1, e, H1⟩ := ph_ex (d := d + 5) (y := 100) (as := [.ref x, .int (nZ (a : Nat)), .int (nZ (k : Nat))]) (ex := 1) hH (fun P V v n z w1 hP hW hJ hE => by
      have hI := hJ.1.1.1
      have hR := hW.1
      rw [hE.1] at hI hR
      exact ((Q8_dropWeight (d := d) hP hI hR (pq_S ha) (b := ((k : Nat) : Int)) ⟨by omega, by omega⟩).trans (by rw [pq_n, show mq_dx ((k : Nat) : Int) = 1 from if_pos ⟨by omega, by omega⟩])).trans (mq_r1 (pd_n ha hk hh)))
    have e2 : mv_call X (d + 6) 359 [.ref x, .int (nZ (a : Nat)), .int (nZ (k : Nat))] h = some (.inl (some (.int (nZ (-75)))), h1) := by
      rw [mc_L_dropWeight, bk_L_dropWeight_0, bk_L_dropWeight_3, ph_rcv hH]
      simp only [mv_clI, mv_cl, e]
      exact bk_L_dropWeight_12 _ _ _ _ _ _
    have K1 := K h1 H1
    rw [if_neg hh] at K1
    exact ph_ret e2 K1
theorem LP_wind (hH : ph_H X x S w b c m h) (hk : k < 24) (K : Φ (f (nZ (w 1 (116 + k))) h)) : Φ (mv_clI (mv_call X (d + 3)) 361 [.ref x, .int (nZ (k : Nat))] h g f) := by
  have e : mv_call X (d + 2) 102 [.ref x, .int (nZ (k : Nat))] h = some (.inl (some (.int (nZ (w 1 (116 + k))))), h) := ph_ok hH (fun P V v n z w1 hP hW hJ hE => by
      have hI := hJ.1.1.1
      have hR := hW.1
      rw [hE.1] at hI hR
      exact ((Q8_wind (d := d) hP hR (a := ((k : Nat) : Int)) ⟨by omega, by omega⟩).trans (by rw [if_pos (⟨by omega, by omega⟩ : 0 ≤ ((k : Nat) : Int) ∧ ((k : Nat) : Int) ≤ 23), pq_n])).trans (mq_r0 (rfl)))
  have e2 : mv_call X (d + 3) 361 [.ref x, .int (nZ (k : Nat))] h = some (.inl (some (.int (nZ (w 1 (116 + k))))), h) := by
    rw [mc_L_wind, bk_L_wind_0, bk_L_wind_2, ph_rcv hH]
    simp only [mv_clI, mv_cl, e]
    exact bk_L_wind_5 _ _ _ _ _ _
  exact ph_ret e2 K
theorem LP_isOnDuty (hH : ph_H X x S w b c m h) (hp : (p : Int) < w 1 5) (hk : k < 24) (K : Φ (f (nZ (if mq_on (w 1) p k = true then 1 else 0)) h)) : Φ (mv_clI (mv_call X (d + 4)) 367 [.ref x, .int (nZ (p : Nat)), .int (nZ (k : Nat))] h g f) := by
  have e : mv_call X (d + 3) 111 [.ref x, .int (nZ (p : Nat)), .int (nZ (k : Nat))] h = some (.inl (some (.int (nZ (if mq_on (w 1) p k = true then 1 else 0)))), h) := ph_ok hH (fun P V v n z w1 hP hW hJ hE => by
      have hI := hJ.1.1.1
      have hR := hW.1
      rw [hE.1] at hI hR
      exact ((Q8_isOnDuty (d := d) hP hI hR (p := ((p : Nat) : Int)) (t := ((k : Nat) : Int)) (by have := hI.pil.2; exact ⟨by omega, by omega⟩) ⟨by omega, by omega⟩).trans (by rw [if_pos (⟨by omega, hp⟩ : 0 ≤ ((p : Nat) : Int) ∧ ((p : Nat) : Int) < w 1 5), if_pos (⟨by omega, by omega⟩ : 0 ≤ ((k : Nat) : Int) ∧ ((k : Nat) : Int) ≤ 23), pq_n])).trans (mq_r0 (rfl)))
  have e2 : mv_call X (d + 4) 367 [.ref x, .int (nZ (p : Nat)), .int (nZ (k : Nat))] h = some (.inl (some (.int (nZ (if mq_on (w 1) p k = true then 1 else 0)))), h) := by
    rw [mc_L_isOnDuty, bk_L_isOnDuty_0, bk_L_isOnDuty_3, ph_rcv hH]
    simp only [mv_clI, mv_cl, e]
    rw [bk_L_isOnDuty_6]
    by_cases cb : mq_on (w 1) p k = true
    · rw [if_pos cb]; rfl
    · rw [if_neg cb]; rfl
  exact ph_ret e2 K
theorem LP_canCrew (hH : ph_H X x S w b c m h) (hp : (p : Int) < w 1 5) (ha : a < 10) (hh : w 1 (6 + 11 * a) = 1) (K : Φ (f (nZ (if mq_fit (w 1) p a = true then 1 else 0)) h)) : Φ (mv_clI (mv_call X (d + 4)) 368 [.ref x, .int (nZ (p : Nat)), .int (nZ (a : Nat))] h g f) := by
  have e : mv_call X (d + 3) 112 [.ref x, .int (nZ (p : Nat)), .int (nZ (a : Nat))] h = some (.inl (some (.int (nZ (if mq_fit (w 1) p a = true then 1 else 0)))), h) := ph_ok hH (fun P V v n z w1 hP hW hJ hE => by
      have hI := hJ.1.1.1
      have hR := hW.1
      rw [hE.1] at hI hR
      exact ((Q8_canCrew (d := d) hP hI hR (p := ((p : Nat) : Int)) (by have := hI.pil.2; exact ⟨by omega, by omega⟩) (pq_S ha)).trans (by rw [if_pos (⟨by omega, hp⟩ : 0 ≤ ((p : Nat) : Int) ∧ ((p : Nat) : Int) < w 1 5), if_pos ((pq_has ha).mpr hh), pq_n, pq_n])).trans (mq_r0 (rfl)))
  have e2 : mv_call X (d + 4) 368 [.ref x, .int (nZ (p : Nat)), .int (nZ (a : Nat))] h = some (.inl (some (.int (nZ (if mq_fit (w 1) p a = true then 1 else 0)))), h) := by
    rw [mc_L_canCrew, bk_L_canCrew_0, bk_L_canCrew_3, ph_rcv hH]
    simp only [mv_clI, mv_cl, e]
    rw [bk_L_canCrew_6]
    by_cases cb : mq_fit (w 1) p a = true
    · rw [if_pos cb]; rfl
    · rw [if_neg cb]; rfl
  exact ph_ret e2 K
theorem LP_longestCalm (hH : ph_H X x S w b c m h) (hk : k < 10) (K : Φ (f (nZ (mq_clm (w 1) k)) h)) : Φ (mv_clI (mv_call X (d + 4)) 363 [.ref x, .int (nZ (k : Nat))] h g f) := by
  have e : mv_call X (d + 3) 106 [.ref x, .int (nZ (k : Nat))] h = some (.inl (some (.int (nZ (mq_clm (w 1) k)))), h) := ph_ok hH (fun P V v n z w1 hP hW hJ hE => by
      have hI := hJ.1.1.1
      have hR := hW.1
      rw [hE.1] at hI hR
      exact ((Q8_longestCalm (d := d) hP hI hR (y := ((k : Nat) : Int)) ⟨by omega, by omega⟩).trans (by rw [if_pos (⟨by omega, by omega⟩ : 0 ≤ ((k : Nat) : Int) ∧ ((k : Nat) : Int) ≤ 9)])).trans (mq_r0 (rfl)))
  have e2 : mv_call X (d + 4) 363 [.ref x, .int (nZ (k : Nat))] h = some (.inl (some (.int (nZ (mq_clm (w 1) k)))), h) := by
    rw [mc_L_longestCalm, bk_L_longestCalm_0, bk_L_longestCalm_2, ph_rcv hH]
    simp only [mv_clI, mv_cl, e]
    exact bk_L_longestCalm_5 _ _ _ _ _ _
  exact ph_ret e2 K
theorem LP_longestCalmByTrying (hH : ph_H X x S w b c m h) (hk : k < 10) (K : Φ (f (nZ (mq_clm (w 1) k)) h)) : Φ (mv_clI (mv_call X (d + 4)) 364 [.ref x, .int (nZ (k : Nat))] h g f) := by
  have e : mv_call X (d + 3) 107 [.ref x, .int (nZ (k : Nat))] h = some (.inl (some (.int (nZ (mq_clm (w 1) k)))), h) := ph_ok hH (fun P V v n z w1 hP hW hJ hE => by
      have hI := hJ.1.1.1
      have hR := hW.1
      rw [hE.1] at hI hR
      exact ((Q8_longestCalmByTrying (d := d) hP hI hR (y := ((k : Nat) : Int)) ⟨by omega, by omega⟩).trans (by rw [if_pos (⟨by omega, by omega⟩ : 0 ≤ ((k : Nat) : Int) ∧ ((k : Nat) : Int) ≤ 9)])).trans (mq_r0 (rfl)))
  have e2 : mv_call X (d + 4) 364 [.ref x, .int (nZ (k : Nat))] h = some (.inl (some (.int (nZ (mq_clm (w 1) k)))), h) := by
    rw [mc_L_longestCalmByTrying, bk_L_longestCalmByTrying_0, bk_L_longestCalmByTrying_2, ph_rcv hH]
    simp only [mv_clI, mv_cl, e]
    exact bk_L_longestCalmByTrying_5 _ _ _ _ _ _
  exact ph_ret e2 K
theorem LD_balloonCount (hH : ph_H X x S w b c m h) (K : Φ (f (nZ (mq_cnt (w 1))) h)) : Φ (mv_rcv X h [.ref x] 12 (mv_clI (mv_call X (d + 3)) 86 [.ref x] h g f)) := by
  rw [ph_rcv hH]
  refine ph_ret (ph_ok hH (fun P V v n z w1 hP hW hJ hE => by
      have hI := hJ.1.1.1
      have hR := hW.1
      rw [hE.1] at hI hR
      exact Q8_balloonCount (d := d) hP hI hR)) K
theorem LD_aboard (hH : ph_H X x S w b c m h) (K : Φ (f (nZ (mq_wgt (w 1))) h)) : Φ (mv_rcv X h [.ref x] 12 (mv_clI (mv_call X (d + 3)) 120 [.ref x] h g f)) := by
  rw [ph_rcv hH]
  refine ph_ret (ph_ok hH (fun P V v n z w1 hP hW hJ hE => by
      have hI := hJ.1.1.1
      have hR := hW.1
      rw [hE.1] at hI hR
      exact Q8_aboard (d := d) hP hI hR)) K
theorem LD_pilotCount (hH : ph_H X x S w b c m h) (K : Φ (f (nZ (w 1 5)) h)) : Φ (mv_rcv X h [.ref x] 12 (mv_clI (mv_call X (d + 1)) 110 [.ref x] h g f)) := by
  rw [ph_rcv hH]
  refine ph_ret (ph_ok hH (fun P V v n z w1 hP hW hJ hE => by
      have hI := hJ.1.1.1
      have hR := hW.1
      rw [hE.1] at hI hR
      exact Q8_pilotCount (d := d) hP hR)) K
theorem LD_hour (hH : ph_H X x S w b c m h) (K : Φ (f (nZ (w 1 0)) h)) : Φ (mv_rcv X h [.ref x] 12 (mv_clI (mv_call X (d + 1)) 117 [.ref x] h g f)) := by
  rw [ph_rcv hH]
  refine ph_ret (ph_ok hH (fun P V v n z w1 hP hW hJ hE => by
      have hI := hJ.1.1.1
      have hR := hW.1
      rw [hE.1] at hI hR
      exact Q8_hour (d := d) hP hR)) K
theorem LD_bursts (hH : ph_H X x S w b c m h) (K : Φ (f (nZ (w 1 1)) h)) : Φ (mv_rcv X h [.ref x] 12 (mv_clI (mv_call X (d + 1)) 118 [.ref x] h g f)) := by
  rw [ph_rcv hH]
  refine ph_ret (ph_ok hH (fun P V v n z w1 hP hW hJ hE => by
      have hI := hJ.1.1.1
      have hR := hW.1
      rw [hE.1] at hI hR
      exact Q8_bursts (d := d) hP hR)) K
theorem LD_loaded (hH : ph_H X x S w b c m h) (K : Φ (f (nZ (w 1 2)) h)) : Φ (mv_rcv X h [.ref x] 12 (mv_clI (mv_call X (d + 1)) 119 [.ref x] h g f)) := by
  rw [ph_rcv hH]
  refine ph_ret (ph_ok hH (fun P V v n z w1 hP hW hJ hE => by
      have hI := hJ.1.1.1
      have hR := hW.1
      rw [hE.1] at hI hR
      exact Q8_loaded (d := d) hP hR)) K
theorem LD_dropped (hH : ph_H X x S w b c m h) (K : Φ (f (nZ (w 1 3)) h)) : Φ (mv_rcv X h [.ref x] 12 (mv_clI (mv_call X (d + 1)) 121 [.ref x] h g f)) := by
  rw [ph_rcv hH]
  refine ph_ret (ph_ok hH (fun P V v n z w1 hP hW hJ hE => by
      have hI := hJ.1.1.1
      have hR := hW.1
      rw [hE.1] at hI hR
      exact Q8_dropped (d := d) hP hR)) K
theorem LD_lost (hH : ph_H X x S w b c m h) (K : Φ (f (nZ (w 1 4)) h)) : Φ (mv_rcv X h [.ref x] 12 (mv_clI (mv_call X (d + 1)) 122 [.ref x] h g f)) := by
  rw [ph_rcv hH]
  refine ph_ret (ph_ok hH (fun P V v n z w1 hP hW hJ hE => by
      have hI := hJ.1.1.1
      have hR := hW.1
      rw [hE.1] at hI hR
      exact Q8_lost (d := d) hP hR)) K
theorem LD_undoCount (hH : ph_H X x S w b c m h) (K : Φ (f (nZ (w 0 6)) h)) : Φ (mv_rcv X h [.ref x] 12 (mv_clI (mv_call X (d + 1)) 134 [.ref x] h g f)) := by
  rw [ph_rcv hH]
  refine ph_ret (ph_ok hH (fun P V v n z w1 hP hW hJ hE => by
      have hI := hJ.1.1.1
      have hR := hW.1
      rw [hE.1] at hI hR
      exact (Q8_undoCount (d := d) hP hW).trans (by rw [hE.2.2.2.1]))) K
theorem LP_strain (hH : ph_H X x S w b c m h) (ha : a < 10) (K : ∀ h1, ph_H X x S w b c (m + 1) h1 → Φ (fF (if w 1 (6 + 11 * a) = 1 then mq_str (w 1) a else UInt32.ofNat 3264610304) h1)) : Φ (mv_clF (mv_call X (d + 6)) 371 [.ref x, .int (nZ (a : Nat))] h g fF) := by
  by_cases hh : w 1 (6 + 11 * a) = 1
  · have e : mv_call X (d + 5) 124 [.ref x, .int (nZ (a : Nat))] h = some (.inl (some (.float (mq_str (w 1) a))), h) := ph_ok hH (fun P V v n z w1 hP hW hJ hE => by
      have hI := hJ.1.1.1
      have hR := hW.1
      rw [hE.1] at hI hR
      exact (Q8_strain (d := d) hP hI hR (pq_S ha)).trans (by rw [if_pos (pq_y ha hh), pq_n]))
    have e2 : mv_call X (d + 6) 371 [.ref x, .int (nZ (a : Nat))] h = some (.inl (some (.float (mq_str (w 1) a))), h) := by
      rw [mc_L_strain, bk_L_strain_0, bk_L_strain_2, ph_rcv hH]
      simp only [mv_clF, mv_cl, e]
      exact bk_L_strain_5 _ _ _ _ _ _
    have K1 := K h (ph_mono (Nat.le_succ _) hH)
    rw [if_pos hh] at K1
    exact ph_retF e2 K1
  · obtain ⟨q, h1, e, H1⟩ := ph_ex (d := d + 5) (y := 124) (as := [.ref x, .int (nZ (a : Nat))]) (ex := 1) hH (fun P V v n z w1 hP hW hJ hE => by
      have hI := hJ.1.1.1
      have hR := hW.1
      rw [hE.1] at hI hR
      exact (Q8_strain (d := d) hP hI hR (pq_S ha)).trans (if_neg (pq_no ha hh)))
    have e2 : mv_call X (d + 6) 371 [.ref x, .int (nZ (a : Nat))] h = some (.inl (some (.float (UInt32.ofNat 3264610304))), h1) := by
      rw [mc_L_strain, bk_L_strain_0, bk_L_strain_2, ph_rcv hH]
      simp only [mv_clF, mv_cl, e]
      exact bk_L_strain_7 _ _ _ _ _
    have K1 := K h1 H1
    rw [if_neg hh] at K1
    exact ph_retF e2 K1
theorem LP_meanHeight (hH : ph_H X x S w b c m h) (K : ∀ h1, ph_H X x S w b c (m + 1) h1 → Φ (fD (if mq_cnt (w 1) = 0 then UInt64.ofNat 13858279740860792832 else mq_mean (w 1)) h1)) : Φ (mv_clD (mv_call X (d + 5)) 370 [.ref x] h g fD) := by
  by_cases hh : mq_cnt (w 1) = 0
  · obtain ⟨q, h1, e, H1⟩ := ph_ex (d := d + 4) (y := 123) (as := [.ref x]) (ex := 5) hH (fun P V v n z w1 hP hW hJ hE => by
      have hI := hJ.1.1.1
      have hR := hW.1
      rw [hE.1] at hI hR
      exact (Q8_meanHeight (d := d) hP hI hR).trans (if_pos hh))
    have e2 : mv_call X (d + 5) 370 [.ref x] h = some (.inl (some (.double (UInt64.ofNat 13858279740860792832))), h1) := by
      rw [mc_L_meanHeight, bk_L_meanHeight_0, bk_L_meanHeight_1, ph_rcv hH]
      simp only [mv_clD, mv_cl, e]
      exact bk_L_meanHeight_6 _ _ _ _
    have K1 := K h1 H1
    rw [if_pos hh] at K1
    exact ph_retD e2 K1
  · have e : mv_call X (d + 4) 123 [.ref x] h = some (.inl (some (.double (mq_mean (w 1)))), h) := ph_ok hH (fun P V v n z w1 hP hW hJ hE => by
      have hI := hJ.1.1.1
      have hR := hW.1
      rw [hE.1] at hI hR
      exact (Q8_meanHeight (d := d) hP hI hR).trans (if_neg hh))
    have e2 : mv_call X (d + 5) 370 [.ref x] h = some (.inl (some (.double (mq_mean (w 1)))), h) := by
      rw [mc_L_meanHeight, bk_L_meanHeight_0, bk_L_meanHeight_1, ph_rcv hH]
      simp only [mv_clD, mv_cl, e]
      exact bk_L_meanHeight_4 _ _ _ _ _
    have K1 := K h (ph_mono (Nat.le_succ _) hH)
    rw [if_neg hh] at K1
    exact ph_retD e2 K1
theorem LP_denial (hH : ph_H X x S w b c m h) (hd : w 0 19 ≠ 0) (K : Φ (f (nZ (w 0 19)) h)) : Φ (mv_clI (mv_call X (d + 3)) 375 [.ref x] h g f) := by
  have e : mv_call X (d + 2) 130 [.ref x] h = some (.inl (some (.int (nZ (w 0 19)))), h) := ph_ok hH (fun P V v n z w1 hP hW hJ hE => by
      have hI := hJ.1.1.1
      have hR := hW.1
      rw [hE.1] at hI hR
      exact (Q8_denial (d := d) hP hW hJ.1).trans (by rw [hE.2.2.2.2.2.1, if_neg hd]; rfl))
  have e2 : mv_call X (d + 3) 375 [.ref x] h = some (.inl (some (.int (nZ (w 0 19)))), h) := by
    rw [mc_L_denial, bk_L_denial_0, bk_L_denial_1, ph_rcv hH]
    simp only [mv_clI, mv_cl, e]
    exact bk_L_denial_4 _ _ _ _ _
  exact ph_ret e2 K
theorem LP_denialDetail (hH : ph_H X x S w b c m h) (hd : w 0 19 ≠ 0) (K : Φ (f (nZ (w 0 20)) h)) : Φ (mv_clI (mv_call X (d + 3)) 376 [.ref x] h g f) := by
  have e : mv_call X (d + 2) 131 [.ref x] h = some (.inl (some (.int (nZ (w 0 20)))), h) := ph_ok hH (fun P V v n z w1 hP hW hJ hE => by
      have hI := hJ.1.1.1
      have hR := hW.1
      rw [hE.1] at hI hR
      exact (Q8_denialDetail (d := d) hP hW hJ.1).trans (by rw [hE.2.2.2.2.2.1, hE.2.2.2.2.2.2, if_neg hd]; rfl))
  have e2 : mv_call X (d + 3) 376 [.ref x] h = some (.inl (some (.int (nZ (w 0 20)))), h) := by
    rw [mc_L_denialDetail, bk_L_denialDetail_0, bk_L_denialDetail_1, ph_rcv hH]
    simp only [mv_clI, mv_cl, e]
    exact bk_L_denialDetail_4 _ _ _ _ _
  exact ph_ret e2 K
end WRQ
