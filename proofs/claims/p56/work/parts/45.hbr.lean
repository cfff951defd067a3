/-! A HARBOUR at a (31 cells): readers -/
def mz_Pl (P : mz_P) (q : Nat) : Prop := P.1 q = some (.inl 9)
def mz_H (P : mz_P) (a : Nat) : Prop := P.1 a = some (.inl 7) ∧ P.2 a 0 = some (a + 1) ∧ P.1 (a + 1) = some (.inr (.object (mv_cn 4), 10)) ∧ (∀ i, i < 10 → P.2 (a + 1) i = some (a + 5 + 2 * i) ∧ mz_B P (a + 5 + 2 * i)) ∧
  P.2 a 1 = some (a + 2) ∧ P.1 (a + 2) = some (.inr (.int, 24)) ∧ P.2 a 2 = some (a + 3) ∧ P.1 (a + 3) = some (.inr (.object (mv_cn 9), 6)) ∧ (∀ j, j < 6 → P.2 (a + 3) j = some (a + 25 + j) ∧ mz_Pl P (a + 25 + j)) ∧
  P.2 a 9 = some (a + 4) ∧ P.1 (a + 4) = some (.inr (.int, 10))
theorem mz_H.o {P : mz_P} {a : Nat} (h : mz_H P a) : P.1 a = some (.inl 7) := h.1
theorem mz_H.b {P : mz_P} {a i : Nat} (h : mz_H P a) (hi : i < 10) : mz_B P (a + 5 + 2 * i) := (h.2.2.2.1 i hi).2
theorem mz_H.q {P : mz_P} {a i : Nat} (h : mz_H P a) (hi : i < 6) : P.1 (a + 25 + i) = some (.inl 9) := (h.2.2.2.2.2.2.2.2.1 i hi).2
/-- what holds of a harbour's numbers -/
def mz_HI (V : mz_V) (a : Nat) : Prop := (∀ i, i < 10 → mz_BI V (a + 5 + 2 * i)) ∧ (0 ≤ V a 3 ∧ V a 3 ≤ 6) ∧ (∀ i, i < 24 → -9 ≤ V (a + 2) i ∧ V (a + 2) i ≤ 9) ∧ (0 ≤ V a 4 ∧ V a 4 ≤ 1000000000) ∧
  ∀ j, j < 6 → (1 ≤ V (a + 25 + j) 0 ∧ V (a + 25 + j) 0 ≤ 30) ∧ (0 ≤ V (a + 25 + j) 1 ∧ V (a + 25 + j) 1 ≤ 23) ∧ 0 ≤ V (a + 25 + j) 2 ∧ V (a + 25 + j) 2 ≤ 23
section HBR
variable {X : mv_X} {P : mz_P} {V : mz_V} {z : Nat × Nat} {a d : Nat}
/-- berth i: its balloon -/
theorem mh_bal {f : Nat → Option mv_R} (hH : mz_H P a) {i : Nat} (hi : i < 10) : (mv_gR X (mz_h P V, z) a 7 0 fun r => mv_aR X (mz_h P V, z) r (nZ i) f) = f (a + 5 + 2 * i) := by
  rw [mz_gR hH.1 (by decide) hH.2.1, mz_aR hH.2.2.1 (j := i) (nZ_i ⟨by omega, by omega⟩) hi (hH.2.2.2.1 i hi).1]
theorem mh_pil {f : Nat → Option mv_R} (hH : mz_H P a) {i : Nat} (hi : i < 6) : (mv_gR X (mz_h P V, z) a 7 2 fun r => mv_aR X (mz_h P V, z) r (nZ i) f) = f (a + 25 + i) := by
  rw [mz_gR hH.1 (by decide) hH.2.2.2.2.2.2.1, mz_aR hH.2.2.2.2.2.2.2.1 (j := i) (nZ_i ⟨by omega, by omega⟩) hi (hH.2.2.2.2.2.2.2.2.1 i hi).1]
theorem X3_hasBalloon (hH : mz_H P a) (hI : mz_HI V a) {i : Int} (hi : nS i) : mv_call X (d + 1) 27 [.ref a, .int (nZ i)] (mz_h P V, z) = some (.inl (some (.int (nZ (if 0 ≤ i ∧ i < 10 ∧ V (a + 5 + 2 * i.toNat) 0 = 1 then 1 else 0)))), (mz_h P V, z)) := by
  rw [mc_X3_hasBalloon, bk_X3_hasBalloon_0]
  simp (disch := first | decide | assumption) only [nZ_lt0, nZ_le]
  by_cases e : i < 0
  · rw [if_pos e, if_neg (by omega)]
  · rw [if_neg e]
    by_cases e2 : 10 ≤ i
    · rw [if_pos e2, if_neg (by omega)]
    · rw [if_neg e2]
      obtain ⟨k, rfl⟩ : ∃ k : Nat, i = k := ⟨i.toNat, by omega⟩
      rw [mh_bal hH (i := k) (by omega), mz_gI (hH.b (i := k) (by omega)).1 (by decide)]
      simp only [Int.toNat_natCast]
      rcases (hI.1 k (by omega)).moored with m | m
      · rw [if_pos (show nZ (V (a + 5 + 2 * k) 0) = 0 by rw [m]; rfl), if_neg (by omega)]
      · rw [if_neg (show ¬ nZ (V (a + 5 + 2 * k) 0) = 0 by rw [m]; decide), if_pos ⟨by omega, by omega, m⟩]
theorem X3_hasPilot (hH : mz_H P a) (hI : mz_HI V a) {i : Int} (hi : nS i) : mv_call X (d + 1) 28 [.ref a, .int (nZ i)] (mz_h P V, z) = some (.inl (some (.int (nZ (if 0 ≤ i ∧ i < V a 3 then 1 else 0)))), (mz_h P V, z)) := by
  have h1 := hI.2.1.1; have h2 := hI.2.1.2
  rw [mc_X3_hasPilot, bk_X3_hasPilot_0]
  simp (disch := first | decide | assumption | (refine ⟨?_, ?_⟩ <;> omega)) only [mz_gI hH.1, nZ_lt0, nZ_le]
  repeat' split
  all_goals first | rfl | omega
/-- how many balloons, their weight, their heights: over the berths below n -/
def mh_cnt (V : mz_V) (a n : Nat) : Int := mz_s (fun i => if V (a + 5 + 2 * i) 0 = 1 then 1 else 0) n
def mh_wgt (V : mz_V) (a n : Nat) : Int := mz_s (fun i => if V (a + 5 + 2 * i) 0 = 1 then V (a + 5 + 2 * i) 4 else 0) n
def mh_hgt (V : mz_V) (a n : Nat) : Int := mz_s (fun i => if V (a + 5 + 2 * i) 0 = 1 then mb_hw V (a + 5 + 2 * i) (V (a + 5 + 2 * i) 4) else 0) n
theorem X3_countBalloons (hH : mz_H P a) (hI : mz_HI V a) : mv_call X (d + 1) 30 [.ref a] (mz_h P V, z) = some (.inl (some (.int (nZ (mh_cnt V a 10)))), (mz_h P V, z)) := by
  rw [mc_X3_countBalloons, bk_X3_countBalloons_0]
  refine mz_loop (φ := fun i => mv_run X (mv_call X d) m_X3_countBalloons 4 [.ref a, .int (nZ (mh_cnt V a i)), .int (nZ i)] [] (mz_h P V, z) = _) 10 ?_ (fun i hi ih => ?_) 0 (Nat.zero_le _)
  · show mv_run X (mv_call X d) m_X3_countBalloons 4 _ _ _ = _
    rw [bk_X3_countBalloons_4, if_pos (by decide)]
  · show mv_run X (mv_call X d) m_X3_countBalloons 4 _ _ _ = _
    have ih : mv_run X (mv_call X d) m_X3_countBalloons 4 [.ref a, .int (nZ (mh_cnt V a (i + 1))), .int (nZ (i + 1 : Nat))] [] (mz_h P V, z) = _ := ih
    have e : mh_cnt V a (i + 1) = mh_cnt V a i + if V (a + 5 + 2 * i) 0 = 1 then 1 else 0 := rfl
    have e2 : ((i + 1 : Nat) : Int) = (i : Int) + 1 := by omega
    rw [e, e2] at ih
    rw [bk_X3_countBalloons_4, if_neg (by rw [nZ_le (by decide) ⟨by omega, by omega⟩]; omega), mh_bal hH hi, mz_gI (hH.b hi).1 (by decide)]
    simp only [nZ_add]
    rcases (hI.1 i hi).moored with m | m
    · rw [m, if_neg (by omega), Int.add_zero] at ih
      rw [m, if_pos (by decide)]
      exact ih
    · rw [m, if_pos (by omega)] at ih
      rw [m, if_neg (by decide)]
      exact ih
theorem X3_weightAboard (hH : mz_H P a) (hI : mz_HI V a) : mv_call X (d + 1) 31 [.ref a] (mz_h P V, z) = some (.inl (some (.int (nZ (mh_wgt V a 10)))), (mz_h P V, z)) := by
  rw [mc_X3_weightAboard, bk_X3_weightAboard_0]
  refine mz_loop (φ := fun i => mv_run X (mv_call X d) m_X3_weightAboard 4 [.ref a, .int (nZ (mh_wgt V a i)), .int (nZ i)] [] (mz_h P V, z) = _) 10 ?_ (fun i hi ih => ?_) 0 (Nat.zero_le _)
  · show mv_run X (mv_call X d) m_X3_weightAboard 4 _ _ _ = _
    rw [bk_X3_weightAboard_4, if_pos (by decide)]
  · show mv_run X (mv_call X d) m_X3_weightAboard 4 _ _ _ = _
    have ih : mv_run X (mv_call X d) m_X3_weightAboard 4 [.ref a, .int (nZ (mh_wgt V a (i + 1))), .int (nZ (i + 1 : Nat))] [] (mz_h P V, z) = _ := ih
    have e : mh_wgt V a (i + 1) = mh_wgt V a i + if V (a + 5 + 2 * i) 0 = 1 then V (a + 5 + 2 * i) 4 else 0 := rfl
    have e2 : ((i + 1 : Nat) : Int) = (i : Int) + 1 := by omega
    rw [e, e2] at ih
    rw [bk_X3_weightAboard_4, if_neg (by rw [nZ_le (by decide) ⟨by omega, by omega⟩]; omega), mh_bal hH hi, mz_gI (hH.b hi).1 (by decide)]
    simp only [nZ_add]
    rcases (hI.1 i hi).moored with m | m
    · rw [m, if_neg (by omega), Int.add_zero] at ih
      rw [m, if_pos (by decide)]
      exact ih
    · rw [m, if_pos (by omega)] at ih
      rw [m, if_neg (by decide), mh_bal hH hi, mz_gI (hH.b hi).1 (by decide), nZ_add]
      exact ih
theorem X3_sumOfHeights (hH : mz_H P a) (hI : mz_HI V a) : mv_call X (d + 3) 32 [.ref a] (mz_h P V, z) = some (.inl (some (.int (nZ (mh_hgt V a 10)))), (mz_h P V, z)) := by
  rw [mc_X3_sumOfHeights, bk_X3_sumOfHeights_0]
  refine mz_loop (φ := fun i => mv_run X (mv_call X (d + 2)) m_X3_sumOfHeights 4 [.ref a, .int (nZ (mh_hgt V a i)), .int (nZ i)] [] (mz_h P V, z) = _) 10 ?_ (fun i hi ih => ?_) 0 (Nat.zero_le _)
  · show mv_run X (mv_call X (d + 2)) m_X3_sumOfHeights 4 _ _ _ = _
    rw [bk_X3_sumOfHeights_4, if_pos (by decide)]
  · show mv_run X (mv_call X (d + 2)) m_X3_sumOfHeights 4 _ _ _ = _
    have ih : mv_run X (mv_call X (d + 2)) m_X3_sumOfHeights 4 [.ref a, .int (nZ (mh_hgt V a (i + 1))), .int (nZ (i + 1 : Nat))] [] (mz_h P V, z) = _ := ih
    have e : mh_hgt V a (i + 1) = mh_hgt V a i + if V (a + 5 + 2 * i) 0 = 1 then mb_hw V (a + 5 + 2 * i) (V (a + 5 + 2 * i) 4) else 0 := rfl
    have e2 : ((i + 1 : Nat) : Int) = (i : Int) + 1 := by omega
    rw [e, e2] at ih
    rw [bk_X3_sumOfHeights_4, if_neg (by rw [nZ_le (by decide) ⟨by omega, by omega⟩]; omega), mh_bal hH hi, mz_gI (hH.b hi).1 (by decide)]
    rcases (hI.1 i hi).moored with m | m
    · rw [m, if_neg (by omega), Int.add_zero] at ih
      rw [m, if_pos (by decide), nZ_add]
      exact ih
    · rw [m, if_pos (by omega)] at ih
      rw [m, if_neg (by decide), mh_bal hH hi, mz_rcv (hH.b hi).1]
      simp only [mv_clI, mv_cl, X0_presentHeight (hH.b hi) (hI.1 i hi), nZ_add]
      exact ih
end HBR
