/-! A HARBOUR: hours, tops, ranks -/
theorem nZ_div {x y : Int} (hx : 0 ≤ x) (hx2 : x < 2147483648) (hy : 0 < y) (hy2 : y < 2147483648) : nZ x / nZ y = nZ (x / y) := by
  have h1 : 0 ≤ x / y := Int.ediv_nonneg hx (Int.le_of_lt hy)
  have h2 : x / y ≤ x := Int.ediv_le_self y hx
  apply Int32.toInt_inj.mp
  rw [Int32.toInt_div, nZ_i ⟨by omega, by omega⟩, nZ_i ⟨by omega, by omega⟩, nZ_i ⟨by omega, by omega⟩, Int.tdiv_eq_ediv_of_nonneg hx]
  generalize x / y = q at h1 h2
  simp only [Int.bmod_def]
  omega
theorem nZ_mod24 {x : Int} (hx : 0 ≤ x) (hx2 : x < 2147483648) : nZ x - nZ x / nZ 24 * nZ 24 = nZ (x % 24) := by
  rw [nZ_div hx hx2 (by decide) (by decide), nZ_mul, nZ_sub]
  congr 1
  omega
section HBR2
variable {X : mv_X} {P : mz_P} {V : mz_V} {z : Nat × Nat} {a d : Nat}
theorem X3_hourOfDay (hH : mz_H P a) (hI : mz_HI V a) : mv_call X (d + 1) 29 [.ref a] (mz_h P V, z) = some (.inl (some (.int (nZ (V a 4 % 24)))), (mz_h P V, z)) := by
  have h1 := hI.2.2.2.1.1; have h2 := hI.2.2.2.1.2
  rw [mc_X3_hourOfDay, bk_X3_hourOfDay_0]
  simp (disch := decide) only [mz_gI hH.1]
  rw [if_neg (by decide), nZ_mod24 h1 (by omega)]
/-- balloon i, its height, its top -/
def mh_h (V : mz_V) (a i : Nat) : Int := mb_hw V (a + 5 + 2 * i) (V (a + 5 + 2 * i) 4)
def mh_top (V : mz_V) (a i : Nat) : Int := 10 * i + mh_h V a i * V (a + 2) (V a 4 % 24).toNat
theorem X3_topOf (hH : mz_H P a) (hI : mz_HI V a) {i : Nat} (hi : i < 10) : mv_call X (d + 3) 36 [.ref a, .int (nZ i)] (mz_h P V, z) = some (.inl (some (.int (nZ (mh_top V a i)))), (mz_h P V, z)) := by
  have h1 := hI.2.2.2.1.1; have h2 := hI.2.2.2.1.2
  rw [mc_X3_topOf, bk_X3_topOf_0, mh_bal hH hi, mz_rcv (hH.b hi).1]
  simp only [mv_clI, mv_cl, X0_presentHeight (hH.b hi) (hI.1 i hi)]
  rw [mz_gR hH.1 (by decide) hH.2.2.2.2.1, mz_rcv hH.1]
  simp only [X3_hourOfDay hH hI]
  rw [mz_aI hH.2.2.2.2.2.1 (by decide) (j := (V a 4 % 24).toNat) (by rw [nZ_i ⟨by omega, by omega⟩]; omega) (by omega), nZ_mul, nZ_mul, nZ_add]
  rfl
/-- balloon i stands ahead of balloon j -/
def mh_ahd (V : mz_V) (a i j : Nat) : Bool :=
  if mh_h V a i = mh_h V a j then (if V (a + 5 + 2 * i) 4 = V (a + 5 + 2 * j) 4 then decide (i < j) else decide (V (a + 5 + 2 * j) 4 < V (a + 5 + 2 * i) 4)) else decide (mh_h V a j < mh_h V a i)
theorem X3_isAhead (hH : mz_H P a) (hI : mz_HI V a) {i j : Nat} (hi : i < 10) (hj : j < 10) : mv_call X (d + 3) 35 [.ref a, .int (nZ i), .int (nZ j)] (mz_h P V, z) = some (.inl (some (.int (nZ (if mh_ahd V a i j then 1 else 0)))), (mz_h P V, z)) := by
  have h1 : 0 ≤ mh_h V a i := mb_hw0 (hI.1 i hi) _
  have h2 : mh_h V a i ≤ 40 := mb_hw40 (hI.1 i hi) _
  have h3 : 0 ≤ mh_h V a j := mb_hw0 (hI.1 j hj) _
  have h4 : mh_h V a j ≤ 40 := mb_hw40 (hI.1 j hj) _
  have h5 := (hI.1 i hi).bal0; have h6 := (hI.1 i hi).bal1; have h7 := (hI.1 j hj).bal0; have h8 := (hI.1 j hj).bal1
  have e1 : mb_hw V (a + 5 + 2 * i) (V (a + 5 + 2 * i) 4) = mh_h V a i := rfl
  have e2 : mb_hw V (a + 5 + 2 * j) (V (a + 5 + 2 * j) 4) = mh_h V a j := rfl
  rw [mc_X3_isAhead, bk_X3_isAhead_0, mh_bal hH hi, mz_rcv (hH.b hi).1]
  simp only [mv_clI, mv_cl, X0_presentHeight (hH.b hi) (hI.1 i hi), e1]
  rw [mh_bal hH hj, mz_rcv (hH.b hj).1]
  simp only [mv_clI, mv_cl, X0_presentHeight (hH.b hj) (hI.1 j hj), e2, nZ_sub]
  rw [mh_bal hH hi, mz_gI (hH.b hi).1 (by decide), mh_bal hH hj, mz_gI (hH.b hj).1 (by decide)]
  simp (disch := (refine ⟨?_, ?_⟩ <;> omega)) only [nZ_sub, nZ_eq0, nZ_le0, nZ_le]
  unfold mh_ahd
  by_cases c1 : mh_h V a i = mh_h V a j
  · rw [if_pos (by omega), if_pos c1]
    by_cases c2 : V (a + 5 + 2 * i) 4 = V (a + 5 + 2 * j) 4
    · rw [if_pos (by omega), if_pos c2]
      by_cases c3 : i < j
      · rw [if_neg (by omega), if_pos (by simpa using c3)]
      · rw [if_pos (by omega), if_neg (by simpa using c3)]
    · rw [if_neg (by omega), if_neg c2]
      by_cases c3 : V (a + 5 + 2 * j) 4 < V (a + 5 + 2 * i) 4
      · rw [if_neg (by omega), if_pos (by simpa using c3)]
      · rw [if_pos (by omega), if_neg (by simpa using c3)]
  · rw [if_neg (by omega), if_neg c1]
    by_cases c3 : mh_h V a j < mh_h V a i
    · rw [if_neg (by omega), if_pos (by simpa using c3)]
    · rw [if_pos (by omega), if_neg (by simpa using c3)]
/-- how many below n stand ahead of balloon i -/
def mh_ahs (V : mz_V) (a i n : Nat) : Int := mz_s (fun j => if V (a + 5 + 2 * j) 0 = 1 ∧ mh_ahd V a j i = true then 1 else 0) n
theorem X3_countAhead (hH : mz_H P a) (hI : mz_HI V a) {i : Nat} (hi : i < 10) : mv_call X (d + 4) 34 [.ref a, .int (nZ i)] (mz_h P V, z) = some (.inl (some (.int (nZ (mh_ahs V a i 10)))), (mz_h P V, z)) := by
  rw [mc_X3_countAhead, bk_X3_countAhead_0]
  refine mz_loop (φ := fun j => mv_run X (mv_call X (d + 3)) m_X3_countAhead 4 [.ref a, .int (nZ i), .int (nZ (mh_ahs V a i j)), .int (nZ j)] [] (mz_h P V, z) = _) 10 ?_ (fun j hj ih => ?_) 0 (Nat.zero_le _)
  · show mv_run X (mv_call X (d + 3)) m_X3_countAhead 4 _ _ _ = _
    rw [bk_X3_countAhead_4, if_pos (by decide)]
  · show mv_run X (mv_call X (d + 3)) m_X3_countAhead 4 _ _ _ = _
    have ih : mv_run X (mv_call X (d + 3)) m_X3_countAhead 4 [.ref a, .int (nZ i), .int (nZ (mh_ahs V a i (j + 1))), .int (nZ (j + 1 : Nat))] [] (mz_h P V, z) = _ := ih
    have e : mh_ahs V a i (j + 1) = mh_ahs V a i j + if V (a + 5 + 2 * j) 0 = 1 ∧ mh_ahd V a j i = true then 1 else 0 := rfl
    have e2 : ((j + 1 : Nat) : Int) = (j : Int) + 1 := by omega
    rw [e, e2] at ih
    rw [bk_X3_countAhead_4, if_neg (by rw [nZ_le (by decide) ⟨by omega, by omega⟩]; omega), mh_bal hH hj, mz_gI (hH.b hj).1 (by decide)]
    rcases (hI.1 j hj).moored with m | m
    · rw [if_neg (fun q => by rw [m] at q; exact absurd q.1 (by decide)), Int.add_zero] at ih
      rw [m, if_pos (by decide), nZ_add]
      exact ih
    · rw [m, if_neg (by decide), mz_rcv hH.1]
      simp only [mv_clI, mv_cl, X3_isAhead hH hI hj hi, nZ_add]
      by_cases c : mh_ahd V a j i = true
      · rw [if_pos ⟨m, c⟩] at ih
        rw [if_pos c, if_neg (by decide)]
        exact ih
      · rw [if_neg (fun q => c q.2), Int.add_zero] at ih
        rw [if_neg c, if_pos (by decide)]
        exact ih
theorem mh_ahs0 (V : mz_V) (a i n : Nat) : 0 ≤ mh_ahs V a i n := mz_s_0 fun j _ => by split <;> omega
theorem mh_ahs1 (V : mz_V) (a i n : Nat) : mh_ahs V a i n ≤ n := by
  have := mz_s_20 (f := fun j => if V (a + 5 + 2 * j) 0 = 1 ∧ mh_ahd V a j i = true then (1 : Int) else 0) (m := 1) (n := n) fun j _ => by split <;> omega
  unfold mh_ahs
  omega
/-- the first berth from n on (k of them) with a balloon of this rank -/
def mh_rnk (V : mz_V) (a : Nat) (r : Int) : Nat → Nat → Int
  | 0, _ => -1
  | k + 1, i => if V (a + 5 + 2 * i) 0 = 1 ∧ mh_ahs V a i 10 = r then i else mh_rnk V a r k (i + 1)
theorem X3_berthAtRank (hH : mz_H P a) (hI : mz_HI V a) {r : Int} (hr : nS r) : mv_call X (d + 5) 33 [.ref a, .int (nZ r)] (mz_h P V, z) = some (.inl (some (.int (nZ (mh_rnk V a r 10 0)))), (mz_h P V, z)) := by
  rw [mc_X3_berthAtRank, bk_X3_berthAtRank_0]
  refine mz_loop (φ := fun j => mv_run X (mv_call X (d + 4)) m_X3_berthAtRank 2 [.ref a, .int (nZ r), .int (nZ j)] [] (mz_h P V, z) = some (.inl (some (.int (nZ (mh_rnk V a r (10 - j) j)))), (mz_h P V, z))) 10 ?_ (fun j hj ih => ?_) 0 (Nat.zero_le _)
  · show mv_run X (mv_call X (d + 4)) m_X3_berthAtRank 2 _ _ _ = _
    rw [bk_X3_berthAtRank_2, if_pos (by decide)]
    rfl
  · show mv_run X (mv_call X (d + 4)) m_X3_berthAtRank 2 _ _ _ = some (.inl (some (.int (nZ (mh_rnk V a r (10 - j) j)))), (mz_h P V, z))
    have ih : mv_run X (mv_call X (d + 4)) m_X3_berthAtRank 2 [.ref a, .int (nZ r), .int (nZ (j + 1 : Nat))] [] (mz_h P V, z) = some (.inl (some (.int (nZ (mh_rnk V a r (10 - (j + 1)) (j + 1))))), (mz_h P V, z)) := ih
    have e2 : ((j + 1 : Nat) : Int) = (j : Int) + 1 := by omega
    have e3 : 10 - j = 10 - (j + 1) + 1 := by omega
    have h5 := mh_ahs0 V a j 10; have h6 := mh_ahs1 V a j 10
    rw [e2] at ih
    rw [e3]
    have e4 : mh_rnk V a r (10 - (j + 1) + 1) j = if V (a + 5 + 2 * j) 0 = 1 ∧ mh_ahs V a j 10 = r then (j : Int) else mh_rnk V a r (10 - (j + 1)) (j + 1) := rfl
    rw [e4]
    rw [bk_X3_berthAtRank_2, if_neg (by rw [nZ_le (by decide) ⟨by omega, by omega⟩]; omega), mh_bal hH hj, mz_gI (hH.b hj).1 (by decide)]
    rcases (hI.1 j hj).moored with m | m
    · rw [m, if_pos (by decide), nZ_add, if_neg (fun q => absurd q.1 (by decide))]
      exact ih
    · rw [m, if_neg (by decide), mz_rcv hH.1]
      simp only [mv_clI, mv_cl, X3_countAhead hH hI hj, nZ_add]
      by_cases c : mh_ahs V a j 10 = r
      · rw [if_pos (by rw [c]), if_pos ⟨trivial, c⟩]
      · rw [if_neg (fun q => c ((nZ_inj ⟨by omega, by omega⟩ hr).mp q)), if_neg (fun q => c q.2)]
        exact ih
end HBR2
