/-! QUERIES, THE CLASS: an answer, or an exception -/
def mq_r (P : mz_P) (V : mz_V) (z : Nat × Nat) (cd an : Int) (ex : Nat) : Option mv_R := if cd = 0 then some (.inl (some (.int (nZ an))), (mz_h P V, z)) else some (.inr (ex, z.1), (mz_h P V, (z.1 + 1, z.2 + 6)))
theorem mq_r0 {P : mz_P} {V : mz_V} {z : Nat × Nat} {cd an : Int} {ex : Nat} (h : cd = 0) : mq_r P V z cd an ex = some (.inl (some (.int (nZ an))), (mz_h P V, z)) := if_pos h
theorem mq_r1 {P : mz_P} {V : mz_V} {z : Nat × Nat} {cd an : Int} {ex : Nat} (h : cd ≠ 0) : mq_r P V z cd an ex = some (.inr (ex, z.1), (mz_h P V, (z.1 + 1, z.2 + 6))) := if_neg h
/-- the code of a call on a berth -/
def mq_b (s : Nat → Int) (a : Int) : Int := if mr_has s a then 0 else 1
def mq_cnt (s : Nat → Int) : Int := mz_s (fun b => s (6 + 11 * b)) 10
def mq_wgt (s : Nat → Int) : Int := mz_s (fun b => mr_bal s b 0) 10
def mq_hgt (s : Nat → Int) : Int := mz_s (fun b => if s (6 + 11 * b) = 1 then mr_ho s b 0 else 0) 10
/-- ranks -/
def mq_ahd (s : Nat → Int) (i j : Nat) : Bool := if mr_ho s i 0 = mr_ho s j 0 then (if mr_bal s i 0 = mr_bal s j 0 then decide (i < j) else decide (mr_bal s j 0 < mr_bal s i 0)) else decide (mr_ho s j 0 < mr_ho s i 0)
def mq_ahs (s : Nat → Int) (i n : Nat) : Int := mz_s (fun j => if s (6 + 11 * j) = 1 ∧ mq_ahd s j i = true then 1 else 0) n
def mq_rnk (s : Nat → Int) (r : Int) : Nat → Nat → Int
  | 0, _ => -1
  | k + 1, i => if s (6 + 11 * i) = 1 ∧ mq_ahs s i 10 = r then i else mq_rnk s r k (i + 1)
section QRY
variable {X : mv_X} {P : mz_P} {V : mz_V} {z : Nat × Nat} {x v n d : Nat} {s : Nat → Int}
theorem mq_by {a : Int} (h : mr_has s a) : mq_b s a = 0 := if_pos h
theorem mq_bn {a : Int} (h : ¬ mr_has s a) : mq_b s a ≠ 0 := by unfold mq_b; rw [if_neg h]; decide
theorem Y8_at_y (hP : mX_P P x v n) (hI : mr_I s) (h : mh_R V (x + 1) s) {k : Nat} (hk : k < 10) (hh : s (6 + 11 * k) = 1) : mv_call X (d + 2) 140 [.ref x, .int (nZ k)] (mz_h P V, z) = some (.inl (some (.ref (x + 1 + 5 + 2 * k))), (mz_h P V, z)) := by
  have ha : mr_has s k := by rw [mr_has_n hk]; exact hh
  rw [mc_X8_balloonAt, bk_X8_balloonAt_0, mx_g0 hP, mz_rcv hP.h0.1]
  simp only [mv_clI, mv_cl, Y3_has hP.h0 hI h (show nS (k : Int) from ⟨by omega, by omega⟩), nZ_b1]
  rw [if_neg (fun q => q ha), mx_g0 hP, mh_bal hP.h0 hk]
theorem Y8_at_n (hP : mX_P P x v n) (hI : mr_I s) (h : mh_R V (x + 1) s) {a : Int} (ha : nS a) (hn : ¬ mr_has s a) : mv_call X (d + 2) 140 [.ref x, .int (nZ a)] (mz_h P V, z) = some (.inr (1, z.1), (mz_h P V, (z.1 + 1, z.2 + 6))) := by
  rw [mc_X8_balloonAt, bk_X8_balloonAt_0, mx_g0 hP, mz_rcv hP.h0.1]
  simp only [mv_clI, mv_cl, Y3_has hP.h0 hI h ha, nZ_b1]
  rw [if_pos hn]
  rfl
theorem Q8_lift (hP : mX_P P x v n) (hI : mr_I s) (h : mh_R V (x + 1) s) {a : Int} (ha : nS a) : mv_call X (d + 5) 88 [.ref x, .int (nZ a)] (mz_h P V, z) = mq_r P V z (mq_b s a) (s (6 + 11 * a.toNat + 1)) 1 := by
  rw [mc_X8_lift, bk_X8_lift_0, mz_rcv hP.o]
  by_cases c : mr_has s a
  · rw [mq_r0 (mq_by c)]
    obtain ⟨k, rfl, hk, hh⟩ := mr_has_h c
    obtain ⟨p1, p2, p3, p4, p5⟩ := (h.1 k hk).2.2.1 hh
    simp only [mv_clR, mv_cl, Y8_at_y hP hI h hk hh, Int.toNat_natCast]
    rw [mz_gI (hP.h0.b hk).1 (by decide), p1]
  · rw [mq_r1 (mq_bn c)]
    simp only [mv_clR, mv_cl, Y8_at_n hP hI h ha c]
    rfl
theorem Q8_ballast (hP : mX_P P x v n) (hI : mr_I s) (h : mh_R V (x + 1) s) {a : Int} (ha : nS a) : mv_call X (d + 5) 89 [.ref x, .int (nZ a)] (mz_h P V, z) = mq_r P V z (mq_b s a) (mr_bal s a.toNat 0) 1 := by
  rw [mc_X8_ballast, bk_X8_ballast_0, mz_rcv hP.o]
  by_cases c : mr_has s a
  · rw [mq_r0 (mq_by c)]
    obtain ⟨k, rfl, hk, hh⟩ := mr_has_h c
    obtain ⟨p1, p2, p3, p4, p5⟩ := (h.1 k hk).2.2.1 hh
    simp only [mv_clR, mv_cl, Y8_at_y hP hI h hk hh, Int.toNat_natCast]
    rw [mz_gI (hP.h0.b hk).1 (by decide), mb_bal_0 h hk hh]
  · rw [mq_r1 (mq_bn c)]
    simp only [mv_clR, mv_cl, Y8_at_n hP hI h ha c]
    rfl
theorem Q8_height (hP : mX_P P x v n) (hI : mr_I s) (h : mh_R V (x + 1) s) {a : Int} (ha : nS a) : mv_call X (d + 5) 90 [.ref x, .int (nZ a)] (mz_h P V, z) = mq_r P V z (mq_b s a) (mr_ho s a.toNat 0) 1 := by
  rw [mc_X8_height, bk_X8_height_0, mz_rcv hP.o]
  by_cases c : mr_has s a
  · rw [mq_r0 (mq_by c)]
    obtain ⟨k, rfl, hk, hh⟩ := mr_has_h c
    obtain ⟨p1, p2, p3, p4, p5⟩ := (h.1 k hk).2.2.1 hh
    simp only [mv_clR, mv_cl, Y8_at_y hP hI h hk hh, Int.toNat_natCast]
    rw [mz_rcv (hP.h0.b hk).1]
    simp only [mv_clI, mv_cl, Y0_height hP.h0 h hk hh]
  · rw [mq_r1 (mq_bn c)]
    simp only [mv_clR, mv_cl, Y8_at_n hP hI h ha c]
    rfl
theorem Q8_isBursting (hP : mX_P P x v n) (hI : mr_I s) (h : mh_R V (x + 1) s) {a : Int} (ha : nS a) : mv_call X (d + 5) 91 [.ref x, .int (nZ a)] (mz_h P V, z) = mq_r P V z (mq_b s a) (if s (6 + 11 * a.toNat + 3) < mr_ho s a.toNat 0 then 1 else 0) 1 := by
  rw [mc_X8_isBursting, bk_X8_isBursting_0, mz_rcv hP.o]
  by_cases c : mr_has s a
  · rw [mq_r0 (mq_by c)]
    obtain ⟨k, rfl, hk, hh⟩ := mr_has_h c
    obtain ⟨p1, p2, p3, p4, p5⟩ := (h.1 k hk).2.2.1 hh
    simp only [mv_clR, mv_cl, Y8_at_y hP hI h hk hh, Int.toNat_natCast]
    rw [mz_rcv (hP.h0.b hk).1]
    simp only [mv_clI, mv_cl, Y0_over hP.h0 h hk hh]
    rw [mv_chk_t (by split <;> decide)]
  · rw [mq_r1 (mq_bn c)]
    simp only [mv_clR, mv_cl, Y8_at_n hP hI h ha c]
    rfl
theorem Q8_bagCount (hP : mX_P P x v n) (hI : mr_I s) (h : mh_R V (x + 1) s) {a : Int} (ha : nS a) : mv_call X (d + 5) 96 [.ref x, .int (nZ a)] (mz_h P V, z) = mq_r P V z (mq_b s a) (s (6 + 11 * a.toNat + 4)) 1 := by
  rw [mc_X8_bagCount, bk_X8_bagCount_0, mz_rcv hP.o]
  by_cases c : mr_has s a
  · rw [mq_r0 (mq_by c)]
    obtain ⟨k, rfl, hk, hh⟩ := mr_has_h c
    obtain ⟨p1, p2, p3, p4, p5⟩ := (h.1 k hk).2.2.1 hh
    simp only [mv_clR, mv_cl, Y8_at_y hP hI h hk hh, Int.toNat_natCast]
    rw [mz_gI (hP.h0.b hk).1 (by decide), p4]
  · rw [mq_r1 (mq_bn c)]
    simp only [mv_clR, mv_cl, Y8_at_n hP hI h ha c]
    rfl
theorem mh_top_eq (h : mh_R V (x + 1) s) {k : Nat} (hI : mr_I s) (hk : k < 10) (hh : s (6 + 11 * k) = 1) : mh_top V (x + 1) k = mr_top s k := by
  have h0 := hI.hour
  unfold mh_top mr_top
  rw [mh_h_ho h hk hh, h.2.1.2.1, h.2.2.1 _ (by omega)]
theorem Q8_top (hP : mX_P P x v n) (hI : mr_I s) (h : mh_R V (x + 1) s) {a : Int} (ha : nS a) : mv_call X (d + 5) 103 [.ref x, .int (nZ a)] (mz_h P V, z) = mq_r P V z (mq_b s a) (mr_top s a.toNat) 1 := by
  rw [mc_X8_top, bk_X8_top_0, mz_rcv hP.o]
  by_cases c : mr_has s a
  · rw [mq_r0 (mq_by c)]
    obtain ⟨k, rfl, hk, hh⟩ := mr_has_h c
    obtain ⟨p1, p2, p3, p4, p5⟩ := (h.1 k hk).2.2.1 hh
    simp only [mv_clR, mv_cl, Y8_at_y hP hI h hk hh, Int.toNat_natCast]
    rw [mx_g0 hP, mz_rcv hP.h0.1]
    simp only [mv_clI, mv_cl, X3_topOf hP.h0 (h.HI hI) hk, mh_top_eq h hI hk hh]
  · rw [mq_r1 (mq_bn c)]
    simp only [mv_clR, mv_cl, Y8_at_n hP hI h ha c]
    rfl
theorem Q8_isMoored (hP : mX_P P x v n) (hI : mr_I s) (h : mh_R V (x + 1) s) {a : Int} (ha : nS a) : mv_call X (d + 3) 87 [.ref x, .int (nZ a)] (mz_h P V, z) = mq_r P V z (if 0 ≤ a ∧ a ≤ 9 then 0 else 1) (if mr_has s a then 1 else 0) 0 := by
  rw [mc_X8_isMoored, bk_X8_isMoored_0]
  simp only [mv_clI, mv_cl, X8_isWithin ha (show nS 0 by decide) (show nS 9 by decide), nZ_b1]
  by_cases c : 0 ≤ a ∧ a ≤ 9
  · rw [mq_r0 (if_pos c), if_neg (fun q => q c), mx_g0 hP, mz_rcv hP.h0.1]
    simp only [Y3_has hP.h0 hI h ha]
    rw [mv_chk_t (by split <;> decide)]
  · rw [mq_r1 (by rw [if_neg c]; decide), if_pos c]
    rfl
theorem Q8_bagWeight (hP : mX_P P x v n) (hI : mr_I s) (h : mh_R V (x + 1) s) {a b : Int} (ha : nS a) (hb : nS b) : mv_call X (d + 4) 97 [.ref x, .int (nZ a), .int (nZ b)] (mz_h P V, z) = mq_r P V z (if mr_has s a then (if 0 ≤ b ∧ b < s (6 + 11 * a.toNat + 4) then 0 else 2) else 1) (s (6 + 11 * a.toNat + (5 + b.toNat))) (if mr_has s a then 2 else 1) := by
  rw [mc_X8_bagWeight, bk_X8_bagWeight_0, mz_rcv hP.o]
  by_cases c : mr_has s a
  · simp only [if_pos c]
    obtain ⟨k, rfl, hk, hh⟩ := mr_has_h c
    obtain ⟨p1, p2, p3, p4, p5⟩ := (h.1 k hk).2.2.1 hh
    have h6 := hI.bags hk
    simp only [mv_clR, mv_cl, Y8_at_y hP hI h hk hh, Int.toNat_natCast, mz_rcv (hP.h0.b hk).1, mv_clI, X0_hasBag (hP.h0.b hk) (h.1 k hk).1 hb, nZ_b1, p4]
    by_cases c2 : 0 ≤ b ∧ b < s (6 + 11 * k + 4)
    · rw [mq_r0 (if_pos c2), if_neg (fun q => q c2)]
      obtain ⟨i, rfl⟩ : ∃ i : Nat, b = i := ⟨b.toNat, by omega⟩
      rw [mz_gR (hP.h0.b hk).1 (by decide) (hP.h0.b hk).2.1, mz_aJ (hP.h0.b hk).2.2 (by omega) (by omega) (by decide), Int.toNat_natCast, p5 i (by omega)]
    · rw [mq_r1 (by rw [if_neg c2]; decide), if_pos c2]
      rfl
  · simp only [if_neg c]
    rw [mq_r1 (by decide)]
    simp only [mv_clR, mv_cl, Y8_at_n hP hI h ha c]
    rfl
theorem mh_cnt_eq {a : Nat} (hI : mr_I s) (h : mh_R V a s) : mh_cnt V a 10 = mq_cnt s := mz_s_c fun i hi => by
  show (if V (a + 5 + 2 * i) 0 = 1 then (1 : Int) else 0) = s (6 + 11 * i)
  rw [(h.1 i hi).2.1]
  have := hI.here hi
  split <;> omega
theorem mh_wgt_eq {a : Nat} (hI : mr_I s) (h : mh_R V a s) : mh_wgt V a 10 = mq_wgt s := mz_s_c fun i hi => by
  show (if V (a + 5 + 2 * i) 0 = 1 then V (a + 5 + 2 * i) 4 else 0) = mr_bal s i 0
  rw [(h.1 i hi).2.1]
  by_cases c : s (6 + 11 * i) = 1
  · rw [if_pos c, mb_bal_0 h hi c]
  · rw [if_neg c]
    have h0 : s (6 + 11 * i) = 0 := by have := hI.here hi; omega
    have h4 := (h.1 i hi).2.2.2 h0 4 (by decide)
    unfold mr_bal mr_bw
    rw [h4]
    rfl
theorem mh_hgt_eq {a : Nat} (h : mh_R V a s) : mh_hgt V a 10 = mq_hgt s := mz_s_c fun i hi => by
  show (if V (a + 5 + 2 * i) 0 = 1 then mb_hw V (a + 5 + 2 * i) (V (a + 5 + 2 * i) 4) else 0) = if s (6 + 11 * i) = 1 then mr_ho s i 0 else 0
  rw [(h.1 i hi).2.1]
  by_cases c : s (6 + 11 * i) = 1
  · rw [if_pos c, if_pos c]; exact mh_h_ho h hi c
  · rw [if_neg c, if_neg c]
theorem Q8_balloonCount (hP : mX_P P x v n) (hI : mr_I s) (h : mh_R V (x + 1) s) : mv_call X (d + 3) 86 [.ref x] (mz_h P V, z) = some (.inl (some (.int (nZ (mq_cnt s)))), (mz_h P V, z)) := by
  rw [mc_X8_balloonCount, bk_X8_balloonCount_0, mx_g0 hP, mz_rcv hP.h0.1]
  simp only [mv_clI, mv_cl, X3_countBalloons hP.h0 (h.HI hI), mh_cnt_eq hI h]
theorem Q8_aboard (hP : mX_P P x v n) (hI : mr_I s) (h : mh_R V (x + 1) s) : mv_call X (d + 3) 120 [.ref x] (mz_h P V, z) = some (.inl (some (.int (nZ (mq_wgt s)))), (mz_h P V, z)) := by
  rw [mc_X8_aboard, bk_X8_aboard_0, mx_g0 hP, mz_rcv hP.h0.1]
  simp only [mv_clI, mv_cl, X3_weightAboard hP.h0 (h.HI hI), mh_wgt_eq hI h]
theorem Q8_pilotCount (hP : mX_P P x v n) (h : mh_R V (x + 1) s) : mv_call X (d + 1) 110 [.ref x] (mz_h P V, z) = some (.inl (some (.int (nZ (s 5)))), (mz_h P V, z)) := by
  rw [mc_X8_pilotCount, bk_X8_pilotCount_0, mx_g0 hP, mz_gI hP.h0.1 (by decide), h.2.1.1]
theorem Q8_hour (hP : mX_P P x v n) (h : mh_R V (x + 1) s) : mv_call X (d + 1) 117 [.ref x] (mz_h P V, z) = some (.inl (some (.int (nZ (s 0)))), (mz_h P V, z)) := by
  rw [mc_X8_hour, bk_X8_hour_0, mx_g0 hP, mz_gI hP.h0.1 (by decide), h.2.1.2.1]
theorem Q8_bursts (hP : mX_P P x v n) (h : mh_R V (x + 1) s) : mv_call X (d + 1) 118 [.ref x] (mz_h P V, z) = some (.inl (some (.int (nZ (s 1)))), (mz_h P V, z)) := by
  rw [mc_X8_bursts, bk_X8_bursts_0, mx_g0 hP, mz_gI hP.h0.1 (by decide), h.2.1.2.2.1]
theorem Q8_loaded (hP : mX_P P x v n) (h : mh_R V (x + 1) s) : mv_call X (d + 1) 119 [.ref x] (mz_h P V, z) = some (.inl (some (.int (nZ (s 2)))), (mz_h P V, z)) := by
  rw [mc_X8_loaded, bk_X8_loaded_0, mx_g0 hP, mz_gI hP.h0.1 (by decide), h.2.1.2.2.2.1]
theorem Q8_dropped (hP : mX_P P x v n) (h : mh_R V (x + 1) s) : mv_call X (d + 1) 121 [.ref x] (mz_h P V, z) = some (.inl (some (.int (nZ (s 3)))), (mz_h P V, z)) := by
  rw [mc_X8_dropped, bk_X8_dropped_0, mx_g0 hP, mz_gI hP.h0.1 (by decide), h.2.1.2.2.2.2.1]
theorem Q8_lost (hP : mX_P P x v n) (h : mh_R V (x + 1) s) : mv_call X (d + 1) 122 [.ref x] (mz_h P V, z) = some (.inl (some (.int (nZ (s 4)))), (mz_h P V, z)) := by
  rw [mc_X8_lost, bk_X8_lost_0, mx_g0 hP, mz_gI hP.h0.1 (by decide), h.2.1.2.2.2.2.2]
theorem mh_ahd_eq {a : Nat} (h : mh_R V a s) {i j : Nat} (hi : i < 10) (hj : j < 10) (hhi : s (6 + 11 * i) = 1) (hhj : s (6 + 11 * j) = 1) : mh_ahd V a i j = mq_ahd s i j := by
  unfold mh_ahd mq_ahd
  rw [mh_h_ho h hi hhi, mh_h_ho h hj hhj, mb_bal_0 h hi hhi, mb_bal_0 h hj hhj]
theorem mh_ahs_eq {a : Nat} (h : mh_R V a s) {i : Nat} (hi : i < 10) (hhi : s (6 + 11 * i) = 1) : mh_ahs V a i 10 = mq_ahs s i 10 := mz_s_c fun j hj => by
  show (if V (a + 5 + 2 * j) 0 = 1 ∧ mh_ahd V a j i = true then (1 : Int) else 0) = if s (6 + 11 * j) = 1 ∧ mq_ahd s j i = true then 1 else 0
  rw [(h.1 j hj).2.1]
  by_cases c : s (6 + 11 * j) = 1
  · rw [mh_ahd_eq h hj hi c hhi]
  · rw [if_neg (fun q => c q.1), if_neg (fun q => c q.1)]
theorem mh_rnk_eq {a : Nat} (h : mh_R V a s) (r : Int) : ∀ k i, i + k = 10 → mh_rnk V a r k i = mq_rnk s r k i
  | 0, _, _ => rfl
  | k + 1, i, hk => by
    show (if V (a + 5 + 2 * i) 0 = 1 ∧ mh_ahs V a i 10 = r then (i : Int) else mh_rnk V a r k (i + 1)) = if s (6 + 11 * i) = 1 ∧ mq_ahs s i 10 = r then (i : Int) else mq_rnk s r k (i + 1)
    rw [mh_rnk_eq h r k (i + 1) (by omega), (h.1 i (by omega)).2.1]
    by_cases c : s (6 + 11 * i) = 1
    · rw [mh_ahs_eq h (by omega) c]
    · rw [if_neg (fun q => c q.1), if_neg (fun q => c q.1)]
theorem mq_rnk_in (r : Int) : ∀ k i, i + k = 10 → mq_rnk s r k i = -1 ∨ (0 ≤ mq_rnk s r k i ∧ mq_rnk s r k i < 10)
  | 0, _, _ => Or.inl rfl
  | k + 1, i, hk => by
    have := mq_rnk_in r k (i + 1) (by omega)
    show (if s (6 + 11 * i) = 1 ∧ mq_ahs s i 10 = r then (i : Int) else mq_rnk s r k (i + 1)) = -1 ∨ (0 ≤ (if s (6 + 11 * i) = 1 ∧ mq_ahs s i 10 = r then (i : Int) else mq_rnk s r k (i + 1)) ∧ (if s (6 + 11 * i) = 1 ∧ mq_ahs s i 10 = r then (i : Int) else mq_rnk s r k (i + 1)) < 10)
    split <;> omega
theorem Q8_berthByHeight (hP : mX_P P x v n) (hI : mr_I s) (h : mh_R V (x + 1) s) {r : Int} (hr : nS r) : mv_call X (d + 6) 92 [.ref x, .int (nZ r)] (mz_h P V, z) = mq_r P V z (if mq_rnk s r 10 0 = -1 then 1 else 0) (mq_rnk s r 10 0) 1 := by
  have hin := mq_rnk_in (s := s) r 10 0 rfl
  rw [mc_X8_berthByHeight, bk_X8_berthByHeight_0, mx_g0 hP, mz_rcv hP.h0.1]
  simp only [mv_clI, mv_cl, X3_berthAtRank hP.h0 (h.HI hI) hr, mh_rnk_eq h r 10 0 rfl]
  by_cases c : mq_rnk s r 10 0 = -1
  · rw [mq_r1 (by rw [if_pos c]; decide), if_pos (by rw [c])]
    rfl
  · rw [mq_r0 (by rw [if_neg c]), if_neg (by rw [nZ_inj ⟨by omega, by omega⟩ (by decide)]; exact c)]
/-- sets of bags -/
def mq_ds (s : Nat → Int) (a b : Int) : Int := if 1 ≤ b ∧ b ≤ 40 then (if mr_has s a ∧ mr_bst s a.toNat b ≠ -1 then 0 else 2) else 1
def mq_dx (b : Int) : Nat := if 1 ≤ b ∧ b ≤ 40 then 1 else 0
theorem Y8_reqH_y {b : Int} (hb : nS b) (h : 1 ≤ b ∧ b ≤ 40) {hp : mv_H} : mv_call X (d + 2) 143 [.int (nZ b)] hp = some (.inl none, hp) := by
  rw [mc_X8_requireHeight, bk_X8_requireHeight_0]
  simp only [mv_clI, mv_cl, X8_isWithin hb (show nS 1 by decide) (show nS 40 by decide), nZ_b1]
  rw [if_neg (fun q => q h)]
theorem Y8_reqH_n {b : Int} (hb : nS b) (h : ¬ (1 ≤ b ∧ b ≤ 40)) {hp : mv_H} : mv_call X (d + 2) 143 [.int (nZ b)] hp = some (.inr (0, hp.2.1), (hp.1, hp.2.1 + 1, hp.2.2 + 6)) := by
  rw [mc_X8_requireHeight, bk_X8_requireHeight_0]
  simp only [mv_clI, mv_cl, X8_isWithin hb (show nS 1 by decide) (show nS 40 by decide), nZ_b1]
  rw [if_pos h]
  rfl
theorem Y8_reqD (hP : mX_P P x v n) (h : mh_R V (x + 1) s) {k : Nat} (hk : k < 10) (hh : s (6 + 11 * k) = 1) {b : Int} (hb : nS b) : mv_call X (d + 4) 145 [.ref (x + 1 + 5 + 2 * k), .int (nZ b)] (mz_h P V, z) = mq_r P V z (if mr_bst s k b = -1 then 1 else 0) (mr_bst s k b) 1 := by
  have hpw := mb_pow (h.1 k hk).1
  have hin : mr_bst s k b = -1 ∨ (0 ≤ mr_bst s k b ∧ mr_bst s k b < (2 ^ (s (6 + 11 * k + 4)).toNat : Nat)) := mr_best_in s k b (2 ^ (s (6 + 11 * k + 4)).toNat)
  rw [((h.1 k hk).2.2.1 hh).2.2.2.1] at hpw
  rw [mc_X8_requireDropSet, bk_X8_requireDropSet_0, mz_rcv (hP.h0.b hk).1]
  simp only [mv_clI, mv_cl, X0_bestDropSet (hP.h0.b hk) (h.1 k hk).1 hb, mb_bst_eq h hk hh]
  by_cases c : mr_bst s k b = -1
  · rw [mq_r1 (by rw [if_pos c]; decide), if_pos (by rw [c])]
    rfl
  · rw [mq_r0 (by rw [if_neg c]), if_neg (by rw [nZ_inj ⟨by omega, by omega⟩ (by decide)]; exact c)]
theorem mr_bst_nat (hI : mr_I s) {k : Nat} (hk : k < 10) {b : Int} (h : mr_bst s k b ≠ -1) : mr_bst s k b = ((mr_bst s k b).toNat : Int) ∧ (mr_bst s k b).toNat < 64 := by
  have hin : mr_bst s k b = -1 ∨ (0 ≤ mr_bst s k b ∧ mr_bst s k b < (2 ^ (s (6 + 11 * k + 4)).toNat : Nat)) := mr_best_in s k b (2 ^ (s (6 + 11 * k + 4)).toNat)
  have := mr_pow hI hk
  omega
theorem Q8_fewestDropsBySets (hP : mX_P P x v n) (hI : mr_I s) (h : mh_R V (x + 1) s) {a b : Int} (ha : nS a) (hb : nS b) : mv_call X (d + 5) 99 [.ref x, .int (nZ a), .int (nZ b)] (mz_h P V, z) = mq_r P V z (mq_ds s a b) (mb_pop (mr_bst s a.toNat b).toNat) (mq_dx b) := by
  rw [mc_X8_fewestDropsBySets, bk_X8_fewestDropsBySets_0]
  unfold mq_ds mq_dx
  by_cases c1 : 1 ≤ b ∧ b ≤ 40
  · simp only [mv_clV, mv_clR, mv_clI, mv_cl, Y8_reqH_y hb c1, mz_rcv hP.o, if_pos c1]
    by_cases c2 : mr_has s a
    · obtain ⟨k, rfl, hk, hh⟩ := mr_has_h c2
      simp only [Y8_at_y hP hI h hk hh, Y8_reqD hP h hk hh hb, Int.toNat_natCast]
      by_cases c3 : mr_bst s k b = -1
      · rw [mq_r1 (by rw [if_pos c3]; decide), mq_r1 (by rw [if_neg (fun q => q.2 c3)]; decide)]
        rfl
      · have hn := mr_bst_nat hI hk c3
        rw [mq_r0 (by rw [if_neg c3]), mq_r0 (by rw [if_pos ⟨c2, c3⟩]), hn.1]
        simp only [J6_bitCount hn.2, Int.toNat_natCast]
    · rw [mq_r1 (by rw [if_neg (fun q => c2 q.1)]; decide)]
      simp only [Y8_at_n hP hI h ha c2]
      rfl
  · simp only [mv_clV, mv_cl, Y8_reqH_n hb c1, if_neg c1]
    rw [mq_r1 (by decide)]
    rfl
theorem Q8_dropWeight (hP : mX_P P x v n) (hI : mr_I s) (h : mh_R V (x + 1) s) {a b : Int} (ha : nS a) (hb : nS b) : mv_call X (d + 5) 100 [.ref x, .int (nZ a), .int (nZ b)] (mz_h P V, z) = mq_r P V z (mq_ds s a b) (mr_bal s a.toNat 0 - mr_bal s a.toNat (mr_bst s a.toNat b).toNat) (mq_dx b) := by
  rw [mc_X8_dropWeight, bk_X8_dropWeight_0]
  unfold mq_ds mq_dx
  by_cases c1 : 1 ≤ b ∧ b ≤ 40
  · simp only [mv_clV, mv_clR, mv_clI, mv_cl, Y8_reqH_y hb c1, mz_rcv hP.o, if_pos c1]
    by_cases c2 : mr_has s a
    · obtain ⟨k, rfl, hk, hh⟩ := mr_has_h c2
      simp only [Y8_at_y hP hI h hk hh, Y8_reqD hP h hk hh hb, Int.toNat_natCast]
      by_cases c3 : mr_bst s k b = -1
      · rw [mq_r1 (by rw [if_pos c3]; decide), mq_r1 (by rw [if_neg (fun q => q.2 c3)]; decide)]
        rfl
      · have hn := mr_bst_nat hI hk c3
        have h1 := mb_bal h hk hh (mr_bst s k b).toNat
        have h2 := mb_bal_0 h hk hh
        rw [mq_r0 (by rw [if_neg c3]), mq_r0 (by rw [if_pos ⟨c2, c3⟩]), hn.1]
        simp only [mz_rcv (hP.h0.b hk).1, X0_weightOf (hP.h0.b hk) (h.1 k hk).1 hn.2, Int.toNat_natCast]
        rw [show mb_wt V (x + 1 + 5 + 2 * k) (mr_bst s k b).toNat (V (x + 1 + 5 + 2 * k) 5).toNat = mr_bal s k 0 - mr_bal s k (mr_bst s k b).toNat by omega]
    · rw [mq_r1 (by rw [if_neg (fun q => c2 q.1)]; decide)]
      simp only [Y8_at_n hP hI h ha c2]
      rfl
  · simp only [mv_clV, mv_cl, Y8_reqH_n hb c1, if_neg c1]
    rw [mq_r1 (by decide)]
    rfl
theorem Q8_wind (hP : mX_P P x v n) (h : mh_R V (x + 1) s) {a : Int} (ha : nS a) : mv_call X (d + 2) 102 [.ref x, .int (nZ a)] (mz_h P V, z) = mq_r P V z (if 0 ≤ a ∧ a ≤ 23 then 0 else 1) (s (116 + a.toNat)) 0 := by
  rw [mc_X8_wind, bk_X8_wind_0]
  simp only [mv_clI, mv_cl, X8_isWithin ha (show nS 0 by decide) (show nS 23 by decide), nZ_b1]
  by_cases c : 0 ≤ a ∧ a ≤ 23
  · rw [mq_r0 (if_pos c), if_neg (fun q => q c), mx_g0 hP, mz_gR hP.h0.1 (by decide) hP.h0.2.2.2.2.1, mz_aJ hP.h0.2.2.2.2.2.1 (by omega) (by omega) (by decide), h.2.2.1 _ (by omega)]
  · rw [mq_r1 (by rw [if_neg c]; decide), if_pos c]
    rfl
/-- pilots -/
def mq_on (s : Nat → Int) (p : Nat) (t : Int) : Bool := if s (140 + 3 * p + 1) ≤ s (140 + 3 * p + 2) then decide (s (140 + 3 * p + 1) ≤ t ∧ t ≤ s (140 + 3 * p + 2)) else decide (s (140 + 3 * p + 1) ≤ t ∨ t ≤ s (140 + 3 * p + 2))
def mq_fit (s : Nat → Int) (p b : Nat) : Bool := mq_on s p (s 0 % 24) && decide (s (140 + 3 * p) ≤ mr_sp s b 0)
theorem mp_on_eq {a : Nat} (h : mh_R V a s) {p : Nat} (hp : (p : Int) < s 5) (t : Int) : mp_on V (a + 25 + p) t = mq_on s p t := by
  obtain ⟨q0, q1, q2⟩ := h.2.2.2.2 p hp
  unfold mp_on mq_on
  rw [q1, q2]
theorem Y3_sp (hP : mz_H P (x + 1)) (h : mh_R V (x + 1) s) {k : Nat} (hk : k < 10) (hh : s (6 + 11 * k) = 1) : mv_call X (d + 1) 3 [.ref (x + 1 + 5 + 2 * k)] (mz_h P V, z) = some (.inl (some (.int (nZ (mr_sp s k 0)))), (mz_h P V, z)) := by
  rw [X0_spareLift (hP.b hk) (h.1 k hk).1, mb_bal_0 h hk hh, ((h.1 k hk).2.2.1 hh).1]
  refine congrArg (fun q => some (Sum.inl (some (Value.int (nZ q))), (mz_h P V, z))) ?_
  unfold mr_sp
  repeat' split
  all_goals omega
theorem Y3_fits (hP : mX_P P x v n) (hI : mr_I s) (h : mh_R V (x + 1) s) {p k : Nat} (hp : p < 6) (hk : k < 10) : mv_call X (d + 2) 39 [.ref (x + 1), .int (nZ p), .int (nZ k)] (mz_h P V, z) = some (.inl (some (.int (nZ (if (p : Int) < s 5 ∧ s (6 + 11 * k) = 1 ∧ mq_fit s p k = true then 1 else 0)))), (mz_h P V, z)) := by
  have h0 := hI.hour
  rw [mc_X3_fitsCrew, bk_X3_fitsCrew_0, mz_rcv hP.h0.1]
  simp only [mv_clI, mv_cl, Y3_hasP hP.h0 hI h (show nS (p : Int) from ⟨by omega, by omega⟩), nZ_b1, mz_rcv hP.h0.1, Y3_has hP.h0 hI h (show nS (k : Int) from ⟨by omega, by omega⟩), mr_has_n hk]
  by_cases c1 : (p : Int) < s 5
  · rw [if_neg (fun q => q ⟨by omega, c1⟩)]
    by_cases c2 : s (6 + 11 * k) = 1
    · rw [if_neg (fun q => q c2), mh_pil hP.h0 hp]
      have ho := X3_hourOfDay (X := X) (z := z) (d := d) hP.h0 (h.HI hI)
      rw [h.2.1.2.1] at ho
      simp only [mz_rcv hP.h0.1, ho, mz_rcv (hP.h0.q hp), X5_worksAt (hP.h0.q hp) (h.2.2.2.1 p hp) (t := s 0 % 24) ⟨by omega, by omega⟩, mp_on_eq h c1, nZ_b1]
      by_cases c3 : mq_on s p (s 0 % 24) = true
      · rw [if_neg (fun q => q c3), mh_bal hP.h0 hk, mz_rcv (hP.h0.b hk).1]
        have hw := (h.2.2.2.2 p c1).1
        have hw2 := (h.2.2.2.1 p hp).1
        have hs0 := mr_sp0 (s := s) k 0
        have hs1 := mr_sp1 hI hk 0
        simp only [Y3_sp hP.h0 h hk c2]
        rw [mh_pil hP.h0 hp, mz_gI (hP.h0.q hp) (by decide), hw]
        rw [hw] at hw2
        by_cases c4 : s (140 + 3 * p) ≤ mr_sp s k 0
        · rw [if_neg (by rw [nZ_lt ⟨by omega, by omega⟩ ⟨by omega, by omega⟩]; omega), if_pos ⟨c1, c2, by unfold mq_fit; rw [c3]; simpa using c4⟩]
        · rw [if_pos (by rw [nZ_lt ⟨by omega, by omega⟩ ⟨by omega, by omega⟩]; omega), if_neg (fun q => by have := q.2.2; unfold mq_fit at this; rw [c3] at this; exact c4 (by simpa using this))]
      · rw [if_pos c3, if_neg (fun q => by have := q.2.2; unfold mq_fit at this; rw [Bool.and_eq_true] at this; exact c3 this.1)]
    · rw [if_pos c2, if_neg (fun q => c2 q.2.1)]
  · rw [if_pos (fun q => c1 q.2), if_neg (fun q => c1 q.1)]
theorem Y8_reqP_y (hP : mX_P P x v n) (hI : mr_I s) (h : mh_R V (x + 1) s) {p : Int} (hp : nS p) (c : 0 ≤ p ∧ p < s 5) : mv_call X (d + 2) 141 [.ref x, .int (nZ p)] (mz_h P V, z) = some (.inl none, (mz_h P V, z)) := by
  rw [mc_X8_requirePilot, bk_X8_requirePilot_0, mx_g0 hP, mz_rcv hP.h0.1]
  simp only [mv_clI, mv_cl, Y3_hasP hP.h0 hI h hp, nZ_b1]
  rw [if_neg (fun q => q c)]
theorem Y8_reqP_n (hP : mX_P P x v n) (hI : mr_I s) (h : mh_R V (x + 1) s) {p : Int} (hp : nS p) (c : ¬ (0 ≤ p ∧ p < s 5)) : mv_call X (d + 2) 141 [.ref x, .int (nZ p)] (mz_h P V, z) = some (.inr (2, z.1), (mz_h P V, (z.1 + 1, z.2 + 6))) := by
  rw [mc_X8_requirePilot, bk_X8_requirePilot_0, mx_g0 hP, mz_rcv hP.h0.1]
  simp only [mv_clI, mv_cl, Y3_hasP hP.h0 hI h hp, nZ_b1]
  rw [if_pos c]
  rfl
theorem Q8_isOnDuty (hP : mX_P P x v n) (hI : mr_I s) (h : mh_R V (x + 1) s) {p t : Int} (hp : nS p) (ht : nS t) : mv_call X (d + 3) 111 [.ref x, .int (nZ p), .int (nZ t)] (mz_h P V, z) = mq_r P V z (if 0 ≤ p ∧ p < s 5 then (if 0 ≤ t ∧ t ≤ 23 then 0 else 2) else 1) (if mq_on s p.toNat t then 1 else 0) (if 0 ≤ p ∧ p < s 5 then 0 else 2) := by
  have h5 := hI.pil
  rw [mc_X8_isOnDuty, bk_X8_isOnDuty_0, mz_rcv hP.o]
  by_cases c : 0 ≤ p ∧ p < s 5
  · simp only [mv_clV, mv_clI, mv_cl, Y8_reqP_y hP hI h hp c, if_pos c, X8_isWithin ht (show nS 0 by decide) (show nS 23 by decide), nZ_b1]
    by_cases c2 : 0 ≤ t ∧ t ≤ 23
    · obtain ⟨q, rfl⟩ : ∃ q : Nat, p = q := ⟨p.toNat, by omega⟩
      have hq : q < 6 := by omega
      rw [mq_r0 (if_pos c2), if_neg (fun w => w c2), mx_g0 hP, mh_pil hP.h0 hq, mz_rcv (hP.h0.q hq)]
      simp only [X5_worksAt (hP.h0.q hq) (h.2.2.2.1 q hq) ht, mp_on_eq h c.2, Int.toNat_natCast]
      rw [mv_chk_t (by split <;> decide)]
    · rw [mq_r1 (by rw [if_neg c2]; decide), if_pos c2]
      rfl
  · simp only [mv_clV, mv_cl, Y8_reqP_n hP hI h hp c, if_neg c]
    rw [mq_r1 (by decide)]
    rfl
theorem Q8_canCrew (hP : mX_P P x v n) (hI : mr_I s) (h : mh_R V (x + 1) s) {p a : Int} (hp : nS p) (ha : nS a) : mv_call X (d + 3) 112 [.ref x, .int (nZ p), .int (nZ a)] (mz_h P V, z) = mq_r P V z (if 0 ≤ p ∧ p < s 5 then (if mr_has s a then 0 else 2) else 1) (if mq_fit s p.toNat a.toNat then 1 else 0) (if 0 ≤ p ∧ p < s 5 then 1 else 2) := by
  have h5 := hI.pil
  rw [mc_X8_canCrew, bk_X8_canCrew_0, mz_rcv hP.o]
  by_cases c : 0 ≤ p ∧ p < s 5
  · simp only [mv_clV, mv_clR, mv_clI, mv_cl, Y8_reqP_y hP hI h hp c, if_pos c, mz_rcv hP.o]
    by_cases c2 : mr_has s a
    · rw [mq_r0 (if_pos c2)]
      obtain ⟨k, rfl, hk, hh⟩ := mr_has_h c2
      obtain ⟨q, rfl⟩ : ∃ q : Nat, p = q := ⟨p.toNat, by omega⟩
      simp only [Y8_at_y hP hI h hk hh, mx_g0 hP, mz_rcv hP.h0.1, Y3_fits hP hI h (show q < 6 by omega) hk, Int.toNat_natCast]
      rw [mv_chk_t (by split <;> decide)]
      by_cases c3 : mq_fit s q k = true
      · rw [if_pos ⟨c.2, hh, c3⟩, if_pos c3]
      · rw [if_neg (fun w => c3 w.2.2), if_neg c3]
    · rw [mq_r1 (by rw [if_neg c2]; decide)]
      simp only [Y8_at_n hP hI h ha c2]
      rfl
  · simp only [mv_clV, mv_cl, Y8_reqP_n hP hI h hp c, if_neg c]
    rw [mq_r1 (by decide)]
    rfl
end QRY
