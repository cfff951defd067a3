/-! ONE COMMAND, THE REFERENCE -/
/-- the reference's texts -/
def mx_R (X : mv_X) (x0 : Nat) : Prop := mx_S X x0 30 [119, 105, 110, 100, 32] ∧ mx_S X x0 31 [61] ∧ mx_S X x0 32 [45] ∧ mx_S X x0 33 [] ∧ mx_S X x0 34 [109, 111, 111, 114, 32] ∧ mx_S X x0 35 [32] ∧ mx_S X x0 36 [99, 97, 115, 116, 32] ∧ mx_S X x0 37 [108, 101, 97, 118, 101, 32] ∧ mx_S X x0 38 [108, 111, 97, 100, 32] ∧ mx_S X x0 39 [100, 114, 111, 112, 32] ∧ mx_S X x0 40 [114, 105, 115, 101, 32] ∧ mx_S X x0 41 [119, 97, 105, 116, 32] ∧ mx_S X x0 42 [112, 105, 108, 111, 116, 32]
theorem rs_n_L {t : Nat → Int} {L e K : Nat} {l : List Int} {s : rs_T} (h : s.2.1 ≤ L) : (rs_n t L l e K s).2.1 ≤ L := by
  have h1 := rs_s_L t L l s.1 s.2.1 h
  unfold rs_n
  split
  · exact h1.2
  · exact (pr_num_p t L K _ 0).2.1 h1.2
section ONE
variable {X : mv_X} {P : mz_P} {V : mz_V} {z : Nat × Nat} {d m L x0 N : Nat} {t : Nat → Int} {s : rs_T}
theorem X9_351 (hM : mr_M P m) (hT : rz_T V m L N t) {y1 y2 : Int32} {j3 : Value} : mv_run X (mv_call X (d + 6)) m_X9_readsOne 351 [.ref m, .int y1, .int y2, j3] [] (mz_h P (rz_V V m s), z) = some (.inl none, (mz_h P (mz_w (rz_V V m s) m (mr_up (rz_V V m s m) 25 ((N : Int) + 1))), z)) := by
  rw [bk_X9_readsOne_351, mz_gI hM.o (by decide), rz_k (by decide) (by decide), hT.2.2.1, nZ_add, mz_pW hM.o (by decide)]
/-- the kind written -/
theorem X9_kind (hM : mr_M P m) (hT : rz_T V m L N t) {F : mv_H → Option mv_R} {y : Int} : (mv_as (mz_h P (rz_V V m s), z) 1 (m + 7) (nZ 5 * nZ N) (.int (nZ y)) F) = F (mz_h P (rz_V V m (s.1, s.2.1, mr_up s.2.2 (5 * N) y)), z) := by
  have h4 := hT.2.2.2.1
  rw [nZ_mul, mr_pto hM (by omega) (by omega), rz_g, rz_mg, show (5 * (N : Int)).toNat = 5 * N by omega]
/-- the rest of moor -/
theorem X9_mrest (hX : mx_W X P x0) (hR : mx_R X x0) (hM : mr_M P m) (hT : rz_T V m L N t) {y1 y2 : Int32} : ∀ k e : Nat, e + k = 5 → 2 ≤ e → ∀ s : rs_T, s.2.1 ≤ L → mv_run X (mv_call X (d + 6)) m_X9_readsOne 179 [.ref m, .int y1, .int y2, .int (nZ e)] [] (mz_h P (rz_V V m s), z) = some (.inl none, (mz_h P (mz_w (rz_V V m (sg_r t L N (e - 1) (List.replicate k ([32], 2)) s)) m (mr_up (rz_V V m (sg_r t L N (e - 1) (List.replicate k ([32], 2)) s) m) 25 ((N : Int) + 1))), z)) := by
  intro k
  induction k with
  | zero =>
    intro e he _ s hs
    have : e = 5 := by omega
    subst this
    rw [bk_X9_readsOne_179, if_pos (by exact Int32.le_refl _), X9_351 hM hT]
    rfl
  | succ k ih =>
    intro e he h2 s hs
    have ih := ih (e + 1) (by omega) (by omega) (rs_n t L [32] (5 * N + e) 2 s) (rs_n_L hs)
    rw [nc1, show e + 1 - 1 = e - 1 + 1 by omega] at ih
    have en := X9_number (X := X) (z := z) (d := d) hX hR.2.2.2.2.2.1 hM hT hs (e := e) (K := 2) (by omega) (by decide)
    have en : mv_call X (d + 6) 236 [.ref m, .ref (X.2.1 35), .int (nZ e), .int (nZ 2)] (mz_h P (rz_V V m s), z) = _ := en
    rw [bk_X9_readsOne_179, if_neg (by rw [nZ_le (by decide) ⟨by omega, by omega⟩]; omega), mz_rcv hM.o]
    simp only [mv_clV, mv_cl, en, nZ_add]
    rw [ih, List.replicate_succ]
    have er : sg_r t L N (e - 1) (([32], 2) :: List.replicate k ([32], 2)) s = sg_r t L N (e - 1 + 1) (List.replicate k ([32], 2)) (rs_n t L [32] (5 * N + (e - 1 + 1)) 2 s) := rfl
    rw [er, show e - 1 + 1 = e by omega]
/-- what stands here -/
def rs_h (t : Nat → Int) (L p : Nat) : Int := if p < L then t p else -1
theorem rs_h_S (hT : rz_T V m L N t) (p : Nat) : nS (rs_h t L p) := by
  unfold rs_h
  by_cases e : p < L
  · rw [if_pos e]; have := hT.2.2.2.2 _ e; exact ⟨by omega, by omega⟩
  · rw [if_neg e]; decide
theorem rs_h_e {y : Int} (hy : 0 ≤ y) {p : Nat} (h : pr_chr t L y p = true) : rs_h t L p = y := (pr_here hy).mpr h
theorem rs_h_n {y : Int} (hy : 0 ≤ y) {p : Nat} (h : ¬ pr_chr t L y p = true) : rs_h t L p ≠ y := fun w => h ((pr_here hy).mp w)
theorem X9_h0 (hM : mr_M P m) (hT : rz_T V m L N t) (hp : s.2.1 ≤ L) : mv_call X (d + 1) 234 [.ref m, .int (nZ 0)] (mz_h P (rz_V V m s), z) = some (.inl (some (.int (nZ (rs_h t L s.2.1)))), (mz_h P (rz_V V m s), z)) := X9_here (j := 0) hM hT hp (by decide)
theorem X9_h1 (hM : mr_M P m) (hT : rz_T V m L N t) (hp : s.2.1 ≤ L) : mv_call X (d + 1) 234 [.ref m, .int (nZ 1)] (mz_h P (rz_V V m s), z) = some (.inl (some (.int (nZ (rs_h t L (s.2.1 + 1))))), (mz_h P (rz_V V m s), z)) := X9_here (j := 1) hM hT hp (by decide)
/-- cast -/
theorem X9_one1 (hX : mx_W X P x0) (hR : mx_R X x0) (hM : mr_M P m) (hT : rz_T V m L N t) {p : Nat} {g : Nat → Int} (hp : p ≤ L) (h : pr_chr t L 99 p = true) : mv_call X (d + 7) 238 [.ref m] (mz_h P (rz_V V m (false, p, g)), z) = some (.inl none, (mz_h P (mz_w (rz_V V m (sg_r t L N 0 (fm_s 1) (false, p, mr_up g (5 * N) 99))) m (mr_up (rz_V V m (sg_r t L N 0 (fm_s 1) (false, p, mr_up g (5 * N) 99)) m) 25 ((N : Int) + 1))), z)) := by
  have y0 := rs_h_e (by decide) h
  have e0 := X9_h0 (X := X) (z := z) (d := d + 5) (s := (false, p, g)) hM hT hp
  have en := X9_number (X := X) (z := z) (d := d) (s := (false, p, mr_up g (5 * N) 99)) hX hR.2.2.2.2.2.2.1 hM hT hp (e := 1) (K := 1) (by decide) (by decide)
  have en : mv_call X (d + 6) 236 [.ref m, .ref (X.2.1 36), .int (nZ 1), .int (nZ 1)] (mz_h P (rz_V V m (false, p, mr_up g (5 * N) 99)), z) = _ := en
  rw [show rs_h t L ((false, p, g) : rs_T).2.1 = 99 from y0] at e0
  rw [mc_X9_readsOne, bk_X9_readsOne_0, mz_rcv hM.o]
  simp only [mv_clI, mv_cl, e0]
  rw [if_neg (by decide), bk_X9_readsOne_22, if_neg (by decide), bk_X9_readsOne_42, mr_gto hM, mz_gI hM.o (by decide), rz_k (by decide) (by decide), hT.2.2.1, if_pos (by rfl), X9_kind hM hT, if_pos (by rfl), mz_rcv hM.o]
  simp only [mv_clV, mv_cl, en]
  rw [X9_351 hM hT]
  rfl
theorem X9_one0 (hX : mx_W X P x0) (hR : mx_R X x0) (hM : mr_M P m) (hT : rz_T V m L N t) {p : Nat} {g : Nat → Int} (hp : p ≤ L) (h : pr_chr t L 109 p = true) : mv_call X (d + 7) 238 [.ref m] (mz_h P (rz_V V m (false, p, g)), z) = some (.inl none, (mz_h P (mz_w (rz_V V m (sg_r t L N 0 (fm_s 0) (false, p, mr_up g (5 * N) 109))) m (mr_up (rz_V V m (sg_r t L N 0 (fm_s 0) (false, p, mr_up g (5 * N) 109)) m) 25 ((N : Int) + 1))), z)) := by
  have y0 := rs_h_e (by decide) h
  have e0 := X9_h0 (X := X) (z := z) (d := d + 5) (s := (false, p, g)) hM hT hp
  rw [show rs_h t L ((false, p, g) : rs_T).2.1 = 109 from y0] at e0
  have p0 : (((false, p, mr_up g (5 * N) 109) : rs_T)).2.1 ≤ L := hp
  have n0 : mv_call X (d + 6) 236 [.ref m, .ref (X.2.1 34), .int (nZ 1), .int (nZ 1)] (mz_h P (rz_V V m ((false, p, mr_up g (5 * N) 109) : rs_T)), z) = _ := X9_number (X := X) (z := z) (d := d) hX hR.2.2.2.2.1 hM hT p0 (e := 1) (K := 1) (by decide) (by decide)
  rw [mc_X9_readsOne, bk_X9_readsOne_0, mz_rcv hM.o]
  simp only [mv_clI, mv_cl, e0]
  rw [if_neg (by decide), bk_X9_readsOne_22, if_neg (by decide), bk_X9_readsOne_42, mr_gto hM, mz_gI hM.o (by decide), rz_k (by decide) (by decide), hT.2.2.1, if_pos (by first | trivial | rfl), X9_kind hM hT, if_neg (by decide), if_neg (by decide), if_neg (by decide), if_neg (by decide), if_neg (by decide), if_neg (by decide), if_neg (by decide), if_neg (by decide), if_neg (by decide), if_neg (by decide), if_pos (by first | trivial | rfl), mz_rcv hM.o]
  simp only [mv_clV, mv_cl, mz_rcv hM.o, n0]
  have := X9_mrest (X := X) (z := z) (d := d) (y1 := nZ 109) (y2 := nZ 0) hX hR hM hT 3 2 (by decide) (by decide) (rs_n t L [109, 111, 111, 114, 32] (5 * N + 1) 1 ((false, p, mr_up g (5 * N) 109) : rs_T)) (rs_n_L p0)
  exact this
theorem X9_one2 (hX : mx_W X P x0) (hR : mx_R X x0) (hM : mr_M P m) (hT : rz_T V m L N t) {p : Nat} {g : Nat → Int} (hp : p ≤ L) (h : pr_chr t L 108 p = true) (h1 : ¬ pr_chr t L 101 (p + 1) = true) : mv_call X (d + 7) 238 [.ref m] (mz_h P (rz_V V m (false, p, g)), z) = some (.inl none, (mz_h P (mz_w (rz_V V m (sg_r t L N 0 (fm_s 2) (false, p, mr_up g (5 * N) 108))) m (mr_up (rz_V V m (sg_r t L N 0 (fm_s 2) (false, p, mr_up g (5 * N) 108)) m) 25 ((N : Int) + 1))), z)) := by
  have y0 := rs_h_e (by decide) h
  have e0 := X9_h0 (X := X) (z := z) (d := d + 5) (s := (false, p, g)) hM hT hp
  rw [show rs_h t L ((false, p, g) : rs_T).2.1 = 108 from y0] at e0
  have e1 := X9_h1 (X := X) (z := z) (d := d + 5) (s := (false, p, g)) hM hT hp
  have y1 : rs_h t L (p + 1) ≠ 101 := rs_h_n (by decide) h1
  have p0 : (((false, p, mr_up g (5 * N) 108) : rs_T)).2.1 ≤ L := hp
  have n0 : mv_call X (d + 6) 236 [.ref m, .ref (X.2.1 38), .int (nZ 1), .int (nZ 1)] (mz_h P (rz_V V m ((false, p, mr_up g (5 * N) 108) : rs_T)), z) = _ := X9_number (X := X) (z := z) (d := d) hX hR.2.2.2.2.2.2.2.2.1 hM hT p0 (e := 1) (K := 1) (by decide) (by decide)
  have p1 : ((rs_n t L [108, 111, 97, 100, 32] (5 * N + 1) 1 ((false, p, mr_up g (5 * N) 108) : rs_T))).2.1 ≤ L := rs_n_L p0
  have n1 : mv_call X (d + 6) 236 [.ref m, .ref (X.2.1 35), .int (nZ 2), .int (nZ 2)] (mz_h P (rz_V V m (rs_n t L [108, 111, 97, 100, 32] (5 * N + 1) 1 ((false, p, mr_up g (5 * N) 108) : rs_T))), z) = _ := X9_number (X := X) (z := z) (d := d) hX hR.2.2.2.2.2.1 hM hT p1 (e := 2) (K := 2) (by decide) (by decide)
  rw [mc_X9_readsOne, bk_X9_readsOne_0, mz_rcv hM.o]
  simp only [mv_clI, mv_cl, e0]
  rw [if_pos (by first | trivial | rfl), mz_rcv hM.o]
  simp only [e1]
  rw [if_neg (by rw [nZ_inj (rs_h_S hT _) (by decide)]; exact y1), bk_X9_readsOne_22, if_neg (by decide), bk_X9_readsOne_42, mr_gto hM, mz_gI hM.o (by decide), rz_k (by decide) (by decide), hT.2.2.1, if_pos (by first | trivial | rfl), X9_kind hM hT, if_neg (by decide), if_neg (by decide), if_neg (by decide), if_neg (by decide), if_neg (by decide), if_neg (by decide), if_neg (by decide), if_neg (by decide), if_neg (by decide), if_pos (by first | trivial | rfl), if_pos (by first | trivial | rfl), mz_rcv hM.o]
  simp only [mv_clV, mv_cl, mz_rcv hM.o, n0, n1]
  rw [X9_351 hM hT]
  rfl
theorem X9_one3 (hX : mx_W X P x0) (hR : mx_R X x0) (hM : mr_M P m) (hT : rz_T V m L N t) {p : Nat} {g : Nat → Int} (hp : p ≤ L) (h : pr_chr t L 100 p = true) : mv_call X (d + 7) 238 [.ref m] (mz_h P (rz_V V m (false, p, g)), z) = some (.inl none, (mz_h P (mz_w (rz_V V m (sg_r t L N 0 (fm_s 3) (false, p, mr_up g (5 * N) 100))) m (mr_up (rz_V V m (sg_r t L N 0 (fm_s 3) (false, p, mr_up g (5 * N) 100)) m) 25 ((N : Int) + 1))), z)) := by
  have y0 := rs_h_e (by decide) h
  have e0 := X9_h0 (X := X) (z := z) (d := d + 5) (s := (false, p, g)) hM hT hp
  rw [show rs_h t L ((false, p, g) : rs_T).2.1 = 100 from y0] at e0
  have p0 : (((false, p, mr_up g (5 * N) 100) : rs_T)).2.1 ≤ L := hp
  have n0 : mv_call X (d + 6) 236 [.ref m, .ref (X.2.1 39), .int (nZ 1), .int (nZ 1)] (mz_h P (rz_V V m ((false, p, mr_up g (5 * N) 100) : rs_T)), z) = _ := X9_number (X := X) (z := z) (d := d) hX hR.2.2.2.2.2.2.2.2.2.1 hM hT p0 (e := 1) (K := 1) (by decide) (by decide)
  have p1 : ((rs_n t L [100, 114, 111, 112, 32] (5 * N + 1) 1 ((false, p, mr_up g (5 * N) 100) : rs_T))).2.1 ≤ L := rs_n_L p0
  have n1 : mv_call X (d + 6) 236 [.ref m, .ref (X.2.1 35), .int (nZ 2), .int (nZ 1)] (mz_h P (rz_V V m (rs_n t L [100, 114, 111, 112, 32] (5 * N + 1) 1 ((false, p, mr_up g (5 * N) 100) : rs_T))), z) = _ := X9_number (X := X) (z := z) (d := d) hX hR.2.2.2.2.2.1 hM hT p1 (e := 2) (K := 1) (by decide) (by decide)
  rw [mc_X9_readsOne, bk_X9_readsOne_0, mz_rcv hM.o]
  simp only [mv_clI, mv_cl, e0]
  rw [if_neg (by decide), bk_X9_readsOne_22, if_neg (by decide), bk_X9_readsOne_42, mr_gto hM, mz_gI hM.o (by decide), rz_k (by decide) (by decide), hT.2.2.1, if_pos (by first | trivial | rfl), X9_kind hM hT, if_neg (by decide), if_pos (by first | trivial | rfl), mz_rcv hM.o]
  simp only [mv_clV, mv_cl, mz_rcv hM.o, n0, n1]
  rw [X9_351 hM hT]
  rfl
theorem X9_one4 (hX : mx_W X P x0) (hR : mx_R X x0) (hM : mr_M P m) (hT : rz_T V m L N t) {p : Nat} {g : Nat → Int} (hp : p ≤ L) (h : pr_chr t L 114 p = true) : mv_call X (d + 7) 238 [.ref m] (mz_h P (rz_V V m (false, p, g)), z) = some (.inl none, (mz_h P (mz_w (rz_V V m (sg_r t L N 0 (fm_s 4) (false, p, mr_up g (5 * N) 114))) m (mr_up (rz_V V m (sg_r t L N 0 (fm_s 4) (false, p, mr_up g (5 * N) 114)) m) 25 ((N : Int) + 1))), z)) := by
  have y0 := rs_h_e (by decide) h
  have e0 := X9_h0 (X := X) (z := z) (d := d + 5) (s := (false, p, g)) hM hT hp
  rw [show rs_h t L ((false, p, g) : rs_T).2.1 = 114 from y0] at e0
  have p0 : (((false, p, mr_up g (5 * N) 114) : rs_T)).2.1 ≤ L := hp
  have n0 : mv_call X (d + 6) 236 [.ref m, .ref (X.2.1 40), .int (nZ 1), .int (nZ 1)] (mz_h P (rz_V V m ((false, p, mr_up g (5 * N) 114) : rs_T)), z) = _ := X9_number (X := X) (z := z) (d := d) hX hR.2.2.2.2.2.2.2.2.2.2.1 hM hT p0 (e := 1) (K := 1) (by decide) (by decide)
  have p1 : ((rs_n t L [114, 105, 115, 101, 32] (5 * N + 1) 1 ((false, p, mr_up g (5 * N) 114) : rs_T))).2.1 ≤ L := rs_n_L p0
  have n1 : mv_call X (d + 6) 236 [.ref m, .ref (X.2.1 35), .int (nZ 2), .int (nZ 2)] (mz_h P (rz_V V m (rs_n t L [114, 105, 115, 101, 32] (5 * N + 1) 1 ((false, p, mr_up g (5 * N) 114) : rs_T))), z) = _ := X9_number (X := X) (z := z) (d := d) hX hR.2.2.2.2.2.1 hM hT p1 (e := 2) (K := 2) (by decide) (by decide)
  rw [mc_X9_readsOne, bk_X9_readsOne_0, mz_rcv hM.o]
  simp only [mv_clI, mv_cl, e0]
  rw [if_neg (by decide), bk_X9_readsOne_22, if_neg (by decide), bk_X9_readsOne_42, mr_gto hM, mz_gI hM.o (by decide), rz_k (by decide) (by decide), hT.2.2.1, if_pos (by first | trivial | rfl), X9_kind hM hT, if_neg (by decide), if_neg (by decide), if_neg (by decide), if_neg (by decide), if_neg (by decide), if_neg (by decide), if_neg (by decide), if_neg (by decide), if_neg (by decide), if_neg (by decide), if_neg (by decide), if_neg (by decide), if_neg (by decide), if_neg (by decide), if_neg (by decide), if_pos (by first | trivial | rfl), mz_rcv hM.o]
  simp only [mv_clV, mv_cl, mz_rcv hM.o, n0, n1]
  rw [X9_351 hM hT]
  rfl
theorem X9_one6 (hX : mx_W X P x0) (hR : mx_R X x0) (hM : mr_M P m) (hT : rz_T V m L N t) {p : Nat} {g : Nat → Int} (hp : p ≤ L) (h : pr_chr t L 119 p = true) (h1 : pr_chr t L 97 (p + 1) = true) : mv_call X (d + 7) 238 [.ref m] (mz_h P (rz_V V m (false, p, g)), z) = some (.inl none, (mz_h P (mz_w (rz_V V m (sg_r t L N 0 (fm_s 6) (false, p, mr_up g (5 * N) 219))) m (mr_up (rz_V V m (sg_r t L N 0 (fm_s 6) (false, p, mr_up g (5 * N) 219)) m) 25 ((N : Int) + 1))), z)) := by
  have y0 := rs_h_e (by decide) h
  have e0 := X9_h0 (X := X) (z := z) (d := d + 5) (s := (false, p, g)) hM hT hp
  rw [show rs_h t L ((false, p, g) : rs_T).2.1 = 119 from y0] at e0
  have e1 := X9_h1 (X := X) (z := z) (d := d + 5) (s := (false, p, g)) hM hT hp
  rw [show rs_h t L (((false, p, g) : rs_T).2.1 + 1) = 97 from rs_h_e (by decide) h1] at e1
  have p0 : (((false, p, mr_up g (5 * N) 219) : rs_T)).2.1 ≤ L := hp
  have n0 : mv_call X (d + 6) 236 [.ref m, .ref (X.2.1 41), .int (nZ 1), .int (nZ 2)] (mz_h P (rz_V V m ((false, p, mr_up g (5 * N) 219) : rs_T)), z) = _ := X9_number (X := X) (z := z) (d := d) hX hR.2.2.2.2.2.2.2.2.2.2.2.1 hM hT p0 (e := 1) (K := 2) (by decide) (by decide)
  rw [mc_X9_readsOne, bk_X9_readsOne_0, mz_rcv hM.o]
  simp only [mv_clI, mv_cl, e0]
  rw [if_neg (by decide), bk_X9_readsOne_22, if_pos (by first | trivial | rfl), mz_rcv hM.o]
  simp only [mv_clI, mv_cl, e1]
  rw [if_pos (by first | trivial | rfl), bk_X9_readsOne_38, mr_gto hM, mz_gI hM.o (by decide), rz_k (by decide) (by decide), hT.2.2.1, if_neg (by decide), nZ_add, X9_kind hM hT, if_neg (by decide), if_neg (by decide), if_neg (by decide), if_neg (by decide), if_neg (by decide), if_neg (by decide), if_neg (by decide), if_neg (by decide), if_neg (by decide), if_neg (by decide), if_neg (by decide), if_neg (by decide), if_neg (by decide), if_neg (by decide), if_neg (by decide), if_neg (by decide), if_neg (by decide), if_neg (by decide), if_neg (by decide), if_neg (by decide), if_pos (by first | trivial | rfl), if_neg (by decide), mz_rcv hM.o]
  simp only [mv_clV, mv_cl, mz_rcv hM.o, show (119 : Int) + 100 = 219 from rfl, n0]
  rw [X9_351 hM hT]
  rfl
theorem X9_one7 (hX : mx_W X P x0) (hR : mx_R X x0) (hM : mr_M P m) (hT : rz_T V m L N t) {p : Nat} {g : Nat → Int} (hp : p ≤ L) (h : pr_chr t L 112 p = true) : mv_call X (d + 7) 238 [.ref m] (mz_h P (rz_V V m (false, p, g)), z) = some (.inl none, (mz_h P (mz_w (rz_V V m (sg_r t L N 0 (fm_s 7) (false, p, mr_up g (5 * N) 112))) m (mr_up (rz_V V m (sg_r t L N 0 (fm_s 7) (false, p, mr_up g (5 * N) 112)) m) 25 ((N : Int) + 1))), z)) := by
  have y0 := rs_h_e (by decide) h
  have e0 := X9_h0 (X := X) (z := z) (d := d + 5) (s := (false, p, g)) hM hT hp
  rw [show rs_h t L ((false, p, g) : rs_T).2.1 = 112 from y0] at e0
  have p0 : (((false, p, mr_up g (5 * N) 112) : rs_T)).2.1 ≤ L := hp
  have n0 : mv_call X (d + 6) 236 [.ref m, .ref (X.2.1 42), .int (nZ 1), .int (nZ 2)] (mz_h P (rz_V V m ((false, p, mr_up g (5 * N) 112) : rs_T)), z) = _ := X9_number (X := X) (z := z) (d := d) hX hR.2.2.2.2.2.2.2.2.2.2.2.2 hM hT p0 (e := 1) (K := 2) (by decide) (by decide)
  have p1 : ((rs_n t L [112, 105, 108, 111, 116, 32] (5 * N + 1) 2 ((false, p, mr_up g (5 * N) 112) : rs_T))).2.1 ≤ L := rs_n_L p0
  have n1 : mv_call X (d + 6) 236 [.ref m, .ref (X.2.1 35), .int (nZ 2), .int (nZ 2)] (mz_h P (rz_V V m (rs_n t L [112, 105, 108, 111, 116, 32] (5 * N + 1) 2 ((false, p, mr_up g (5 * N) 112) : rs_T))), z) = _ := X9_number (X := X) (z := z) (d := d) hX hR.2.2.2.2.2.1 hM hT p1 (e := 2) (K := 2) (by decide) (by decide)
  have p2 : ((rs_n t L [32] (5 * N + 2) 2 (rs_n t L [112, 105, 108, 111, 116, 32] (5 * N + 1) 2 ((false, p, mr_up g (5 * N) 112) : rs_T)))).2.1 ≤ L := rs_n_L p1
  have n2 : mv_call X (d + 6) 236 [.ref m, .ref (X.2.1 32), .int (nZ 3), .int (nZ 2)] (mz_h P (rz_V V m (rs_n t L [32] (5 * N + 2) 2 (rs_n t L [112, 105, 108, 111, 116, 32] (5 * N + 1) 2 ((false, p, mr_up g (5 * N) 112) : rs_T)))), z) = _ := X9_number (X := X) (z := z) (d := d) hX hR.2.2.1 hM hT p2 (e := 3) (K := 2) (by decide) (by decide)
  rw [mc_X9_readsOne, bk_X9_readsOne_0, mz_rcv hM.o]
  simp only [mv_clI, mv_cl, e0]
  rw [if_neg (by decide), bk_X9_readsOne_22, if_neg (by decide), bk_X9_readsOne_42, mr_gto hM, mz_gI hM.o (by decide), rz_k (by decide) (by decide), hT.2.2.1, if_pos (by first | trivial | rfl), X9_kind hM hT, if_neg (by decide), if_neg (by decide), if_neg (by decide), if_neg (by decide), if_neg (by decide), if_neg (by decide), if_neg (by decide), if_neg (by decide), if_neg (by decide), if_neg (by decide), if_neg (by decide), if_neg (by decide), if_neg (by decide), if_pos (by first | trivial | rfl), mz_rcv hM.o]
  simp only [mv_clV, mv_cl, mz_rcv hM.o, n0, n1, n2]
  rw [X9_351 hM hT]
  rfl
theorem X9_one8 (hX : mx_W X P x0) (hR : mx_R X x0) (hM : mr_M P m) (hT : rz_T V m L N t) {p : Nat} {g : Nat → Int} (hp : p ≤ L) (h : pr_chr t L 108 p = true) (h1 : pr_chr t L 101 (p + 1) = true) : mv_call X (d + 7) 238 [.ref m] (mz_h P (rz_V V m (false, p, g)), z) = some (.inl none, (mz_h P (mz_w (rz_V V m (sg_r t L N 0 (fm_s 8) (false, p, mr_up g (5 * N) 208))) m (mr_up (rz_V V m (sg_r t L N 0 (fm_s 8) (false, p, mr_up g (5 * N) 208)) m) 25 ((N : Int) + 1))), z)) := by
  have y0 := rs_h_e (by decide) h
  have e0 := X9_h0 (X := X) (z := z) (d := d + 5) (s := (false, p, g)) hM hT hp
  rw [show rs_h t L ((false, p, g) : rs_T).2.1 = 108 from y0] at e0
  have e1 := X9_h1 (X := X) (z := z) (d := d + 5) (s := (false, p, g)) hM hT hp
  rw [show rs_h t L (((false, p, g) : rs_T).2.1 + 1) = 101 from rs_h_e (by decide) h1] at e1
  have p0 : (((false, p, mr_up g (5 * N) 208) : rs_T)).2.1 ≤ L := hp
  have n0 : mv_call X (d + 6) 236 [.ref m, .ref (X.2.1 37), .int (nZ 1), .int (nZ 1)] (mz_h P (rz_V V m ((false, p, mr_up g (5 * N) 208) : rs_T)), z) = _ := X9_number (X := X) (z := z) (d := d) hX hR.2.2.2.2.2.2.2.1 hM hT p0 (e := 1) (K := 1) (by decide) (by decide)
  rw [mc_X9_readsOne, bk_X9_readsOne_0, mz_rcv hM.o]
  simp only [mv_clI, mv_cl, e0]
  rw [if_pos (by first | trivial | rfl), mz_rcv hM.o]
  simp only [e1]
  rw [if_pos (by first | trivial | rfl), bk_X9_readsOne_38, mr_gto hM, mz_gI hM.o (by decide), rz_k (by decide) (by decide), hT.2.2.1, if_neg (by decide), nZ_add, X9_kind hM hT, if_neg (by decide), if_neg (by decide), if_neg (by decide), if_neg (by decide), if_neg (by decide), if_neg (by decide), if_neg (by decide), if_neg (by decide), if_neg (by decide), if_pos (by first | trivial | rfl), if_neg (by decide), mz_rcv hM.o]
  simp only [mv_clV, mv_cl, mz_rcv hM.o, show (108 : Int) + 100 = 208 from rfl, n0]
  rw [X9_351 hM hT]
  rfl
end ONE
