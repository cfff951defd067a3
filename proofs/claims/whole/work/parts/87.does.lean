/-! THE REFERENCE DOES A TEXT'S COMMANDS -/
section DOES
variable {X : mv_X} {P : mz_P} {V : mz_V} {z : Nat × Nat} {d m L x0 : Nat} {t : Nat → Int}
theorem mr_nto (hM : mr_M P m) : mz_h P (mz_w V (m + 7) fun j => (nZ (V (m + 7) j)).toInt) = mz_h P V := mz_h_n fun a j => by
  by_cases e : a = m + 7
  · subst e
    rw [mz_w_s]
    exact Or.inr ⟨nZ_ti _, Or.inr ⟨_, hM.toa⟩⟩
  · rw [mz_w_n _ _ e]; exact Or.inl rfl
theorem X9_does (hM : mr_M P m) (hI : mr_I (V (m + 1))) (hh : V (m + 1) 0 ≤ 999999900) {i k : Nat} (hi : i < 12) (hk : k < 9) (hc : V (m + 7) (5 * i) = kc_c k) {y : Nat → Int} (hy : ∀ j, V (m + 7) (5 * i + (j + 1)) = y j) (hn : ∀ j, nS (y j)) : ∃ (V' : mz_V) (an dt : Int), mv_call X (d + 10) 239 [.ref m, .int (nZ i)] (mz_h P V, z) = some (.inl (some (.int (nZ (mc_rs k (mc_rf (V (m + 1)) k y))))), (mz_h P V', z)) ∧ mr_E V V' m (mc_rs k (mc_rf (V (m + 1)) k y)) (mc_st (V (m + 1)) k y) an dt := by
  have e0 : V (m + 7) (5 * (i : Int) + 1).toNat = y 0 := by rw [show (5 * (i : Int) + 1).toNat = 5 * i + (0 + 1) by omega]; exact hy 0
  have e1 : V (m + 7) (5 * (i : Int) + 2).toNat = y 1 := by rw [show (5 * (i : Int) + 2).toNat = 5 * i + (1 + 1) by omega]; exact hy 1
  have e2 : V (m + 7) (5 * (i : Int) + 3).toNat = y 2 := by rw [show (5 * (i : Int) + 3).toNat = 5 * i + (2 + 1) by omega]; exact hy 2
  have e3 : V (m + 7) (5 * (i : Int) + 4).toNat = y 3 := by rw [show (5 * (i : Int) + 4).toNat = 5 * i + (3 + 1) by omega]; exact hy 3
  have ec : V (m + 7) (5 * (i : Int)).toNat = kc_c k := by rw [show (5 * (i : Int)).toNat = 5 * i by omega]; exact hc
  rw [mc_X9_does, bk_X9_does_0, nZ_mul, nZ_add, nZ_add, nZ_add, nZ_add, mr_gto hM, mr_ato hM (by omega) (by omega), e0, mr_gto hM, mr_ato hM (by omega) (by omega), e1, mr_gto hM, mr_ato hM (by omega) (by omega), e2, mr_gto hM, mr_ato hM (by omega) (by omega), ec]
  have n0 := hn 0
  have n1 := hn 1
  have n2 := hn 2
  have n3 := hn 3
  rcases mc_k9 hk with rfl | rfl | rfl | rfl | rfl | rfl | rfl | rfl | rfl
  · obtain ⟨V2, hc, hE⟩ := X9_moors (X := X) (z := z) (d := d + 3) hM hI n0 n1 n2 n3
    have hc : mv_call X (d + 9) 178 [.ref m, .int (nZ (y 0)), .int (nZ (y 1)), .int (nZ (y 2)), .int (nZ (y 3))] (mz_h P V, z) = some (.inl (some (.int (nZ (mc_rs 0 (mc_rf (V (m + 1)) 0 y))))), (mz_h P V2, z)) := hc
    refine ⟨V2, _, _, ?_, hE⟩
    rw [if_neg (by decide), if_neg (by decide), if_neg (by decide), if_pos (by rfl), mr_gto hM, mr_ato hM (by omega) (by omega), e3, mz_rcv hM.o]
    simp only [mv_clI, mv_cl, hc]
  · obtain ⟨V2, hc, hE⟩ := X9_casts (X := X) (z := z) (d := d + 5) hM hI n0
    have hc : mv_call X (d + 9) 179 [.ref m, .int (nZ (y 0))] (mz_h P V, z) = some (.inl (some (.int (nZ (mc_rs 1 (mc_rf (V (m + 1)) 1 y))))), (mz_h P V2, z)) := hc
    refine ⟨V2, _, _, ?_, hE⟩
    rw [if_pos (by rfl), mz_rcv hM.o]
    simp only [mv_clI, mv_cl, hc]
  · obtain ⟨V2, hc, hE⟩ := X9_loads (X := X) (z := z) (d := d + 5) hM hI n0 n1
    have hc : mv_call X (d + 9) 180 [.ref m, .int (nZ (y 0)), .int (nZ (y 1))] (mz_h P V, z) = some (.inl (some (.int (nZ (mc_rs 2 (mc_rf (V (m + 1)) 2 y))))), (mz_h P V2, z)) := hc
    refine ⟨V2, _, _, ?_, hE⟩
    rw [if_neg (by decide), if_neg (by decide), if_pos (by rfl), mz_rcv hM.o]
    simp only [mv_clI, mv_cl, hc]
  · obtain ⟨V2, hc, hE⟩ := X9_drops (X := X) (z := z) (d := d + 5) hM hI n0 n1
    have hc : mv_call X (d + 9) 181 [.ref m, .int (nZ (y 0)), .int (nZ (y 1))] (mz_h P V, z) = some (.inl (some (.int (nZ (mc_rs 3 (mc_rf (V (m + 1)) 3 y))))), (mz_h P V2, z)) := hc
    refine ⟨V2, _, _, ?_, hE⟩
    rw [if_neg (by decide), if_pos (by rfl), mz_rcv hM.o]
    simp only [mv_clI, mv_cl, hc]
  · obtain ⟨V2, hc, hE⟩ := X9_rises (X := X) (z := z) (d := d + 3) hM hI n0 n1
    have hc : mv_call X (d + 9) 182 [.ref m, .int (nZ (y 0)), .int (nZ (y 1))] (mz_h P V, z) = some (.inl (some (.int (nZ (mc_rs 4 (mc_rf (V (m + 1)) 4 y))))), (mz_h P V2, z)) := hc
    refine ⟨V2, _, _, ?_, hE⟩
    rw [if_neg (by decide), if_neg (by decide), if_neg (by decide), if_neg (by decide), if_pos (by rfl), mz_rcv hM.o]
    simp only [mv_clI, mv_cl, hc]
  · obtain ⟨V2, hc, hE⟩ := X9_blows (X := X) (z := z) (d := d + 5) hM hI n0 n1
    have hc : mv_call X (d + 9) 183 [.ref m, .int (nZ (y 0)), .int (nZ (y 1))] (mz_h P V, z) = some (.inl (some (.int (nZ (mc_rs 5 (mc_rf (V (m + 1)) 5 y))))), (mz_h P V2, z)) := hc
    refine ⟨V2, _, _, ?_, hE⟩
    rw [if_neg (by decide), if_neg (by decide), if_neg (by decide), if_neg (by decide), if_neg (by decide), if_pos (by rfl), mz_rcv hM.o]
    simp only [mv_clI, mv_cl, hc]
  · obtain ⟨V2, hc, hE⟩ := X9_passes (X := X) (z := z) (d := d) hM hI hh n0
    have hc : mv_call X (d + 9) 184 [.ref m, .int (nZ (y 0))] (mz_h P V, z) = some (.inl (some (.int (nZ (mc_rs 6 (mc_rf (V (m + 1)) 6 y))))), (mz_h P V2, z)) := hc
    refine ⟨V2, _, _, ?_, hE⟩
    rw [if_neg (by decide), if_neg (by decide), if_neg (by decide), if_neg (by decide), if_neg (by decide), if_neg (by decide), if_neg (by decide), if_pos (by rfl), mz_rcv hM.o]
    simp only [mv_clI, mv_cl, hc]
  · obtain ⟨V2, hc, hE⟩ := X9_joins (X := X) (z := z) (d := d + 5) hM hI n0 n1 n2
    have hc : mv_call X (d + 9) 185 [.ref m, .int (nZ (y 0)), .int (nZ (y 1)), .int (nZ (y 2))] (mz_h P V, z) = some (.inl (some (.int (nZ (mc_rs 7 (mc_rf (V (m + 1)) 7 y))))), (mz_h P V2, z)) := hc
    refine ⟨V2, _, _, ?_, hE⟩
    rw [if_neg (by decide), if_neg (by decide), if_neg (by decide), if_neg (by decide), if_neg (by decide), if_neg (by decide), if_neg (by decide), if_neg (by decide), mz_rcv hM.o]
    simp only [mv_clI, mv_cl, hc]
  · obtain ⟨V2, hc, hE⟩ := X9_leaves (X := X) (z := z) (d := d + 6) hM hI n0
    have hc : mv_call X (d + 9) 186 [.ref m, .int (nZ (y 0))] (mz_h P V, z) = some (.inl (some (.int (nZ (mc_rs 8 (mc_rf (V (m + 1)) 8 y))))), (mz_h P V2, z)) := hc
    refine ⟨V2, _, _, ?_, hE⟩
    rw [if_neg (by decide), if_neg (by decide), if_neg (by decide), if_neg (by decide), if_neg (by decide), if_neg (by decide), if_pos (by rfl), mz_rcv hM.o]
    simp only [mv_clI, mv_cl, hc]
/-- command i in the reference's row, its numbers as the machine has them -/
def rn_c (g : Nat → Int) (t : Nat → Int) (L i : Nat) : Prop := g (5 * i) = kc_c (rc_k t L i) ∧ ∀ j, j < fm_n (fm_l (rc_k t L i)) → g (5 * i + (j + 1)) = rc_y t L i j
theorem kc_c_n (k : Nat) : (nZ (kc_c k)).toInt = kc_c k := by
  unfold kc_c
  repeat' split
  all_goals decide
theorem rq_rn {g : Nat → Int} {i : Nat} (hok : (pc_r t L (rd_p t L i)).1 = true) (h : rq_c g t L i) : rn_c (fun j => (nZ (g j)).toInt) t L i := by
  obtain ⟨h1, h2, h3⟩ := h
  obtain ⟨hk9, hcn⟩ := pc_r_n hok
  refine ⟨?_, fun j hj => ?_⟩
  · show (nZ (g (5 * i))).toInt = kc_c (pk_k t L (rd_p t L i))
    rw [h1, kc_c_n]
  · show (nZ (g (5 * i + (j + 1)))).toInt = (nZ ((pc_r t L (rd_p t L i)).2.2.2 j)).toInt
    rw [h3 j (by rw [hcn]; exact hj)]
theorem X9_runs (hM : mr_M P m) {N : Nat} (hN : N ≤ 9) (hok : ∀ i, i < N → (pc_r t L (rd_p t L i)).1 = true) : ∀ f i : Nat, i + f = N → ∀ (V : mz_V) (j2 : Value), mr_I (V (m + 1)) → V (m + 1) 0 + 48 * f ≤ 999999948 → V m 25 = N → (∀ i, i < N → rn_c (V (m + 7)) t L i) → (∀ j, nS (V (m + 7) j)) →
    ∃ (V' : mz_V) (j3 : Value), V' (m + 1) = (ex_l t L f i (V (m + 1))).2.2.2 ∧ (∀ k, k ≠ 18 → k ≠ 19 → k ≠ 20 → k ≠ 21 → k ≠ 22 → V' m k = V m k) ∧ (∀ a, a ≠ m → a ≠ m + 1 → a ≠ m + 9 → a ≠ m + 10 → V' a = V a) ∧ ((ex_l t L f i (V (m + 1))).1 = true → ∀ k, k ≠ 18 → k ≠ 22 → V' m k = V m k) ∧
      mv_run X (mv_call X (d + 10)) m_X9_execute 104 [.ref m, .int (nZ i), j2, .retAddr 0] [] (mz_h P V, z) = if (ex_l t L f i (V (m + 1))).1 = true then mv_run X (mv_call X (d + 10)) m_X9_execute 104 [.ref m, .int (nZ N), j3, .retAddr 0] [] (mz_h P V', z)
        else mv_run X (mv_call X (d + 10)) m_X9_execute 127 [.ref m, .int (nZ (ex_l t L f i (V (m + 1))).2.1), .int (nZ (mc_rs (rc_k t L (ex_l t L f i (V (m + 1))).2.1) (ex_l t L f i (V (m + 1))).2.2.1)), .int (nZ 0)] [] (mz_h P V', z) := by
  intro f
  induction f with
  | zero =>
    intro i hi V j2 hI hb h25 hq hnn
    have : i = N := by omega
    subst this
    exact ⟨V, j2, rfl, fun _ _ _ _ _ _ => rfl, fun _ _ _ _ _ => rfl, fun _ _ _ _ => rfl, (if_pos rfl).symm⟩
  | succ f ih =>
    intro i hi V j2 hI hb h25 hq hnn
    rw [nc1] at hb
    have hk9 : rc_k t L i < 9 := (pc_r_n (hok i (by omega))).1
    obtain ⟨q1, q3⟩ := hq i (by omega)
    obtain ⟨W, an, dt, hd, hE⟩ := X9_does (X := X) (z := z) (d := d) (V := V) (i := i) (k := rc_k t L i) (y := fun j => V (m + 7) (5 * i + (j + 1))) hM hI (by omega) (by omega) hk9 q1 (fun _ => rfl) (fun j => hnn _)
    have hyy : ∀ j, j < fm_n (fm_l (rc_k t L i)) → (fun j => V (m + 7) (5 * i + (j + 1))) j = rc_y t L i j := q3
    obtain ⟨y1, y2⟩ := mc_y_e (s := V (m + 1)) hk9 hyy
    rw [y1] at hd hE
    rw [y2] at hE
    have er : ex_l t L (f + 1) i (V (m + 1)) = if mc_rf (V (m + 1)) (rc_k t L i) (rc_y t L i) = 0 then ex_l t L f (i + 1) (mc_st (V (m + 1)) (rc_k t L i) (rc_y t L i)) else (false, i, mc_rf (V (m + 1)) (rc_k t L i) (rc_y t L i), V (m + 1)) := rfl
    obtain ⟨E0, Ep, En, Eo⟩ := hE
    have hin := mc_rf_in (V (m + 1)) (rc_k t L i) (rc_y t L i)
    have hcd := mc_cd_in (rc_k t L i) (mc_rf (V (m + 1)) (rc_k t L i) (rc_y t L i))
    by_cases c : mc_rf (V (m + 1)) (rc_k t L i) (rc_y t L i) = 0
    · rw [if_pos c] at er
      have ers : mc_rs (rc_k t L i) (mc_rf (V (m + 1)) (rc_k t L i) (rc_y t L i)) = 0 := if_pos c
      rw [ers] at hd
      obtain ⟨a1, a2, a3⟩ := E0 ers
      obtain ⟨b1, b2⟩ := mc_st_I hI (by omega) hk9 c
      have w7 : W (m + 7) = V (m + 7) := Eo _ (by omega) (by omega) (by omega) (by omega)
      obtain ⟨V', j3, g1, g2, g3, g4, g5⟩ := ih (i + 1) (by omega) W (.int (nZ 0)) (by rw [a1]; exact b1) (by rw [a1]; have b2 : mc_st (V (m + 1)) (rc_k t L i) (rc_y t L i) 0 ≤ V (m + 1) 0 + 48 := b2; omega) (by rw [a3 25 (by decide) (by decide)]; exact h25) (by rw [w7]; exact hq) (by rw [w7]; exact hnn)
      rw [a1] at g1 g4 g5
      refine ⟨V', j3, by rw [er]; exact g1, fun k k1 k2 k3 k4 k5 => by rw [g2 k k1 k2 k3 k4 k5, a3 k k1 k5], fun a x1 x2 x3 x4 => by rw [g3 a x1 x2 x3 x4, Eo a x1 x2 x3 x4], fun w k k1 k2 => by rw [g4 (by rw [er] at w; exact w) k k1 k2, a3 k k1 k2], ?_⟩
      rw [er, ← g5, bk_X9_execute_104, mz_gI hM.o (by decide), h25, if_neg (by rw [nZ_le ⟨by omega, by omega⟩ ⟨by omega, by omega⟩]; omega), mz_rcv hM.o]
      simp only [mv_clI, mv_cl, hd]
      rw [if_pos (by first | trivial | rfl), nZ_add, nc1]
    · rw [if_neg c] at er
      have hrs : mc_rs (rc_k t L i) (mc_rf (V (m + 1)) (rc_k t L i) (rc_y t L i)) ≠ 0 ∧ nS (mc_rs (rc_k t L i) (mc_rf (V (m + 1)) (rc_k t L i) (rc_y t L i))) := by
        unfold mc_rs
        rw [if_neg c]
        by_cases c5 : mc_rf (V (m + 1)) (rc_k t L i) (rc_y t L i) ≤ 5
        · rw [if_pos c5]; exact ⟨by omega, by omega, by omega⟩
        · rw [if_neg c5]; exact ⟨by omega, by omega, by omega⟩
      have hW : W (m + 1) = V (m + 1) ∧ (∀ k, k ≠ 18 → k ≠ 19 → k ≠ 20 → k ≠ 21 → k ≠ 22 → W m k = V m k) := by
        by_cases c5 : 0 < mc_rs (rc_k t L i) (mc_rf (V (m + 1)) (rc_k t L i) (rc_y t L i))
        · have := Ep c5
          rw [this]
          exact ⟨rfl, fun _ _ _ _ _ _ => rfl⟩
        · obtain ⟨a1, a2, a3, a4, a5⟩ := En (by omega)
          exact ⟨a1, fun k k1 k2 k3 k4 k5 => a5 k k2 k3 k4⟩
      refine ⟨W, .int (nZ 0), by rw [er]; exact hW.1, hW.2, Eo, by rw [er]; exact fun w => absurd (show false = true from w) (by decide), ?_⟩
      rw [er, if_neg (show ¬ ((false, i, mc_rf (V (m + 1)) (rc_k t L i) (rc_y t L i), V (m + 1)) : Bool × Nat × Int × (Nat → Int)).1 = true from rd_ft), bk_X9_execute_104, mz_gI hM.o (by decide), h25, if_neg (by rw [nZ_le ⟨by omega, by omega⟩ ⟨by omega, by omega⟩]; omega), mz_rcv hM.o]
      simp only [mv_clI, mv_cl, hd]
      rw [if_neg (by rw [nZ_eq0 hrs.2]; exact hrs.1)]
/-- a command that failed: the numbers put back, the denial -/
theorem X9_127 (hM : mr_M P m) {i : Nat} {r : Int} (hr : nS r) : ∃ V' : mz_V, mv_run X (mv_call X (d + 10)) m_X9_execute 127 [.ref m, .int (nZ i), .int (nZ r), .int (nZ 0)] [] (mz_h P V, z) = some (.inl (some (.int (nZ 0))), (mz_h P V', z)) ∧ V' (m + 1) = mr_cpy (V (m + 1)) (V (m + 2)) 158 ∧ V' m 0 = 2 ∧ V' m 19 = 6 ∧ V' m 20 = i ∧ V' m 21 = (if 0 ≤ r then 7 else -r) ∧ (∀ k, k ≠ 0 → k ≠ 19 → k ≠ 20 → k ≠ 21 → V' m k = V m k) ∧ ∀ a, a ≠ m → a ≠ m + 1 → V' a = V a := by
  obtain ⟨W, hW⟩ : ∃ W, W = mz_w V (m + 1) (mr_cpy (V (m + 1)) (V (m + 2)) 158) := ⟨_, rfl⟩
  have key := mz_loop (φ := fun q => mv_run X (mv_call X (d + 10)) m_X9_execute 127 [.ref m, .int (nZ i), .int (nZ r), .int (nZ q)] [] (mz_h P (mz_w V (m + 1) (mr_cpy (V (m + 1)) (V (m + 2)) q)), z) = mv_run X (mv_call X (d + 10)) m_X9_execute 127 [.ref m, .int (nZ i), .int (nZ r), .int (nZ (158 : Nat))] [] (mz_h P W, z)) 158 (by rw [hW]) (fun q hq ih => by
    rw [nc1] at ih
    rw [bk_X9_execute_127, if_neg (by rw [nZ_le ⟨by omega, by omega⟩ ⟨by omega, by omega⟩]; omega)]
    simp (disch := omega) only [mr_gfr hM, mr_gs hM, mr_afr hM, mr_ps hM, Int.toNat_natCast, mz_w_s, mz_w_w, nZ_add, mz_w_n]
    rw [mr_cpy1]
    exact ih) 0 (Nat.zero_le _)
  rw [mr_cpy0, mz_w_id] at key
  have key : mv_run X (mv_call X (d + 10)) m_X9_execute 127 [.ref m, .int (nZ i), .int (nZ r), .int (nZ 0)] [] (mz_h P V, z) = _ := key
  refine ⟨mq_t (mz_w (mz_w W m (mr_up (mr_up (mr_up (W m) 19 6) 20 i) 21 0)) m (mr_up (mr_up (mr_up (mr_up (W m) 19 6) 20 i) 21 0) 21 (if 0 ≤ r then 7 else -r))) m 2, ?_, ?_, ?_, ?_, ?_, ?_, fun k k1 k2 k3 k4 => ?_, fun a a1 a2 => ?_⟩
  · rw [key, bk_X9_execute_127, if_pos (by exact Int32.le_refl _), mz_rcv hM.o]
    have hd := X9_denied (X := X) (z := z) (d := d + 9) (V := W) (n := 6) (x := i) hM
    simp only [mv_clI, mv_cl, hd]
    by_cases c : 0 ≤ r
    · rw [if_pos ((nZ_0le hr).mpr c), if_pos c, mz_pW hM.o (by decide), mz_rcv hM.o, mz_w_s]
      simp only [X9_fails (d := d + 9) hM]
      rfl
    · rw [if_neg (by rw [nZ_0le hr]; exact c), if_neg c, nZ_neg, mz_pW hM.o (by decide), mz_rcv hM.o, mz_w_s]
      simp only [X9_fails (d := d + 9) hM]
      rfl
  · rw [mq_t_1, mz_w_n _ _ (by omega), mz_w_n _ _ (by omega), hW, mz_w_s]
  · exact mq_t_0 _ _ _
  · rw [mq_t_k _ _ _ (by decide), mz_w_s, mr_up_n _ _ (by decide), mr_up_n _ _ (by decide), mr_up_n _ _ (by decide), mr_up_s]
  · rw [mq_t_k _ _ _ (by decide), mz_w_s, mr_up_n _ _ (by decide), mr_up_n _ _ (by decide), mr_up_s]
  · rw [mq_t_k _ _ _ (by decide), mz_w_s, mr_up_s]
  · rw [mq_t_k _ _ _ k1, mz_w_s, mr_up_n _ _ k4, mr_up_n _ _ k4, mr_up_n _ _ k3, mr_up_n _ _ k2, hW, mz_w_n _ _ (by omega)]
  · rw [mq_t_r _ _ a1, mz_w_n _ _ a1, mz_w_n _ _ a1, hW, mz_w_n _ _ a2]
end DOES
