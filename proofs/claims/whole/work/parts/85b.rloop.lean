/-! THE REFERENCE READS A TEXT -/
theorem rz_c {V : mz_V} {m : Nat} {s : rs_T} (N : Int) : mz_w (rz_V V m s) m (mr_up (rz_V V m s m) 25 N) = rz_V (mz_w V m (mr_up (V m) 25 N)) m s := by
  have e : mr_up (rz_V V m s m) 25 N = mr_up (mr_up (mr_up (V m) 25 N) 26 (rs_b s.1)) 23 s.2.1 := by
    rw [rz_m]
    funext j
    unfold mr_up
    repeat' split
    all_goals first | rfl | omega
  rw [e]
  unfold rz_V
  rw [mz_w_c _ _ _ (show m + 7 ≠ m by omega), mz_w_w, mz_w_w, mz_w_s]
theorem rd_ft : ¬ (false = true) := by decide
/-- command i in the reference's row -/
def rq_c (g : Nat → Int) (t : Nat → Int) (L i : Nat) : Prop := g (5 * i) = kc_c (pk_k t L (rd_p t L i)) ∧ (pc_r t L (rd_p t L i)).2.2.1 ≤ 4 ∧ ∀ j, j < (pc_r t L (rd_p t L i)).2.2.1 → g (5 * i + (j + 1)) = (pc_r t L (rd_p t L i)).2.2.2 j
def rx_F (U : mz_V) (m : Nat) (p : Int) : mz_V := mq_t (mz_w U m (mr_up (U m) 17 p)) m 1
section RLOOP
variable {X : mv_X} {P : mz_P} {V : mz_V} {z : Nat × Nat} {d m L x0 : Nat} {t : Nat → Int}
theorem X9_rbad (hM : mr_M P m) (q : Nat × (Nat → Int)) : mv_run X (mv_call X (d + 9)) m_X9_execute 36 [.ref m, .retAddr 0, .retAddr 0, .retAddr 0] [] (mz_h P (rz_V V m (true, q)), z) = some (.inl (some (.int (nZ 0))), (mz_h P (rx_F (rz_V V m (true, q)) m q.1), z)) := by
  have b1 : ¬ nZ (rs_b true) = 0 := by decide
  rw [bk_X9_execute_36, mz_gI hM.o (by decide), rz_f, if_neg b1, mz_gI hM.o (by decide), rz_f, if_neg b1, mz_gI hM.o (by decide), rz_p, mz_pW hM.o (by decide), mz_rcv hM.o]
  simp only [mv_clI, mv_cl, X9_fails (d := d + 8) hM]
  rfl
theorem X9_reads (hX : mx_W X P x0) (hR : mx_R X x0) (hM : mr_M P m) (hL : L ≤ 60) (h24 : V m 24 = L) (ht : ∀ i, i < L → V (m + 6) i = t i ∧ 0 ≤ t i ∧ t i ≤ 65535) : ∀ f k : Nat, k + f = 8 → ∀ (g : Nat → Int) (s' : rs_T), rd_p t L k ≤ L → 7 * k ≤ rd_p t L k → rs_ok t L k (rd_p t L k) g s' → (∀ i, i < k → rq_c g t L i) →
    ∃ (s'' : rs_T) (N : Int), s''.2.1 = (rd_r t L (f + 1) k).2.1 ∧ ((rd_r t L (f + 1) k).1 = true → N = (rd_r t L (f + 1) k).2.2 ∧ ∀ i, i < (rd_r t L (f + 1) k).2.2 → rq_c s''.2.2 t L i) ∧
      mv_run X (mv_call X (d + 9)) m_X9_execute 36 [.ref m, .retAddr 0, .retAddr 0, .retAddr 0] [] (mz_h P (rz_V (mz_w V m (mr_up (V m) 25 ((k : Int) + 1))) m s'), z) =
        if (rd_r t L (f + 1) k).1 = true then mv_run X (mv_call X (d + 9)) m_X9_execute 104 [.ref m, .int (nZ 0), .retAddr 0, .retAddr 0] [] (mz_h P (rz_V (mz_w V m (mr_up (V m) 25 N)) m s''), z)
        else some (.inl (some (.int (nZ 0))), (mz_h P (rx_F (rz_V (mz_w V m (mr_up (V m) 25 N)) m s'') m (rd_r t L (f + 1) k).2.1), z)) := by
  intro f
  induction f with
  | zero =>
    intro k hk g s' hp h7 hs hq
    obtain ⟨o1, o2, o3, o4⟩ := hs
    have c0 : ¬ (pc_r t L (rd_p t L k)).1 = true := fun w => by
      have w1 := pc_r_ok w
      have w2 := (pc_r_p (t := t) hp).2
      omega
    have er : rd_r t L (0 + 1) k = (false, (pc_r t L (rd_p t L k)).2.1, k) := if_neg c0
    obtain ⟨sf, sp, sg⟩ := s'
    have hf : sf = true := o1.trans (by cases hb : (pc_r t L (rd_p t L k)).1 with
      | false => rfl
      | true => exact absurd hb c0)
    have hsp : sp = (pc_r t L (rd_p t L k)).2.1 := o2
    subst hf hsp
    refine ⟨(true, (pc_r t L (rd_p t L k)).2.1, sg), (k : Int) + 1, ?_, ?_, ?_⟩
    · rw [er]
    · rw [er]; exact fun w => absurd (show false = true from w) (by decide)
    · rw [er, if_neg (show ¬ ((false, (pc_r t L (rd_p t L k)).2.1, k) : Bool × Nat × Nat).1 = true from rd_ft)]
      exact X9_rbad hM _
  | succ f ih =>
    intro k hk g s' hp h7 hs hq
    obtain ⟨o1, o2, o3, o4⟩ := hs
    obtain ⟨sf, sp, sg⟩ := s'
    have hsp : sp = (pc_r t L (rd_p t L k)).2.1 := o2
    have hpp := pc_r_p (t := t) hp
    by_cases c0 : (pc_r t L (rd_p t L k)).1 = true
    · have hf : sf = false := o1.trans (by rw [c0]; rfl)
      have w1 := pc_r_ok c0
      obtain ⟨k1, k2, k3⟩ := o4 c0
      subst hf
      obtain ⟨p, hpe⟩ : ∃ p, p = (pc_r t L (rd_p t L k)).2.1 := ⟨_, rfl⟩
      rw [← hpe] at hpp w1 hsp
      subst hsp
      obtain ⟨V1, hV1⟩ : ∃ V1, V1 = mz_w V m (mr_up (V m) 25 ((k : Int) + 1)) := ⟨_, rfl⟩
      have hT1 : rz_T V1 m L (k + 1) t := by
        refine ⟨?_, hL, ?_, by omega, fun i hi => ?_⟩
        · rw [hV1, mz_w_s, mr_up_n _ _ (by decide)]; exact h24
        · rw [hV1, mz_w_s, mr_up_s, nc1]
        · rw [hV1, mz_w_n _ _ (by omega)]; exact ht i hi
      have hqk : ∀ i, i < k + 1 → rq_c sg t L i := fun i hi => by
        by_cases e : i = k
        · subst e; exact ⟨k1, k2, k3⟩
        · obtain ⟨a1, a2, a3⟩ := hq i (by omega)
          exact ⟨(o3 _ (by omega)).trans a1, a2, fun j hj => (o3 _ (by omega)).trans (a3 j hj)⟩
      have e0 := X9_h0 (X := X) (z := z) (d := d + 8) (V := V1) (s := (false, sp, sg)) hM hT1 hpp.2
      by_cases c2 : pr_chr t L 59 sp = true
      · have hlt := (of_decide_eq_true c2).1
        have er : rd_r t L (f + 1 + 1) k = rd_r t L (f + 1) (k + 1) := by
          show (if (pc_r t L (rd_p t L k)).1 = true then (if (pc_r t L (rd_p t L k)).2.1 < L then (if pr_chr t L 59 (pc_r t L (rd_p t L k)).2.1 = true then rd_r t L (f + 1) (k + 1) else _) else _) else _) = _
          rw [← hpe, if_pos c0, if_pos hlt, if_pos c2]
        have hpn : rd_p t L (k + 1) = sp + 1 := by rw [hpe]; rfl
        obtain ⟨s2, r1, r2⟩ := X9_readsOne (X := X) (z := z) (d := d + 1) (V := V1) (N := k + 1) (p := sp + 1) (g := sg) hX hR hM hT1 (by omega)
        obtain ⟨s3, N, g1, g2, g3⟩ := ih (k + 1) (by omega) sg s2 (by rw [hpn]; omega) (by rw [hpn]; omega) (by rw [hpn]; exact r2) hqk
        refine ⟨s3, N, by rw [er]; exact g1, by rw [er]; exact g2, ?_⟩
        rw [er, ← g3, ← hV1, bk_X9_execute_36, mz_gI hM.o (by decide), rz_f, if_pos (by rfl), mz_rcv hM.o]
        rw [show rs_h t L ((false, sp, sg) : rs_T).2.1 = 59 from rs_h_e (by decide) c2] at e0
        simp only [mv_clI, mv_clV, mv_cl, e0]
        rw [if_pos (by first | trivial | rfl), mz_gI hM.o (by decide), rz_p, nZ_add, mz_pW hM.o (by decide)]
        have a2 := rz_mp (V := V1) (m := m) (s := (false, sp, sg)) (sp + 1)
        rw [nc1] at a2
        rw [a2, mz_rcv hM.o]
        simp only [r1]
        rw [rz_c, hV1, mz_w_w, mz_w_s, mr_up_up]
      · have en : ¬ nZ (rs_h t L sp) = nZ 59 := by rw [nZ_inj (rs_h_S hT1 _) (by decide)]; exact rs_h_n (by decide) c2
        by_cases c1 : sp < L
        · have er : rd_r t L (f + 1 + 1) k = (false, sp, k + 1) := by
            show (if (pc_r t L (rd_p t L k)).1 = true then (if (pc_r t L (rd_p t L k)).2.1 < L then (if pr_chr t L 59 (pc_r t L (rd_p t L k)).2.1 = true then rd_r t L (f + 1) (k + 1) else (false, (pc_r t L (rd_p t L k)).2.1, k + 1)) else _) else _) = _
            rw [← hpe, if_pos c0, if_pos c1, if_neg c2]
          refine ⟨(false, sp, sg), (k : Int) + 1, by rw [er], by rw [er]; exact fun w => absurd (show false = true from w) (by decide), ?_⟩
          rw [er, if_neg (show ¬ ((false, sp, k + 1) : Bool × Nat × Nat).1 = true from rd_ft), ← hV1, bk_X9_execute_36, mz_gI hM.o (by decide), rz_f, if_pos (by rfl), mz_rcv hM.o]
          simp only [mv_clI, mv_clV, mv_cl, e0]
          rw [if_neg en, mz_gI hM.o (by decide), rz_f, if_pos (by rfl), mz_gI hM.o (by decide), rz_p, mz_gI hM.o (by decide), rz_k (by decide) (by decide), hT1.1, if_neg (by rw [nZ_le ⟨by omega, by omega⟩ ⟨by omega, by omega⟩]; omega), mz_gI hM.o (by decide), rz_p, mz_pW hM.o (by decide), mz_rcv hM.o]
          simp only [X9_fails (d := d + 8) hM]
          rfl
        · have er : rd_r t L (f + 1 + 1) k = (true, sp, k + 1) := by
            show (if (pc_r t L (rd_p t L k)).1 = true then (if (pc_r t L (rd_p t L k)).2.1 < L then _ else (true, (pc_r t L (rd_p t L k)).2.1, k + 1)) else _) = _
            rw [← hpe, if_pos c0, if_neg c1]
          refine ⟨(false, sp, sg), (k : Int) + 1, by rw [er], by rw [er]; exact fun _ => ⟨(nc1 k).symm, hqk⟩, ?_⟩
          rw [er, if_pos (show ((true, sp, k + 1) : Bool × Nat × Nat).1 = true from rfl), ← hV1, bk_X9_execute_36, mz_gI hM.o (by decide), rz_f, if_pos (by rfl), mz_rcv hM.o]
          simp only [mv_clI, mv_clV, mv_cl, e0]
          rw [if_neg en, mz_gI hM.o (by decide), rz_f, if_pos (by rfl), mz_gI hM.o (by decide), rz_p, mz_gI hM.o (by decide), rz_k (by decide) (by decide), hT1.1, if_pos ((nZ_le ⟨by omega, by omega⟩ ⟨by omega, by omega⟩).mpr (by omega))]
    · have hf : sf = true := o1.trans (by cases hb : (pc_r t L (rd_p t L k)).1 with
        | false => rfl
        | true => exact absurd hb c0)
      have er : rd_r t L (f + 1 + 1) k = (false, (pc_r t L (rd_p t L k)).2.1, k) := if_neg c0
      subst hf hsp
      refine ⟨(true, (pc_r t L (rd_p t L k)).2.1, sg), (k : Int) + 1, by rw [er], by rw [er]; exact fun w => absurd (show false = true from w) (by decide), ?_⟩
      rw [er, if_neg (show ¬ ((false, (pc_r t L (rd_p t L k)).2.1, k) : Bool × Nat × Nat).1 = true from rd_ft)]
      exact X9_rbad hM _
end RLOOP
