section RNUM
variable {X : mv_X} {P : mz_P} {V : mz_V} {z : Nat × Nat} {d m L x0 k : Nat} {t : Nat → Int} {s : rs_T} {l : List Int}
theorem X9_number (hX : mx_W X P x0) (hS : mx_S X x0 k l) (hM : mr_M P m) {N : Nat} (hT : rz_T V m L N t) (hp : s.2.1 ≤ L) {e K : Nat} (he : e < 5) (hK : K ≤ 2) : mv_call X (d + 6) 236 [.ref m, .ref (X.2.1 k), .int (nZ e), .int (nZ K)] (mz_h P (rz_V V m s), z) = some (.inl none, (mz_h P (rz_V V m (rs_n t L l (5 * N + e) K s)), z)) := by
  obtain ⟨l1, l2, l3, l4, l5⟩ := id hT
  have hsL := rs_s_L t L l s.1 s.2.1 hp
  have es := X9_says (X := X) (z := z) (d := d) hX hS hM hT hp
  obtain ⟨f1, hf1⟩ : ∃ f1, f1 = (rs_s t L l s.1 s.2.1).1 := ⟨_, rfl⟩
  obtain ⟨p1, hp1⟩ : ∃ p1, p1 = (rs_s t L l s.1 s.2.1).2 := ⟨_, rfl⟩
  rw [← hf1, ← hp1] at es
  have en : rs_n t L l (5 * N + e) K s = if f1 = true then (true, p1, mr_up s.2.2 (5 * N + e) 0) else (decide ((pr_num t L K p1 0).2 = p1), (pr_num t L K p1 0).2, mr_up s.2.2 (5 * N + e) (pr_num t L K p1 0).1) := by
    unfold rs_n
    rw [← hf1, ← hp1]
  rw [mc_X9_number, bk_X9_number_0, mz_rcv hM.o]
  simp only [mv_clV, mv_cl, es]
  -- the end of it
  have st : ∀ (f : Bool) (q : rs_T) (y : Int) (F : mv_H → Option mv_R), mv_pf (mz_h P (rz_V V m q), z) m 13 26 (.int (nZ (rs_b f))) (fun h1 => mv_gR X h1 m 13 9 fun r1 => mv_gI X h1 m 13 25 fun x3 => mv_as h1 1 r1 (((nZ 5) * x3) + nZ e) (.int (nZ y)) F) = F (mz_h P (rz_V V m (f, q.2.1, mr_up q.2.2 (5 * N + e) y)), z) := fun f q y F => by
    rw [mz_pW hM.o (by decide), rz_mf, mr_gto hM, mz_gI hM.o (by decide), rz_k (by decide) (by decide), l3, nZ_mul, nZ_add, mr_pto hM (by omega) (by omega), rz_g, rz_mg, show (5 * (N : Int) + e).toNat = 5 * N + e by omega]
  have st1 : ∀ (q : rs_T) (y : Int) (F : mv_H → Option mv_R), mv_chk (mv_ok 6 (nZ 1)) (mv_pf (mz_h P (rz_V V m q), z) m 13 26 (.int (nZ 1)) (fun h1 => mv_gR X h1 m 13 9 fun r1 => mv_gI X h1 m 13 25 fun x3 => mv_as h1 1 r1 (((nZ 5) * x3) + nZ e) (.int (nZ y)) F)) = F (mz_h P (rz_V V m (true, q.2.1, mr_up q.2.2 (5 * N + e) y)), z) := fun q y F => (mv_chk_t (by decide)).trans (st true q y F)
  have st0 : ∀ (q : rs_T) (y : Int) (F : mv_H → Option mv_R), mv_chk (mv_ok 6 (nZ 0)) (mv_pf (mz_h P (rz_V V m q), z) m 13 26 (.int (nZ 0)) (fun h1 => mv_gR X h1 m 13 9 fun r1 => mv_gI X h1 m 13 25 fun x3 => mv_as h1 1 r1 (((nZ 5) * x3) + nZ e) (.int (nZ y)) F)) = F (mz_h P (rz_V V m (false, q.2.1, mr_up q.2.2 (5 * N + e) y)), z) := fun q y F => (mv_chk_t (by decide)).trans (st false q y F)
  by_cases cf : f1 = true
  · rw [if_pos cf] at en
    rw [bk_X9_number_11, mz_gI hM.o (by decide), rz_f, if_neg (by rw [rs_b0]; show ¬ f1 = false; rw [cf]; decide), mz_gI hM.o (by decide), rz_f, if_neg (by rw [rs_b0]; show ¬ f1 = false; rw [cf]; decide), st1, en]
  · have cf0 : f1 = false := by
      cases hb : f1 with
      | false => rfl
      | true => exact absurd hb cf
    rw [if_neg cf] at en
    rw [cf0]
    have z0 : ∀ (p : Nat) (g : Nat → Int), nZ (rz_V V m (false, p, g) m 26) = 0 := fun p g => by rw [rz_f]; rfl
    have fin : ∀ (j p' : Nat) (y : Int), p' = p1 + j → j ≤ 2 → (y, p') = pr_num t L K p1 0 → (mv_gI X (mz_h P (rz_V V m (false, p', s.2.2)), z) m 13 26 fun x2 => if x2 = 0 then (if nZ j = 0 then (mv_chk (mv_ok 6 (nZ 1)) (mv_pf (mz_h P (rz_V V m (false, p', s.2.2)), z) m 13 26 (.int (nZ 1)) fun h1 => mv_gR X h1 m 13 9 fun r1 => mv_gI X h1 m 13 25 fun x3 => mv_as h1 1 r1 (((nZ 5) * x3) + nZ e) (.int (nZ y)) fun h2 => (some (.inl none, h2)))) else (mv_chk (mv_ok 6 (nZ 0)) (mv_pf (mz_h P (rz_V V m (false, p', s.2.2)), z) m 13 26 (.int (nZ 0)) fun h3 => mv_gR X h3 m 13 9 fun r2 => mv_gI X h3 m 13 25 fun x4 => mv_as h3 1 r2 (((nZ 5) * x4) + nZ e) (.int (nZ y)) fun h4 => (some (.inl none, h4))))) else (mv_chk (mv_ok 6 (nZ 1)) (mv_pf (mz_h P (rz_V V m (false, p', s.2.2)), z) m 13 26 (.int (nZ 1)) fun h5 => mv_gR X h5 m 13 9 fun r3 => mv_gI X h5 m 13 25 fun x5 => mv_as h5 1 r3 (((nZ 5) * x5) + nZ e) (.int (nZ y)) fun h6 => (some (.inl none, h6))))) = some (.inl none, (mz_h P (rz_V V m (rs_n t L l (5 * N + e) K s)), z)) := fun j p' y hj hj2 hr => by
      rw [mz_gI hM.o (by decide), if_pos (z0 _ _), en, ← hr]
      by_cases c0 : j = 0
      · rw [if_pos (by rw [c0]; rfl), st1]
        show some (Sum.inl none, (mz_h P (rz_V V m (true, p', mr_up s.2.2 (5 * N + e) y)), z)) = some (Sum.inl none, (mz_h P (rz_V V m (decide (p' = p1), p', mr_up s.2.2 (5 * N + e) y)), z))
        rw [decide_eq_true (show p' = p1 by omega)]
      · rw [if_neg (by rw [nZ_eq0 ⟨by omega, by omega⟩]; omega), st0]
        show some (Sum.inl none, (mz_h P (rz_V V m (false, p', mr_up s.2.2 (5 * N + e) y)), z)) = some (Sum.inl none, (mz_h P (rz_V V m (decide (p' = p1), p', mr_up s.2.2 (5 * N + e) y)), z))
        rw [decide_eq_false (show ¬ p' = p1 by omega)]
    have key : ∀ r j : Nat, j + r = K → ∀ (y : Int) (p' : Nat), p' = p1 + j → p' ≤ L → pr_num t L r p' y = pr_num t L K p1 0 → mv_run X (mv_call X (d + 5)) m_X9_number 11 [.ref m, .ref (X.2.1 k), .int (nZ e), .int (nZ K), .int (nZ y), .int (nZ j)] [] (mz_h P (rz_V V m (false, p', s.2.2)), z) = some (.inl none, (mz_h P (rz_V V m (rs_n t L l (5 * N + e) K s)), z)) := by
      intro r
      induction r with
      | zero =>
        intro j hj y p' hp' hL hr
        rw [bk_X9_number_11, mz_gI hM.o (by decide), if_pos (z0 _ _), if_pos ((nZ_le ⟨by omega, by omega⟩ ⟨by omega, by omega⟩).mpr (by omega))]
        exact fin j p' y hp' (by omega) hr
      | succ r ih =>
        intro j hj y p' hp' hL hr
        have er : pr_num t L (r + 1) p' y = if pr_d t L p' = true then pr_num t L r (p' + 1) (10 * y + t p' - 48) else (y, p') := rfl
        have ih := ih (j + 1) (by omega)
        rw [nc1] at ih
        have e0 := X9_here (X := X) (z := z) (d := d + 4) (s := (false, p', s.2.2)) hM hT hL (j := 0) (by decide)
        simp only [show ((0 : Nat) : Int) = 0 from rfl, Nat.add_zero] at e0
        have hb : nS (if p' < L then t p' else -1) := by
          by_cases e : p' < L
          · rw [if_pos e]; have := l5 _ e; exact ⟨by omega, by omega⟩
          · rw [if_neg e]; decide
        rw [bk_X9_number_11, mz_gI hM.o (by decide), if_pos (z0 _ _), if_neg (fun w => by rw [nZ_le ⟨by omega, by omega⟩ ⟨by omega, by omega⟩] at w; omega), mz_rcv hM.o]
        simp only [mv_clI, mv_cl, e0, X9_in hb (show nS 48 by decide) (show nS 57 by decide), nZ_b1]
        by_cases e2 : pr_d t L p' = true
        · have h2 := of_decide_eq_true e2
          rw [if_pos e2] at er
          rw [if_pos h2.1, if_neg (fun w => w h2.2), mz_rcv hM.o]
          rw [mz_gI hM.o (by decide), rz_p, nZ_add, mz_pW hM.o (by decide)]
          have a2 := rz_mp (V := V) (m := m) (s := (false, p', s.2.2)) (p' + 1)
          rw [nc1] at a2
          rw [a2, nZ_mul, nZ_add, nZ_sub, nZ_add]
          exact ih _ (p' + 1) (by omega) (by omega) (er.symm.trans hr)
        · rw [if_neg e2] at er
          have : ¬ (48 ≤ (if p' < L then t p' else -1) ∧ (if p' < L then t p' else -1) ≤ 57) := fun w => e2 (decide_eq_true (by
            by_cases e : p' < L
            · rw [if_pos e] at w; exact ⟨e, w⟩
            · rw [if_neg e] at w; omega))
          rw [if_pos this]
          exact fin j p' y hp' (by omega) (er.symm.trans hr)
    exact key K 0 (by omega) 0 p1 rfl (by omega) rfl
end RNUM
