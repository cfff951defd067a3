def rs_w (t : Nat → Int) (L N : Nat) (s : rs_T) : rs_T :=
  if (rs_s t L [61] (rs_n t L [119, 105, 110, 100, 32] (5 * N + 1) 2 s).1 (rs_n t L [119, 105, 110, 100, 32] (5 * N + 1) 2 s).2.1).1 = false ∧ pr_chr t L 45 (rs_s t L [61] (rs_n t L [119, 105, 110, 100, 32] (5 * N + 1) 2 s).1 (rs_n t L [119, 105, 110, 100, 32] (5 * N + 1) 2 s).2.1).2 = true
  then ((rs_n t L [45] (5 * N + 2) 1 ((rs_s t L [61] (rs_n t L [119, 105, 110, 100, 32] (5 * N + 1) 2 s).1 (rs_n t L [119, 105, 110, 100, 32] (5 * N + 1) 2 s).2.1).1, (rs_s t L [61] (rs_n t L [119, 105, 110, 100, 32] (5 * N + 1) 2 s).1 (rs_n t L [119, 105, 110, 100, 32] (5 * N + 1) 2 s).2.1).2, (rs_n t L [119, 105, 110, 100, 32] (5 * N + 1) 2 s).2.2)).1, (rs_n t L [45] (5 * N + 2) 1 ((rs_s t L [61] (rs_n t L [119, 105, 110, 100, 32] (5 * N + 1) 2 s).1 (rs_n t L [119, 105, 110, 100, 32] (5 * N + 1) 2 s).2.1).1, (rs_s t L [61] (rs_n t L [119, 105, 110, 100, 32] (5 * N + 1) 2 s).1 (rs_n t L [119, 105, 110, 100, 32] (5 * N + 1) 2 s).2.1).2, (rs_n t L [119, 105, 110, 100, 32] (5 * N + 1) 2 s).2.2)).2.1, mr_up (rs_n t L [45] (5 * N + 2) 1 ((rs_s t L [61] (rs_n t L [119, 105, 110, 100, 32] (5 * N + 1) 2 s).1 (rs_n t L [119, 105, 110, 100, 32] (5 * N + 1) 2 s).2.1).1, (rs_s t L [61] (rs_n t L [119, 105, 110, 100, 32] (5 * N + 1) 2 s).1 (rs_n t L [119, 105, 110, 100, 32] (5 * N + 1) 2 s).2.1).2, (rs_n t L [119, 105, 110, 100, 32] (5 * N + 1) 2 s).2.2)).2.2 (5 * N + 2) ((rs_n t L [45] (5 * N + 2) 1 ((rs_s t L [61] (rs_n t L [119, 105, 110, 100, 32] (5 * N + 1) 2 s).1 (rs_n t L [119, 105, 110, 100, 32] (5 * N + 1) 2 s).2.1).1, (rs_s t L [61] (rs_n t L [119, 105, 110, 100, 32] (5 * N + 1) 2 s).1 (rs_n t L [119, 105, 110, 100, 32] (5 * N + 1) 2 s).2.1).2, (rs_n t L [119, 105, 110, 100, 32] (5 * N + 1) 2 s).2.2)).2.2 (5 * N + 2) * -1))
  else rs_n t L [] (5 * N + 2) 1 ((rs_s t L [61] (rs_n t L [119, 105, 110, 100, 32] (5 * N + 1) 2 s).1 (rs_n t L [119, 105, 110, 100, 32] (5 * N + 1) 2 s).2.1).1, (rs_s t L [61] (rs_n t L [119, 105, 110, 100, 32] (5 * N + 1) 2 s).1 (rs_n t L [119, 105, 110, 100, 32] (5 * N + 1) 2 s).2.1).2, (rs_n t L [119, 105, 110, 100, 32] (5 * N + 1) 2 s).2.2)
section WIND
variable {X : mv_X} {P : mz_P} {V : mz_V} {z : Nat × Nat} {d m L x0 N : Nat} {t : Nat → Int} {s : rs_T}
theorem X9_readsWind (hX : mx_W X P x0) (hR : mx_R X x0) (hM : mr_M P m) (hT : rz_T V m L N t) (hp : s.2.1 ≤ L) : mv_call X (d + 7) 237 [.ref m] (mz_h P (rz_V V m s), z) = some (.inl none, (mz_h P (rz_V V m (rs_w t L N s)), z)) := by
  obtain ⟨s1, h1⟩ : ∃ s1, s1 = rs_n t L [119, 105, 110, 100, 32] (5 * N + 1) 2 s := ⟨_, rfl⟩
  have p1 : s1.2.1 ≤ L := by rw [h1]; exact rs_n_L hp
  have e1 : mv_call X (d + 6) 236 [.ref m, .ref (X.2.1 30), .int (nZ 1), .int (nZ 2)] (mz_h P (rz_V V m s), z) = _ := X9_number (X := X) (z := z) (d := d) hX hR.1 hM hT hp (e := 1) (K := 2) (by decide) (by decide)
  rw [← h1] at e1
  have e2 := X9_says (X := X) (z := z) (d := d + 1) hX hR.2.1 hM hT p1
  obtain ⟨q, hq⟩ : ∃ q, q = rs_s t L [61] s1.1 s1.2.1 := ⟨_, rfl⟩
  have p2 : q.2 ≤ L := by rw [hq]; exact (rs_s_L t L [61] s1.1 s1.2.1 p1).2
  rw [← hq] at e2
  have h4 := hT.2.2.2.1
  have mul : ∀ (w : rs_T) (y : Int) (F : mv_H → Option mv_R), (mv_gR X (mz_h P (rz_V V m w), z) m 13 9 fun r1 => mv_gI X (mz_h P (rz_V V m w), z) m 13 25 fun x3 => mv_aI X (mz_h P (rz_V V m w), z) 1 r1 (((nZ 5) * x3) + (nZ 2)) fun x4 => mv_as (mz_h P (rz_V V m w), z) 1 r1 (((nZ 5) * x3) + (nZ 2)) (.int (x4 * (nZ y))) F) = F (mz_h P (rz_V V m (w.1, w.2.1, mr_up w.2.2 (5 * N + 2) (w.2.2 (5 * N + 2) * y))), z) := fun w y F => by
    rw [mr_gto hM, mz_gI hM.o (by decide), rz_k (by decide) (by decide), hT.2.2.1, nZ_mul, nZ_add, mr_ato hM (by omega) (by omega), rz_g, show (5 * (N : Int) + 2).toNat = 5 * N + 2 by omega, nZ_mul, mr_pto hM (by omega) (by omega), rz_g, rz_mg, show (5 * (N : Int) + 2).toNat = 5 * N + 2 by omega]
  have one : ∀ w : rs_T, (w.1, w.2.1, mr_up w.2.2 (5 * N + 2) (w.2.2 (5 * N + 2) * 1)) = w := fun w => by
    rw [Int.mul_one, mr_up_id]
  have e3 : mv_call X (d + 6) 236 [.ref m, .ref (X.2.1 33), .int (nZ 2), .int (nZ 1)] (mz_h P (rz_V V m (q.1, q.2, s1.2.2)), z) = _ := X9_number (X := X) (z := z) (d := d) (s := (q.1, q.2, s1.2.2)) hX hR.2.2.2.1 hM hT p2 (e := 2) (K := 1) (by decide) (by decide)
  have e4 : mv_call X (d + 6) 236 [.ref m, .ref (X.2.1 32), .int (nZ 2), .int (nZ 1)] (mz_h P (rz_V V m (q.1, q.2, s1.2.2)), z) = _ := X9_number (X := X) (z := z) (d := d) (s := (q.1, q.2, s1.2.2)) hX hR.2.2.1 hM hT p2 (e := 2) (K := 1) (by decide) (by decide)
  have e0 := X9_h0 (X := X) (z := z) (d := d + 5) (s := (q.1, q.2, s1.2.2)) hM hT p2
  have e0 : mv_call X (d + 6) 234 [.ref m, .int (nZ 0)] (mz_h P (rz_V V m (q.1, q.2, s1.2.2)), z) = some (.inl (some (.int (nZ (rs_h t L q.2)))), (mz_h P (rz_V V m (q.1, q.2, s1.2.2)), z)) := e0
  have ew : rs_w t L N s = if q.1 = false ∧ pr_chr t L 45 q.2 = true then ((rs_n t L [45] (5 * N + 2) 1 (q.1, q.2, s1.2.2)).1, (rs_n t L [45] (5 * N + 2) 1 (q.1, q.2, s1.2.2)).2.1, mr_up (rs_n t L [45] (5 * N + 2) 1 (q.1, q.2, s1.2.2)).2.2 (5 * N + 2) ((rs_n t L [45] (5 * N + 2) 1 (q.1, q.2, s1.2.2)).2.2 (5 * N + 2) * -1)) else rs_n t L [] (5 * N + 2) 1 (q.1, q.2, s1.2.2) := by
    unfold rs_w
    rw [← h1, ← hq]
  rw [mc_X9_readsWind, bk_X9_readsWind_0, mz_rcv hM.o]
  simp only [mv_clV, mv_cl, e1, mz_rcv hM.o, e2]
  rw [mz_gI hM.o (by decide), rz_f]
  by_cases cf : q.1 = false
  · rw [if_pos (by rw [rs_b0]; exact cf)]
    simp only [mv_clI, mv_cl, e0, mz_rcv hM.o]
    by_cases c4 : pr_chr t L 45 q.2 = true
    · rw [if_pos ⟨cf, c4⟩] at ew
      rw [if_pos (by rw [rs_h_e (by decide) c4]), if_neg (by decide)]
      simp only [e4]
      have := mul (rs_n t L [45] (5 * N + 2) 1 (q.1, q.2, s1.2.2)) (-1) (fun h6 => some (.inl none, h6))
      rw [← ew] at this
      simp only [show (nZ 1 = 0) = False by decide, if_false]
      exact this
    · rw [if_neg (fun w => c4 w.2)] at ew
      rw [if_neg (by rw [nZ_inj (rs_h_S hT _) (by decide)]; exact rs_h_n (by decide) c4), if_pos (by rfl)]
      simp only [e3]
      have := mul (rs_n t L [] (5 * N + 2) 1 (q.1, q.2, s1.2.2)) 1 (fun h6 => some (.inl none, h6))
      rw [one] at this
      simp only [show (nZ 0 = 0) = True from eq_true rfl, if_true]
      rw [ew]
      exact this
  · rw [if_neg (fun w => cf w.1)] at ew
    rw [if_neg (by rw [rs_b0]; exact cf), if_pos (by rfl)]
    simp only [e3]
    have := mul (rs_n t L [] (5 * N + 2) 1 (q.1, q.2, s1.2.2)) 1 (fun h6 => some (.inl none, h6))
    rw [one] at this
    simp only [show (nZ 0 = 0) = True from eq_true rfl, if_true]
    rw [ew]
    exact this
end WIND
