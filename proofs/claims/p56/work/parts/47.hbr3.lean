/-! PILOTS; what is refused -/
def mp_on (V : mz_V) (q : Nat) (t : Int) : Bool := if V q 1 ≤ V q 2 then decide (V q 1 ≤ t ∧ t ≤ V q 2) else decide (V q 1 ≤ t ∨ t ≤ V q 2)
def mp_I (V : mz_V) (q : Nat) : Prop := (1 ≤ V q 0 ∧ V q 0 ≤ 30) ∧ (0 ≤ V q 1 ∧ V q 1 ≤ 23) ∧ 0 ≤ V q 2 ∧ V q 2 ≤ 23
section HBR3
variable {X : mv_X} {P : mz_P} {V : mz_V} {z : Nat × Nat} {a d q : Nat}
theorem X5_set (hQ : P.1 q = some (.inl 9)) {w f t : Int} : mv_call X (d + 1) 65 [.ref q, .int (nZ w), .int (nZ f), .int (nZ t)] (mz_h P V, z) = some (.inl none, (mz_h P (mz_u (mz_u (mz_u V q 0 w) q 1 f) q 2 t), z)) := by
  rw [mc_X5_set, bk_X5_set_0]
  simp (disch := decide) only [mz_pf hQ]
theorem X5_copyFrom (hQ : P.1 q = some (.inl 9)) {r : Nat} (hR : P.1 r = some (.inl 9)) : mv_call X (d + 2) 66 [.ref q, .ref r] (mz_h P V, z) = some (.inl none, (mz_h P (mz_u (mz_u (mz_u V q 0 (V r 0)) q 1 (V r 1)) q 2 (V r 2)), z)) := by
  rw [mc_X5_copyFrom, bk_X5_copyFrom_0]
  simp (disch := decide) only [mz_gI hR, mz_rcv hQ, mv_clV, mv_cl, X5_set hQ]
theorem X5_worksAt (hQ : P.1 q = some (.inl 9)) (hI : mp_I V q) {t : Int} (ht : nS t) : mv_call X (d + 1) 67 [.ref q, .int (nZ t)] (mz_h P V, z) = some (.inl (some (.int (nZ (if mp_on V q t then 1 else 0)))), (mz_h P V, z)) := by
  obtain ⟨⟨h1, h2⟩, ⟨h3, h4⟩, h5, h6⟩ := hI
  rw [mc_X5_worksAt, bk_X5_worksAt_0]
  simp (disch := first | decide | assumption | (refine ⟨?_, ?_⟩ <;> omega)) only [mz_gI hQ, nZ_lt, nZ_le]
  unfold mp_on
  by_cases c : V q 1 ≤ V q 2
  · rw [if_neg (by omega), if_pos c]
    by_cases c2 : V q 1 ≤ t ∧ t ≤ V q 2
    · rw [if_neg (by omega), if_neg (by omega), if_pos (by simpa using c2)]
    · rw [if_neg (by simpa using c2) (c := decide (V q 1 ≤ t ∧ t ≤ V q 2) = true)]
      repeat' split
      all_goals first | rfl | omega
  · rw [if_pos (by omega), if_neg c]
    by_cases c2 : V q 1 ≤ t ∨ t ≤ V q 2
    · rw [if_pos (by simpa using c2) (c := decide (V q 1 ≤ t ∨ t ≤ V q 2) = true)]
      repeat' split
      all_goals first | rfl | omega
    · rw [if_neg (by simpa using c2) (c := decide (V q 1 ≤ t ∨ t ≤ V q 2) = true)]
      repeat' split
      all_goals first | rfl | omega
theorem mz_HI.p (hI : mz_HI V a) {j : Nat} (hj : j < 6) : mp_I V (a + 25 + j) := hI.2.2.2.2 j hj
/-- balloon there -/
abbrev mh_has (V : mz_V) (a : Nat) (i : Int) : Prop := 0 ≤ i ∧ i < 10 ∧ V (a + 5 + 2 * i.toNat) 0 = 1
theorem X3_hasB (hH : mz_H P a) (hI : mz_HI V a) {i : Int} (hi : nS i) : mv_call X (d + 1) 27 [.ref a, .int (nZ i)] (mz_h P V, z) = some (.inl (some (.int (nZ (if mh_has V a i then 1 else 0)))), (mz_h P V, z)) := X3_hasBalloon hH hI hi
theorem X3_refusalToMoor (hH : mz_H P a) (hI : mz_HI V a) {b l s t : Int} (hb : nS b) (hl : nS l) (hs : nS s) (ht : nS t) : mv_call X (d + 2) 41 [.ref a, .int (nZ b), .int (nZ l), .int (nZ s), .int (nZ t)] (mz_h P V, z) =
    some (.inl (some (.int (nZ (if (0 ≤ b ∧ b ≤ 9) ∧ (1 ≤ l ∧ l ≤ 99) ∧ (1 ≤ s ∧ s ≤ 40) ∧ (1 ≤ t ∧ t ≤ 60) then (if mh_has V a b then 2 else 0) else 8)))), (mz_h P V, z)) := by
  rw [mc_X3_refusalToMoor, bk_X3_refusalToMoor_0]
  simp only [mv_clI, mv_cl, X8_isWithin hb (show nS 0 by decide) (show nS 9 by decide), X8_isWithin hl (show nS 1 by decide) (show nS 99 by decide), X8_isWithin hs (show nS 1 by decide) (show nS 40 by decide), X8_isWithin ht (show nS 1 by decide) (show nS 60 by decide), mz_rcv hH.1, X3_hasB hH hI hb]
  by_cases c1 : 0 ≤ b ∧ b ≤ 9
  · by_cases c2 : 1 ≤ l ∧ l ≤ 99
    · by_cases c3 : 1 ≤ s ∧ s ≤ 40
      · by_cases c4 : 1 ≤ t ∧ t ≤ 60
        · by_cases c5 : mh_has V a b
          · simp only [if_pos c1, if_pos c2, if_pos c3, if_pos c4, if_pos c5, if_pos (show (0 ≤ b ∧ b ≤ 9) ∧ (1 ≤ l ∧ l ≤ 99) ∧ (1 ≤ s ∧ s ≤ 40) ∧ (1 ≤ t ∧ t ≤ 60) from ⟨c1, c2, c3, c4⟩)]
            rfl
          · simp only [if_pos c1, if_pos c2, if_pos c3, if_pos c4, if_neg c5, if_pos (show (0 ≤ b ∧ b ≤ 9) ∧ (1 ≤ l ∧ l ≤ 99) ∧ (1 ≤ s ∧ s ≤ 40) ∧ (1 ≤ t ∧ t ≤ 60) from ⟨c1, c2, c3, c4⟩)]
            rfl
        · simp only [if_pos c1, if_pos c2, if_pos c3, if_neg c4, if_neg (show ¬ ((0 ≤ b ∧ b ≤ 9) ∧ (1 ≤ l ∧ l ≤ 99) ∧ (1 ≤ s ∧ s ≤ 40) ∧ (1 ≤ t ∧ t ≤ 60)) from fun q => c4 q.2.2.2)]
          rfl
      · simp only [if_pos c1, if_pos c2, if_neg c3, if_neg (show ¬ ((0 ≤ b ∧ b ≤ 9) ∧ (1 ≤ l ∧ l ≤ 99) ∧ (1 ≤ s ∧ s ≤ 40) ∧ (1 ≤ t ∧ t ≤ 60)) from fun q => c3 q.2.2.1)]
        rfl
    · simp only [if_pos c1, if_neg c2, if_neg (show ¬ ((0 ≤ b ∧ b ≤ 9) ∧ (1 ≤ l ∧ l ≤ 99) ∧ (1 ≤ s ∧ s ≤ 40) ∧ (1 ≤ t ∧ t ≤ 60)) from fun q => c2 q.2.1)]
      rfl
  · simp only [if_neg c1, if_neg (show ¬ ((0 ≤ b ∧ b ≤ 9) ∧ (1 ≤ l ∧ l ≤ 99) ∧ (1 ≤ s ∧ s ≤ 40) ∧ (1 ≤ t ∧ t ≤ 60)) from fun q => c1 q.1)]
    rfl
end HBR3
