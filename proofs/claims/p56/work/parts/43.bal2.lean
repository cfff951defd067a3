/-! A BALLOON, its sets of bags, its changes -/
section BAL2
variable {X : mv_X} {P : mz_P} {V : mz_V} {z : Nat × Nat} {b d : Nat}
theorem X0_changeLift (hB : mz_B P b) (hI : mz_BI V b) {t : Int} (ht : t = 1 ∨ t = -1) : mv_call X (d + 2) 7 [.ref b, .int (nZ t)] (mz_h P V, z) = some (.inl none, (mz_h P (if 1 ≤ V b 1 + t ∧ V b 1 + t ≤ 99 then mz_u V b 1 (V b 1 + t) else V), z)) := by
  have h1 := hI.lift1; have h2 := hI.lift2
  have h3 : nS (V b 1 + t) := by rcases ht with rfl | rfl <;> (refine ⟨?_, ?_⟩ <;> omega)
  rw [mc_X0_changeLift, bk_X0_changeLift_0]
  simp (disch := decide) only [mz_gI hB.1, nZ_add]
  simp only [mv_clI, mv_cl, X8_isWithin h3 (show nS 1 by decide) (show nS 99 by decide)]
  by_cases e : 1 ≤ V b 1 + t ∧ V b 1 + t ≤ 99
  · simp only [if_pos e]
    rw [if_neg (by decide)]
    simp (disch := decide) only [mz_gI hB.1, nZ_add, mz_pf hB.1]
  · simp only [if_neg e]
    rfl
theorem mb_wt0 (hI : mz_BI V b) (s : Nat) : 0 ≤ mb_wt V b s (V b 5).toNat := mz_s_0 fun i hi => by
  have h1 := hI.count1; have h2 := hI.count2
  have := hI.bag1 i (by omega)
  split <;> omega
theorem mb_wt_le {f g : Nat → Int} : ∀ {n : Nat}, (∀ i, i < n → f i ≤ g i) → mz_s f n ≤ mz_s g n
  | 0, _ => Int.le_refl 0
  | n + 1, h => by
    have h1 := mb_wt_le (f := f) (g := g) (n := n) fun i hi => h i (by omega)
    have h2 := h n (by omega)
    show mz_s f n + f n ≤ mz_s g n + g n
    omega
theorem mb_wt1 (hI : mz_BI V b) (s : Nat) : mb_wt V b s (V b 5).toNat ≤ V b 4 := by
  rw [hI.ballast]
  refine mb_wt_le fun i hi => ?_
  have h1 := hI.count1; have h2 := hI.count2
  have := hI.bag1 i (by omega)
  split <;> omega
/-- the first set is better than the second -/
def mb_btr (V : mz_V) (b i j : Nat) : Bool :=
  if mb_pop i = mb_pop j then (if mb_wt V b i (V b 5).toNat = mb_wt V b j (V b 5).toNat then mb_low i j else decide (mb_wt V b i (V b 5).toNat < mb_wt V b j (V b 5).toNat)) else decide (mb_pop i < mb_pop j)
theorem X0_isBetter (hB : mz_B P b) (hI : mz_BI V b) {i j : Nat} (hi : i < 64) (hj : j < 64) : mv_call X (d + 2) 13 [.ref b, .int (nZ i), .int (nZ j)] (mz_h P V, z) = some (.inl (some (.int (nZ (if mb_btr V b i j then 1 else 0)))), (mz_h P V, z)) := by
  have h1 := mb_pop0 i; have h2 := mb_pop6 i; have h3 := mb_pop0 j; have h4 := mb_pop6 j
  have h5 := mb_wt0 hI i; have h6 := mb_wt1 hI i; have h7 := mb_wt0 hI j; have h8 := mb_wt1 hI j; have h9 := hI.bal1
  rw [mc_X0_isBetter, bk_X0_isBetter_0]
  simp only [mv_clI, mv_cl, J6_bitCount hi, J6_bitCount hj, mz_rcv hB.1, X0_weightOf hB hI hi, X0_weightOf hB hI hj, nZ_sub, mb_low_ok hi hj]
  simp (disch := (refine ⟨?_, ?_⟩ <;> omega)) only [nZ_eq0, nZ_0le]
  unfold mb_btr
  by_cases e1 : mb_pop i = mb_pop j
  · rw [if_pos (by omega), if_pos e1]
    by_cases e2 : mb_wt V b i (V b 5).toNat = mb_wt V b j (V b 5).toNat
    · rw [if_pos (by omega), if_pos e2]
      cases mb_low i j <;> rfl
    · rw [if_neg (by omega), if_neg e2]
      by_cases e3 : mb_wt V b i (V b 5).toNat < mb_wt V b j (V b 5).toNat
      · rw [if_neg (by omega), if_pos (by simpa using e3)]
      · rw [if_pos (by omega), if_neg (by simpa using e3)]
  · rw [if_neg (by omega), if_neg e1]
    by_cases e3 : mb_pop i < mb_pop j
    · rw [if_neg (by omega), if_pos (by simpa using e3)]
    · rw [if_pos (by omega), if_neg (by simpa using e3)]
/-- the best set among the first n -/
def mb_best (V : mz_V) (b : Nat) (h : Int) : Nat → Int
  | 0 => -1
  | i + 1 => if h ≤ mb_hw V b (V b 4 - mb_wt V b i (V b 5).toNat) ∧ (mb_best V b h i = -1 ∨ mb_btr V b i (mb_best V b h i).toNat = true) then i else mb_best V b h i
theorem mb_best_in (V : mz_V) (b : Nat) (h : Int) : ∀ n : Nat, mb_best V b h n = -1 ∨ (0 ≤ mb_best V b h n ∧ mb_best V b h n < n)
  | 0 => Or.inl rfl
  | n + 1 => by
    have := mb_best_in V b h n
    have e : mb_best V b h (n + 1) = if h ≤ mb_hw V b (V b 4 - mb_wt V b n (V b 5).toNat) ∧ (mb_best V b h n = -1 ∨ mb_btr V b n (mb_best V b h n).toNat = true) then (n : Int) else mb_best V b h n := rfl
    rw [e]
    split <;> omega
theorem mb_pow (hI : mz_BI V b) : 2 ^ (V b 5).toNat ≤ 64 := by
  have h1 := hI.count1; have h2 := hI.count2
  exact Nat.pow_le_pow_right (n := 2) (by decide) (show (V b 5).toNat ≤ 6 by omega)
theorem X0_bestDropSet (hB : mz_B P b) (hI : mz_BI V b) {h : Int} (hh : nS h) : mv_call X (d + 3) 12 [.ref b, .int (nZ h)] (mz_h P V, z) = some (.inl (some (.int (nZ (mb_best V b h (2 ^ (V b 5).toNat))))), (mz_h P V, z)) := by
  have h1 := hI.count1; have h2 := hI.count2; have h3 := mb_pow hI; have h9 := hI.bal1
  have e5 : nZ (V b 5) = nZ ((V b 5).toNat : Int) := by rw [Int.toNat_of_nonneg h1]
  rw [mc_X0_bestDropSet, bk_X0_bestDropSet_0]
  have key := mz_loop (φ := fun i => ∀ j : Value, mv_run X (mv_call X (d + 2)) m_X0_bestDropSet 4 [.ref b, .int (nZ h), .int (nZ (mb_best V b h i)), .int (nZ i), j] [] (mz_h P V, z) = some (.inl (some (.int (nZ (mb_best V b h (2 ^ (V b 5).toNat))))), (mz_h P V, z))) (2 ^ (V b 5).toNat) ?_ (fun i hi ih => ?_) 0 (Nat.zero_le _)
  · exact key _
  · intro j
    rw [bk_X0_bestDropSet_4]
    simp (disch := decide) only [mz_gI hB.1]
    rw [e5, mb_shl_t _ (by omega), if_pos (Int32.le_refl _)]
  · intro j
    have hs : i < 64 := by omega
    have ih : ∀ j : Value, mv_run X (mv_call X (d + 2)) m_X0_bestDropSet 4 [.ref b, .int (nZ h), .int (nZ (mb_best V b h (i + 1))), .int (nZ (i + 1 : Nat)), j] [] (mz_h P V, z) = _ := ih
    have h5 := mb_wt0 hI i; have h6 := mb_wt1 hI i
    have h7 := mb_hw0 hI (V b 4 - mb_wt V b i (V b 5).toNat); have h8 := mb_hw40 hI (V b 4 - mb_wt V b i (V b 5).toNat)
    have hin := mb_best_in V b h i
    have e2 : ((i + 1 : Nat) : Int) = (i : Int) + 1 := by omega
    have eb : mb_best V b h (i + 1) = if h ≤ mb_hw V b (V b 4 - mb_wt V b i (V b 5).toNat) ∧ (mb_best V b h i = -1 ∨ mb_btr V b i (mb_best V b h i).toNat = true) then (i : Int) else mb_best V b h i := rfl
    rw [e2, eb] at ih
    rw [bk_X0_bestDropSet_4]
    simp (disch := decide) only [mz_gI hB.1]
    rw [e5, mb_shl_t _ (by omega), if_neg (by rw [nZ_le ⟨by omega, by omega⟩ ⟨by omega, by omega⟩]; omega)]
    simp only [mv_clI, mv_cl, mz_rcv hB.1, X0_weightOf hB hI hs, nZ_sub, X0_heightWith hB hI (w := V b 4 - mb_wt V b i (V b 5).toNat) (by omega) (by omega), nZ_add]
    have en : ¬ (nZ 1 = 0) := by decide
    have ez : nZ 0 = 0 := rfl
    simp only [en, ez, if_true, if_false]
    by_cases c1 : h ≤ mb_hw V b (V b 4 - mb_wt V b i (V b 5).toNat)
    · rw [if_neg (by rw [nZ_lt ⟨by omega, by omega⟩ hh]; omega)]
      by_cases c2 : mb_best V b h i = -1
      · rw [if_pos (by rw [c2]), ← ih, if_pos ⟨c1, Or.inl c2⟩]
      · rw [if_neg (by rw [nZ_inj ⟨by omega, by omega⟩ (by decide)]; exact c2)]
        have hk : (mb_best V b h i).toNat < 64 := by omega
        have ek : nZ (mb_best V b h i) = nZ ((mb_best V b h i).toNat : Int) := by rw [Int.toNat_of_nonneg (by omega)]
        rw [ek]
        simp only [X0_isBetter hB hI hs hk]
        by_cases c3 : mb_btr V b i (mb_best V b h i).toNat = true
        · rw [if_pos c3, if_neg (by decide), ← ih, if_pos ⟨c1, Or.inr c3⟩]
        · rw [if_neg c3, if_pos (by decide), ← ih, if_neg (fun q => q.2.elim c2 c3), ← ek]
    · rw [if_pos (by rw [nZ_lt ⟨by omega, by omega⟩ hh]; omega), ← ih, if_neg (fun q => c1 q.1)]
end BAL2
