/-! A BALLOON: bags put and taken, copies -/
section BAL3
variable {X : mv_X} {P : mz_P} {V : mz_V} {z : Nat × Nat} {b d : Nat}
theorem X0_addBag (hB : mz_B P b) {n : Nat} (hn : V b 5 = n) (hn6 : n < 6) {w : Int} : mv_call X (d + 1) 9 [.ref b, .int (nZ w)] (mz_h P V, z) = some (.inl none, (mz_h P (mz_u (mz_u (mz_u V (b + 1) n w) b 5 (n + 1)) b 4 (V b 4 + w)), z)) := by
  rw [mc_X0_addBag, bk_X0_addBag_0]
  simp (disch := decide) only [mz_gI hB.1, hn]
  rw [if_neg (by rw [nZ_le (by decide) ⟨by omega, by omega⟩]; omega), mz_gR hB.1 (by decide) hB.2.1]
  rw [mz_as hB.2.2 (by decide) (j := n) (nZ_i ⟨by omega, by omega⟩) hn6]
  simp (disch := decide) only [mz_gI hB.1]
  rw [mz_u_a V w (a := b + 1) (b := b) (by omega), hn, nZ_add]
  simp (disch := decide) only [mz_pf hB.1, mz_gI hB.1]
  rw [mz_u_k _ _ (by decide), mz_u_a V w (a := b + 1) (b := b) (by omega), nZ_add]
  simp (disch := decide) only [mz_pf hB.1]
/-- bags behind k moved down, as far as i -/
def mb_sh (V : mz_V) (b k i : Nat) : mz_V := fun a j => if a = b + 1 ∧ k ≤ j ∧ j + 1 < i then V (b + 1) (j + 1) else V a j
theorem mb_sh0 (V : mz_V) (b k : Nat) : mb_sh V b k (k + 1) = V := by
  funext a j
  unfold mb_sh
  rw [if_neg (by omega)]
theorem mb_sh1 (V : mz_V) (b k i : Nat) (hi : k + 1 ≤ i) : mz_u (mb_sh V b k i) (b + 1) (i - 1) (V (b + 1) i) = mb_sh V b k (i + 1) := by
  funext a j
  unfold mz_u mb_sh
  by_cases e : a = b + 1
  · subst e
    by_cases e2 : j = i - 1
    · subst e2
      rw [if_pos ⟨rfl, rfl⟩, if_pos ⟨rfl, by omega, by omega⟩, show i - 1 + 1 = i by omega]
    · rw [if_neg (fun q => e2 q.2)]
      by_cases e3 : k ≤ j ∧ j + 1 < i
      · rw [if_pos ⟨rfl, e3⟩, if_pos ⟨rfl, by omega, by omega⟩]
      · rw [if_neg (fun q => e3 q.2), if_neg (by omega)]
  · rw [if_neg (fun q => e q.1), if_neg (fun q => e q.1), if_neg (fun q => e q.1)]
theorem mb_sh_at (V : mz_V) (b k i j : Nat) (h : i ≤ j + 1) : mb_sh V b k i (b + 1) j = V (b + 1) j := if_neg (by omega)
theorem mb_sh_o (V : mz_V) (b k i : Nat) {a j : Nat} (h : a ≠ b + 1) : mb_sh V b k i a j = V a j := if_neg fun q => h q.1
/-- bag k taken out -/
def mb_rm (V : mz_V) (b k : Nat) : mz_V := mz_u (mz_u (mb_sh V b k (V b 5).toNat) b 5 (V b 5 - 1)) b 4 (V b 4 - V (b + 1) k)
theorem X0_removeBag (hB : mz_B P b) (hI : mz_BI V b) {k : Nat} (hk : (k : Int) < V b 5) : mv_call X (d + 2) 10 [.ref b, .int (nZ k)] (mz_h P V, z) = some (.inl (some (.int (nZ (V (b + 1) k)))), (mz_h P (mb_rm V b k), z)) := by
  have h1 := hI.count1; have h2 := hI.count2
  have hn : V b 5 = ((V b 5).toNat : Int) := (Int.toNat_of_nonneg h1).symm
  rw [mc_X0_removeBag, bk_X0_removeBag_0, mz_rcv hB.1]
  simp only [mv_clI, mv_cl, X0_hasBag hB hI (k := (k : Int)) ⟨by omega, by omega⟩]
  rw [if_pos (show (0 : Int) ≤ (k : Int) ∧ (k : Int) < V b 5 from ⟨by omega, hk⟩), if_neg (by decide), mz_gR hB.1 (by decide) hB.2.1, mz_aI hB.2.2 (by decide) (j := k) (nZ_i ⟨by omega, by omega⟩) (by omega), nZ_add]
  have key := mz_loop (φ := fun i => k + 1 ≤ i → mv_run X (mv_call X (d + 1)) m_X0_removeBag 21 [.ref b, .int (nZ k), .int (nZ (V (b + 1) k)), .int (nZ i)] [] (mz_h P (mb_sh V b k i), z) = some (.inl (some (.int (nZ (V (b + 1) k)))), (mz_h P (mb_rm V b k), z))) (V b 5).toNat ?_ (fun i hi ih => ?_) (k + 1) (by omega) (Nat.le_refl _)
  · rw [mb_sh0] at key
    exact key
  · intro hki
    rw [bk_X0_removeBag_21]
    simp (disch := decide) only [mz_gI hB.1]
    rw [mb_sh_o V b k _ (a := b) (by omega), if_pos (by rw [nZ_le ⟨by omega, by omega⟩ ⟨by omega, by omega⟩]; omega), nZ_sub]
    simp (disch := decide) only [mz_pf hB.1, mz_gI hB.1]
    rw [mz_u_k _ _ (by decide), mb_sh_o V b k _ (a := b) (by omega), nZ_sub]
    simp (disch := decide) only [mz_pf hB.1]
    rfl
  · intro hki
    have ih := ih (by omega)
    have e2 : ((i + 1 : Nat) : Int) = (i : Int) + 1 := by omega
    rw [e2] at ih
    rw [bk_X0_removeBag_21]
    simp (disch := decide) only [mz_gI hB.1]
    rw [mb_sh_o V b k _ (a := b) (by omega), if_neg (by rw [nZ_le ⟨by omega, by omega⟩ ⟨by omega, by omega⟩]; omega), mz_gR hB.1 (by decide) hB.2.1, mz_gR hB.1 (by decide) hB.2.1,
      mz_aI hB.2.2 (by decide) (j := i) (nZ_i ⟨by omega, by omega⟩) (by omega), mb_sh_at V b k i i (by omega), nZ_sub, nZ_add,
      mz_as hB.2.2 (by decide) (j := i - 1) (by rw [nZ_i ⟨by omega, by omega⟩]; omega) (by omega), mb_sh1 V b k i hki]
    exact ih
theorem X0_removeBag_no (hB : mz_B P b) (hI : mz_BI V b) {k : Int} (hs : nS k) (hk : ¬ (0 ≤ k ∧ k < V b 5)) : mv_call X (d + 2) 10 [.ref b, .int (nZ k)] (mz_h P V, z) = some (.inl (some (.int (nZ 0))), (mz_h P V, z)) := by
  rw [mc_X0_removeBag, bk_X0_removeBag_0, mz_rcv hB.1]
  simp only [mv_clI, mv_cl, X0_hasBag hB hI hs]
  rw [if_neg hk, if_pos (by rfl)]
/-- a balloon's numbers taken over from c -/
def mb_cp (V : mz_V) (b c : Nat) : mz_V := fun a j => if a = b ∧ j < 6 then V c j else if a = b + 1 ∧ j < 6 then V (c + 1) j else V a j
theorem X0_copyFrom (hB : mz_B P b) {c : Nat} (hC : mz_B P c) (hI : mz_BI V c) (hbc : b ≠ c) (hbc2 : b + 1 ≠ c) (hbc3 : c + 1 ≠ b) : mv_call X (d + 1) 1 [.ref b, .ref c] (mz_h P V, z) = some (.inl none, (mz_h P (mb_cp V b c), z)) := by
  have hcb : c ≠ b := fun e => hbc e.symm
  rw [mc_X0_copyFrom, bk_X0_copyFrom_0]
  simp (disch := decide) only [mz_gI hC.1]
  rw [mv_chk_t (by rcases hI.moored with e | e <;> rw [e] <;> decide)]
  simp (disch := first | decide | exact hcb) only [mz_pf hB.1, mz_gI hC.1, mz_u_a]
  rw [mz_gR hC.1 (by decide) hC.2.1, mz_gR hB.1 (by decide) hB.2.1, mz_cpy (s := 0) (d := 0) (m := 6) hC.2.2 hB.2.2 (by decide) (by decide) (by decide) (by decide) (by decide) (by decide)]
  refine congrArg (fun w => some (Sum.inl none, (mz_h P w, z))) ?_
  funext a j
  unfold mz_cp mb_cp mz_u
  by_cases e1 : a = b
  · subst e1
    rw [if_neg (by omega)]
    by_cases j6 : j < 6
    · have : j = 0 ∨ j = 1 ∨ j = 2 ∨ j = 3 ∨ j = 4 ∨ j = 5 := by omega
      rcases this with rfl | rfl | rfl | rfl | rfl | rfl <;> simp
    · have q0 : j ≠ 0 := by omega
      have q1 : j ≠ 1 := by omega
      have q2 : j ≠ 2 := by omega
      have q3 : j ≠ 3 := by omega
      have q4 : j ≠ 4 := by omega
      have q5 : j ≠ 5 := by omega
      simp [q0, q1, q2, q3, q4, q5, j6]
  · by_cases e2 : a = b + 1 ∧ j < 6
    · have e4 : a = b + 1 ∧ 0 ≤ j ∧ j < 0 + 6 := ⟨e2.1, by omega, by omega⟩
      have e3 : 0 + (j - 0) = j := by omega
      simp [e4, e1, e2, e3, hbc3]
    · have e4 : ¬ (a = b + 1 ∧ 0 ≤ j ∧ j < 0 + 6) := by omega
      rw [if_neg e4, if_neg e2, if_neg (fun q => e1 q.1)]
      simp [e1]
end BAL3
