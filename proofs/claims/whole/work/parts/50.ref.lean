/-! THE REFERENCE at m (its arrays behind it): leaves -/
def mr_M (P : mz_P) (m : Nat) : Prop := P.1 m = some (.inl 13) ∧ (P.2 m 1 = some (m + 1) ∧ P.1 (m + 1) = some (.inr (.int, 158))) ∧ (P.2 m 2 = some (m + 2) ∧ P.1 (m + 2) = some (.inr (.int, 158))) ∧ (P.2 m 3 = some (m + 3) ∧ P.1 (m + 3) = some (.inr (.int, 158))) ∧
  (P.2 m 4 = some (m + 4) ∧ P.1 (m + 4) = some (.inr (.int, 1264))) ∧ (P.2 m 5 = some (m + 5) ∧ P.1 (m + 5) = some (.inr (.int, 158))) ∧ (P.2 m 8 = some (m + 6) ∧ P.1 (m + 6) = some (.inr (.int, 60))) ∧ (P.2 m 9 = some (m + 7) ∧ P.1 (m + 7) = some (.inr (.int, 300))) ∧
  (P.2 m 10 = some (m + 8) ∧ P.1 (m + 8) = some (.inr (.int, 40))) ∧ (P.2 m 11 = some (m + 9) ∧ P.1 (m + 9) = some (.inr (.int, 10))) ∧ (P.2 m 12 = some (m + 10) ∧ P.1 (m + 10) = some (.inr (.int, 10))) ∧
  (P.2 m 13 = some (m + 11) ∧ P.1 (m + 11) = some (.inr (.int, 64))) ∧ P.2 m 14 = some (m + 12) ∧ P.1 (m + 12) = some (.inr (.int, 64))
theorem mr_M.o {P : mz_P} {m : Nat} (h : mr_M P m) : P.1 m = some (.inl 13) := h.1
theorem mr_M.s {P : mz_P} {m : Nat} (h : mr_M P m) : P.2 m 1 = some (m + 1) := h.2.1.1
theorem mr_M.sa {P : mz_P} {m : Nat} (h : mr_M P m) : P.1 (m + 1) = some (.inr (.int, 158)) := h.2.1.2
/-- what holds of the reference's numbers -/
def mr_bag (s : Nat → Int) (b k : Nat) : Int := s (6 + 11 * b + (5 + k))
def mr_I (s : Nat → Int) : Prop := (0 ≤ s 0 ∧ s 0 ≤ 1000000000) ∧ (0 ≤ s 5 ∧ s 5 ≤ 6) ∧ (∀ i, i < 24 → -9 ≤ s (116 + i) ∧ s (116 + i) ≤ 9) ∧
  ∀ b, b < 10 → (s (6 + 11 * b) = 0 ∨ s (6 + 11 * b) = 1) ∧ (0 ≤ s (6 + 11 * b + 1) ∧ s (6 + 11 * b + 1) ≤ 99) ∧ (0 ≤ s (6 + 11 * b + 2) ∧ s (6 + 11 * b + 2) ≤ 40) ∧ (0 ≤ s (6 + 11 * b + 3) ∧ s (6 + 11 * b + 3) ≤ 60) ∧ (0 ≤ s (6 + 11 * b + 4) ∧ s (6 + 11 * b + 4) ≤ 6) ∧ ∀ k, k < 6 → 0 ≤ mr_bag s b k ∧ mr_bag s b k ≤ 20
section REF
variable {X : mv_X} {P : mz_P} {V : mz_V} {z : Nat × Nat} {m d : Nat}
theorem X9_in {x l u : Int} {h : mv_H} (hx : nS x) (hl : nS l) (hu : nS u) : mv_call X (d + 1) 150 [.int (nZ x), .int (nZ l), .int (nZ u)] h = some (.inl (some (.int (nZ (if l ≤ x ∧ x ≤ u then 1 else 0)))), h) := by
  rw [mc_X9_in, bk_X9_in_0]
  simp (disch := assumption) only [nZ_lt]
  repeat' split
  all_goals first | rfl | omega
theorem X9_isBerth {x : Int} {h : mv_H} (hx : nS x) : mv_call X (d + 2) 156 [.int (nZ x)] h = some (.inl (some (.int (nZ (if 0 ≤ x ∧ x ≤ 9 then 1 else 0)))), h) := by
  rw [mc_X9_isBerth, bk_X9_isBerth_0]
  simp only [mv_clI, mv_cl, X9_in hx (show nS 0 by decide) (show nS 9 by decide)]
  split <;> rfl
theorem X9_isHour {x : Int} {h : mv_H} (hx : nS x) : mv_call X (d + 2) 157 [.int (nZ x)] h = some (.inl (some (.int (nZ (if 0 ≤ x ∧ x ≤ 23 then 1 else 0)))), h) := by
  rw [mc_X9_isHour, bk_X9_isHour_0]
  simp only [mv_clI, mv_cl, X9_in hx (show nS 0 by decide) (show nS 23 by decide)]
  split <;> rfl
theorem X9_of (hM : mr_M P m) {b k : Nat} (hb : b < 10) (hk : k < 11) : mv_call X (d + 1) 158 [.ref m, .int (nZ b), .int (nZ k)] (mz_h P V, z) = some (.inl (some (.int (nZ (V (m + 1) (6 + 11 * b + k))))), (mz_h P V, z)) := by
  rw [mc_X9_of, bk_X9_of_0, mz_gR hM.1 (by decide) hM.s, nZ_mul, nZ_add, nZ_add, mz_aI hM.sa (by decide) (j := 6 + 11 * b + k) (by rw [nZ_i ⟨by omega, by omega⟩]; omega) (by omega)]
theorem X9_sets (hM : mr_M P m) {b k : Nat} (hb : b < 10) (hk : k < 11) {x : Int} : mv_call X (d + 1) 159 [.ref m, .int (nZ b), .int (nZ k), .int (nZ x)] (mz_h P V, z) = some (.inl none, (mz_h P (mz_u V (m + 1) (6 + 11 * b + k) x), z)) := by
  rw [mc_X9_sets, bk_X9_sets_0, mz_gR hM.1 (by decide) hM.s, nZ_mul, nZ_add, nZ_add, mz_as hM.sa (by decide) (j := 6 + 11 * b + k) (by rw [nZ_i ⟨by omega, by omega⟩]; omega) (by omega)]
/-- a balloon there, by the reference -/
abbrev mr_has (s : Nat → Int) (i : Int) : Prop := 0 ≤ i ∧ i ≤ 9 ∧ s (6 + 11 * i.toNat) = 1
theorem X9_isHere (hM : mr_M P m) (hI : mr_I (V (m + 1))) {i : Int} (hi : nS i) : mv_call X (d + 3) 160 [.ref m, .int (nZ i)] (mz_h P V, z) = some (.inl (some (.int (nZ (if mr_has (V (m + 1)) i then 1 else 0)))), (mz_h P V, z)) := by
  rw [mc_X9_isHere, bk_X9_isHere_0]
  simp only [mv_clI, mv_cl, X9_isBerth hi]
  by_cases c : 0 ≤ i ∧ i ≤ 9
  · rw [if_pos c, if_neg (by decide), mz_rcv hM.1]
    obtain ⟨k, rfl⟩ : ∃ k : Nat, i = k := ⟨i.toNat, by omega⟩
    have hk : k < 10 := by omega
    have e := X9_of (X := X) (P := P) (V := V) (z := z) (m := m) (d := d + 1) hM hk (k := 0) (by decide)
    rw [show ((0 : Nat) : Int) = 0 from rfl] at e
    simp only [e]
    unfold mr_has
    rw [Int.toNat_natCast]
    rcases (hI.2.2.2 k hk).1 with h0 | h0
    · have h1 : V (m + 1) (6 + 11 * k + 0) = 0 := h0
      rw [if_neg (show ¬ nZ (V (m + 1) (6 + 11 * k + 0)) = nZ 1 by rw [h1]; decide), if_neg (fun q => by have := q.2.2; omega)]
    · have h1 : V (m + 1) (6 + 11 * k + 0) = 1 := h0
      rw [if_pos (show nZ (V (m + 1) (6 + 11 * k + 0)) = nZ 1 by rw [h1]), if_pos ⟨c.1, c.2, h0⟩]
  · rw [if_neg c, if_pos (by rfl), if_neg (fun q => c ⟨q.1, q.2.1⟩)]
end REF
