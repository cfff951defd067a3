/-! THE REFERENCE at m (its arrays behind it): leaves -/
def mr_M (P : mz_P) (m : Nat) : Prop := P.1 m = some (.inl 13) ∧ (P.2 m 1 = some (m + 1) ∧ P.1 (m + 1) = some (.inr (.int, 158))) ∧ (P.2 m 2 = some (m + 2) ∧ P.1 (m + 2) = some (.inr (.int, 158))) ∧ (P.2 m 3 = some (m + 3) ∧ P.1 (m + 3) = some (.inr (.int, 158))) ∧
  (P.2 m 4 = some (m + 4) ∧ P.1 (m + 4) = some (.inr (.int, 1264))) ∧ (P.2 m 5 = some (m + 5) ∧ P.1 (m + 5) = some (.inr (.int, 158))) ∧ (P.2 m 8 = some (m + 6) ∧ P.1 (m + 6) = some (.inr (.int, 60))) ∧ (P.2 m 9 = some (m + 7) ∧ P.1 (m + 7) = some (.inr (.int, 300))) ∧
  (P.2 m 10 = some (m + 8) ∧ P.1 (m + 8) = some (.inr (.int, 40))) ∧ (P.2 m 11 = some (m + 9) ∧ P.1 (m + 9) = some (.inr (.int, 10))) ∧ (P.2 m 12 = some (m + 10) ∧ P.1 (m + 10) = some (.inr (.int, 10))) ∧
  (P.2 m 13 = some (m + 11) ∧ P.1 (m + 11) = some (.inr (.int, 64))) ∧ P.2 m 14 = some (m + 12) ∧ P.1 (m + 12) = some (.inr (.int, 64))
theorem mr_M.o {P : mz_P} {m : Nat} (h : mr_M P m) : P.1 m = some (.inl 13) := h.1
theorem mr_M.s {P : mz_P} {m : Nat} (h : mr_M P m) : P.2 m 1 = some (m + 1) := h.2.1.1
theorem mr_M.sa {P : mz_P} {m : Nat} (h : mr_M P m) : P.1 (m + 1) = some (.inr (.int, 158)) := h.2.1.2
/-- what holds of the reference's numbers -/
def mr_bag (s : Nat → Int) (b k : Nat) : Int := s (6 + 11 * b + (5 + k))
def mr_I (s : Nat → Int) : Prop := (0 ≤ s 0 ∧ s 0 ≤ 1000000000) ∧ (0 ≤ s 5 ∧ s 5 ≤ 6) ∧ (∀ i, i < 24 → -9 ≤ s (116 + i) ∧ s (116 + i) ≤ 9) ∧
  ∀ b, b < 10 → (s (6 + 11 * b) = 0 ∨ s (6 + 11 * b) = 1) ∧ (0 ≤ s (6 + 11 * b + 1) ∧ s (6 + 11 * b + 1) ≤ 99) ∧ (0 ≤ s (6 + 11 * b + 2) ∧ s (6 + 11 * b + 2) ≤ 40) ∧ (0 ≤ s (6 + 11 * b + 3) ∧ s (6 + 11 * b + 3) ≤ 60) ∧ (0 ≤ s (6 + 11 * b + 4) ∧ s (6 + 11 * b + 4) ≤ 6) ∧ ∀ k, k < 6 → 0 ≤ mr_bag s b k ∧ mr_bag s b k ≤ 20
section REF
variable {X : mv_X} {P : mz_P} {V : mz_V} {z : Nat × Nat} {m d : Nat}
/-- a balloon there, by the reference -/
abbrev mr_has (s : Nat → Int) (i : Int) : Prop := 0 ≤ i ∧ i ≤ 9 ∧ s (6 + 11 * i.toNat) = 1
end REF
