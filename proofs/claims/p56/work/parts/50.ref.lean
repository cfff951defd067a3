/-! THE REFERENCE at m (its arrays behind it): leaves -/
/-- what holds of the reference's numbers -/
def mr_bag (s : Nat → Int) (b k : Nat) : Int := s (6 + 11 * b + (5 + k))
def mr_I (s : Nat → Int) : Prop := (0 ≤ s 0 ∧ s 0 ≤ 1000000000) ∧ (0 ≤ s 5 ∧ s 5 ≤ 6) ∧ (∀ i, i < 24 → -9 ≤ s (116 + i) ∧ s (116 + i) ≤ 9) ∧
  ∀ b, b < 10 → (s (6 + 11 * b) = 0 ∨ s (6 + 11 * b) = 1) ∧ (0 ≤ s (6 + 11 * b + 1) ∧ s (6 + 11 * b + 1) ≤ 99) ∧ (0 ≤ s (6 + 11 * b + 2) ∧ s (6 + 11 * b + 2) ≤ 40) ∧ (0 ≤ s (6 + 11 * b + 3) ∧ s (6 + 11 * b + 3) ≤ 60) ∧ (0 ≤ s (6 + 11 * b + 4) ∧ s (6 + 11 * b + 4) ≤ 6) ∧ ∀ k, k < 6 → 0 ≤ mr_bag s b k ∧ mr_bag s b k ≤ 20
section REF
variable {X : mv_X} {P : mz_P} {V : mz_V} {z : Nat × Nat} {m d : Nat}
/-- a balloon there, by the reference -/
abbrev mr_has (s : Nat → Int) (i : Int) : Prop := 0 ≤ i ∧ i ≤ 9 ∧ s (6 + 11 * i.toNat) = 1
end REF
