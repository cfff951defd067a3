/-! THE REFERENCE: sets of bags, the best one -/
theorem mb_xor_t : ∀ i, i < 64 → ∀ j, j < 64 → nZ ((i : Nat) : Int) ^^^ nZ ((j : Nat) : Int) = nZ ((i ^^^ j : Nat) : Int) := by decide +kernel
theorem mb_dif : ∀ i, i < 64 → ∀ j, j < 64 → i ≠ j → ∃ k, k < 6 ∧ ¬ i.testBit k = j.testBit k := by
  intro i hi j hj h
  refine Classical.byContradiction fun q => h (Nat.eq_of_testBit_eq fun k => ?_)
  by_cases hk : k < 6
  · exact Classical.byContradiction fun q2 => q ⟨k, hk, q2⟩
  · have h64 : 64 ≤ 2 ^ k := Nat.le_trans (by decide : 64 ≤ 2 ^ 6) (Nat.pow_le_pow_right (by decide) (by omega))
    rw [Nat.testBit_lt_two_pow (show i < 2 ^ k by omega), Nat.testBit_lt_two_pow (show j < 2 ^ k by omega)]
def mr_btr (s : Nat → Int) (b i j : Nat) : Bool :=
  if mb_pop i = mb_pop j then (if mr_bal s b i = mr_bal s b j then mb_low i j else decide (mr_bal s b j < mr_bal s b i)) else decide (mb_pop i < mb_pop j)
section REFB
variable {X : mv_X} {P : mz_P} {V : mz_V} {z : Nat × Nat} {m d : Nat}
/-- the best set among the first n -/
def mr_best (s : Nat → Int) (b : Nat) (h : Int) : Nat → Int
  | 0 => -1
  | i + 1 => if h ≤ mr_ho s b i ∧ (mr_best s b h i = -1 ∨ mr_btr s b i (mr_best s b h i).toNat = true) then i else mr_best s b h i
theorem mr_best_in (s : Nat → Int) (b : Nat) (h : Int) : ∀ n : Nat, mr_best s b h n = -1 ∨ (0 ≤ mr_best s b h n ∧ mr_best s b h n < n)
  | 0 => Or.inl rfl
  | n + 1 => by
    have := mr_best_in s b h n
    have e : mr_best s b h (n + 1) = if h ≤ mr_ho s b n ∧ (mr_best s b h n = -1 ∨ mr_btr s b n (mr_best s b h n).toNat = true) then (n : Int) else mr_best s b h n := rfl
    rw [e]
    split <;> omega
theorem mr_pow {s : Nat → Int} (hI : mr_I s) {b : Nat} (hb : b < 10) : 2 ^ (s (6 + 11 * b + 4)).toNat ≤ 64 := by
  have h1 := hI.bags hb
  exact Nat.pow_le_pow_right (n := 2) (by decide) (show (s (6 + 11 * b + 4)).toNat ≤ 6 by omega)
abbrev mr_bst (s : Nat → Int) (b : Nat) (h : Int) : Int := mr_best s b h (2 ^ (s (6 + 11 * b + 4)).toNat)
end REFB
/-! THE REFERENCE: bags taken, berths cleared -/
/-- places from p on, as far as q, moved down -/
def mr_shf (s : Nat → Int) (p q : Nat) : Nat → Int := fun j => if p ≤ j ∧ j < q then s (j + 1) else s j
theorem mr_shf0 (s : Nat → Int) (p : Nat) : mr_shf s p p = s := by
  funext j
  unfold mr_shf
  rw [if_neg (by omega)]
theorem mr_shf1 (s : Nat → Int) {p q : Nat} (h : p ≤ q) : mr_up (mr_shf s p q) q (s (q + 1)) = mr_shf s p (q + 1) := by
  funext j
  unfold mr_up mr_shf
  by_cases e : j = q
  · subst e
    rw [if_pos rfl, if_pos (by omega)]
  · rw [if_neg e]
    by_cases e2 : p ≤ j ∧ j < q
    · rw [if_pos e2, if_pos (by omega)]
    · rw [if_neg e2, if_neg (by omega)]
theorem mr_shf_n (s : Nat → Int) {p q j : Nat} (h : ¬ (p ≤ j ∧ j < q)) : mr_shf s p q j = s j := if_neg h
/-- bag k of berth b taken out -/
def mr_take (s : Nat → Int) (b k : Nat) : Nat → Int :=
  mr_up (mr_up (mr_shf s (6 + 11 * b + (5 + k)) (6 + 11 * b + (5 + ((s (6 + 11 * b + 4)).toNat - 1)))) (6 + 11 * b + (5 + ((s (6 + 11 * b + 4)).toNat - 1))) 0) (6 + 11 * b + 4) (s (6 + 11 * b + 4) - 1)
/-- places from p on, as far as q, set to 0 -/
def mr_zr (s : Nat → Int) (p q : Nat) : Nat → Int := fun j => if p ≤ j ∧ j < q then 0 else s j
theorem mr_zr0 (s : Nat → Int) (p : Nat) : mr_zr s p p = s := by
  funext j
  unfold mr_zr
  rw [if_neg (by omega)]
theorem mr_zr1 (s : Nat → Int) {p q : Nat} (h : p ≤ q) : mr_up (mr_zr s p q) q 0 = mr_zr s p (q + 1) := by
  funext j
  unfold mr_up mr_zr
  by_cases e : j = q
  · subst e
    rw [if_pos rfl, if_pos (by omega)]
  · rw [if_neg e]
    by_cases e2 : p ≤ j ∧ j < q
    · rw [if_pos e2, if_pos (by omega)]
    · rw [if_neg e2, if_neg (by omega)]
def mr_clr (s : Nat → Int) (b : Nat) : Nat → Int := mr_zr s (6 + 11 * b) (6 + 11 * b + 11)
section REFC
variable {X : mv_X} {P : mz_P} {V : mz_V} {z : Nat × Nat} {m d : Nat}
end REFC
