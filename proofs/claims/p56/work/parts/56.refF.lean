/-! THE REFERENCE: the other commands -/
section REFF
variable {X : mv_X} {P : mz_P} {V : mz_V} {z : Nat × Nat} {m d : Nat}
theorem mr_I_add {s : Nat → Int} (hI : mr_I s) {k : Nat} (hk : k < 10) {b : Int} (c2 : 1 ≤ b ∧ b ≤ 20) (c3 : s (6 + 11 * k + 4) ≠ 6) : mr_I (mr_up (mr_up s (6 + 11 * k + (5 + (s (6 + 11 * k + 4)).toNat)) b) (6 + 11 * k + 4) (s (6 + 11 * k + 4) + 1)) := by
  have h1 := hI.bags hk
  refine mr_I_b hI hk (fun j hj => ?_) ⟨?_, ?_, ?_, ?_, ?_, fun i hi => ?_⟩
  · rw [mr_up_n _ _ (by omega), mr_up_n _ _ (by omega)]
  · rw [mr_up_n _ _ (by omega), mr_up_n _ _ (by omega)]; exact hI.here hk
  · rw [mr_up_n _ _ (by omega), mr_up_n _ _ (by omega)]; exact hI.lift hk
  · rw [mr_up_n _ _ (by omega), mr_up_n _ _ (by omega)]; exact hI.string hk
  · rw [mr_up_n _ _ (by omega), mr_up_n _ _ (by omega)]; exact hI.strength hk
  · rw [mr_up_s]; omega
  · unfold mr_bag
    rw [mr_up_n _ _ (by omega)]
    have := hI.bag hk hi
    unfold mr_up
    split <;> omega
theorem mr_drp_ok {t : Nat} : ∀ (n : Nat) (s : Nat → Int) (a : Nat), mr_I s → a < 10 → n ≤ 6 → (∀ k, k < n → t.testBit k = true → (k : Int) < s (6 + 11 * a + 4)) → mr_I (mr_drp t a n s)
  | 0, s, a, h, _, _, _ => h
  | n + 1, s, a, h, ha, hn, hb => by
    show mr_I (mr_drp t a n (if t.testBit n then mr_take (mr_up s 3 (s 3 + s (6 + 11 * a + (5 + n)))) a n else s))
    by_cases c : t.testBit n = true
    · rw [if_pos c]
      have h1 := hb n (by omega) c
      have h2 : mr_I (mr_up s 3 (s 3 + s (6 + 11 * a + (5 + n)))) := mr_I_up h (by omega)
      have e4 : mr_up s 3 (s 3 + s (6 + 11 * a + (5 + n))) (6 + 11 * a + 4) = s (6 + 11 * a + 4) := mr_up_n _ _ (by omega)
      refine mr_drp_ok n _ a (mr_I_take h2 ha (by rw [e4]; exact h1)) ha (by omega) fun k hk hk2 => ?_
      unfold mr_take
      rw [mr_up_s, e4]
      omega
    · rw [if_neg c]
      exact mr_drp_ok n s a h ha (by omega) fun k hk hk2 => hb k (by omega) hk2
theorem mr_bst_bits {s : Nat → Int} (hI : mr_I s) {k : Nat} (hk : k < 10) {b : Int} (h : mr_bst s k b ≠ -1) : (mr_bst s k b).toNat < 64 ∧ ∀ j, (mr_bst s k b).toNat.testBit j = true → (j : Int) < s (6 + 11 * k + 4) := by
  have h1 := hI.bags hk
  have h2 := mr_pow hI hk
  have h3 := mr_best_in s k b (2 ^ (s (6 + 11 * k + 4)).toNat)
  have h4 : (mr_bst s k b).toNat < 2 ^ (s (6 + 11 * k + 4)).toNat := by
    rcases h3 with h3 | h3
    · exact absurd h3 h
    · show (mr_best s k b (2 ^ (s (6 + 11 * k + 4)).toNat)).toNat < _
      omega
  refine ⟨by omega, fun j hj => ?_⟩
  refine Classical.byContradiction fun q => ?_
  have h5 : (mr_bst s k b).toNat < 2 ^ j := Nat.lt_of_lt_of_le h4 (Nat.pow_le_pow_right (by decide) (by omega))
  rw [Nat.testBit_lt_two_pow h5] at hj
  cases hj
end REFF
