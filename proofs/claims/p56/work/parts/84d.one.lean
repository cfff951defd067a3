/-! ONE COMMAND, THE REFERENCE -/
/-- the reference's texts -/
def mx_R (X : mv_X) (x0 : Nat) : Prop := mx_S X x0 30 [119, 105, 110, 100, 32] ∧ mx_S X x0 31 [61] ∧ mx_S X x0 32 [45] ∧ mx_S X x0 33 [] ∧ mx_S X x0 34 [109, 111, 111, 114, 32] ∧ mx_S X x0 35 [32] ∧ mx_S X x0 36 [99, 97, 115, 116, 32] ∧ mx_S X x0 37 [108, 101, 97, 118, 101, 32] ∧ mx_S X x0 38 [108, 111, 97, 100, 32] ∧ mx_S X x0 39 [100, 114, 111, 112, 32] ∧ mx_S X x0 40 [114, 105, 115, 101, 32] ∧ mx_S X x0 41 [119, 97, 105, 116, 32] ∧ mx_S X x0 42 [112, 105, 108, 111, 116, 32]
theorem rs_n_L {t : Nat → Int} {L e K : Nat} {l : List Int} {s : rs_T} (h : s.2.1 ≤ L) : (rs_n t L l e K s).2.1 ≤ L := by
  have h1 := rs_s_L t L l s.1 s.2.1 h
  unfold rs_n
  split
  · exact h1.2
  · exact (pr_num_p t L K _ 0).2.1 h1.2
section ONE
variable {X : mv_X} {P : mz_P} {V : mz_V} {z : Nat × Nat} {d m L x0 N : Nat} {t : Nat → Int} {s : rs_T}
/-- what stands here -/
def rs_h (t : Nat → Int) (L p : Nat) : Int := if p < L then t p else -1
theorem rs_h_S (hT : rz_T V m L N t) (p : Nat) : nS (rs_h t L p) := by
  unfold rs_h
  by_cases e : p < L
  · rw [if_pos e]; have := hT.2.2.2.2 _ e; exact ⟨by omega, by omega⟩
  · rw [if_neg e]; decide
theorem rs_h_e {y : Int} (hy : 0 ≤ y) {p : Nat} (h : pr_chr t L y p = true) : rs_h t L p = y := (pr_here hy).mpr h
theorem rs_h_n {y : Int} (hy : 0 ≤ y) {p : Nat} (h : ¬ pr_chr t L y p = true) : rs_h t L p ≠ y := fun w => h ((pr_here hy).mp w)
end ONE
