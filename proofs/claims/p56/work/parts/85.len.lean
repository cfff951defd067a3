/-! A COMMAND'S LENGTH -/
theorem pr_at_ok {t : Nat → Int} {L p : Nat} {q : Nat × (Nat → Int)} {y : Int} (h : (pr_at t L y p q).1 = true) : p + 1 ≤ (pr_at t L y p q).2.1 := by
  unfold pr_at at h ⊢
  by_cases c1 : y = 68
  · rw [if_pos c1] at h ⊢
    exact of_decide_eq_true h
  · rw [if_neg c1] at h ⊢
    by_cases c2 : y = 78
    · rw [if_pos c2] at h ⊢
      exact of_decide_eq_true h
    · rw [if_neg c2] at h ⊢
      by_cases c3 : y = 83
      · rw [if_pos c3] at h ⊢
        by_cases c4 : pr_chr t L 45 p = true
        · rw [if_pos c4] at h ⊢
          have : p + 1 < (pr_n t L 1 (-1) (p + 1) q).2.1 := of_decide_eq_true h
          omega
        · rw [if_neg c4] at h ⊢
          exact of_decide_eq_true h
      · rw [if_neg c3] at h ⊢
        by_cases c4 : pr_chr t L y p = true
        · rw [if_pos c4]; exact Nat.le_refl _
        · rw [if_neg c4] at h
          exact absurd (show false = true from h) (by decide)
theorem pr_fm_ok {t : Nat → Int} {L : Nat} : ∀ (l : List Int) (p : Nat) (q : Nat × (Nat → Int)), (pr_fm t L l p q).1 = true → p + l.length ≤ (pr_fm t L l p q).2.1
  | [], p, q, _ => Nat.le_refl _
  | y :: l, p, q, h => by
    have e : pr_fm t L (y :: l) p q = if (pr_at t L y p q).1 = true then pr_fm t L l (pr_at t L y p q).2.1 (pr_at t L y p q).2.2 else pr_at t L y p q := rfl
    rw [e] at h ⊢
    rw [List.length_cons]
    by_cases c : (pr_at t L y p q).1 = true
    · rw [if_pos c] at h ⊢
      have a1 := pr_at_ok c
      have a2 := pr_fm_ok l _ _ h
      omega
    · rw [if_neg c] at h
      exact absurd h c
theorem fm_len : ∀ k, k < 9 → 6 ≤ (fm_l k).length := by decide +kernel
theorem pc_r_ok {t : Nat → Int} {L p : Nat} (h : (pc_r t L p).1 = true) : p + 6 ≤ (pc_r t L p).2.1 := by
  have h9 := pk_9 t L p
  unfold pc_r at h ⊢
  by_cases e : pk_k t L p = 9
  · rw [if_pos e] at h
    exact absurd (show false = true from h) (by decide)
  · rw [if_neg e] at h ⊢
    have a1 := pr_fm_ok _ _ _ h
    have a2 := fm_len (pk_k t L p) (by omega)
    omega
