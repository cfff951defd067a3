/-! DROP SETS: the best set is one of the fewest bags -/
theorem mr_btr_t {s : Nat → Int} {b i j : Nat} (hb : mr_btr s b i j = true) : mb_pop i ≤ mb_pop j := by
  unfold mr_btr at hb
  by_cases e : mb_pop i = mb_pop j
  · omega
  · rw [if_neg e] at hb
    have := of_decide_eq_true hb
    omega
theorem mr_btr_f {s : Nat → Int} {b i j : Nat} (hb : ¬ mr_btr s b i j = true) : mb_pop j ≤ mb_pop i := by
  unfold mr_btr at hb
  by_cases e : mb_pop i = mb_pop j
  · omega
  · rw [if_neg e] at hb
    have : ¬ mb_pop i < mb_pop j := fun q => hb (decide_eq_true q)
    omega
theorem pb_min {s : Nat → Int} {b : Nat} {h : Int} : ∀ N : Nat, (mr_best s b h N ≠ -1 → h ≤ mr_ho s b (mr_best s b h N).toNat) ∧ ∀ i, i < N → h ≤ mr_ho s b i → mr_best s b h N ≠ -1 ∧ mb_pop (mr_best s b h N).toNat ≤ mb_pop i
  | 0 => ⟨fun q => absurd rfl q, fun i hi => absurd hi (Nat.not_lt_zero _)⟩
  | N + 1 => by
    obtain ⟨h1, h2⟩ := pb_min (s := s) (b := b) (h := h) N
    have e : mr_best s b h (N + 1) = if h ≤ mr_ho s b N ∧ (mr_best s b h N = -1 ∨ mr_btr s b N (mr_best s b h N).toNat = true) then (N : Int) else mr_best s b h N := rfl
    by_cases c : h ≤ mr_ho s b N ∧ (mr_best s b h N = -1 ∨ mr_btr s b N (mr_best s b h N).toNat = true)
    · rw [if_pos c] at e
      rw [e, Int.toNat_natCast]
      refine ⟨fun _ => c.1, fun i hi hs => ⟨by omega, ?_⟩⟩
      by_cases ei : i = N
      · rw [ei]; exact Int.le_refl _
      · have := h2 i (by omega) hs
        rcases c.2 with q | q
        · exact absurd q this.1
        · have := mr_btr_t q
          omega
    · rw [if_neg c] at e
      rw [e]
      refine ⟨h1, fun i hi hs => ?_⟩
      by_cases ei : i = N
      · rw [ei] at hs ⊢
        have c1 : mr_best s b h N ≠ -1 := fun q => c ⟨hs, Or.inl q⟩
        exact ⟨c1, mr_btr_f (s := s) (b := b) (fun q => c ⟨hs, Or.inr q⟩)⟩
      · exact h2 i (by omega) hs
theorem mb_pop_z : ∀ T, T < 64 → mb_pop T = 0 → T = 0 := by decide +kernel
theorem mb_pop_00 : mb_pop 0 = 0 := by decide +kernel
/-- the fewest bags: 0 just where the height is there already -/
theorem pb_zero {s : Nat → Int} (h : pn_I s) {b : Nat} (hb : b < 10) {x : Int} : (mr_bst s b x ≠ -1 ∧ mb_pop (mr_bst s b x).toNat = 0) ↔ x ≤ mr_ho s b 0 := by
  have hp : 0 < 2 ^ (s (6 + 11 * b + 4)).toNat := Nat.pow_pos (by decide)
  constructor
  · rintro ⟨h1, h2⟩
    have hT := (mr_bst_nat h.1 hb h1).2
    have e := mb_pop_z _ hT h2
    have := (pb_min (s := s) (b := b) (h := x) (2 ^ (s (6 + 11 * b + 4)).toNat)).1 h1
    have e : (mr_best s b x (2 ^ (s (6 + 11 * b + 4)).toNat)).toNat = 0 := e
    rwa [e] at this
  · intro hx
    have := (pb_min (s := s) (b := b) (h := x) (2 ^ (s (6 + 11 * b + 4)).toNat)).2 0 hp hx
    refine ⟨this.1, ?_⟩
    have h1 := this.2
    have h2 := mb_pop0 (mr_bst s b x).toNat
    rw [mb_pop_00] at h1
    have h1 : mb_pop (mr_bst s b x).toNat ≤ 0 := h1
    omega
theorem pb_ho {s : Nat → Int} {b : Nat} {x : Int} (h1 : mr_bst s b x ≠ -1) : x ≤ mr_ho s b (mr_bst s b x).toNat := (pb_min (s := s) (b := b) (h := x) (2 ^ (s (6 + 11 * b + 4)).toNat)).1 h1
theorem pb_lt {s : Nat → Int} {b : Nat} {x : Int} (h1 : mr_bst s b x ≠ -1) : (mr_bst s b x).toNat < 2 ^ (s (6 + 11 * b + 4)).toNat := by
  rcases mr_best_in s b x (2 ^ (s (6 + 11 * b + 4)).toNat) with h | ⟨h2, h3⟩
  · exact absurd h h1
  · have h2 : 0 ≤ mr_bst s b x := h2
    have h3 : mr_bst s b x < ((2 ^ (s (6 + 11 * b + 4)).toNat : Nat) : Int) := h3
    omega
/-- a greater height wants as many at least -/
theorem pb_mono {s : Nat → Int} {b : Nat} {x : Int} (h1 : mr_bst s b (x + 1) ≠ -1) : mr_bst s b x ≠ -1 ∧ mb_pop (mr_bst s b x).toNat ≤ mb_pop (mr_bst s b (x + 1)).toNat := by
  have h2 := pb_ho h1
  exact (pb_min (s := s) (b := b) (h := x) (2 ^ (s (6 + 11 * b + 4)).toNat)).2 _ (pb_lt h1) (by omega)
theorem pb_cnt {s : Nat → Int} (h : pn_I s) {b : Nat} (hb : b < 10) (hh : s (6 + 11 * b) = 1) {x : Int} (h1 : mr_bst s b x ≠ -1) :
    mb_pop (mr_bst s b x).toNat ≤ s (6 + 11 * b + 4) ∧ mr_bal s b 0 - mr_bal s b (mr_bst s b x).toNat ≤ mr_bal s b 0 ∧ mb_pop (mr_bst s b x).toNat ≤ mr_bal s b 0 - mr_bal s b (mr_bst s b x).toNat := by
  have hn := h.1.bags hb
  have e := mb_pop_n (n := (s (6 + 11 * b + 4)).toNat) (by omega) (pb_lt h1)
  have et := pn_bal_t (s := s) b (mr_bst s b x).toNat
  have h0 := mr_bal0 h.1 hb (mr_bst s b x).toNat
  have c1 : mz_s (fun k => if (mr_bst s b x).toNat.testBit k then (1 : Int) else 0) (s (6 + 11 * b + 4)).toNat ≤ (s (6 + 11 * b + 4)).toNat * 1 := mz_s_20 fun i _ => by
    show (if (mr_bst s b x).toNat.testBit i then (1 : Int) else 0) ≤ 1
    split <;> omega
  have c2 : mz_s (fun k => if (mr_bst s b x).toNat.testBit k then (1 : Int) else 0) (s (6 + 11 * b + 4)).toNat ≤ pn_set s b (mr_bst s b x).toNat (s (6 + 11 * b + 4)).toNat := mz_s_le fun i hi => by
    show (if (mr_bst s b x).toNat.testBit i then (1 : Int) else 0) ≤ if (mr_bst s b x).toNat.testBit i = true then s (6 + 11 * b + (5 + i)) else 0
    have := (h.2.1 b hb hh).2.2.2 i (by omega)
    split <;> omega
  rw [e]
  exact ⟨by omega, by omega, by omega⟩
/-- what the set leaves lifts so high -/
theorem pb_lift {s : Nat → Int} {b : Nat} {x : Int} (hx : 1 ≤ x) (h1 : mr_bst s b x ≠ -1) : x ≤ s (6 + 11 * b + 1) - mr_bal s b (mr_bst s b x).toNat := by
  have h2 := pb_ho h1
  unfold mr_ho mr_sp at h2
  repeat' split at h2
  all_goals omega
theorem pb_none {s : Nat → Int} {b : Nat} {x : Int} (h1 : mr_bst s b x = -1) : mr_bst s b (x + 1) = -1 := Classical.byContradiction fun q => (pb_mono q).1 h1
theorem pb_pos {s : Nat → Int} (h : pn_I s) {b : Nat} (hb : b < 10) {x : Int} (h1 : mr_bst s b x ≠ -1) (h2 : ¬ x ≤ mr_ho s b 0) : 0 < mb_pop (mr_bst s b x).toNat := by
  have h3 := mb_pop0 (mr_bst s b x).toNat
  have h4 : mb_pop (mr_bst s b x).toNat ≠ 0 := fun q => h2 ((pb_zero h hb).mp ⟨h1, q⟩)
  omega
theorem pn_ho_sp (s : Nat → Int) (b t : Nat) : mr_ho s b t ≤ mr_sp s b t := by
  unfold mr_ho
  split <;> omega
