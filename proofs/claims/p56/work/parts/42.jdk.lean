/-! SMALL METHODS OF THE JDK, AND isWithin -/
def mb_pop (s : Nat) : Int := mz_s (fun k => if s.testBit k then 1 else 0) 6
theorem J6_bitCount {X : mv_X} {d s : Nat} {h : mv_H} (hs : s < 64) : mv_call X (d + 1) 264 [.int (nZ s)] h = some (.inl (some (.int (nZ (mb_pop s)))), h) := by
  rw [mc_J6_bitCount_0f7a4, bk_J6_bitCount_0f7a4_0]
  refine congrArg (fun x => some (Sum.inl (some (Value.int x)), h)) ?_
  clear h X d
  revert s
  decide +kernel
theorem J9_max {X : mv_X} {d : Nat} {x y : Int} {h : mv_H} (hx : nS x) (hy : nS y) : mv_call X (d + 1) 266 [.int (nZ x), .int (nZ y)] h = some (.inl (some (.int (nZ (if x < y then y else x)))), h) := by
  rw [mc_J9_max_7cf53, bk_J9_max_7cf53_0]
  simp (disch := assumption) only [nZ_lt]
  split <;> rfl
theorem J9_min {X : mv_X} {d : Nat} {x y : Int} {h : mv_H} (hx : nS x) (hy : nS y) : mv_call X (d + 1) 267 [.int (nZ x), .int (nZ y)] h = some (.inl (some (.int (nZ (if y < x then y else x)))), h) := by
  rw [mc_J9_min_7cf53, bk_J9_min_7cf53_0]
  simp (disch := assumption) only [nZ_lt]
  split <;> rfl
theorem J9_abs {X : mv_X} {d : Nat} {x : Int} {h : mv_H} (hx : nS x) : mv_call X (d + 1) 265 [.int (nZ x)] h = some (.inl (some (.int (nZ (if 0 ≤ x then x else -x)))), h) := by
  rw [mc_J9_abs_0f7a4, bk_J9_abs_0f7a4_0]
  simp (disch := assumption) only [nZ_0le, nZ_neg]
  split <;> rfl
theorem X8_isWithin {X : mv_X} {d : Nat} {x l u : Int} {h : mv_H} (hx : nS x) (hl : nS l) (hu : nS u) : mv_call X (d + 1) 146 [.int (nZ x), .int (nZ l), .int (nZ u)] h = some (.inl (some (.int (nZ (if l ≤ x ∧ x ≤ u then 1 else 0)))), h) := by
  rw [mc_X8_isWithin, bk_X8_isWithin_0]
  simp (disch := assumption) only [nZ_lt]
  repeat' split
  all_goals first | rfl | omega
theorem mb_shl_t : ∀ n, n < 7 → nZ 1 <<< (nZ ((n : Nat) : Int) &&& 31) = nZ ((2 ^ n : Nat) : Int) := by decide +kernel
def mb_lowk (i j : Nat) : Nat → Nat → Bool
  | 0, _ => false
  | n + 1, k => if i.testBit k = j.testBit k then mb_lowk i j n (k + 1) else i.testBit k
/-- the lowest of the bits that differ is in i -/
def mb_low (i j : Nat) : Bool := mb_lowk i j 6 0
theorem mb_low_t : ∀ i, i < 64 → ∀ j, j < 64 → decide (nZ ((i : Nat) : Int) &&& ((nZ ((i : Nat) : Int) ^^^ nZ ((j : Nat) : Int)) &&& (-(nZ ((i : Nat) : Int) ^^^ nZ ((j : Nat) : Int)))) = 0) = !mb_low i j := by decide +kernel
theorem mb_low_ok {i j : Nat} (hi : i < 64) (hj : j < 64) : (nZ i &&& ((nZ i ^^^ nZ j) &&& (-(nZ i ^^^ nZ j))) = 0) ↔ mb_low i j = false := by
  rw [← decide_eq_true_iff (p := nZ i &&& ((nZ i ^^^ nZ j) &&& (-(nZ i ^^^ nZ j))) = 0), mb_low_t i hi j hj]
  simp
theorem mb_pop0 (s : Nat) : 0 ≤ mb_pop s := mz_s_0 fun i _ => by split <;> omega
theorem mb_pop6 (s : Nat) : mb_pop s ≤ 6 := by
  have := mz_s_20 (f := fun k => if s.testBit k then (1 : Int) else 0) (m := 1) (n := 6) fun i _ => by split <;> omega
  exact this
