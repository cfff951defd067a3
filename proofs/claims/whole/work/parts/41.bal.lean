/-! numbers against 0; bits -/
theorem nZ_lt0 {x : Int} (hx : nS x) : nZ x < 0 ↔ x < 0 := nZ_lt (y := 0) hx ⟨by decide, by decide⟩
theorem nZ_le0 {x : Int} (hx : nS x) : nZ x ≤ 0 ↔ x ≤ 0 := nZ_le (y := 0) hx ⟨by decide, by decide⟩
theorem nZ_0le {x : Int} (hx : nS x) : 0 ≤ nZ x ↔ 0 ≤ x := nZ_le (x := 0) ⟨by decide, by decide⟩ hx
theorem nZ_0lt {x : Int} (hx : nS x) : 0 < nZ x ↔ 0 < x := nZ_lt (x := 0) ⟨by decide, by decide⟩ hx
theorem nZ_eq0 {x : Int} (hx : nS x) : nZ x = 0 ↔ x = 0 := nZ_inj (y := 0) hx ⟨by decide, by decide⟩
theorem mb_bit_t : ∀ s : Fin 64, ∀ k : Fin 6, decide (nZ ((s : Nat) : Int) &&& (nZ 1 <<< (nZ ((k : Nat) : Int) &&& 31)) = 0) = !((s : Nat).testBit k) := by decide +kernel
theorem mb_bit {s k : Nat} (hs : s < 64) (hk : k < 6) : (nZ s &&& (nZ 1 <<< (nZ k &&& 31)) = 0) ↔ s.testBit k = false := by
  have h := mb_bit_t ⟨s, hs⟩ ⟨k, hk⟩
  simp only at h
  rw [← decide_eq_true_iff (p := nZ s &&& (nZ 1 <<< (nZ k &&& 31)) = 0), h]
  simp
/-! A BALLOON at b (its bags at b + 1) -/
def mz_B (P : mz_P) (b : Nat) : Prop := P.1 b = some (.inl 4) ∧ P.2 b 6 = some (b + 1) ∧ P.1 (b + 1) = some (.inr (.int, 6))
structure mz_BI (V : mz_V) (b : Nat) : Prop where
  moored : V b 0 = 0 ∨ V b 0 = 1
  lift1 : 1 ≤ V b 1
  lift2 : V b 1 ≤ 99
  string1 : 1 ≤ V b 2
  string2 : V b 2 ≤ 40
  strength1 : 1 ≤ V b 3
  strength2 : V b 3 ≤ 60
  count1 : 0 ≤ V b 5
  count2 : V b 5 ≤ 6
  bag1 : ∀ k, k < 6 → 0 ≤ V (b + 1) k
  bag2 : ∀ k, k < 6 → V (b + 1) k ≤ 20
  bag3 : ∀ k : Nat, (k : Int) < V b 5 → 1 ≤ V (b + 1) k
  ballast : V b 4 = mz_s (V (b + 1)) (V b 5).toNat
theorem mz_s_0 {f : Nat → Int} : ∀ {n : Nat}, (∀ i, i < n → 0 ≤ f i) → 0 ≤ mz_s f n
  | 0, _ => Int.le_refl 0
  | n + 1, h => by
    have := mz_s_0 (f := f) (n := n) fun i hi => h i (by omega)
    have := h n (by omega)
    show 0 ≤ mz_s f n + f n
    omega
theorem mz_s_20 {f : Nat → Int} {m : Int} : ∀ {n : Nat}, (∀ i, i < n → f i ≤ m) → mz_s f n ≤ n * m
  | 0, _ => by show (0 : Int) ≤ ((0 : Nat) : Int) * m; simp
  | n + 1, h => by
    have h1 := mz_s_20 (f := f) (m := m) (n := n) fun i hi => h i (by omega)
    have h2 := h n (by omega)
    show mz_s f n + f n ≤ ((n + 1 : Nat) : Int) * m
    rw [Int.natCast_add, Int.add_mul]
    omega
theorem mz_BI.bal0 {V : mz_V} {b : Nat} (h : mz_BI V b) : 0 ≤ V b 4 := by
  rw [h.ballast]
  exact mz_s_0 fun i hi => h.bag1 i (by have := h.count1; have := h.count2; omega)
theorem mz_BI.bal1 {V : mz_V} {b : Nat} (h : mz_BI V b) : V b 4 ≤ 120 := by
  have h1 := mz_s_20 (f := V (b + 1)) (m := 20) (n := (V b 5).toNat) fun i hi => h.bag2 i (by have := h.count1; have := h.count2; omega)
  have := h.count1
  have := h.count2
  rw [h.ballast]
  omega
def mb_hw (V : mz_V) (b : Nat) (w : Int) : Int := if (if w < V b 1 then V b 1 - w else 0) < V b 2 then (if w < V b 1 then V b 1 - w else 0) else V b 2
section BAL
variable {X : mv_X} {P : mz_P} {V : mz_V} {z : Nat × Nat} {b d : Nat}
theorem X0_spareLift (hB : mz_B P b) (hI : mz_BI V b) : mv_call X (d + 1) 3 [.ref b] (mz_h P V, z) = some (.inl (some (.int (nZ (if V b 4 < V b 1 then V b 1 - V b 4 else 0)))), (mz_h P V, z)) := by
  have h1 := hI.lift1; have h2 := hI.lift2; have h3 := hI.bal0; have h4 := hI.bal1
  rw [mc_X0_spareLift, bk_X0_spareLift_0]
  simp (disch := rfl) only [mz_gI hB.1, nZ_sub]
  rw [nZ_le (by constructor <;> omega) (by constructor <;> omega)]
  split <;> split <;> first | rfl | omega
theorem X0_heightWith (hB : mz_B P b) (hI : mz_BI V b) {w : Int} (hw : 0 ≤ w) (hw2 : w ≤ 1000) : mv_call X (d + 1) 4 [.ref b, .int (nZ w)] (mz_h P V, z) = some (.inl (some (.int (nZ (mb_hw V b w)))), (mz_h P V, z)) := by
  have h1 := hI.lift1; have h2 := hI.lift2; have h3 := hI.string1; have h4 := hI.string2
  rw [mc_X0_heightWith, bk_X0_heightWith_0]
  simp (disch := rfl) only [mz_gI hB.1, nZ_sub]
  rw [nZ_le (by constructor <;> omega) (by constructor <;> omega), nZ_le (by constructor <;> omega) (by constructor <;> omega)]
  unfold mb_hw
  by_cases e : V b 1 ≤ w
  · rw [if_pos e, if_neg (by omega), if_pos (by omega), if_neg (by rw [nZ_le (by constructor <;> omega) (by constructor <;> omega)]; omega)]
  · rw [if_neg e, if_pos (by omega)]
    by_cases e2 : V b 2 ≤ V b 1 - w
    · rw [if_pos e2, if_neg (by omega)]
    · rw [if_neg e2, if_pos (by omega)]
theorem X0_presentHeight (hB : mz_B P b) (hI : mz_BI V b) : mv_call X (d + 2) 5 [.ref b] (mz_h P V, z) = some (.inl (some (.int (nZ (mb_hw V b (V b 4))))), (mz_h P V, z)) := by
  rw [mc_X0_presentHeight, bk_X0_presentHeight_0]
  simp (disch := rfl) only [mz_gI hB.1, mz_rcv hB.1, mv_clI, mv_cl, X0_heightWith hB hI hI.bal0 (by have := hI.bal1; omega)]
end BAL
