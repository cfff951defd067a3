/-! numbers against 0; bits -/
theorem nZ_lt0 {x : Int} (hx : nS x) : nZ x < 0 ↔ x < 0 := nZ_lt (y := 0) hx ⟨by decide, by decide⟩
theorem nZ_le0 {x : Int} (hx : nS x) : nZ x ≤ 0 ↔ x ≤ 0 := nZ_le (y := 0) hx ⟨by decide, by decide⟩
theorem nZ_0le {x : Int} (hx : nS x) : 0 ≤ nZ x ↔ 0 ≤ x := nZ_le (x := 0) ⟨by decide, by decide⟩ hx
theorem nZ_0lt {x : Int} (hx : nS x) : 0 < nZ x ↔ 0 < x := nZ_lt (x := 0) ⟨by decide, by decide⟩ hx
theorem nZ_eq0 {x : Int} (hx : nS x) : nZ x = 0 ↔ x = 0 := nZ_inj (y := 0) hx ⟨by decide, by decide⟩
theorem mb_bit_t : ∀ s : Fin 64, ∀ k : Fin 6, decide (nZ ((s : Nat) : Int) &&& (nZ 1 <<< (nZ ((k : Nat) : Int) &&& 31)) = 0) = !((s : Nat).testBit k) := by decide +kernel
theorem mb_bit {s k : Nat} (hs : s < 64) (hk : k < 6) : (nZ s &&& (nZ 1 <<< (nZ k &&& 31)) = 0) ↔ s.testBit k = false := by
  have h := mb_bit_t ⟨s, hs⟩ ⟨k, hk⟩
  simp only at h
  rw [← decide_eq_true_iff (p := nZ s &&& (nZ 1 <<< (nZ k &&& 31)) = 0), h]
  simp
/-! A BALLOON at b (its bags at b + 1) -/
def mz_B (P : mz_P) (b : Nat) : Prop := P.1 b = some (.inl 4) ∧ P.2 b 6 = some (b + 1) ∧ P.1 (b + 1) = some (.inr (.int, 6))
def mz_BI (V : mz_V) (b : Nat) : Prop := (V b 0 = 0 ∨ V b 0 = 1) ∧ (1 ≤ V b 1) ∧ (V b 1 ≤ 99) ∧ (1 ≤ V b 2) ∧ (V b 2 ≤ 40) ∧ (1 ≤ V b 3) ∧ (V b 3 ≤ 60) ∧ (0 ≤ V b 5) ∧ (V b 5 ≤ 6) ∧ (∀ k, k < 6 → 0 ≤ V (b + 1) k) ∧ (∀ k, k < 6 → V (b + 1) k ≤ 20) ∧ (∀ k : Nat, (k : Int) < V b 5 → 1 ≤ V (b + 1) k) ∧ (V b 4 = mz_s (V (b + 1)) (V b 5).toNat)
theorem mz_BI.moored {V : mz_V} {b : Nat} (h : mz_BI V b) : V b 0 = 0 ∨ V b 0 = 1 := h.1
theorem mz_BI.lift1 {V : mz_V} {b : Nat} (h : mz_BI V b) : 1 ≤ V b 1 := h.2.1
theorem mz_BI.lift2 {V : mz_V} {b : Nat} (h : mz_BI V b) : V b 1 ≤ 99 := h.2.2.1
theorem mz_BI.string1 {V : mz_V} {b : Nat} (h : mz_BI V b) : 1 ≤ V b 2 := h.2.2.2.1
theorem mz_BI.string2 {V : mz_V} {b : Nat} (h : mz_BI V b) : V b 2 ≤ 40 := h.2.2.2.2.1
theorem mz_BI.strength1 {V : mz_V} {b : Nat} (h : mz_BI V b) : 1 ≤ V b 3 := h.2.2.2.2.2.1
theorem mz_BI.strength2 {V : mz_V} {b : Nat} (h : mz_BI V b) : V b 3 ≤ 60 := h.2.2.2.2.2.2.1
theorem mz_BI.count1 {V : mz_V} {b : Nat} (h : mz_BI V b) : 0 ≤ V b 5 := h.2.2.2.2.2.2.2.1
theorem mz_BI.count2 {V : mz_V} {b : Nat} (h : mz_BI V b) : V b 5 ≤ 6 := h.2.2.2.2.2.2.2.2.1
theorem mz_BI.bag1 {V : mz_V} {b : Nat} (h : mz_BI V b) : ∀ k, k < 6 → 0 ≤ V (b + 1) k := h.2.2.2.2.2.2.2.2.2.1
theorem mz_BI.bag2 {V : mz_V} {b : Nat} (h : mz_BI V b) : ∀ k, k < 6 → V (b + 1) k ≤ 20 := h.2.2.2.2.2.2.2.2.2.2.1
theorem mz_BI.bag3 {V : mz_V} {b : Nat} (h : mz_BI V b) : ∀ k : Nat, (k : Int) < V b 5 → 1 ≤ V (b + 1) k := h.2.2.2.2.2.2.2.2.2.2.2.1
theorem mz_BI.ballast {V : mz_V} {b : Nat} (h : mz_BI V b) : V b 4 = mz_s (V (b + 1)) (V b 5).toNat := h.2.2.2.2.2.2.2.2.2.2.2.2
theorem mz_s_0 {f : Nat → Int} : ∀ {n : Nat}, (∀ i, i < n → 0 ≤ f i) → 0 ≤ mz_s f n
  | 0, _ => Int.le_refl 0
  | n + 1, h => by
    have := mz_s_0 (f := f) (n := n) fun i hi => h i (by omega)
    have := h n (by omega)
    show 0 ≤ mz_s f n + f n
    omega
theorem mz_s_20 {f : Nat → Int} {m : Int} : ∀ {n : Nat}, (∀ i, i < n → f i ≤ m) → mz_s f n ≤ n * m
  | 0, _ => by show (0 : Int) ≤ ((0 : Nat) : Int) * m; simp
  | n + 1, h => by
    have h1 := mz_s_20 (f := f) (m := m) (n := n) fun i hi => h i (by omega)
    have h2 := h n (by omega)
    show mz_s f n + f n ≤ ((n + 1 : Nat) : Int) * m
    rw [Int.natCast_add, Int.add_mul]
    omega
theorem mz_BI.bal0 {V : mz_V} {b : Nat} (h : mz_BI V b) : 0 ≤ V b 4 := by
  rw [h.ballast]
  exact mz_s_0 fun i hi => h.bag1 i (by have := h.count1; have := h.count2; omega)
theorem mz_BI.bal1 {V : mz_V} {b : Nat} (h : mz_BI V b) : V b 4 ≤ 120 := by
  have h1 := mz_s_20 (f := V (b + 1)) (m := 20) (n := (V b 5).toNat) fun i hi => h.bag2 i (by have := h.count1; have := h.count2; omega)
  have := h.count1
  have := h.count2
  rw [h.ballast]
  omega
def mb_hw (V : mz_V) (b : Nat) (w : Int) : Int := if (if w < V b 1 then V b 1 - w else 0) < V b 2 then (if w < V b 1 then V b 1 - w else 0) else V b 2
section BAL
variable {X : mv_X} {P : mz_P} {V : mz_V} {z : Nat × Nat} {b d : Nat}
theorem X0_spareLift (hB : mz_B P b) (hI : mz_BI V b) : mv_call X (d + 1) 3 [.ref b] (mz_h P V, z) = some (.inl (some (.int (nZ (if V b 4 < V b 1 then V b 1 - V b 4 else 0)))), (mz_h P V, z)) := by
  have h1 := hI.lift1; have h2 := hI.lift2; have h3 := hI.bal0; have h4 := hI.bal1
  rw [mc_X0_spareLift, bk_X0_spareLift_0]
  simp (disch := first | decide | (refine ⟨?_, ?_⟩ <;> omega)) only [mz_gI hB.1, nZ_sub, nZ_le]
  repeat' split
  all_goals first | rfl | omega
theorem X0_heightWith (hB : mz_B P b) (hI : mz_BI V b) {w : Int} (hw : 0 ≤ w) (hw2 : w ≤ 1000) : mv_call X (d + 1) 4 [.ref b, .int (nZ w)] (mz_h P V, z) = some (.inl (some (.int (nZ (mb_hw V b w)))), (mz_h P V, z)) := by
  have h1 := hI.lift1; have h2 := hI.lift2; have h3 := hI.string1; have h4 := hI.string2
  rw [mc_X0_heightWith, bk_X0_heightWith_0]
  simp (disch := first | decide | (refine ⟨?_, ?_⟩ <;> omega)) only [mz_gI hB.1, nZ_sub, nZ_le]
  unfold mb_hw
  repeat' split
  all_goals first | rfl | omega
theorem X0_presentHeight (hB : mz_B P b) (hI : mz_BI V b) : mv_call X (d + 2) 5 [.ref b] (mz_h P V, z) = some (.inl (some (.int (nZ (mb_hw V b (V b 4))))), (mz_h P V, z)) := by
  rw [mc_X0_presentHeight, bk_X0_presentHeight_0]
  simp (disch := decide) only [mz_gI hB.1, mz_rcv hB.1, mv_clI, mv_cl, X0_heightWith hB hI hI.bal0 (by have := hI.bal1; omega)]
theorem mb_hw0 (hI : mz_BI V b) (w : Int) : 0 ≤ mb_hw V b w := by
  have h1 := hI.string1
  unfold mb_hw
  repeat' split
  all_goals omega
theorem mb_hw40 (hI : mz_BI V b) (w : Int) : mb_hw V b w ≤ 40 := by
  have h1 := hI.string2
  unfold mb_hw
  repeat' split
  all_goals omega
theorem X0_isOverstrained (hB : mz_B P b) (hI : mz_BI V b) : mv_call X (d + 3) 6 [.ref b] (mz_h P V, z) = some (.inl (some (.int (nZ (if V b 3 < mb_hw V b (V b 4) then 1 else 0)))), (mz_h P V, z)) := by
  have h1 := mb_hw0 hI (V b 4); have h2 := mb_hw40 hI (V b 4); have h3 := hI.strength1; have h4 := hI.strength2
  rw [mc_X0_isOverstrained, bk_X0_isOverstrained_0]
  simp (disch := decide) only [mz_gI hB.1, mz_rcv hB.1, mv_clI, mv_cl, X0_heightWith hB hI hI.bal0 (by have := hI.bal1; omega)]
  simp (disch := first | decide | (refine ⟨?_, ?_⟩ <;> omega)) only [nZ_le]
  repeat' split
  all_goals first | rfl | omega
theorem X0_hasBag (hB : mz_B P b) (hI : mz_BI V b) {k : Int} (hk : nS k) : mv_call X (d + 1) 8 [.ref b, .int (nZ k)] (mz_h P V, z) = some (.inl (some (.int (nZ (if 0 ≤ k ∧ k < V b 5 then 1 else 0)))), (mz_h P V, z)) := by
  have h1 := hI.count1; have h2 := hI.count2
  rw [mc_X0_hasBag, bk_X0_hasBag_0]
  simp (disch := first | decide | assumption | (refine ⟨?_, ?_⟩ <;> omega)) only [mz_gI hB.1, nZ_le, nZ_lt0]
  repeat' split
  all_goals first | rfl | omega
theorem X0_begin (hB : mz_B P b) {l s t : Int} : mv_call X (d + 1) 2 [.ref b, .int (nZ l), .int (nZ s), .int (nZ t)] (mz_h P V, z) = some (.inl none, (mz_h P (mz_u (mz_u (mz_u (mz_u (mz_u (mz_u V b 0 1) b 1 l) b 2 s) b 3 t) b 4 0) b 5 0), z)) := by
  rw [mc_X0_begin, bk_X0_begin_0, mv_chk_t (by decide)]
  simp (disch := decide) only [mz_pf hB.1]
/-- the weight of the bags k with bit k in a set -/
def mb_wt (V : mz_V) (b s : Nat) (n : Nat) : Int := mz_s (fun k => if s.testBit k then V (b + 1) k else 0) n
theorem X0_weightOf (hB : mz_B P b) (hI : mz_BI V b) {s : Nat} (hs : s < 64) : mv_call X (d + 1) 11 [.ref b, .int (nZ s)] (mz_h P V, z) = some (.inl (some (.int (nZ (mb_wt V b s (V b 5).toNat)))), (mz_h P V, z)) := by
  have h1 := hI.count1; have h2 := hI.count2
  rw [mc_X0_weightOf, bk_X0_weightOf_0]
  refine mz_loop (φ := fun i => mv_run X (mv_call X d) m_X0_weightOf 4 [.ref b, .int (nZ s), .int (nZ (mb_wt V b s i)), .int (nZ i)] [] (mz_h P V, z) = _) (V b 5).toNat ?_ (fun i hi ih => ?_) 0 (Nat.zero_le _)
  · show mv_run X (mv_call X d) m_X0_weightOf 4 _ _ _ = _
    rw [bk_X0_weightOf_4]
    simp (disch := first | decide | assumption | (refine ⟨?_, ?_⟩ <;> omega)) only [mz_gI hB.1, nZ_le]
    rw [if_pos (by omega)]
  · show mv_run X (mv_call X d) m_X0_weightOf 4 _ _ _ = _
    have ih : mv_run X (mv_call X d) m_X0_weightOf 4 [.ref b, .int (nZ s), .int (nZ (mb_wt V b s (i + 1))), .int (nZ (i + 1 : Nat))] [] (mz_h P V, z) = _ := ih
    rw [bk_X0_weightOf_4]
    simp (disch := first | decide | assumption | (refine ⟨?_, ?_⟩ <;> omega)) only [mz_gI hB.1, nZ_le, mb_bit hs (show i < 6 by omega), mz_gR hB.1 (show mz_fr 4 6 = true by decide) hB.2.1]
    rw [if_neg (by omega)]
    rw [mz_aI hB.2.2 (by decide) (j := i) (nZ_i ⟨by omega, by omega⟩) (by omega)]
    have e : mb_wt V b s (i + 1) = mb_wt V b s i + if s.testBit i then V (b + 1) i else 0 := rfl
    rw [e] at ih
    simp only [nZ_add]
    have e2 : ((i + 1 : Nat) : Int) = (i : Int) + 1 := by omega
    rw [e2] at ih
    by_cases hb : s.testBit i = true
    · rw [if_neg (by rw [hb]; decide)]
      rw [if_pos hb] at ih
      exact ih
    · rw [if_pos (by simpa using hb)]
      rw [if_neg hb, Int.add_zero] at ih
      exact ih
end BAL
