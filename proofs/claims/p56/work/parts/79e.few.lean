/-! FEWEST BAGS: the heaviest first -/
theorem mb_or0_t : ∀ T : Fin 64, nZ ((T : Nat) : Int) ||| nZ 0 = nZ ((T : Nat) : Int) := by decide +kernel
theorem mb_or2 {T e : Nat} (hT : T < 64) (he : e < 6) : nZ T ||| nZ (2 ^ e : Nat) = nZ (T ||| 2 ^ e : Nat) := by
  rw [← mb_shl_t e (by omega)]
  exact mb_or (by omega) (by omega)
theorem cw_lt_t : ∀ n, n < 7 → ∀ T, T < 2 ^ n → ∀ e, e < n → T ||| 2 ^ e < 2 ^ n := by decide +kernel
section FEW
variable {X : mv_X} {P : mz_P} {V : mz_V} {z : Nat × Nat} {b d : Nat} {h : Int}
theorem mb_hw_m {w w' : Int} (hw : w ≤ w') : mb_hw V b w' ≤ mb_hw V b w := by
  unfold mb_hw
  repeat' split
  all_goals omega
theorem mb_btr_t {i j : Nat} (hb : mb_btr V b i j = true) : mb_pop i ≤ mb_pop j := by
  unfold mb_btr at hb
  by_cases e : mb_pop i = mb_pop j
  · omega
  · rw [if_neg e] at hb
    have := of_decide_eq_true hb
    omega
theorem mb_btr_f {i j : Nat} (hb : ¬ mb_btr V b i j = true) : mb_pop j ≤ mb_pop i := by
  unfold mb_btr at hb
  by_cases e : mb_pop i = mb_pop j
  · omega
  · rw [if_neg e] at hb
    have : ¬ mb_pop i < mb_pop j := fun q => hb (decide_eq_true q)
    omega
theorem mb_best_min : ∀ N : Nat, (mb_best V b h N ≠ -1 → h ≤ mb_hw V b (V b 4 - mb_wt V b (mb_best V b h N).toNat (V b 5).toNat)) ∧ ∀ i, i < N → h ≤ mb_hw V b (V b 4 - mb_wt V b i (V b 5).toNat) → mb_best V b h N ≠ -1 ∧ mb_pop (mb_best V b h N).toNat ≤ mb_pop i
  | 0 => ⟨fun q => absurd rfl q, fun i hi => absurd hi (Nat.not_lt_zero _)⟩
  | N + 1 => by
    obtain ⟨h1, h2⟩ := mb_best_min N
    have e : mb_best V b h (N + 1) = if h ≤ mb_hw V b (V b 4 - mb_wt V b N (V b 5).toNat) ∧ (mb_best V b h N = -1 ∨ mb_btr V b N (mb_best V b h N).toNat = true) then (N : Int) else mb_best V b h N := rfl
    by_cases c : h ≤ mb_hw V b (V b 4 - mb_wt V b N (V b 5).toNat) ∧ (mb_best V b h N = -1 ∨ mb_btr V b N (mb_best V b h N).toNat = true)
    · rw [if_pos c] at e
      rw [e, Int.toNat_natCast]
      refine ⟨fun _ => c.1, fun i hi hs => ⟨by omega, ?_⟩⟩
      by_cases ei : i = N
      · rw [ei]; exact Int.le_refl _
      · have := h2 i (by omega) hs
        rcases c.2 with q | q
        · exact absurd q this.1
        · have := mb_btr_t q
          omega
    · rw [if_neg c] at e
      rw [e]
      refine ⟨h1, fun i hi hs => ?_⟩
      by_cases ei : i = N
      · rw [ei] at hs ⊢
        have c1 : mb_best V b h N ≠ -1 := fun q => c ⟨hs, Or.inl q⟩
        exact ⟨c1, mb_btr_f (V := V) (b := b) (fun q => c ⟨hs, Or.inr q⟩)⟩
      · exact h2 i (by omega) hs
theorem X0_heaviest (hB : mz_B P b) (hI : mz_BI V b) {T : Nat} (hT : T < 64) : ∃ y : Int, mv_call X (d + 1) 15 [.ref b, .int (nZ T)] (mz_h P V, z) = some (.inl (some (.int (nZ y))), (mz_h P V, z)) ∧
    ((y = 0 ∧ ∀ j : Nat, (j : Int) < V b 5 → T.testBit j = true) ∨ ∃ e : Nat, (e : Int) < V b 5 ∧ T.testBit e = false ∧ y = (2 ^ e : Nat) ∧ ∀ j : Nat, (j : Int) < V b 5 → T.testBit j = false → V (b + 1) j ≤ V (b + 1) e) := by
  have h5 := hI.count1
  have h6 := hI.count2
  obtain ⟨n, hn⟩ : ∃ n : Nat, V b 5 = n := ⟨(V b 5).toNat, by omega⟩
  have key : ∀ k i : Nat, i + k = n → ∀ y u : Int, ((y = 0 ∧ u = 0 ∧ ∀ j : Nat, j < i → T.testBit j = true) ∨ ∃ e : Nat, e < i ∧ T.testBit e = false ∧ y = (2 ^ e : Nat) ∧ u = V (b + 1) e ∧ ∀ j : Nat, j < i → T.testBit j = false → V (b + 1) j ≤ V (b + 1) e) →
      ∃ y' : Int, mv_run X (mv_call X d) m_X0_heaviestOutside 7 [.ref b, .int (nZ T), .int (nZ y), .int (nZ u), .int (nZ i)] [] (mz_h P V, z) = some (.inl (some (.int (nZ y'))), (mz_h P V, z)) ∧
      ((y' = 0 ∧ ∀ j : Nat, (j : Int) < V b 5 → T.testBit j = true) ∨ ∃ e : Nat, (e : Int) < V b 5 ∧ T.testBit e = false ∧ y' = (2 ^ e : Nat) ∧ ∀ j : Nat, (j : Int) < V b 5 → T.testBit j = false → V (b + 1) j ≤ V (b + 1) e) := by
    intro k
    induction k with
    | zero =>
      intro i hi y u hyu
      have : i = n := by omega
      subst this
      refine ⟨y, ?_, ?_⟩
      · rw [bk_X0_heaviestOutside_7, mz_gI hB.1 (by decide), hn, if_pos (by exact Int32.le_refl _)]
      · rw [hn]
        rcases hyu with ⟨q1, q2, q3⟩ | ⟨e, q1, q2, q3, q4, q5⟩
        · exact Or.inl ⟨q1, fun j hj => q3 j (by omega)⟩
        · exact Or.inr ⟨e, by omega, q2, q3, fun j hj => q5 j (by omega)⟩
    | succ k ih =>
      intro i hi y u hyu
      have hi6 : i < 6 := by omega
      have ih := ih (i + 1) (by omega)
      rw [nc1] at ih
      simp only [hn] at ih
      have b1 := hI.bag3 i (by omega)
      have b2 := hI.bag2 i (by omega)
      rw [bk_X0_heaviestOutside_7, mz_gI hB.1 (by decide), hn, if_neg (by rw [nZ_le ⟨by omega, by omega⟩ ⟨by omega, by omega⟩]; omega)]
      by_cases c : T.testBit i = false
      · rw [if_pos ((mb_bit hT hi6).mpr c), mz_gR hB.1 (by decide) hB.2.1, mz_aJ hB.2.2 (by omega) (by omega) (by decide), Int.toNat_natCast, mb_shl_t i (by omega), nZ_add]
        have hu : -1 ≤ u ∧ u ≤ 20 := by
          rcases hyu with ⟨q1, q2, q3⟩ | ⟨e, q1, q2, q3, q4, q5⟩
          · omega
          · have := hI.bag3 e (by omega)
            have := hI.bag2 e (by omega)
            omega
        by_cases cu : V (b + 1) i ≤ u
        · rw [if_pos ((nZ_le ⟨by omega, by omega⟩ ⟨by omega, by omega⟩).mpr cu)]
          refine ih y u ?_
          rcases hyu with ⟨q1, q2, q3⟩ | ⟨e, q1, q2, q3, q4, q5⟩
          · omega
          · refine Or.inr ⟨e, by omega, q2, q3, q4, fun j hj hb => ?_⟩
            by_cases ej : j = i
            · subst ej; omega
            · exact q5 j (by omega) hb
        · rw [if_neg (fun q => cu ((nZ_le ⟨by omega, by omega⟩ ⟨by omega, by omega⟩).mp q)), mz_gR hB.1 (by decide) hB.2.1, mz_aJ hB.2.2 (by omega) (by omega) (by decide), Int.toNat_natCast]
          refine ih _ _ (Or.inr ⟨i, by omega, c, rfl, rfl, fun j hj hb => ?_⟩)
          by_cases ej : j = i
          · subst ej; exact Int.le_refl _
          · rcases hyu with ⟨q1, q2, q3⟩ | ⟨e, q1, q2, q3, q4, q5⟩
            · rw [q3 j (by omega)] at hb
              exact absurd hb (by decide)
            · have := q5 j (by omega) hb
              omega
      · have c : T.testBit i = true := by
          cases hb : T.testBit i with
          | false => exact absurd hb c
          | true => rfl
        rw [if_neg (fun q => by rw [(mb_bit hT hi6).mp q] at c; exact absurd c (by decide)), nZ_add]
        refine ih y u ?_
        rcases hyu with ⟨q1, q2, q3⟩ | ⟨e, q1, q2, q3, q4, q5⟩
        · refine Or.inl ⟨q1, q2, fun j hj => ?_⟩
          by_cases ej : j = i
          · subst ej; exact c
          · exact q3 j (by omega)
        · refine Or.inr ⟨e, by omega, q2, q3, q4, fun j hj hb => ?_⟩
          by_cases ej : j = i
          · subst ej; rw [c] at hb; exact absurd hb (by decide)
          · exact q5 j (by omega) hb
  obtain ⟨y', k1, k2⟩ := key n 0 (by omega) 0 0 (Or.inl ⟨rfl, rfl, fun j hj => absurd hj (Nat.not_lt_zero _)⟩)
  refine ⟨y', ?_, k2⟩
  rw [mc_X0_heaviestOutside, bk_X0_heaviestOutside_0]
  exact k1
theorem mb_pop_n {n S : Nat} (hn : n ≤ 6) (hS : S < 2 ^ n) : mb_pop S = mz_s (fun k => if S.testBit k then 1 else 0) n := mz_s_cut hn fun q q1 _ => if_neg (by
  have : S < 2 ^ q := Nat.lt_of_lt_of_le hS (Nat.pow_le_pow_right (by decide) q1)
  rw [Nat.testBit_lt_two_pow this]
  decide)
theorem X0_fewest (hB : mz_B P b) (hI : mz_BI V b) (hh : nS h) : mv_call X (d + 2) 14 [.ref b, .int (nZ h)] (mz_h P V, z) = some (.inl (some (.int (nZ (if mb_best V b h (2 ^ (V b 5).toNat) = -1 then -1 else mb_pop (mb_best V b h (2 ^ (V b 5).toNat)).toNat)))), (mz_h P V, z)) := by
  have h5 := hI.count1
  have h6 := hI.count2
  obtain ⟨n, hn⟩ : ∃ n : Nat, V b 5 = n := ⟨(V b 5).toNat, by omega⟩
  have hn6 : n ≤ 6 := by omega
  have h2n : 2 ^ n ≤ 64 := by have := mb_pow hI; rw [hn, Int.toNat_natCast] at this; exact this
  obtain ⟨m1, m2⟩ := mb_best_min (V := V) (b := b) (h := h) (2 ^ n)
  have m3 := mb_best_in V b h (2 ^ n)
  rw [hn, Int.toNat_natCast] at m1 m2
  rw [hn, Int.toNat_natCast]
  have key : ∀ k c : Nat, c + k = n + 1 → ∀ T : Nat, T < 2 ^ n → (c ≤ n → mb_pop T = c ∧ ∃ θ : Int, 0 ≤ θ ∧ ∀ j, j < n → (T.testBit j = true → θ ≤ V (b + 1) j) ∧ (T.testBit j = false → V (b + 1) j ≤ θ)) → (∀ S, S < 2 ^ n → mb_pop S < c → mb_hw V b (V b 4 - mb_wt V b S n) < h) →
      mv_run X (mv_call X (d + 1)) m_X0_fewestBagsByWeight 4 [.ref b, .int (nZ h), .int (nZ T), .int (nZ c)] [] (mz_h P V, z) = some (.inl (some (.int (nZ (if mb_best V b h (2 ^ n) = -1 then -1 else mb_pop (mb_best V b h (2 ^ n)).toNat)))), (mz_h P V, z)) := by
    intro k
    induction k with
    | zero =>
      intro c hc T hT hcn hno
      rw [bk_X0_fewestBagsByWeight_4, mz_gI hB.1 (by decide), hn, if_pos (by rw [nZ_lt ⟨by omega, by omega⟩ ⟨by omega, by omega⟩]; omega), if_pos]
      refine Classical.byContradiction fun q => ?_
      have a1 := m1 q
      have hlt : (mb_best V b h (2 ^ n)).toNat < 2 ^ n := by omega
      have a2 := hno _ hlt (by
        rw [mb_pop_n hn6 hlt]
        have := mz_s_b (f := fun k => if (mb_best V b h (2 ^ n)).toNat.testBit k then (1 : Int) else 0) (c := 1) (n := n) fun i _ => by split <;> omega
        omega)
      omega
    | succ k ih =>
      intro c hc T hT hcn hno
      have hcn2 : c ≤ n := by omega
      obtain ⟨pT, θ, θ0, hθ⟩ := hcn hcn2
      have hT64 : T < 64 := by omega
      have w0 := mb_wt0 hI T
      have w1 := mb_wt1 hI T
      rw [hn, Int.toNat_natCast] at w0 w1
      have hb := hI.bal1
      rw [bk_X0_fewestBagsByWeight_4, mz_gI hB.1 (by decide), hn, if_neg (by rw [nZ_lt ⟨by omega, by omega⟩ ⟨by omega, by omega⟩]; omega), mz_gI hB.1 (by decide), mz_rcv hB.1]
      have eW := X0_weightOf (X := X) (P := P) (V := V) (z := z) (d := d) hB hI hT64
      rw [hn, Int.toNat_natCast] at eW
      simp only [mv_clI, mv_cl, eW, nZ_sub, mz_rcv hB.1, X0_heightWith (X := X) (z := z) (d := d) hB hI (show 0 ≤ V b 4 - mb_wt V b T n by omega) (by omega)]
      have g0 := mb_hw0 hI (V b 4 - mb_wt V b T n)
      have g1 := mb_hw40 hI (V b 4 - mb_wt V b T n)
      by_cases cl : mb_hw V b (V b 4 - mb_wt V b T n) < h
      · rw [if_pos ((nZ_lt ⟨by omega, by omega⟩ hh).mpr cl)]
        obtain ⟨y, y1, y2⟩ := X0_heaviest (X := X) (z := z) (d := d) hB hI hT64
        simp only [y1, nZ_add]
        have hno2 : ∀ S, S < 2 ^ n → mb_pop S < (c + 1 : Nat) → mb_hw V b (V b 4 - mb_wt V b S n) < h := fun S hS hp => by
          have le : mb_wt V b S n ≤ mb_wt V b T n := by
            have t1 : mz_s (fun k => (if S.testBit k then V (b + 1) k else 0) + -θ * (if S.testBit k then 1 else 0)) n ≤ mz_s (fun k => (if T.testBit k then V (b + 1) k else 0) + -θ * (if T.testBit k then 1 else 0)) n := mz_s_le fun j hj => by
              have := hθ j hj
              show (if S.testBit j then V (b + 1) j else 0) + -θ * (if S.testBit j then 1 else 0) ≤ (if T.testBit j then V (b + 1) j else 0) + -θ * (if T.testBit j then 1 else 0)
              cases hs : S.testBit j <;> cases ht : T.testBit j <;> rw [ht] at this <;> simp at this ⊢ <;> omega
            rw [mz_s_add, mz_s_add] at t1
            have t2 : ∀ S : Nat, mz_s (fun k => -θ * (if S.testBit k then 1 else 0)) n = -θ * mz_s (fun k => if S.testBit k then 1 else 0) n := fun S => by
              have : ∀ N, mz_s (fun k => -θ * (if S.testBit k then 1 else 0)) N = -θ * mz_s (fun k => if S.testBit k then 1 else 0) N := by
                intro N
                induction N with
                | zero => show (0 : Int) = -θ * 0; rw [Int.mul_zero]
                | succ N ih =>
                  show mz_s (fun k => -θ * (if S.testBit k then 1 else 0)) N + -θ * (if S.testBit N then 1 else 0) = -θ * (mz_s (fun k => if S.testBit k then 1 else 0) N + (if S.testBit N then 1 else 0))
                  rw [ih, Int.mul_add]
              exact this n
            rw [t2, t2, ← mb_pop_n hn6 hS, ← mb_pop_n hn6 hT, pT] at t1
            have t1 : mb_wt V b S n + -θ * mb_pop S ≤ mb_wt V b T n + -θ * c := t1
            have t3 : θ * mb_pop S ≤ θ * c := Int.mul_le_mul_of_nonneg_left (by omega) θ0
            rw [Int.neg_mul, Int.neg_mul] at t1
            omega
          have := mb_hw_m (V := V) (b := b) (show V b 4 - mb_wt V b T n ≤ V b 4 - mb_wt V b S n by omega)
          omega
        have fin : ∀ T' : Nat, T' < 2 ^ n → (c + 1 ≤ n → mb_pop T' = (c + 1 : Nat) ∧ ∃ θ : Int, 0 ≤ θ ∧ ∀ j, j < n → (T'.testBit j = true → θ ≤ V (b + 1) j) ∧ (T'.testBit j = false → V (b + 1) j ≤ θ)) → mv_run X (mv_call X (d + 1)) m_X0_fewestBagsByWeight 4 [.ref b, .int (nZ h), .int (nZ T'), .int (nZ ((c : Int) + 1))] [] (mz_h P V, z) = some (.inl (some (.int (nZ (if mb_best V b h (2 ^ n) = -1 then -1 else mb_pop (mb_best V b h (2 ^ n)).toNat)))), (mz_h P V, z)) := fun T' h1 h2 => by
          have := ih (c + 1) (by omega) T' h1 h2 hno2
          rw [nc1] at this
          exact this
        rcases y2 with ⟨e1, e2⟩ | ⟨e, e1, e2, e3, e4⟩
        · rw [e1, mb_or0_t ⟨T, hT64⟩]
          refine fin T hT (fun q => ?_)
          exfalso
          have : mb_pop T = n := by
            rw [mb_pop_n hn6 hT, show mz_s (fun k => if T.testBit k then (1 : Int) else 0) n = mz_s (fun _ => 1) n from mz_s_c fun i hi => if_pos (e2 i (by omega))]
            have : ∀ N : Nat, mz_s (fun _ => (1 : Int)) N = N := by
              intro N
              induction N with
              | zero => rfl
              | succ N ih => show mz_s (fun _ => (1 : Int)) N + 1 = _; rw [ih]; omega
            exact this n
          omega
        · have he6 : e < 6 := by omega
          rw [e3, mb_or2 hT64 he6]
          obtain ⟨b1, b2, b3⟩ := cw_orb_t T hT64 e he6
          obtain ⟨o1, o2, o3, o4, o5⟩ := cw_or_t T hT64 e he6 e2
          refine fin _ (cw_lt_t n (by omega) T hT e (by omega)) (fun q => ⟨by rw [b3 e2, pT]; omega, V (b + 1) e, by have := hI.bag1 e he6; omega, fun j hj => ⟨fun hb => ?_, fun hb => ?_⟩⟩)
          · rw [o5 j (by omega)] at hb
            by_cases ej : j = e
            · subst ej; exact Int.le_refl _
            · rw [decide_eq_false ej, Bool.false_or] at hb
              have a1 := (hθ j hj).1 hb
              have a2 := (hθ e (by omega)).2 e2
              omega
          · rw [o5 j (by omega)] at hb
            rw [Bool.or_eq_false_iff] at hb
            exact e4 j (by omega) hb.2
      · rw [if_neg (fun q => cl ((nZ_lt ⟨by omega, by omega⟩ hh).mp q))]
        obtain ⟨a1, a2⟩ := m2 T hT (by omega)
        have hlt : (mb_best V b h (2 ^ n)).toNat < 2 ^ n := by omega
        have a3 := m1 a1
        have a4 : ¬ mb_pop (mb_best V b h (2 ^ n)).toNat < c := fun q => by
          have := hno _ hlt q
          omega
        rw [if_neg a1]
        have : mb_pop (mb_best V b h (2 ^ n)).toNat = c := by omega
        rw [this]
  rw [mc_X0_fewestBagsByWeight, bk_X0_fewestBagsByWeight_0]
  have e0 : mb_pop 0 = 0 := by decide
  exact key (n + 1) 0 (by omega) 0 (Nat.pow_pos (by decide)) (fun _ => ⟨e0, 20, by decide, fun j hj => ⟨fun hb => by rw [Nat.zero_testBit] at hb; exact absurd hb (by decide), fun _ => hI.bag2 j (by omega)⟩⟩) (fun S _ hp => by have := mb_pop0 S; omega)
end FEW
section FEWQ
variable {X : mv_X} {P : mz_P} {V : mz_V} {z : Nat × Nat} {x v n d : Nat} {s : Nat → Int}
theorem Q8_fewestDrops (hP : mX_P P x v n) (hI : mr_I s) (h : mh_R V (x + 1) s) {a b : Int} (ha : nS a) (hb : nS b) : mv_call X (d + 5) 98 [.ref x, .int (nZ a), .int (nZ b)] (mz_h P V, z) = mq_r P V z (mq_ds s a b) (mb_pop (mr_bst s a.toNat b).toNat) (mq_dx b) := by
  rw [mc_X8_fewestDrops, bk_X8_fewestDrops_0]
  unfold mq_ds mq_dx
  by_cases c1 : 1 ≤ b ∧ b ≤ 40
  · simp only [mv_clV, mv_clR, mv_clI, mv_cl, Y8_reqH_y hb c1, mz_rcv hP.o, if_pos c1]
    by_cases c2 : mr_has s a
    · obtain ⟨k, rfl, hk, hh⟩ := mr_has_h c2
      simp only [Y8_at_y hP hI h hk hh, mz_rcv (hP.h0.b hk).1, X0_fewest (hP.h0.b hk) (h.1 k hk).1 hb, mb_bst_eq h hk hh, Int.toNat_natCast]
      by_cases c3 : mr_bst s k b = -1
      · rw [mq_r1 (by rw [if_neg (fun q => q.2 c3)]; decide), if_pos c3, if_pos rfl]
        rfl
      · have p0 := mb_pop0 (mr_bst s k b).toNat
        have p6 := mb_pop6 (mr_bst s k b).toNat
        rw [mq_r0 (by rw [if_pos ⟨c2, c3⟩]), if_neg c3, if_neg (by rw [nZ_inj ⟨by omega, by omega⟩ (by decide)]; omega)]
    · rw [mq_r1 (by rw [if_neg (fun q => c2 q.1)]; decide)]
      simp only [Y8_at_n hP hI h ha c2]
      rfl
  · simp only [mv_clV, mv_cl, Y8_reqH_n hb c1, if_neg c1]
    rw [mq_r1 (by decide)]
    rfl
end FEWQ
