/-! A HARBOUR TOLD BY THE REFERENCE'S NUMBERS -/
theorem mz_BI_c {V V' : mz_V} {b : Nat} (h1 : V' b = V b) (h2 : V' (b + 1) = V (b + 1)) (h : mz_BI V b) : mz_BI V' b := by
  unfold mz_BI
  rw [h1, h2]
  exact h
theorem mp_I_c {V V' : mz_V} {q : Nat} (h1 : V' q = V q) (h : mp_I V q) : mp_I V' q := by
  unfold mp_I
  rw [h1]
  exact h
/-- berth i -/
def mb_R (V : mz_V) (a : Nat) (s : Nat → Int) (i : Nat) : Prop := mz_BI V (a + 5 + 2 * i) ∧ V (a + 5 + 2 * i) 0 = s (6 + 11 * i) ∧
  (s (6 + 11 * i) = 1 → V (a + 5 + 2 * i) 1 = s (6 + 11 * i + 1) ∧ V (a + 5 + 2 * i) 2 = s (6 + 11 * i + 2) ∧ V (a + 5 + 2 * i) 3 = s (6 + 11 * i + 3) ∧ V (a + 5 + 2 * i) 5 = s (6 + 11 * i + 4) ∧ ∀ k : Nat, (k : Int) < V (a + 5 + 2 * i) 5 → V (a + 5 + 2 * i + 1) k = s (6 + 11 * i + (5 + k))) ∧
  (s (6 + 11 * i) = 0 → ∀ k, k < 11 → s (6 + 11 * i + k) = 0)
/-- counters -/
def mh_C (V : mz_V) (a : Nat) (s : Nat → Int) : Prop := V a 3 = s 5 ∧ V a 4 = s 0 ∧ V a 5 = s 1 ∧ V a 6 = s 2 ∧ V a 7 = s 3 ∧ V a 8 = s 4
/-- winds, pilots -/
def mh_W (V : mz_V) (a : Nat) (s : Nat → Int) : Prop := (∀ i, i < 24 → V (a + 2) i = s (116 + i)) ∧ (∀ j, j < 6 → mp_I V (a + 25 + j)) ∧
  ∀ j : Nat, (j : Int) < s 5 → V (a + 25 + j) 0 = s (140 + 3 * j) ∧ V (a + 25 + j) 1 = s (140 + 3 * j + 1) ∧ V (a + 25 + j) 2 = s (140 + 3 * j + 2)
def mh_R (V : mz_V) (a : Nat) (s : Nat → Int) : Prop := (∀ i, i < 10 → mb_R V a s i) ∧ mh_C V a s ∧ mh_W V a s
/-- nothing beside the harbour changed -/
def mh_X (V V' : mz_V) (a : Nat) : Prop := ∀ r, r < a ∨ a + 31 ≤ r → V' r = V r
theorem mh_X_rfl (V : mz_V) (a : Nat) : mh_X V V a := fun _ _ => rfl
theorem mh_X_tr {V V' V'' : mz_V} {a : Nat} (h : mh_X V V' a) (h' : mh_X V' V'' a) : mh_X V V'' a := fun r hr => (h' r hr).trans (h r hr)
theorem mh_X_w {V : mz_V} {a r : Nat} {f : Nat → Int} (h1 : a ≤ r) (h2 : r < a + 31) : mh_X V (mz_w V r f) a := fun q hq => mz_w_n _ _ (by omega)
theorem mh_X_w' {V V' : mz_V} {a r : Nat} {f : Nat → Int} (h1 : a ≤ r) (h2 : r < a + 31) (h : mh_X V V' a) : mh_X V (mz_w V' r f) a := mh_X_tr h (mh_X_w h1 h2)
theorem mh_R.b {V : mz_V} {a : Nat} {s : Nat → Int} (h : mh_R V a s) {i : Nat} (hi : i < 10) : mb_R V a s i := h.1 i hi
theorem mh_R.HI {V : mz_V} {a : Nat} {s : Nat → Int} (h : mh_R V a s) (hI : mr_I s) : mz_HI V a := by
  refine ⟨fun i hi => (h.1 i hi).1, ?_, fun i hi => ?_, ?_, h.2.2.2.1⟩
  · rw [h.2.1.1]; exact hI.pil
  · rw [h.2.2.1 i hi]; exact hI.wind hi
  · rw [h.2.1.2.1]; exact hI.hour
/-- the same rows, the same numbers: the same -/
theorem mb_R_c {V V' : mz_V} {a : Nat} {s s' : Nat → Int} {i : Nat} (h1 : V' (a + 5 + 2 * i) = V (a + 5 + 2 * i)) (h2 : V' (a + 5 + 2 * i + 1) = V (a + 5 + 2 * i + 1)) (h3 : ∀ k, k < 11 → s' (6 + 11 * i + k) = s (6 + 11 * i + k)) (h : mb_R V a s i) : mb_R V' a s' i := by
  obtain ⟨g1, g2, g3, g4⟩ := h
  have e0 : s' (6 + 11 * i) = s (6 + 11 * i) := h3 0 (by decide)
  refine ⟨mz_BI_c h1 h2 g1, ?_, fun q => ?_, fun q k hk => ?_⟩
  · rw [h1, e0]; exact g2
  · rw [e0] at q
    obtain ⟨p1, p2, p3, p4, p5⟩ := g3 q
    rw [h1, h2, h3 1 (by decide), h3 2 (by decide), h3 3 (by decide), h3 4 (by decide)]
    refine ⟨p1, p2, p3, p4, fun k hk => ?_⟩
    have := g1.count2
    rw [h3 (5 + k) (by omega)]
    exact p5 k hk
  · rw [e0] at q
    rw [h3 k hk]
    exact g4 q k hk
theorem mh_W_c {V V' : mz_V} {a : Nat} {s s' : Nat → Int} (h1 : V' (a + 2) = V (a + 2)) (h2 : ∀ j, j < 6 → V' (a + 25 + j) = V (a + 25 + j)) (h3 : s' 5 = s 5) (h4 : ∀ j, 116 ≤ j → s' j = s j) (h5 : s 5 ≤ 6) (h : mh_W V a s) : mh_W V' a s' := by
  refine ⟨fun i hi => ?_, fun j hj => mp_I_c (h2 j hj) (h.2.1 j hj), fun j hj => ?_⟩
  · rw [h1, h4 _ (by omega)]; exact h.1 i hi
  · rw [h3] at hj
    rw [h2 j (by omega), h4 _ (by omega), h4 _ (by omega), h4 _ (by omega)]
    exact h.2.2 j hj
/-- one berth and the counters changed -/
theorem mh_R_b {V V' : mz_V} {a : Nat} {s s' : Nat → Int} {i : Nat} (h : mh_R V a s) (hp : s 5 ≤ 6) (hV : ∀ r, r ≠ a → r ≠ a + 5 + 2 * i → r ≠ a + 5 + 2 * i + 1 → V' r = V r) (hs : ∀ j, 5 ≤ j → ¬ (6 + 11 * i ≤ j ∧ j < 6 + 11 * i + 11) → s' j = s j) (hi : i < 10) (hb : mb_R V' a s' i) (hc : mh_C V' a s') : mh_R V' a s' := by
  refine ⟨fun j hj => ?_, hc, mh_W_c (hV _ (by omega) (by omega) (by omega)) (fun j hj => hV _ (by omega) (by omega) (by omega)) (hs 5 (by omega) (by omega)) (fun j hj => hs j (by omega) (by omega)) hp h.2.2⟩
  by_cases e : j = i
  · subst e; exact hb
  · exact mb_R_c (hV _ (by omega) (by omega) (by omega)) (hV _ (by omega) (by omega) (by omega)) (fun k hk => hs _ (by omega) (by omega)) (h.1 j hj)
section RELA
variable {X : mv_X} {P : mz_P} {V : mz_V} {z : Nat × Nat} {a d : Nat} {s : Nat → Int}
theorem mz_s_sub (f g : Nat → Int) : ∀ n, mz_s f n - mz_s g n = mz_s (fun k => f k - g k) n
  | 0 => rfl
  | n + 1 => by
    have := mz_s_sub f g n
    show mz_s f n + f n - (mz_s g n + g n) = mz_s (fun k => f k - g k) n + (f n - g n)
    omega
theorem mb_bal (h : mh_R V a s) {i : Nat} (hi : i < 10) (hh : s (6 + 11 * i) = 1) (t : Nat) : V (a + 5 + 2 * i) 4 - mb_wt V (a + 5 + 2 * i) t (V (a + 5 + 2 * i) 5).toNat = mr_bal s i t := by
  obtain ⟨g1, g2, g3, g4⟩ := h.1 i hi
  obtain ⟨p1, p2, p3, p4, p5⟩ := g3 hh
  unfold mb_wt mr_bal mr_bw
  rw [g1.ballast, mz_s_sub, ← p4]
  refine mz_s_c fun k hk => ?_
  have := g1.count1
  rw [p5 k (by omega)]
  split <;> omega
theorem mb_wt_0 (b : Nat) (n : Nat) : mb_wt V b 0 n = 0 := by
  unfold mb_wt
  induction n with
  | zero => rfl
  | succ n ih =>
    show mz_s _ n + (if (0 : Nat).testBit n then V (b + 1) n else 0) = 0
    rw [ih, if_neg (by simp)]
    rfl
theorem mb_bal_0 (h : mh_R V a s) {i : Nat} (hi : i < 10) (hh : s (6 + 11 * i) = 1) : V (a + 5 + 2 * i) 4 = mr_bal s i 0 := by
  have := mb_bal h hi hh 0
  rw [mb_wt_0] at this
  omega
theorem mb_hw_ho (h : mh_R V a s) {i : Nat} (hi : i < 10) (hh : s (6 + 11 * i) = 1) (t : Nat) {w : Int} (hw : w = mr_bal s i t) : mb_hw V (a + 5 + 2 * i) w = mr_ho s i t := by
  obtain ⟨g1, g2, g3, g4⟩ := h.1 i hi
  obtain ⟨p1, p2, p3, p4, p5⟩ := g3 hh
  subst hw
  unfold mb_hw mr_ho mr_sp
  rw [p1, p2]
  repeat' split
  all_goals omega
theorem mh_h_ho (h : mh_R V a s) {i : Nat} (hi : i < 10) (hh : s (6 + 11 * i) = 1) : mh_h V a i = mr_ho s i 0 := mb_hw_ho h hi hh 0 (mb_bal_0 h hi hh)
theorem mb_btr_eq (h : mh_R V a s) {i : Nat} (hi : i < 10) (hh : s (6 + 11 * i) = 1) (j k : Nat) : mb_btr V (a + 5 + 2 * i) j k = mr_btr s i j k := by
  have h1 := mb_bal h hi hh j
  have h2 := mb_bal h hi hh k
  unfold mb_btr mr_btr
  by_cases e1 : mb_pop j = mb_pop k
  · rw [if_pos e1, if_pos e1]
    by_cases e2 : mb_wt V (a + 5 + 2 * i) j (V (a + 5 + 2 * i) 5).toNat = mb_wt V (a + 5 + 2 * i) k (V (a + 5 + 2 * i) 5).toNat
    · rw [if_pos e2, if_pos (by omega)]
    · rw [if_neg e2, if_neg (by omega)]
      exact decide_eq_decide.mpr (by omega)
  · rw [if_neg e1, if_neg e1]
theorem mb_best_eq (h : mh_R V a s) {i : Nat} (hi : i < 10) (hh : s (6 + 11 * i) = 1) (x : Int) : ∀ n, mb_best V (a + 5 + 2 * i) x n = mr_best s i x n
  | 0 => rfl
  | n + 1 => by
    have e1 : mb_best V (a + 5 + 2 * i) x (n + 1) = if x ≤ mb_hw V (a + 5 + 2 * i) (V (a + 5 + 2 * i) 4 - mb_wt V (a + 5 + 2 * i) n (V (a + 5 + 2 * i) 5).toNat) ∧ (mb_best V (a + 5 + 2 * i) x n = -1 ∨ mb_btr V (a + 5 + 2 * i) n (mb_best V (a + 5 + 2 * i) x n).toNat = true) then (n : Int) else mb_best V (a + 5 + 2 * i) x n := rfl
    have e2 : mr_best s i x (n + 1) = if x ≤ mr_ho s i n ∧ (mr_best s i x n = -1 ∨ mr_btr s i n (mr_best s i x n).toNat = true) then (n : Int) else mr_best s i x n := rfl
    rw [e1, e2, mb_hw_ho h hi hh n (mb_bal h hi hh n), mb_best_eq h hi hh x n, mb_btr_eq h hi hh]
theorem mb_bst_eq (h : mh_R V a s) {i : Nat} (hi : i < 10) (hh : s (6 + 11 * i) = 1) (x : Int) : mb_best V (a + 5 + 2 * i) x (2 ^ (V (a + 5 + 2 * i) 5).toNat) = mr_bst s i x := by
  rw [mb_best_eq h hi hh, ((h.1 i hi).2.2.1 hh).2.2.2.1]
theorem mh_has_eq (h : mh_R V a s) {x : Int} : mh_has V a x = mr_has s x := by
  unfold mh_has mr_has
  refine propext ⟨fun q => ⟨q.1, by omega, ?_⟩, fun q => ⟨q.1, by omega, ?_⟩⟩
  · rw [← (h.1 x.toNat (by omega)).2.1]; exact q.2.2
  · rw [(h.1 x.toNat (by omega)).2.1]; exact q.2.2
theorem mr_has_h {x : Int} (h : mr_has s x) : ∃ k : Nat, x = k ∧ k < 10 ∧ s (6 + 11 * k) = 1 := ⟨x.toNat, by have := h.1; omega, by have := h.2.1; omega, h.2.2⟩
/-- contracts once more, by the reference's numbers -/
theorem Y3_has (hH : mz_H P a) (hI : mr_I s) (h : mh_R V a s) {x : Int} (hx : nS x) : mv_call X (d + 1) 27 [.ref a, .int (nZ x)] (mz_h P V, z) = some (.inl (some (.int (nZ (if mr_has s x then 1 else 0)))), (mz_h P V, z)) := by
  have e := X3_hasB (X := X) (z := z) (d := d) hH (h.HI hI) hx
  rw [e]
  simp only [mh_has_eq h]
theorem Y3_hasP (hH : mz_H P a) (hI : mr_I s) (h : mh_R V a s) {x : Int} (hx : nS x) : mv_call X (d + 1) 28 [.ref a, .int (nZ x)] (mz_h P V, z) = some (.inl (some (.int (nZ (if 0 ≤ x ∧ x < s 5 then 1 else 0)))), (mz_h P V, z)) := by
  rw [X3_hasPilot hH (h.HI hI) hx, h.2.1.1]
theorem Y0_height (hH : mz_H P a) (h : mh_R V a s) {i : Nat} (hi : i < 10) (hh : s (6 + 11 * i) = 1) : mv_call X (d + 2) 5 [.ref (a + 5 + 2 * i)] (mz_h P V, z) = some (.inl (some (.int (nZ (mr_ho s i 0)))), (mz_h P V, z)) := by
  rw [X0_presentHeight (hH.b hi) (h.1 i hi).1, mb_hw_ho h hi hh 0 (mb_bal_0 h hi hh)]
theorem Y0_height0 (hH : mz_H P a) (hI : mr_I s) (h : mh_R V a s) {i : Nat} (hi : i < 10) (hh : s (6 + 11 * i) = 1) : mv_call X (d + 1) 4 [.ref (a + 5 + 2 * i), .int (nZ 0)] (mz_h P V, z) = some (.inl (some (.int (nZ (mr_ho s i 63)))), (mz_h P V, z)) := by
  rw [X0_heightWith (hH.b hi) (h.1 i hi).1 (by decide) (by decide), mb_hw_ho h hi hh 63 (mr_bal63 hI hi).symm]
theorem Y0_over (hH : mz_H P a) (h : mh_R V a s) {i : Nat} (hi : i < 10) (hh : s (6 + 11 * i) = 1) : mv_call X (d + 3) 6 [.ref (a + 5 + 2 * i)] (mz_h P V, z) = some (.inl (some (.int (nZ (if s (6 + 11 * i + 3) < mr_ho s i 0 then 1 else 0)))), (mz_h P V, z)) := by
  rw [X0_isOverstrained (hH.b hi) (h.1 i hi).1, mb_hw_ho h hi hh 0 (mb_bal_0 h hi hh), ((h.1 i hi).2.2.1 hh).2.2.1]
theorem Y3_refusalToLoad (hH : mz_H P a) (hI : mr_I s) (h : mh_R V a s) {x b : Int} (hx : nS x) (hb : nS b) : mv_call X (d + 2) 42 [.ref a, .int (nZ x), .int (nZ b)] (mz_h P V, z) = some (.inl (some (.int (nZ (mc_rf2 s x b)))), (mz_h P V, z)) := by
  rw [mc_X3_refusalToLoad, bk_X3_refusalToLoad_0]
  simp only [mz_rcv hH.1, mv_clI, mv_cl, Y3_has hH hI h hx, nZ_b1, X8_isWithin hb (show nS 1 by decide) (show nS 20 by decide)]
  unfold mc_rf2
  by_cases c1 : mr_has s x
  · rw [if_neg (fun q => q c1), if_pos c1]
    by_cases c2 : 1 ≤ b ∧ b ≤ 20
    · rw [if_neg (fun q => q c2), if_pos c2]
      obtain ⟨k, rfl, hk, hh⟩ := mr_has_h c1
      have h1 := hI.bags hk
      rw [mh_bal hH hk, mz_gI (hH.b hk).1 (by decide), ((h.1 k hk).2.2.1 hh).2.2.2.1, Int.toNat_natCast]
      simp (disch := first | assumption | decide | (apply And.intro <;> omega)) only [nZ_lt]
      by_cases c3 : s (6 + 11 * k + 4) = 6
      · rw [if_neg (by omega), if_pos c3]
      · rw [if_pos (by omega), if_neg c3]
    · rw [if_pos c2, if_neg c2]
  · rw [if_pos c1, if_neg c1]
theorem Y3_refusalToDrop (hH : mz_H P a) (hI : mr_I s) (h : mh_R V a s) {x b : Int} (hx : nS x) (hb : nS b) : mv_call X (d + 2) 43 [.ref a, .int (nZ x), .int (nZ b)] (mz_h P V, z) = some (.inl (some (.int (nZ (mc_rf3 s x b)))), (mz_h P V, z)) := by
  rw [mc_X3_refusalToDrop, bk_X3_refusalToDrop_0]
  simp only [mz_rcv hH.1, mv_clI, mv_cl, Y3_has hH hI h hx, nZ_b1]
  unfold mc_rf3
  by_cases c1 : mr_has s x
  · rw [if_neg (fun q => q c1), if_pos c1]
    obtain ⟨k, rfl, hk, hh⟩ := mr_has_h c1
    rw [mh_bal hH hk, mz_rcv (hH.b hk).1]
    simp only [X0_hasBag (hH.b hk) (h.1 k hk).1 hb, nZ_b1, ((h.1 k hk).2.2.1 hh).2.2.2.1, Int.toNat_natCast]
    by_cases c2 : 0 ≤ b ∧ b < s (6 + 11 * k + 4)
    · rw [if_neg (fun q => q c2), if_pos c2]
    · rw [if_pos c2, if_neg c2]
  · rw [if_pos c1, if_neg c1]
theorem Y3_refusalToRise (hH : mz_H P a) (hI : mr_I s) (h : mh_R V a s) {x b : Int} (hx : nS x) (hb : nS b) : mv_call X (d + 3) 44 [.ref a, .int (nZ x), .int (nZ b)] (mz_h P V, z) = some (.inl (some (.int (nZ (mc_rf4 s x b)))), (mz_h P V, z)) := by
  rw [mc_X3_refusalToRise, bk_X3_refusalToRise_0]
  simp only [mz_rcv hH.1, mv_clI, mv_cl, Y3_has hH hI h hx, nZ_b1, X8_isWithin hb (show nS 1 by decide) (show nS 40 by decide)]
  unfold mc_rf4
  by_cases c1 : mr_has s x
  · rw [if_neg (fun q => q c1), if_pos c1]
    by_cases c2 : 1 ≤ b ∧ b ≤ 40
    · rw [if_neg (fun q => q c2), if_pos c2]
      obtain ⟨k, rfl, hk, hh⟩ := mr_has_h c1
      have h2 := mr_ho0 hI hk 0
      have h3 := mr_ho1 hI hk 0
      have h4 := mr_ho0 hI hk 63
      have h5 := mr_ho1 hI hk 63
      rw [mh_bal hH hk, mz_rcv (hH.b hk).1]
      simp (disch := first | assumption | (apply And.intro <;> omega)) only [Y0_height hH h hk hh, Int.toNat_natCast, nZ_lt, nZ_le]
      by_cases c3 : b ≤ mr_ho s k 0
      · rw [if_neg (by omega), if_pos c3]
      · rw [if_pos (by omega), if_neg c3, mh_bal hH hk, mz_rcv (hH.b hk).1]
        simp (disch := first | assumption | (apply And.intro <;> omega)) only [Y0_height0 hH hI h hk hh, nZ_le]
        by_cases c4 : mr_ho s k 63 < b
        · rw [if_neg (by omega), if_pos c4]
        · rw [if_pos (by omega), if_neg c4]
    · rw [if_pos c2, if_neg c2]
  · rw [if_pos c1, if_neg c1]
theorem Y3_refusalOfWind (hH : mz_H P a) (hI : mr_I s) (h : mh_R V a s) {x b : Int} (hx : nS x) (hb : nS b) : mv_call X (d + 2) 45 [.ref a, .int (nZ x), .int (nZ b)] (mz_h P V, z) = some (.inl (some (.int (nZ (mc_rf5 s x b)))), (mz_h P V, z)) := by
  rw [mc_X3_refusalOfWind, bk_X3_refusalOfWind_0]
  simp only [mv_clI, mv_cl, nZ_b1, X8_isWithin hx (show nS 0 by decide) (show nS 23 by decide), X8_isWithin hb (show nS (-9) by decide) (show nS 9 by decide)]
  unfold mc_rf5
  by_cases c1 : 0 ≤ x ∧ x ≤ 23
  · rw [if_neg (fun q => q c1)]
    by_cases c2 : -9 ≤ b ∧ b ≤ 9
    · rw [if_neg (fun q => q c2), if_pos (show (0 ≤ x ∧ x ≤ 23) ∧ (-9 ≤ b ∧ b ≤ 9) from ⟨c1, c2⟩)]
      obtain ⟨k, rfl⟩ : ∃ k : Nat, x = k := ⟨x.toNat, by omega⟩
      have hk : k < 24 := by omega
      have h1 := hI.wind hk
      rw [mz_gR hH.1 (by decide) hH.2.2.2.2.1, mz_aJ hH.2.2.2.2.2.1 (by omega) (by omega) (by decide), Int.toNat_natCast, h.2.2.1 k hk]
      simp (disch := first | assumption | decide | (apply And.intro <;> omega)) only [nZ_inj]
      by_cases c3 : s (116 + k) = b
      · rw [if_pos c3, if_pos c3]
      · rw [if_neg c3, if_neg c3]
    · rw [if_pos c2, if_neg (fun q => c2 q.2)]
  · rw [if_pos c1, if_neg (fun q => c1 q.1)]
theorem Y3_refusalOfPilot (hH : mz_H P a) (hI : mr_I s) (h : mh_R V a s) {x b c : Int} (hx : nS x) (hb : nS b) (hc : nS c) : mv_call X (d + 2) 46 [.ref a, .int (nZ x), .int (nZ b), .int (nZ c)] (mz_h P V, z) = some (.inl (some (.int (nZ (mc_rf7 s x b c)))), (mz_h P V, z)) := by
  rw [mc_X3_refusalOfPilot, bk_X3_refusalOfPilot_0]
  simp only [mv_clI, mv_cl, nZ_b1, X8_isWithin hx (show nS 1 by decide) (show nS 30 by decide), X8_isWithin hb (show nS 0 by decide) (show nS 23 by decide), X8_isWithin hc (show nS 0 by decide) (show nS 23 by decide)]
  unfold mc_rf7
  have h1 := hI.pil
  by_cases c1 : 1 ≤ x ∧ x ≤ 30
  · rw [if_neg (fun q => q c1)]
    by_cases c2 : 0 ≤ b ∧ b ≤ 23
    · rw [if_neg (fun q => q c2)]
      by_cases c3 : 0 ≤ c ∧ c ≤ 23
      · rw [if_neg (fun q => q c3), if_pos (show (1 ≤ x ∧ x ≤ 30) ∧ (0 ≤ b ∧ b ≤ 23) ∧ (0 ≤ c ∧ c ≤ 23) from ⟨c1, c2, c3⟩)]
        rw [mz_gI hH.1 (by decide), h.2.1.1]
        simp (disch := first | assumption | decide | (apply And.intro <;> omega)) only [nZ_lt]
        by_cases c4 : s 5 = 6
        · rw [if_neg (by omega), if_pos c4]
        · rw [if_pos (by omega), if_neg c4]
      · rw [if_pos c3, if_neg (fun q => c3 q.2.2)]
    · rw [if_pos c2, if_neg (fun q => c2 q.2.1)]
  · rw [if_pos c1, if_neg (fun q => c1 q.1)]
theorem Y3_refusalToMoor (hH : mz_H P a) (hI : mr_I s) (h : mh_R V a s) {b l st t : Int} (hb : nS b) (hl : nS l) (hs : nS st) (ht : nS t) : mv_call X (d + 2) 41 [.ref a, .int (nZ b), .int (nZ l), .int (nZ st), .int (nZ t)] (mz_h P V, z) = some (.inl (some (.int (nZ (mc_rf0 s b l st t)))), (mz_h P V, z)) := by
  rw [X3_refusalToMoor hH (h.HI hI) hb hl hs ht]
  unfold mc_rf0
  simp only [mh_has_eq h]
end RELA
