/-! THE REFERENCE: sets of bags, the best one -/
theorem mb_xor_t : ∀ i, i < 64 → ∀ j, j < 64 → nZ ((i : Nat) : Int) ^^^ nZ ((j : Nat) : Int) = nZ ((i ^^^ j : Nat) : Int) := by decide +kernel
theorem mb_dif : ∀ i, i < 64 → ∀ j, j < 64 → i ≠ j → ∃ k, k < 6 ∧ ¬ i.testBit k = j.testBit k := by
  intro i hi j hj h
  refine Classical.byContradiction fun q => h (Nat.eq_of_testBit_eq fun k => ?_)
  by_cases hk : k < 6
  · exact Classical.byContradiction fun q2 => q ⟨k, hk, q2⟩
  · have h64 : 64 ≤ 2 ^ k := Nat.le_trans (by decide : 64 ≤ 2 ^ 6) (Nat.pow_le_pow_right (by decide) (by omega))
    rw [Nat.testBit_lt_two_pow (show i < 2 ^ k by omega), Nat.testBit_lt_two_pow (show j < 2 ^ k by omega)]
def mr_btr (s : Nat → Int) (b i j : Nat) : Bool :=
  if mb_pop i = mb_pop j then (if mr_bal s b i = mr_bal s b j then mb_low i j else decide (mr_bal s b j < mr_bal s b i)) else decide (mb_pop i < mb_pop j)
section REFB
variable {X : mv_X} {P : mz_P} {V : mz_V} {z : Nat × Nat} {m d : Nat}
theorem X9_low {i j : Nat} (hi : i < 64) (hj : j < 64) {b w : Value} {call : mv_G} {h : mv_H} {bi wi : Int32} : ∀ n k, n + k = 6 → (∃ q, k ≤ q ∧ q < 6 ∧ ¬ i.testBit q = j.testBit q) →
    mv_run X call m_X9_isBetter 62 [.ref m, .int bi, .int (nZ i), .int (nZ j), .int wi, .int (nZ (2 ^ k : Nat))] [] h = some (.inl (some (.int (nZ (if mb_lowk i j n k then 1 else 0)))), h) := by
  intro n
  induction n with
  | zero =>
    rintro k hk ⟨q, h1, h2, -⟩
    omega
  | succ n ih =>
    rintro k hk ⟨q, h1, h2, h3⟩
    have hk6 : k < 6 := by omega
    have hx : i ^^^ j < 64 := Nat.xor_lt_two_pow (n := 6) hi hj
    have e1 : nZ ((2 ^ k : Nat) : Int) = nZ 1 <<< (nZ (k : Nat) &&& 31) := (mb_shl_t k (by omega)).symm
    have e2 : mb_lowk i j (n + 1) k = if i.testBit k = j.testBit k then mb_lowk i j n (k + 1) else i.testBit k := rfl
    have e3 : nZ ((2 ^ k : Nat) : Int) * nZ 2 = nZ ((2 ^ (k + 1) : Nat) : Int) := by
      rw [nZ_mul, Nat.pow_succ, Int.natCast_mul]
      rfl
    rw [bk_X9_isBetter_62, mb_xor_t i hi j hj, e3, e1, e2]
    simp only [mb_bit hx hk6, mb_bit hi hk6, Nat.testBit_xor]
    by_cases c : i.testBit k = j.testBit k
    · rw [if_pos (by rw [c]; cases j.testBit k <;> rfl), if_pos c]
      refine ih (k + 1) (by omega) ⟨q, ?_, h2, h3⟩
      rcases Nat.lt_or_ge k q with h | h
      · omega
      · have : q = k := by omega
        subst this
        exact absurd c h3
    · rw [if_neg (by revert c; cases i.testBit k <;> cases j.testBit k <;> simp), if_neg c]
      cases i.testBit k <;> rfl
theorem X9_isBetter (hM : mr_M P m) (hI : mr_I (V (m + 1))) {b i j : Nat} (hb : b < 10) (hi : i < 64) (hj : j < 64) (hij : i ≠ j) : mv_call X (d + 3) 171 [.ref m, .int (nZ b), .int (nZ i), .int (nZ j)] (mz_h P V, z) = some (.inl (some (.int (nZ (if mr_btr (V (m + 1)) b i j then 1 else 0)))), (mz_h P V, z)) := by
  have h1 := mb_pop0 i; have h2 := mb_pop6 i; have h3 := mb_pop0 j; have h4 := mb_pop6 j
  have h5 := mr_bal0 hI hb i; have h6 := mr_bal1 hI hb i; have h7 := mr_bal0 hI hb j; have h8 := mr_bal1 hI hb j
  rw [mc_X9_isBetter, bk_X9_isBetter_0]
  simp (disch := first | omega | (refine ⟨?_, ?_⟩ <;> omega)) only [mv_clI, mv_cl, X9_bits hi, X9_bits hj, mz_rcv hM.o, X9_ballastWithout hM hI hb hi, X9_ballastWithout hM hI hb hj, nZ_sub, nZ_inj, nZ_eq0, nZ_le0, nZ_le]
  unfold mr_btr
  by_cases e1 : mb_pop i = mb_pop j
  · rw [if_pos e1, if_pos e1]
    by_cases e2 : mr_bal (V (m + 1)) b i = mr_bal (V (m + 1)) b j
    · rw [if_pos (by omega), if_pos e2]
      obtain ⟨k, hk, h9⟩ := mb_dif i hi j hj hij
      exact X9_low (b := .null) (w := .null) hi hj 6 0 rfl ⟨k, Nat.zero_le k, hk, h9⟩
    · rw [if_neg (by omega), if_neg e2]
      by_cases e3 : mr_bal (V (m + 1)) b j < mr_bal (V (m + 1)) b i
      · rw [if_neg (by omega), if_pos (by simpa using e3)]
      · rw [if_pos (by omega), if_neg (by simpa using e3)]
  · rw [if_neg e1, if_neg e1]
    by_cases e3 : mb_pop i < mb_pop j
    · rw [if_neg (by omega), if_pos (by simpa using e3)]
    · rw [if_pos (by omega), if_neg (by simpa using e3)]
/-- the best set among the first n -/
def mr_best (s : Nat → Int) (b : Nat) (h : Int) : Nat → Int
  | 0 => -1
  | i + 1 => if h ≤ mr_ho s b i ∧ (mr_best s b h i = -1 ∨ mr_btr s b i (mr_best s b h i).toNat = true) then i else mr_best s b h i
theorem mr_best_in (s : Nat → Int) (b : Nat) (h : Int) : ∀ n : Nat, mr_best s b h n = -1 ∨ (0 ≤ mr_best s b h n ∧ mr_best s b h n < n)
  | 0 => Or.inl rfl
  | n + 1 => by
    have := mr_best_in s b h n
    have e : mr_best s b h (n + 1) = if h ≤ mr_ho s b n ∧ (mr_best s b h n = -1 ∨ mr_btr s b n (mr_best s b h n).toNat = true) then (n : Int) else mr_best s b h n := rfl
    rw [e]
    split <;> omega
theorem mr_pow {s : Nat → Int} (hI : mr_I s) {b : Nat} (hb : b < 10) : 2 ^ (s (6 + 11 * b + 4)).toNat ≤ 64 := by
  have h1 := hI.bags hb
  exact Nat.pow_le_pow_right (n := 2) (by decide) (show (s (6 + 11 * b + 4)).toNat ≤ 6 by omega)
abbrev mr_bst (s : Nat → Int) (b : Nat) (h : Int) : Int := mr_best s b h (2 ^ (s (6 + 11 * b + 4)).toNat)
theorem X9_best (hM : mr_M P m) (hI : mr_I (V (m + 1))) {b : Nat} (hb : b < 10) {h : Int} (hh : nS h) : mv_call X (d + 5) 172 [.ref m, .int (nZ b), .int (nZ h)] (mz_h P V, z) = some (.inl (some (.int (nZ (mr_bst (V (m + 1)) b h)))), (mz_h P V, z)) := by
  have h1 := hI.bags hb; have h3 := mr_pow hI hb
  have e5 : nZ (V (m + 1) (6 + 11 * b + 4)) = nZ ((V (m + 1) (6 + 11 * b + 4)).toNat : Int) := by rw [Int.toNat_of_nonneg h1.1]
  rw [mc_X9_best, bk_X9_best_0]
  refine mz_loop (φ := fun i => mv_run X (mv_call X (d + 4)) m_X9_best 5 [.ref m, .int (nZ b), .int (nZ h), .int (nZ (mr_best (V (m + 1)) b h i)), .int (nZ i)] [] (mz_h P V, z) = some (.inl (some (.int (nZ (mr_bst (V (m + 1)) b h)))), (mz_h P V, z))) (2 ^ (V (m + 1) (6 + 11 * b + 4)).toNat) ?_ (fun i hi ih => ?_) 0 (Nat.zero_le _)
  · show mv_run X (mv_call X (d + 4)) m_X9_best 5 _ _ _ = _
    rw [bk_X9_best_5]
    simp (disch := omega) only [mz_rcv hM.o, mv_clI, mv_cl, X9_ofz hM, Int.reduceToNat]
    rw [e5, mb_shl_t _ (by omega), if_pos (Int32.le_refl _)]
  · have hs : i < 64 := by omega
    show mv_run X (mv_call X (d + 4)) m_X9_best 5 _ _ _ = _
    have ih : mv_run X (mv_call X (d + 4)) m_X9_best 5 [.ref m, .int (nZ b), .int (nZ h), .int (nZ (mr_best (V (m + 1)) b h (i + 1))), .int (nZ (i + 1 : Nat))] [] (mz_h P V, z) = _ := ih
    have h7 := mr_ho0 hI hb i; have h8 := mr_ho1 hI hb i
    have hin := mr_best_in (V (m + 1)) b h i
    have eb : mr_best (V (m + 1)) b h (i + 1) = if h ≤ mr_ho (V (m + 1)) b i ∧ (mr_best (V (m + 1)) b h i = -1 ∨ mr_btr (V (m + 1)) b i (mr_best (V (m + 1)) b h i).toNat = true) then (i : Int) else mr_best (V (m + 1)) b h i := rfl
    rw [nc1, eb] at ih
    rw [bk_X9_best_5]
    simp (disch := omega) only [mz_rcv hM.o, mv_clI, mv_cl, X9_ofz hM, Int.reduceToNat]
    rw [e5, mb_shl_t _ (by omega), if_neg (by rw [nZ_le ⟨by omega, by omega⟩ ⟨by omega, by omega⟩]; omega)]
    simp only [X9_highOf hM hI hb hs, nZ_add]
    by_cases c1 : h ≤ mr_ho (V (m + 1)) b i
    · rw [if_neg (by rw [nZ_lt ⟨by omega, by omega⟩ hh]; omega)]
      by_cases c2 : mr_best (V (m + 1)) b h i = -1
      · rw [if_pos (by rw [c2]), ← ih, if_pos ⟨c1, Or.inl c2⟩]
      · rw [if_neg (by rw [nZ_inj ⟨by omega, by omega⟩ (by decide)]; exact c2)]
        have hk : (mr_best (V (m + 1)) b h i).toNat < 64 := by omega
        have ek : nZ (mr_best (V (m + 1)) b h i) = nZ ((mr_best (V (m + 1)) b h i).toNat : Int) := by rw [Int.toNat_of_nonneg (by omega)]
        rw [ek]
        simp only [X9_isBetter hM hI hb hs hk (by omega), mz_rcv hM.o]
        by_cases c3 : mr_btr (V (m + 1)) b i (mr_best (V (m + 1)) b h i).toNat = true
        · rw [if_pos c3, if_neg (by decide), ← ih, if_pos ⟨c1, Or.inr c3⟩]
        · rw [if_neg c3, if_pos (by decide), ← ih, if_neg (fun q => q.2.elim c2 c3), ← ek]
    · rw [if_pos (by rw [nZ_lt ⟨by omega, by omega⟩ hh]; omega), ← ih, if_neg (fun q => c1 q.1)]
end REFB
/-! THE REFERENCE: bags taken, berths cleared -/
/-- places from p on, as far as q, moved down -/
def mr_shf (s : Nat → Int) (p q : Nat) : Nat → Int := fun j => if p ≤ j ∧ j < q then s (j + 1) else s j
theorem mr_shf0 (s : Nat → Int) (p : Nat) : mr_shf s p p = s := by
  funext j
  unfold mr_shf
  rw [if_neg (by omega)]
theorem mr_shf1 (s : Nat → Int) {p q : Nat} (h : p ≤ q) : mr_up (mr_shf s p q) q (s (q + 1)) = mr_shf s p (q + 1) := by
  funext j
  unfold mr_up mr_shf
  by_cases e : j = q
  · subst e
    rw [if_pos rfl, if_pos (by omega)]
  · rw [if_neg e]
    by_cases e2 : p ≤ j ∧ j < q
    · rw [if_pos e2, if_pos (by omega)]
    · rw [if_neg e2, if_neg (by omega)]
theorem mr_shf_n (s : Nat → Int) {p q j : Nat} (h : ¬ (p ≤ j ∧ j < q)) : mr_shf s p q j = s j := if_neg h
/-- bag k of berth b taken out -/
def mr_take (s : Nat → Int) (b k : Nat) : Nat → Int :=
  mr_up (mr_up (mr_shf s (6 + 11 * b + (5 + k)) (6 + 11 * b + (5 + ((s (6 + 11 * b + 4)).toNat - 1)))) (6 + 11 * b + (5 + ((s (6 + 11 * b + 4)).toNat - 1))) 0) (6 + 11 * b + 4) (s (6 + 11 * b + 4) - 1)
/-- places from p on, as far as q, set to 0 -/
def mr_zr (s : Nat → Int) (p q : Nat) : Nat → Int := fun j => if p ≤ j ∧ j < q then 0 else s j
theorem mr_zr0 (s : Nat → Int) (p : Nat) : mr_zr s p p = s := by
  funext j
  unfold mr_zr
  rw [if_neg (by omega)]
theorem mr_zr1 (s : Nat → Int) {p q : Nat} (h : p ≤ q) : mr_up (mr_zr s p q) q 0 = mr_zr s p (q + 1) := by
  funext j
  unfold mr_up mr_zr
  by_cases e : j = q
  · subst e
    rw [if_pos rfl, if_pos (by omega)]
  · rw [if_neg e]
    by_cases e2 : p ≤ j ∧ j < q
    · rw [if_pos e2, if_pos (by omega)]
    · rw [if_neg e2, if_neg (by omega)]
def mr_clr (s : Nat → Int) (b : Nat) : Nat → Int := mr_zr s (6 + 11 * b) (6 + 11 * b + 11)
section REFC
variable {X : mv_X} {P : mz_P} {V : mz_V} {z : Nat × Nat} {m d : Nat}
theorem X9_takesBag (hM : mr_M P m) (hI : mr_I (V (m + 1))) {b k : Nat} (hb : b < 10) (hk : (k : Int) < V (m + 1) (6 + 11 * b + 4)) : mv_call X (d + 2) 173 [.ref m, .int (nZ b), .int (nZ k)] (mz_h P V, z) = some (.inl none, (mz_h P (mz_w V (m + 1) (mr_take (V (m + 1)) b k)), z)) := by
  have h1 := hI.bags hb
  obtain ⟨n, hn⟩ : ∃ n : Nat, V (m + 1) (6 + 11 * b + 4) = ((n + 1 : Nat) : Int) := ⟨(V (m + 1) (6 + 11 * b + 4)).toNat - 1, by omega⟩
  have hn2 : (V (m + 1) (6 + 11 * b + 4)).toNat - 1 = n := by omega
  rw [nc1] at hn
  rw [mc_X9_takesBag, bk_X9_takesBag_0]
  simp (disch := omega) only [mz_rcv hM.o, mv_clI, mv_cl, X9_ofz hM, Int.reduceToNat, hn, nZ_sub]
  rw [show (n : Int) + 1 - 1 = n by omega]
  have key := mz_loop (φ := fun i => k ≤ i → mv_run X (mv_call X (d + 1)) m_X9_takesBag 12 [.ref m, .int (nZ b), .int (nZ k), .int (nZ n), .int (nZ i)] [] (mz_h P (mz_w V (m + 1) (mr_shf (V (m + 1)) (6 + 11 * b + (5 + k)) (6 + 11 * b + (5 + i)))), z) = some (.inl none, (mz_h P (mz_w V (m + 1) (mr_take (V (m + 1)) b k)), z))) n ?_ (fun i hi ih => ?_) k (by omega) (Nat.le_refl _)
  · rw [mr_shf0, mz_w_id] at key
    exact key
  · intro hki
    rw [bk_X9_takesBag_12, if_pos (by exact Int32.le_refl _)]
    simp (disch := omega) only [mz_rcv hM.o, mv_clV, mv_cl, X9_setsz hM, Int.reduceToNat, nZ_add, mr_t5, mz_w_w, mz_w_s]
    unfold mr_take
    rw [hn2, hn, show (n : Int) + 1 - 1 = n by omega]
  · intro hki
    have ih := ih (by omega)
    rw [nc1] at ih
    rw [bk_X9_takesBag_12, if_neg (by rw [nZ_le ⟨by omega, by omega⟩ ⟨by omega, by omega⟩]; omega)]
    simp (disch := omega) only [mz_rcv hM.o, mv_clV, mv_clI, mv_cl, X9_setsz hM, X9_ofz hM, Int.reduceToNat, nZ_add, mr_t5, mz_w_w, mz_w_s]
    rw [show (5 + (i : Int) + 1).toNat = 5 + i + 1 by omega, mr_shf_n _ (show ¬ (6 + 11 * b + (5 + k) ≤ 6 + 11 * b + (5 + i + 1) ∧ 6 + 11 * b + (5 + i + 1) < 6 + 11 * b + (5 + i)) by omega),
      show 6 + 11 * b + (5 + i + 1) = 6 + 11 * b + (5 + i) + 1 by omega, mr_shf1 _ (by omega)]
    exact ih
theorem X9_clears (hM : mr_M P m) {b : Nat} (hb : b < 10) : mv_call X (d + 2) 174 [.ref m, .int (nZ b)] (mz_h P V, z) = some (.inl none, (mz_h P (mz_w V (m + 1) (mr_clr (V (m + 1)) b)), z)) := by
  rw [mc_X9_clears, bk_X9_clears_0]
  have key := mz_loop (φ := fun i => mv_run X (mv_call X (d + 1)) m_X9_clears 2 [.ref m, .int (nZ b), .int (nZ i)] [] (mz_h P (mz_w V (m + 1) (mr_zr (V (m + 1)) (6 + 11 * b) (6 + 11 * b + i))), z) = some (.inl none, (mz_h P (mz_w V (m + 1) (mr_clr (V (m + 1)) b)), z))) 11 ?_ (fun i hi ih => ?_) 0 (Nat.zero_le _)
  · rw [show 6 + 11 * b + 0 = 6 + 11 * b from rfl, mr_zr0, mz_w_id] at key
    exact key
  · rw [bk_X9_clears_2, if_pos (by exact Int32.le_refl _)]
    rfl
  · rw [nc1] at ih
    rw [bk_X9_clears_2, if_neg (by rw [nZ_le ⟨by omega, by omega⟩ ⟨by omega, by omega⟩]; omega)]
    simp (disch := omega) only [mz_rcv hM.o, mv_clV, mv_cl, X9_setsz hM, nZ_add, mz_w_w, mz_w_s, Int.toNat_natCast]
    rw [mr_zr1 _ (by omega)]
    exact ih
end REFC
