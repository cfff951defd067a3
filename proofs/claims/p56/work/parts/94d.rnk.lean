/-! RANKS: each of them is held by one balloon -/
theorem pr_tot (s : Nat → Int) {i j : Nat} (h : i ≠ j) : mq_ahd s i j = true ∨ mq_ahd s j i = true := by
  unfold mq_ahd
  by_cases c : mr_ho s i 0 = mr_ho s j 0
  · rw [if_pos c, if_pos c.symm]
    by_cases c2 : mr_bal s i 0 = mr_bal s j 0
    · rw [if_pos c2, if_pos c2.symm]
      simp only [decide_eq_true_eq]
      omega
    · rw [if_neg c2, if_neg (fun q => c2 q.symm)]
      simp only [decide_eq_true_eq]
      omega
  · rw [if_neg c, if_neg (fun q => c q.symm)]
    simp only [decide_eq_true_eq]
    omega
theorem pr_iff (s : Nat → Int) (i j : Nat) : mq_ahd s i j = true ↔ (mr_ho s j 0 < mr_ho s i 0 ∨ (mr_ho s i 0 = mr_ho s j 0 ∧ (mr_bal s j 0 < mr_bal s i 0 ∨ (mr_bal s i 0 = mr_bal s j 0 ∧ i < j)))) := by
  unfold mq_ahd
  by_cases c : mr_ho s i 0 = mr_ho s j 0
  · rw [if_pos c]
    by_cases c2 : mr_bal s i 0 = mr_bal s j 0
    · rw [if_pos c2, decide_eq_true_eq]
      omega
    · rw [if_neg c2, decide_eq_true_eq]
      omega
  · rw [if_neg c, decide_eq_true_eq]
    omega
theorem pr_tr {s : Nat → Int} {i j k : Nat} (h1 : mq_ahd s i j = true) (h2 : mq_ahd s j k = true) : mq_ahd s i k = true := by
  rw [pr_iff] at h1 h2 ⊢
  omega
theorem pr_as {s : Nat → Int} {i j : Nat} (h1 : mq_ahd s i j = true) : ¬ mq_ahd s j i = true := by
  rw [pr_iff] at h1 ⊢
  omega
theorem pr_self (s : Nat → Int) (i : Nat) : ¬ mq_ahd s i i = true := by
  rw [pr_iff]
  omega
abbrev pr_in (s : Nat → Int) (i : Nat) : Int := if s (6 + 11 * i) = 1 then 1 else 0
theorem pr_cnt {s : Nat → Int} (hI : mr_I s) : mz_s (pr_in s) 10 = mq_cnt s := mz_s_c fun b hb => by
  show (if s (6 + 11 * b) = 1 then (1 : Int) else 0) = s (6 + 11 * b)
  have := hI.here hb
  split <;> omega
theorem mz_s_lt {f g : Nat → Int} {k : Nat} : ∀ {n : Nat}, (∀ i, i < n → f i ≤ g i) → k < n → f k < g k → mz_s f n < mz_s g n
  | 0, _, hk, _ => absurd hk (Nat.not_lt_zero _)
  | n + 1, h, hk, hf => by
    show mz_s f n + f n < mz_s g n + g n
    have hn := h n (by omega)
    by_cases e : k = n
    · subst e
      have := mz_s_le (n := k) (f := f) (g := g) fun i hi => h i (by omega)
      omega
    · have := mz_s_lt (n := n) (fun i hi => h i (by omega)) (by omega) hf
      omega
theorem pr_lt {s : Nat → Int} (hI : mr_I s) {i : Nat} (hi : i < 10) (hh : s (6 + 11 * i) = 1) : mq_ahs s i 10 < mq_cnt s := by
  rw [← pr_cnt hI]
  refine mz_s_lt (k := i) (fun j hj => ?_) hi ?_
  · show (if s (6 + 11 * j) = 1 ∧ mq_ahd s j i = true then (1 : Int) else 0) ≤ if s (6 + 11 * j) = 1 then 1 else 0
    by_cases c : s (6 + 11 * j) = 1
    · rw [if_pos c]; split <;> omega
    · rw [if_neg c, if_neg (fun q => c q.1)]; omega
  · show (if s (6 + 11 * i) = 1 ∧ mq_ahd s i i = true then (1 : Int) else 0) < if s (6 + 11 * i) = 1 then 1 else 0
    rw [if_pos hh, if_neg (fun q => pr_self s i q.2)]
    decide
theorem pr_mono {s : Nat → Int} {i j : Nat} (hi : i < 10) (hh : s (6 + 11 * i) = 1) (h : mq_ahd s i j = true) : mq_ahs s i 10 < mq_ahs s j 10 := by
  refine mz_s_lt (k := i) (fun k hk => ?_) hi ?_
  · show (if s (6 + 11 * k) = 1 ∧ mq_ahd s k i = true then (1 : Int) else 0) ≤ if s (6 + 11 * k) = 1 ∧ mq_ahd s k j = true then 1 else 0
    by_cases c : s (6 + 11 * k) = 1 ∧ mq_ahd s k i = true
    · rw [if_pos c, if_pos ⟨c.1, pr_tr c.2 h⟩]; omega
    · rw [if_neg c]; split <;> omega
  · show (if s (6 + 11 * i) = 1 ∧ mq_ahd s i i = true then (1 : Int) else 0) < if s (6 + 11 * i) = 1 ∧ mq_ahd s i j = true then 1 else 0
    rw [if_neg (fun q => pr_self s i q.2), if_pos ⟨hh, h⟩]
    decide
theorem pr_inj {s : Nat → Int} {i j : Nat} (hi : i < 10) (hj : j < 10) (hhi : s (6 + 11 * i) = 1) (hhj : s (6 + 11 * j) = 1) (e : mq_ahs s i 10 = mq_ahs s j 10) : i = j := Classical.byContradiction fun q => by
  rcases pr_tot s q with h | h
  · have := pr_mono hi hhi h; omega
  · have := pr_mono hj hhj h; omega
theorem mz_s_u {f : Nat → Int} : ∀ {n : Nat}, (∀ i, i < n → f i = 0 ∨ f i = 1) → (∀ i j, i < n → j < n → f i = 1 → f j = 1 → i = j) → mz_s f n ≤ 1
  | 0, _, _ => by show (0 : Int) ≤ 1; decide
  | n + 1, h, hu => by
    show mz_s f n + f n ≤ 1
    rcases h n (by omega) with h0 | h1
    · have := mz_s_u (n := n) (fun i hi => h i (by omega)) fun i j hi hj => hu i j (by omega) (by omega)
      omega
    · have : mz_s f n = 0 := by
        rw [mz_s_c (g := fun _ => 0) fun i hi => ?_, mz_s_zero]
        rcases h i (by omega) with q | q
        · exact q
        · have := hu i n (by omega) (by omega) q h1
          omega
      omega
/-- each rank is held -/
theorem pr_ex {s : Nat → Int} (hI : mr_I s) {r : Nat} (hr : (r : Int) < mq_cnt s) : ∃ i, i < 10 ∧ s (6 + 11 * i) = 1 ∧ mq_ahs s i 10 = r := Classical.byContradiction fun hno => by
  have hc := mq_cnt_in hI
  obtain ⟨N, hN⟩ : ∃ N : Nat, mq_cnt s = N := ⟨(mq_cnt s).toNat, by omega⟩
  have h1 : mz_s (fun q => mz_s (fun b => if s (6 + 11 * b) = 1 ∧ mq_ahs s b 10 = (q : Int) then 1 else 0) 10) N = mz_s (fun b => mz_s (fun q => if s (6 + 11 * b) = 1 ∧ mq_ahs s b 10 = (q : Int) then 1 else 0) N) 10 := mz_s_sw (fun q b => if s (6 + 11 * b) = 1 ∧ mq_ahs s b 10 = (q : Int) then 1 else 0) 10 N
  have h2 : mz_s (fun b => mz_s (fun q => if s (6 + 11 * b) = 1 ∧ mq_ahs s b 10 = (q : Int) then 1 else 0) N) 10 = N := by
    rw [← hN, ← pr_cnt hI]
    refine mz_s_c fun b hb => ?_
    show mz_s (fun q => if s (6 + 11 * b) = 1 ∧ mq_ahs s b 10 = (q : Int) then 1 else 0) N = if s (6 + 11 * b) = 1 then 1 else 0
    by_cases c : s (6 + 11 * b) = 1
    · have e : mz_s (fun q => if s (6 + 11 * b) = 1 ∧ mq_ahs s b 10 = (q : Int) then (1 : Int) else 0) N = mz_s (fun q => if mq_ahs s b 10 = (q : Int) then (1 : Int) else 0) N := mz_s_c fun q _ => by
        show (if s (6 + 11 * b) = 1 ∧ mq_ahs s b 10 = (q : Int) then (1 : Int) else 0) = if mq_ahs s b 10 = (q : Int) then (1 : Int) else 0
        by_cases c2 : mq_ahs s b 10 = (q : Int)
        · rw [if_pos ⟨c, c2⟩, if_pos c2]
        · rw [if_neg (fun z => c2 z.2), if_neg c2]
      have hl := pr_lt hI hb c
      have h0 := mq_ahs0 s b 10
      rw [if_pos c, e, mz_s_one, if_pos ⟨h0, by omega⟩]
    · rw [if_neg c, mz_s_c (g := fun _ => 0) fun q _ => if_neg fun z => c z.1, mz_s_zero]
  have h3 : mz_s (fun q => mz_s (fun b => if s (6 + 11 * b) = 1 ∧ mq_ahs s b 10 = (q : Int) then 1 else 0) 10) N < mz_s (fun _ => 1) N := by
    refine mz_s_lt (k := r) (fun q hq => ?_) (by omega) ?_
    · refine mz_s_u (fun b hb => ?_) fun b b' hb hb' e e' => ?_
      · by_cases c : s (6 + 11 * b) = 1 ∧ mq_ahs s b 10 = (q : Int)
        · exact Or.inr (if_pos c)
        · exact Or.inl (if_neg c)
      · have c : s (6 + 11 * b) = 1 ∧ mq_ahs s b 10 = (q : Int) := Classical.byContradiction fun c => by
          have e : (if s (6 + 11 * b) = 1 ∧ mq_ahs s b 10 = (q : Int) then (1 : Int) else 0) = 1 := e
          rw [if_neg c] at e; cases e
        have c' : s (6 + 11 * b') = 1 ∧ mq_ahs s b' 10 = (q : Int) := Classical.byContradiction fun c' => by
          have e' : (if s (6 + 11 * b') = 1 ∧ mq_ahs s b' 10 = (q : Int) then (1 : Int) else 0) = 1 := e'
          rw [if_neg c'] at e'; cases e'
        exact pr_inj hb hb' c.1 c'.1 (c.2.trans c'.2.symm)
    · show mz_s (fun b => if s (6 + 11 * b) = 1 ∧ mq_ahs s b 10 = ((r : Nat) : Int) then (1 : Int) else 0) 10 < 1
      rw [mz_s_c (g := fun _ => 0) fun b hb => if_neg fun z => hno ⟨b, hb, z.1, z.2⟩, mz_s_zero]
      decide
  have h4 : ∀ n : Nat, mz_s (fun _ => 1) n = n := fun n => by
    induction n with
    | zero => rfl
    | succ n ih => show mz_s (fun _ => 1) n + 1 = ((n + 1 : Nat) : Int); rw [ih]; omega
  rw [h1, h2, h4] at h3
  omega
theorem pr_rnk {s : Nat → Int} {r : Int} : ∀ k i, i + k = 10 → (∃ j, i ≤ j ∧ j < 10 ∧ s (6 + 11 * j) = 1 ∧ mq_ahs s j 10 = r) → ∃ j : Nat, mq_rnk s r k i = j ∧ j < 10 ∧ s (6 + 11 * j) = 1 ∧ mq_ahs s j 10 = r
  | 0, i, hk, ⟨j, h1, h2, _⟩ => by omega
  | k + 1, i, hk, ⟨j, h1, h2, h3, h4⟩ => by
    have e : mq_rnk s r (k + 1) i = if s (6 + 11 * i) = 1 ∧ mq_ahs s i 10 = r then (i : Int) else mq_rnk s r k (i + 1) := rfl
    by_cases c : s (6 + 11 * i) = 1 ∧ mq_ahs s i 10 = r
    · exact ⟨i, by rw [e, if_pos c], by omega, c.1, c.2⟩
    · rw [e, if_neg c]
      refine pr_rnk k (i + 1) (by omega) ⟨j, ?_, h2, h3, h4⟩
      have : i ≠ j := fun q => by subst q; exact c ⟨h3, h4⟩
      omega
theorem pr_at' {s : Nat → Int} (hI : mr_I s) {r : Nat} (hr : (r : Int) < mq_cnt s) : ∃ j : Nat, mq_rnk s r 10 0 = j ∧ j < 10 ∧ s (6 + 11 * j) = 1 ∧ mq_ahs s j 10 = r := by
  obtain ⟨j, h2, h3, h4⟩ := pr_ex hI hr
  exact pr_rnk 10 0 rfl ⟨j, Nat.zero_le _, h2, h3, h4⟩
theorem pr_no {s : Nat → Int} {r : Int} : ∀ k i, i + k = 10 → (∀ j, i ≤ j → j < 10 → ¬ (s (6 + 11 * j) = 1 ∧ mq_ahs s j 10 = r)) → mq_rnk s r k i = -1
  | 0, _, _, _ => rfl
  | k + 1, i, hk, h => by
    have e : mq_rnk s r (k + 1) i = if s (6 + 11 * i) = 1 ∧ mq_ahs s i 10 = r then (i : Int) else mq_rnk s r k (i + 1) := rfl
    rw [e, if_neg (h i (Nat.le_refl _) (by omega))]
    exact pr_no k (i + 1) (by omega) fun j h1 h2 => h j (by omega) h2
theorem pr_end {s : Nat → Int} (hI : mr_I s) : mq_rnk s (mq_cnt s) 10 0 = -1 := pr_no 10 0 rfl fun j _ hj h => by
  have := pr_lt hI hj h.1
  omega
/-- neighbours in rank stand in order -/
theorem pr_ord {s : Nat → Int} {i j : Nat} (hi : i < 10) (hj : j < 10) (hhj : s (6 + 11 * j) = 1) (h : mq_ahs s i 10 < mq_ahs s j 10) : ¬ (mr_ho s i 0 < mr_ho s j 0 ∨ (mr_ho s j 0 = mr_ho s i 0 ∧ (mr_bal s i 0 < mr_bal s j 0 ∨ (mr_bal s j 0 = mr_bal s i 0 ∧ j < i)))) := fun q => by
  have := pr_mono (s := s) (i := j) (j := i) hj hhj ((pr_iff s j i).mpr q)
  omega
