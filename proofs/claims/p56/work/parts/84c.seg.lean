/-! FORMS AS STRETCHES: letters, then a number -/
def sg_f : List (List Int × Nat) → List Int
  | [] => []
  | (l, K) :: r => l ++ (if K = 1 then 68 else 78) :: sg_f r
def sg_r (t : Nat → Int) (L N : Nat) : Nat → List (List Int × Nat) → rs_T → rs_T
  | _, [], s => s
  | j, (l, K) :: r, s => sg_r t L N (j + 1) r (rs_n t L l (5 * N + (j + 1)) K s)
theorem rs_s_t (t : Nat → Int) (L : Nat) (l : List Int) (p : Nat) : rs_s t L l true p = (true, p) := by cases l <;> rfl
theorem pr_lits {t : Nat → Int} {L : Nat} {r : List Int} {q : Nat × (Nat → Int)} : ∀ (l : List Int) (p : Nat), (∀ y, y ∈ l → y ≠ 68 ∧ y ≠ 78 ∧ y ≠ 83) → pr_fm t L (l ++ r) p q = if (rs_s t L l false p).1 = true then (false, (rs_s t L l false p).2, q) else pr_fm t L r (rs_s t L l false p).2 q
  | [], p, _ => rfl
  | y :: l, p, h => by
    have er : rs_s t L (y :: l) false p = if pr_chr t L y p = true then rs_s t L l false (p + 1) else (true, p) := rfl
    show pr_fm t L (y :: (l ++ r)) p q = _
    rw [pr_fm_lit (h y List.mem_cons_self), er]
    by_cases c : pr_chr t L y p = true
    · rw [if_pos c, if_pos c]
      exact pr_lits l (p + 1) fun y hy => h y (List.mem_cons_of_mem _ hy)
    · rw [if_neg c, if_neg c]
      rfl
theorem pr_numb {t : Nat → Int} {L K p : Nat} {r : List Int} {q : Nat × (Nat → Int)} (hK : K = 1 ∨ K = 2) : pr_fm t L ((if K = 1 then 68 else 78) :: r) p q = if p < (pr_num t L K p 0).2 then pr_fm t L r (pr_num t L K p 0).2 (ps_add q (pr_num t L K p 0).1) else (false, (pr_num t L K p 0).2, ps_add q (pr_num t L K p 0).1) := by
  have ea : pr_at t L (if K = 1 then 68 else 78) p q = pr_n t L K 1 p q := by
    rcases hK with rfl | rfl
    · rfl
    · rfl
  show (if (pr_at t L (if K = 1 then 68 else 78) p q).1 = true then pr_fm t L r (pr_at t L (if K = 1 then 68 else 78) p q).2.1 (pr_at t L (if K = 1 then 68 else 78) p q).2.2 else pr_at t L (if K = 1 then 68 else 78) p q) = _
  rw [ea]
  have e1 : (1 : Int) * (pr_num t L K p 0).1 = (pr_num t L K p 0).1 := Int.one_mul _
  by_cases c : p < (pr_num t L K p 0).2
  · rw [if_pos c, if_pos (show (pr_n t L K 1 p q).1 = true from decide_eq_true c)]
    show pr_fm t L r (pr_num t L K p 0).2 (ps_add q (1 * (pr_num t L K p 0).1)) = _
    rw [e1]
  · rw [if_neg c, if_neg (show ¬ (pr_n t L K 1 p q).1 = true from fun w => c (of_decide_eq_true w))]
    show (decide (p < (pr_num t L K p 0).2), (pr_num t L K p 0).2, ps_add q (1 * (pr_num t L K p 0).1)) = _
    rw [e1, decide_eq_false c]
/-- once failed, nothing more -/
theorem sg_r_t {t : Nat → Int} {L N : Nat} : ∀ (r : List (List Int × Nat)) (j p : Nat) (g : Nat → Int), (sg_r t L N j r (true, p, g)).1 = true ∧ (sg_r t L N j r (true, p, g)).2.1 = p ∧ ∀ i, (i < 5 * N + (j + 1) ∨ 5 * N + (j + 1) + r.length ≤ i) → (sg_r t L N j r (true, p, g)).2.2 i = g i
  | [], _, _, _ => ⟨rfl, rfl, fun _ _ => rfl⟩
  | (l, K) :: r, j, p, g => by
    have e : rs_n t L l (5 * N + (j + 1)) K (true, p, g) = (true, p, mr_up g (5 * N + (j + 1)) 0) := by
      unfold rs_n
      show (if (rs_s t L l true p).1 = true then (true, (rs_s t L l true p).2, mr_up g (5 * N + (j + 1)) 0) else _) = _
      rw [rs_s_t, if_pos rfl]
    obtain ⟨a1, a2, a3⟩ := sg_r_t (t := t) (L := L) (N := N) r (j + 1) p (mr_up g (5 * N + (j + 1)) 0)
    have e2 : sg_r t L N j ((l, K) :: r) (true, p, g) = sg_r t L N (j + 1) r (true, p, mr_up g (5 * N + (j + 1)) 0) := by
      show sg_r t L N (j + 1) r (rs_n t L l (5 * N + (j + 1)) K (true, p, g)) = _
      rw [e]
    rw [e2]
    refine ⟨a1, a2, fun i hi => ?_⟩
    rw [List.length_cons] at hi
    rw [a3 i (by omega), mr_up_n _ _ (by omega)]
theorem sg_rel {t : Nat → Int} {L N : Nat} : ∀ (r : List (List Int × Nat)) (p j : Nat) (g0 g : Nat → Int), (∀ u, u ∈ r → (u.2 = 1 ∨ u.2 = 2) ∧ ∀ y, y ∈ u.1 → y ≠ 68 ∧ y ≠ 78 ∧ y ≠ 83) → j + r.length ≤ 4 →
    (pr_fm t L (sg_f r) p (j, g0)).1 = !(sg_r t L N j r (false, p, g)).1 ∧ (pr_fm t L (sg_f r) p (j, g0)).2.1 = (sg_r t L N j r (false, p, g)).2.1 ∧ (∀ i, (i < 5 * N + (j + 1) ∨ 5 * N + (j + 1) + r.length ≤ i) → (sg_r t L N j r (false, p, g)).2.2 i = g i) ∧
    ((pr_fm t L (sg_f r) p (j, g0)).1 = true → (pr_fm t L (sg_f r) p (j, g0)).2.2.1 = j + r.length ∧ (∀ i, i < j → (pr_fm t L (sg_f r) p (j, g0)).2.2.2 i = g0 i) ∧ ∀ i, j ≤ i → i < j + r.length → (sg_r t L N j r (false, p, g)).2.2 (5 * N + (i + 1)) = (pr_fm t L (sg_f r) p (j, g0)).2.2.2 i)
  | [], p, j, g0, g, _, _ => ⟨rfl, rfl, fun _ _ => rfl, fun _ => ⟨rfl, fun _ _ => rfl, fun i h1 h2 => by
      have h2 : i < j + 0 := h2
      omega⟩⟩
  | (l, K) :: r, p, j, g0, g, h, hj => by
    rw [List.length_cons] at hj
    obtain ⟨hK, hl⟩ := h (l, K) List.mem_cons_self
    have hr : ∀ u, u ∈ r → (u.2 = 1 ∨ u.2 = 2) ∧ ∀ y, y ∈ u.1 → y ≠ 68 ∧ y ≠ 78 ∧ y ≠ 83 := fun u hu => h u (List.mem_cons_of_mem _ hu)
    have ef : sg_f ((l, K) :: r) = l ++ (if K = 1 then 68 else 78) :: sg_f r := rfl
    have es : sg_r t L N j ((l, K) :: r) (false, p, g) = sg_r t L N (j + 1) r (rs_n t L l (5 * N + (j + 1)) K (false, p, g)) := rfl
    have en : rs_n t L l (5 * N + (j + 1)) K (false, p, g) = if (rs_s t L l false p).1 = true then (true, (rs_s t L l false p).2, mr_up g (5 * N + (j + 1)) 0) else (decide ((pr_num t L K (rs_s t L l false p).2 0).2 = (rs_s t L l false p).2), (pr_num t L K (rs_s t L l false p).2 0).2, mr_up g (5 * N + (j + 1)) (pr_num t L K (rs_s t L l false p).2 0).1) := rfl
    rw [ef, es, en, pr_lits l p hl, List.length_cons]
    by_cases c : (rs_s t L l false p).1 = true
    · rw [if_pos c, if_pos c]
      obtain ⟨a1, a2, a3⟩ := sg_r_t (t := t) (L := L) (N := N) r (j + 1) (rs_s t L l false p).2 (mr_up g (5 * N + (j + 1)) 0)
      refine ⟨by rw [a1]; rfl, a2.symm, fun i hi => ?_, fun w => absurd (show false = true from w) (by decide)⟩
      rw [a3 i (by omega), mr_up_n _ _ (by omega)]
    · rw [if_neg c, if_neg c, pr_numb hK]
      have hn := (pr_num_p t L K (rs_s t L l false p).2 0).1
      by_cases c2 : (rs_s t L l false p).2 < (pr_num t L K (rs_s t L l false p).2 0).2
      · have ea : ps_add (j, g0) (pr_num t L K (rs_s t L l false p).2 0).1 = (j + 1, mr_up g0 j (pr_num t L K (rs_s t L l false p).2 0).1) := by
          unfold ps_add
          rw [if_pos (show (j, g0).1 < 4 by show j < 4; omega)]
        rw [if_pos c2, decide_eq_false (show ¬ (pr_num t L K (rs_s t L l false p).2 0).2 = (rs_s t L l false p).2 by omega), ea]
        obtain ⟨b1, b2, b3, b4⟩ := sg_rel (t := t) (L := L) (N := N) r (pr_num t L K (rs_s t L l false p).2 0).2 (j + 1) (mr_up g0 j (pr_num t L K (rs_s t L l false p).2 0).1) (mr_up g (5 * N + (j + 1)) (pr_num t L K (rs_s t L l false p).2 0).1) hr (by omega)
        refine ⟨b1, b2, fun i hi => by rw [b3 i (by omega), mr_up_n _ _ (by omega)], fun w => ?_⟩
        obtain ⟨d1, d2, d3⟩ := b4 w
        refine ⟨by rw [d1]; omega, fun i hi => by rw [d2 i (by omega), mr_up_n _ _ (by omega)], fun i h1 h2 => ?_⟩
        by_cases e : i = j
        · subst e
          rw [b3 _ (by omega), mr_up_s, d2 i (by omega), mr_up_s]
        · exact d3 i (by omega) (by omega)
      · rw [if_neg c2, decide_eq_true (show (pr_num t L K (rs_s t L l false p).2 0).2 = (rs_s t L l false p).2 by omega)]
        obtain ⟨a1, a2, a3⟩ := sg_r_t (t := t) (L := L) (N := N) r (j + 1) (pr_num t L K (rs_s t L l false p).2 0).2 (mr_up g (5 * N + (j + 1)) (pr_num t L K (rs_s t L l false p).2 0).1)
        refine ⟨by rw [a1]; rfl, a2.symm, fun i hi => ?_, fun w => absurd (show false = true from w) (by decide)⟩
        rw [a3 i (by omega), mr_up_n _ _ (by omega)]
/-- the forms but wind's -/
def fm_s (k : Nat) : List (List Int × Nat) := if k = 0 then [([109, 111, 111, 114, 32], 1), ([32], 2), ([32], 2), ([32], 2)] else if k = 1 then [([99, 97, 115, 116, 32], 1)] else if k = 2 then [([108, 111, 97, 100, 32], 1), ([32], 2)] else if k = 3 then [([100, 114, 111, 112, 32], 1), ([32], 1)] else if k = 4 then [([114, 105, 115, 101, 32], 1), ([32], 2)] else if k = 6 then [([119, 97, 105, 116, 32], 2)] else if k = 7 then [([112, 105, 108, 111, 116, 32], 2), ([32], 2), ([45], 2)] else [([108, 101, 97, 118, 101, 32], 1)]
theorem fm_s_t : ∀ k, k < 9 → (decide (k = 5) || (decide (sg_f (fm_s k) = fm_l k) && decide ((fm_s k).length ≤ 4) && (fm_s k).all fun u => (u.2 == 1 || u.2 == 2) && u.1.all fun y => decide (y ≠ 68 ∧ y ≠ 78 ∧ y ≠ 83))) = true := by decide +kernel
theorem fm_s_l {k : Nat} (hk : k < 9) (h5 : k ≠ 5) : sg_f (fm_s k) = fm_l k ∧ (fm_s k).length ≤ 4 ∧ ∀ u, u ∈ fm_s k → (u.2 = 1 ∨ u.2 = 2) ∧ ∀ y, y ∈ u.1 → y ≠ 68 ∧ y ≠ 78 ∧ y ≠ 83 := by
  have t := fm_s_t k hk
  rw [decide_eq_false h5, Bool.false_or, Bool.and_eq_true, Bool.and_eq_true] at t
  refine ⟨of_decide_eq_true t.1.1, of_decide_eq_true t.1.2, fun u hu => ?_⟩
  have := List.all_eq_true.mp t.2 u hu
  rw [Bool.and_eq_true, Bool.or_eq_true] at this
  refine ⟨this.1.imp (fun w => by simpa using w) (fun w => by simpa using w), fun y hy => ?_⟩
  exact of_decide_eq_true (List.all_eq_true.mp this.2 y hy)
