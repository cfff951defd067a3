/-! wind, told alike -/
theorem rs_n_t {t : Nat → Int} {L e K p : Nat} {l : List Int} {g : Nat → Int} : rs_n t L l e K (true, p, g) = (true, p, mr_up g e 0) := by
  unfold rs_n
  show (if (rs_s t L l true p).1 = true then (true, (rs_s t L l true p).2, mr_up g e 0) else _) = _
  rw [rs_s_t, if_pos rfl]
theorem rs_n_y {t : Nat → Int} {L e K p p' : Nat} {l : List Int} {g : Nat → Int} (h : rs_s t L l false p = (false, p')) : rs_n t L l e K (false, p, g) = (decide ((pr_num t L K p' 0).2 = p'), (pr_num t L K p' 0).2, mr_up g e (pr_num t L K p' 0).1) := by
  unfold rs_n
  show (if (rs_s t L l false p).1 = true then _ else (decide ((pr_num t L K (rs_s t L l false p).2 0).2 = (rs_s t L l false p).2), (pr_num t L K (rs_s t L l false p).2 0).2, mr_up g e (pr_num t L K (rs_s t L l false p).2 0).1)) = _
  rw [h]
  rfl
theorem rs_w_e {t : Nat → Int} {L N : Nat} {s s1 : rs_T} {q : Bool × Nat} (h1 : rs_n t L [119, 105, 110, 100, 32] (5 * N + 1) 2 s = s1) (hq : rs_s t L [61] s1.1 s1.2.1 = q) : rs_w t L N s = if q.1 = false ∧ pr_chr t L 45 q.2 = true then ((rs_n t L [45] (5 * N + 2) 1 (q.1, q.2, s1.2.2)).1, (rs_n t L [45] (5 * N + 2) 1 (q.1, q.2, s1.2.2)).2.1, mr_up (rs_n t L [45] (5 * N + 2) 1 (q.1, q.2, s1.2.2)).2.2 (5 * N + 2) ((rs_n t L [45] (5 * N + 2) 1 (q.1, q.2, s1.2.2)).2.2 (5 * N + 2) * -1)) else rs_n t L [] (5 * N + 2) 1 (q.1, q.2, s1.2.2) := by
  unfold rs_w
  rw [h1, hq]
theorem rw_rel {t : Nat → Int} {L N p : Nat} (g0 g : Nat → Int) :
    (pr_fm t L (fm_l 5) p (0, g0)).1 = !(rs_w t L N (false, p, g)).1 ∧ (pr_fm t L (fm_l 5) p (0, g0)).2.1 = (rs_w t L N (false, p, g)).2.1 ∧ (∀ i, (i < 5 * N + 1 ∨ 5 * N + 3 ≤ i) → (rs_w t L N (false, p, g)).2.2 i = g i) ∧
    ((pr_fm t L (fm_l 5) p (0, g0)).1 = true → (pr_fm t L (fm_l 5) p (0, g0)).2.2.1 = 2 ∧ ∀ i, i < 2 → (rs_w t L N (false, p, g)).2.2 (5 * N + (i + 1)) = (pr_fm t L (fm_l 5) p (0, g0)).2.2.2 i) := by
  have ef : fm_l 5 = [119, 105, 110, 100, 32] ++ (if (2 : Nat) = 1 then 68 else 78) :: [61, 83] := rfl
  have hl : ∀ y, y ∈ [(119 : Int), 105, 110, 100, 32] → y ≠ 68 ∧ y ≠ 78 ∧ y ≠ 83 := by decide
  have fails : ∀ (p' : Nat) (g' : Nat → Int), (∀ i, (i < 5 * N + 1 ∨ 5 * N + 3 ≤ i) → g' i = g i) → rs_n t L [119, 105, 110, 100, 32] (5 * N + 1) 2 (false, p, g) = (true, p', g') → (rs_w t L N (false, p, g)).1 = true ∧ (rs_w t L N (false, p, g)).2.1 = p' ∧ ∀ i, (i < 5 * N + 1 ∨ 5 * N + 3 ≤ i) → (rs_w t L N (false, p, g)).2.2 i = g i := fun p' g' hg h => by
    have e := rs_w_e (N := N) h (q := (true, p')) (rs_s_t t L [61] p')
    rw [if_neg (fun w => absurd (show true = false from w.1) (by decide))] at e
    rw [e, rs_n_t]
    exact ⟨rfl, rfl, fun i hi => (mr_up_n _ _ (by omega)).trans (hg i hi)⟩
  rw [ef, pr_lits _ p hl]
  by_cases c : (rs_s t L [119, 105, 110, 100, 32] false p).1 = true
  · rw [if_pos c]
    have h : rs_n t L [119, 105, 110, 100, 32] (5 * N + 1) 2 (false, p, g) = (true, (rs_s t L [119, 105, 110, 100, 32] false p).2, mr_up g (5 * N + 1) 0) := by
      unfold rs_n
      exact if_pos c
    obtain ⟨a1, a2, a3⟩ := fails _ _ (fun i hi => mr_up_n _ _ (by omega)) h
    exact ⟨by rw [a1]; rfl, a2.symm, a3, fun w => absurd (show false = true from w) (by decide)⟩
  · rw [if_neg c, pr_numb (Or.inr rfl)]
    obtain ⟨p1, hp1⟩ : ∃ p1, p1 = (rs_s t L [119, 105, 110, 100, 32] false p).2 := ⟨_, rfl⟩
    have hs : rs_s t L [119, 105, 110, 100, 32] false p = (false, p1) := by
      have : (rs_s t L [119, 105, 110, 100, 32] false p).1 = false := by
        cases hb : (rs_s t L [119, 105, 110, 100, 32] false p).1 with
        | false => rfl
        | true => exact absurd hb c
      exact Prod.ext this hp1.symm
    have h := rs_n_y (e := 5 * N + 1) (K := 2) (g := g) hs
    rw [← hp1]
    have hn := (pr_num_p t L 2 p1 0).1
    by_cases c2 : p1 < (pr_num t L 2 p1 0).2
    · have ea : ps_add (0, g0) (pr_num t L 2 p1 0).1 = (1, mr_up g0 0 (pr_num t L 2 p1 0).1) := rfl
      rw [decide_eq_false (show ¬ (pr_num t L 2 p1 0).2 = p1 by omega)] at h
      rw [if_pos c2, ea, pr_fm_lit (by decide)]
      by_cases c3 : pr_chr t L 61 (pr_num t L 2 p1 0).2 = true
      · have hq : rs_s t L [61] false (pr_num t L 2 p1 0).2 = (false, (pr_num t L 2 p1 0).2 + 1) := by
          show (if pr_chr t L 61 (pr_num t L 2 p1 0).2 = true then rs_s t L [] false ((pr_num t L 2 p1 0).2 + 1) else (true, (pr_num t L 2 p1 0).2)) = _
          rw [if_pos c3]; rfl
        have e := rs_w_e (N := N) h hq
        obtain ⟨p3, hp3⟩ : ∃ p3, p3 = (pr_num t L 2 p1 0).2 + 1 := ⟨_, rfl⟩
        obtain ⟨v1, hv1⟩ : ∃ v1, v1 = (pr_num t L 2 p1 0).1 := ⟨_, rfl⟩
        rw [← hp3, ← hv1] at e
        rw [if_pos c3, ← hp3, ← hv1]
        have e83 : pr_fm t L [83] p3 (1, mr_up g0 0 v1) = if pr_chr t L 45 p3 = true then pr_n t L 1 (-1) (p3 + 1) (1, mr_up g0 0 v1) else pr_n t L 1 1 p3 (1, mr_up g0 0 v1) := by
          have : pr_at t L 83 p3 (1, mr_up g0 0 v1) = if pr_chr t L 45 p3 = true then pr_n t L 1 (-1) (p3 + 1) (1, mr_up g0 0 v1) else pr_n t L 1 1 p3 (1, mr_up g0 0 v1) := rfl
          show (if (pr_at t L 83 p3 (1, mr_up g0 0 v1)).1 = true then (true, (pr_at t L 83 p3 (1, mr_up g0 0 v1)).2.1, (pr_at t L 83 p3 (1, mr_up g0 0 v1)).2.2) else pr_at t L 83 p3 (1, mr_up g0 0 v1)) = _
          rw [← this]
          split
          · rename_i w
            rw [← w]
          · rfl
        rw [e83]
        by_cases c4 : pr_chr t L 45 p3 = true
        · have h5 : rs_s t L [45] false p3 = (false, p3 + 1) := by
            show (if pr_chr t L 45 p3 = true then rs_s t L [] false (p3 + 1) else (true, p3)) = _
            rw [if_pos c4]; rfl
          rw [if_pos ⟨rfl, c4⟩, rs_n_y h5] at e
          rw [if_pos c4, e]
          have hn5 := (pr_num_p t L 1 (p3 + 1) 0).1
          refine ⟨?_, rfl, fun i hi => ?_, fun w => ⟨rfl, fun i hi => ?_⟩⟩
          · show decide (p3 + 1 < (pr_num t L 1 (p3 + 1) 0).2) = !decide ((pr_num t L 1 (p3 + 1) 0).2 = p3 + 1)
            by_cases ec : (pr_num t L 1 (p3 + 1) 0).2 = p3 + 1
            · rw [decide_eq_true ec, decide_eq_false (by omega)]; rfl
            · rw [decide_eq_false ec, decide_eq_true (by omega)]; rfl
          · show mr_up (mr_up (mr_up g (5 * N + 1) v1) (5 * N + 2) _) (5 * N + 2) _ i = g i
            rw [mr_up_n _ _ (by omega), mr_up_n _ _ (by omega), mr_up_n _ _ (by omega)]
          · show mr_up (mr_up (mr_up g (5 * N + 1) v1) (5 * N + 2) (pr_num t L 1 (p3 + 1) 0).1) (5 * N + 2) (mr_up (mr_up g (5 * N + 1) v1) (5 * N + 2) (pr_num t L 1 (p3 + 1) 0).1 (5 * N + 2) * -1) (5 * N + (i + 1)) = mr_up (mr_up g0 0 v1) 1 (-1 * (pr_num t L 1 (p3 + 1) 0).1) i
            have hi2 : i = 0 ∨ i = 1 := by omega
            rcases hi2 with rfl | rfl
            · rw [mr_up_n _ _ (by omega), mr_up_n _ _ (by omega), mr_up_s, mr_up_n _ _ (by decide), mr_up_s]
            · rw [mr_up_s, mr_up_s, mr_up_s]; omega
        · have h5 : rs_s t L [] false p3 = (false, p3) := rfl
          rw [if_neg (fun w => c4 w.2), rs_n_y h5] at e
          rw [if_neg c4, e]
          have hn5 := (pr_num_p t L 1 p3 0).1
          refine ⟨?_, rfl, fun i hi => ?_, fun w => ⟨rfl, fun i hi => ?_⟩⟩
          · show decide (p3 < (pr_num t L 1 p3 0).2) = !decide ((pr_num t L 1 p3 0).2 = p3)
            by_cases ec : (pr_num t L 1 p3 0).2 = p3
            · rw [decide_eq_true ec, decide_eq_false (by omega)]; rfl
            · rw [decide_eq_false ec, decide_eq_true (by omega)]; rfl
          · show mr_up (mr_up g (5 * N + 1) v1) (5 * N + 2) _ i = g i
            rw [mr_up_n _ _ (by omega), mr_up_n _ _ (by omega)]
          · show mr_up (mr_up g (5 * N + 1) v1) (5 * N + 2) (pr_num t L 1 p3 0).1 (5 * N + (i + 1)) = mr_up (mr_up g0 0 v1) 1 (1 * (pr_num t L 1 p3 0).1) i
            have hi2 : i = 0 ∨ i = 1 := by omega
            rcases hi2 with rfl | rfl
            · rw [mr_up_n _ _ (by omega), mr_up_s, mr_up_n _ _ (by decide), mr_up_s]
            · rw [mr_up_s, mr_up_s]; omega
      · have hq : rs_s t L [61] false (pr_num t L 2 p1 0).2 = (true, (pr_num t L 2 p1 0).2) := by
          show (if pr_chr t L 61 (pr_num t L 2 p1 0).2 = true then rs_s t L [] false ((pr_num t L 2 p1 0).2 + 1) else (true, (pr_num t L 2 p1 0).2)) = _
          rw [if_neg c3]
        have e := rs_w_e (N := N) h hq
        rw [if_neg (fun w => absurd (show true = false from w.1) (by decide)), rs_n_t] at e
        rw [if_neg c3, e]
        exact ⟨rfl, rfl, fun i hi => by show mr_up (mr_up g (5 * N + 1) _) (5 * N + 2) 0 i = g i; rw [mr_up_n _ _ (by omega), mr_up_n _ _ (by omega)], fun w => absurd (show false = true from w) (by decide)⟩
    · rw [decide_eq_true (show (pr_num t L 2 p1 0).2 = p1 by omega)] at h
      obtain ⟨a1, a2, a3⟩ := fails _ _ (fun i hi => mr_up_n _ _ (by omega)) h
      rw [if_neg c2]
      exact ⟨by rw [a1]; rfl, a2.symm, a3, fun w => absurd (show false = true from w) (by decide)⟩
