/-! CALMS -/
/-- how many hours from f on are calm, at most n -/
def cl_l (c : Nat → Bool) : Nat → Nat → Nat
  | _, 0 => 0
  | f, n + 1 => if c f = true then cl_l c (f + 1) n + 1 else 0
def cl_a (c : Nat → Bool) (p k : Nat) : Prop := ∀ q, p ≤ q → q < p + k → c q = true
theorem cl_le (c : Nat → Bool) : ∀ n f, cl_l c f n ≤ n
  | 0, _ => Nat.le_refl 0
  | n + 1, f => by
    have := cl_le c n (f + 1)
    show (if c f = true then cl_l c (f + 1) n + 1 else 0) ≤ n + 1
    split <;> omega
theorem cl_ca (c : Nat → Bool) : ∀ n f, cl_a c f (cl_l c f n)
  | 0, f => fun q h1 h2 => by
    have : q < f + 0 := h2
    omega
  | n + 1, f => fun q h1 h2 => by
    have h2 : q < f + (if c f = true then cl_l c (f + 1) n + 1 else 0) := h2
    by_cases e : c f = true
    · rw [if_pos e] at h2
      by_cases e2 : q = f
      · rw [e2]; exact e
      · exact cl_ca c n (f + 1) q (by omega) (by omega)
    · rw [if_neg e] at h2
      omega
theorem cl_ac (c : Nat → Bool) : ∀ n f k, cl_a c f k → k ≤ n → k ≤ cl_l c f n
  | 0, f, k, _, h => h
  | n + 1, f, k, ha, h => by
    show k ≤ (if c f = true then cl_l c (f + 1) n + 1 else 0)
    by_cases e : k = 0
    · omega
    · rw [if_pos (ha f (by omega) (by omega))]
      have := cl_ac c n (f + 1) (k - 1) (fun q h1 h2 => ha q (by omega) (by omega)) (by omega)
      omega
/-- the longest of the first n starts -/
def cl_m (c : Nat → Bool) : Nat → Nat
  | 0 => 0
  | n + 1 => if cl_m c n < cl_l c n 24 then cl_l c n 24 else cl_m c n
theorem cl_m_u (c : Nat → Bool) : ∀ n f, f < n → cl_l c f 24 ≤ cl_m c n
  | 0, _, h => by omega
  | n + 1, f, h => by
    show _ ≤ (if cl_m c n < cl_l c n 24 then cl_l c n 24 else cl_m c n)
    by_cases e : f = n
    · subst e; split <;> omega
    · have := cl_m_u c n f (by omega)
      split <;> omega
theorem cl_m_w (c : Nat → Bool) : ∀ n, cl_m c n = 0 ∨ ∃ f, f < n ∧ cl_m c n = cl_l c f 24
  | 0 => Or.inl rfl
  | n + 1 => by
    by_cases e : cl_m c n < cl_l c n 24
    · exact Or.inr ⟨n, by omega, if_pos e⟩
    · have e2 : cl_m c (n + 1) = cl_m c n := if_neg e
      rw [e2]
      rcases cl_m_w c n with h | ⟨f, h1, h2⟩
      · exact Or.inl h
      · exact Or.inr ⟨f, by omega, h2⟩
theorem cl_m_le (c : Nat → Bool) (n : Nat) : cl_m c n ≤ 24 := by
  rcases cl_m_w c n with h | ⟨f, h1, h2⟩
  · omega
  · have := cl_le c 24 f; omega
/-- two days in one go: the calm that ends before h, and the longest until then -/
def cl_r (c : Nat → Bool) : Nat → Nat
  | 0 => 0
  | h + 1 => if c h = true then cl_r c h + 1 else 0
def cl_b (c : Nat → Bool) : Nat → Nat
  | 0 => 0
  | h + 1 => if cl_b c h < cl_r c (h + 1) then cl_r c (h + 1) else cl_b c h
theorem cl_r_le (c : Nat → Bool) : ∀ h, cl_r c h ≤ h
  | 0 => Nat.le_refl 0
  | h + 1 => by
    have := cl_r_le c h
    show (if c h = true then cl_r c h + 1 else 0) ≤ h + 1
    split <;> omega
theorem cl_r_a (c : Nat → Bool) : ∀ h, cl_a c (h - cl_r c h) (cl_r c h)
  | 0 => fun q h1 h2 => by
    have : q < 0 := h2
    omega
  | h + 1 => fun q h1 h2 => by
    have hl := cl_r_le c h
    by_cases e : c h = true
    · have er : cl_r c (h + 1) = cl_r c h + 1 := if_pos e
      rw [er] at h1 h2
      by_cases e2 : q = h
      · rw [e2]; exact e
      · exact cl_r_a c h q (by omega) (by omega)
    · have er : cl_r c (h + 1) = 0 := if_neg e
      rw [er] at h1 h2
      omega
theorem cl_a_r (c : Nat → Bool) : ∀ h p k, cl_a c p k → p + k = h → k ≤ cl_r c h
  | 0, p, k, _, h => by omega
  | h + 1, p, k, ha, hh => by
    by_cases e : k = 0
    · omega
    · have er : cl_r c (h + 1) = cl_r c h + 1 := if_pos (ha h (by omega) (by omega))
      have := cl_a_r c h p (k - 1) (fun q h1 h2 => ha q (by omega) (by omega)) (by omega)
      omega
theorem cl_b_u (c : Nat → Bool) : ∀ h j, j ≤ h → cl_r c j ≤ cl_b c h
  | 0, j, hj => by
    have : j = 0 := by omega
    subst this
    exact Nat.le_refl 0
  | h + 1, j, hj => by
    show _ ≤ (if cl_b c h < cl_r c (h + 1) then cl_r c (h + 1) else cl_b c h)
    by_cases e : j = h + 1
    · subst e; split <;> omega
    · have := cl_b_u c h j (by omega)
      split <;> omega
theorem cl_b_w (c : Nat → Bool) : ∀ h, ∃ j, j ≤ h ∧ cl_b c h = cl_r c j
  | 0 => ⟨0, Nat.le_refl 0, rfl⟩
  | h + 1 => by
    by_cases e : cl_b c h < cl_r c (h + 1)
    · exact ⟨h + 1, by omega, if_pos e⟩
    · obtain ⟨j, h1, h2⟩ := cl_b_w c h
      exact ⟨j, by omega, (if_neg e : cl_b c (h + 1) = cl_b c h).trans h2⟩
theorem cl_two {c : Nat → Bool} (hp : ∀ q, c (q + 24) = c q) : (if 24 < cl_b c 48 then 24 else cl_b c 48) = cl_m c 24 := by
  have hp2 : ∀ q, c q = c (q % 24) := fun q => by
    have : ∀ k r, c (r + 24 * k) = c r := fun k => by
      induction k with
      | zero => intro r; rfl
      | succ k ih => intro r; rw [show r + 24 * (k + 1) = (r + 24 * k) + 24 by omega, hp, ih]
    have := this (q / 24) (q % 24)
    rw [Nat.mod_add_div] at this
    exact this
  have le1 : (if 24 < cl_b c 48 then 24 else cl_b c 48) ≤ cl_m c 24 := by
    obtain ⟨j, hj, e⟩ := cl_b_w c 48
    have ha := cl_r_a c j
    have hl := cl_r_le c j
    rw [e]
    have : ∀ k, k ≤ cl_r c j → k ≤ 24 → k ≤ cl_m c 24 := fun k h1 h2 => by
      refine Nat.le_trans (cl_ac c 24 ((j - cl_r c j) % 24) k (fun q q1 q2 => ?_) h2) (cl_m_u c 24 ((j - cl_r c j) % 24) (Nat.mod_lt _ (by decide)))
      have := ha (j - cl_r c j + (q - (j - cl_r c j) % 24)) (by omega) (by omega)
      rw [hp2] at this ⊢
      rw [show q % 24 = (j - cl_r c j + (q - (j - cl_r c j) % 24)) % 24 by omega]
      exact this
    split
    · exact this 24 (by omega) (by omega)
    · exact this _ (by omega) (by omega)
  have le2 : cl_m c 24 ≤ (if 24 < cl_b c 48 then 24 else cl_b c 48) := by
    have h24 := cl_m_le c 24
    rcases cl_m_w c 24 with h | ⟨f, h1, h2⟩
    · omega
    · have h3 := cl_a_r c (f + cl_l c f 24) f _ (cl_ca c 24 f) rfl
      have h4 := cl_b_u c 48 (f + cl_l c f 24) (by have := cl_le c 24 f; omega)
      split <;> omega
  omega
/-- calm at most as strong as y -/
def mq_cm (s : Nat → Int) (y : Int) : Nat → Bool := fun q => decide (-y ≤ s (116 + q % 24) ∧ s (116 + q % 24) ≤ y)
theorem mq_cm_p (s : Nat → Int) (y : Int) (q : Nat) : mq_cm s y (q + 24) = mq_cm s y q := by unfold mq_cm; rw [Nat.add_mod_right]
def mq_clm (s : Nat → Int) (y : Int) : Int := (cl_m (mq_cm s y) 24 : Nat)
section CLM
variable {X : mv_X} {P : mz_P} {V : mz_V} {z : Nat × Nat} {x v n d m : Nat} {s : Nat → Int} {y : Int}
theorem Y3_calm2 (hP : mX_P P x v n) (hI : mr_I s) (h : mh_R V (x + 1) s) (hy : 0 ≤ y ∧ y ≤ 9) : mv_call X (d + 2) 37 [.ref (x + 1), .int (nZ y)] (mz_h P V, z) = some (.inl (some (.int (nZ (mq_clm s y)))), (mz_h P V, z)) := by
  obtain ⟨c, hc⟩ : ∃ c, c = mq_cm s y := ⟨_, rfl⟩
  have hp : ∀ q, c (q + 24) = c q := fun q => by rw [hc]; exact mq_cm_p s y q
  rw [mc_X3_calmOfTwoDays, bk_X3_calmOfTwoDays_0]
  refine mz_loop (φ := fun i => mv_run X (mv_call X (d + 1)) m_X3_calmOfTwoDays 7 [.ref (x + 1), .int (nZ y), .int (nZ (cl_b c i : Nat)), .int (nZ (cl_r c i : Nat)), .int (nZ i)] [] (mz_h P V, z) = _) 48 ?_ (fun i hi ih => ?_) 0 (Nat.zero_le _)
  · show mv_run X (mv_call X (d + 1)) m_X3_calmOfTwoDays 7 _ _ _ = _
    have hb : cl_b c 48 ≤ 48 := by
      obtain ⟨j, hj, e⟩ := cl_b_w c 48
      have := cl_r_le c j
      omega
    rw [bk_X3_calmOfTwoDays_7, if_pos (by exact Int32.le_refl _)]
    simp only [mv_clI, mv_cl, J9_min (show nS ((cl_b c 48 : Nat) : Int) from ⟨by omega, by omega⟩) (show nS 24 by decide)]
    have e := cl_two hp
    have e2 : mq_clm s y = if (24 : Int) < (cl_b c 48 : Nat) then 24 else ((cl_b c 48 : Nat) : Int) := by
      unfold mq_clm
      rw [← hc, ← e]
      split <;> split <;> omega
    rw [e2]
  · show mv_run X (mv_call X (d + 1)) m_X3_calmOfTwoDays 7 _ _ _ = _
    have hb : cl_b c i ≤ i := by
      obtain ⟨j, hj, e⟩ := cl_b_w c i
      have := cl_r_le c j
      omega
    have hr := cl_r_le c i
    have eb : cl_b c (i + 1) = if cl_b c i < cl_r c (i + 1) then cl_r c (i + 1) else cl_b c i := rfl
    have er : cl_r c (i + 1) = if c i = true then cl_r c i + 1 else 0 := rfl
    have hw := hI.wind (i := i % 24) (Nat.mod_lt _ (by decide))
    have hm : ((i : Int) % 24) = ((i % 24 : Nat) : Int) := by omega
    have ih : mv_run X (mv_call X (d + 1)) m_X3_calmOfTwoDays 7 [.ref (x + 1), .int (nZ y), .int (nZ (cl_b c (i + 1) : Nat)), .int (nZ (cl_r c (i + 1) : Nat)), .int (nZ (i + 1 : Nat))] [] (mz_h P V, z) = _ := ih
    have hm24 : i % 24 < 24 := Nat.mod_lt _ (by decide)
    rw [nc1] at ih
    rw [bk_X3_calmOfTwoDays_7, if_neg (by rw [nZ_le (by decide) ⟨by omega, by omega⟩]; omega), mz_gR hP.h0.1 (by decide) hP.h0.2.2.2.2.1, if_neg (by decide), nZ_mod24 (by omega) (by omega), hm, mz_aJ hP.h0.2.2.2.2.2.1 (by omega) (by omega) (by decide), Int.toNat_natCast, h.2.2.1 _ hm24]
    simp only [mv_clI, mv_cl, J9_abs (show nS (s (116 + i % 24)) from ⟨by omega, by omega⟩)]
    have ec : c i = true ↔ (-y ≤ s (116 + i % 24) ∧ s (116 + i % 24) ≤ y) := by rw [hc]; exact decide_eq_true_iff
    by_cases e : c i = true
    · rw [if_pos e] at er
      have := ec.mp e
      rw [if_neg (by rw [nZ_lt ⟨by omega, by omega⟩ ⟨by split <;> omega, by split <;> omega⟩]; split <;> omega), nZ_add]
      simp only [J9_max (show nS ((cl_b c i : Nat) : Int) from ⟨by omega, by omega⟩) (show nS ((cl_r c i : Nat) + 1 : Int) from ⟨by omega, by omega⟩), nZ_add]
      have e1 : ((cl_b c (i + 1) : Nat) : Int) = if ((cl_b c i : Nat) : Int) < (cl_r c i : Nat) + 1 then ((cl_r c i : Nat) + 1 : Int) else (cl_b c i : Nat) := by
        rw [eb, er]
        split <;> split <;> omega
      rw [e1, er, nc1] at ih
      exact ih
    · rw [if_neg e] at er
      have : ¬ (-y ≤ s (116 + i % 24) ∧ s (116 + i % 24) ≤ y) := fun q => e (ec.mpr q)
      rw [if_pos (by rw [nZ_lt ⟨by omega, by omega⟩ ⟨by split <;> omega, by split <;> omega⟩]; split <;> omega)]
      simp only [J9_max (show nS ((cl_b c i : Nat) : Int) from ⟨by omega, by omega⟩) (show nS 0 by decide), nZ_add]
      have e1 : ((cl_b c (i + 1) : Nat) : Int) = if ((cl_b c i : Nat) : Int) < 0 then (0 : Int) else (cl_b c i : Nat) := by
        rw [eb, er]
        split <;> split <;> omega
      rw [e1, er] at ih
      exact ih
theorem Y3_calmT (hP : mX_P P x v n) (hI : mr_I s) (h : mh_R V (x + 1) s) (hy : 0 ≤ y ∧ y ≤ 9) : mv_call X (d + 2) 38 [.ref (x + 1), .int (nZ y)] (mz_h P V, z) = some (.inl (some (.int (nZ (mq_clm s y)))), (mz_h P V, z)) := by
  obtain ⟨c, hc⟩ : ∃ c, c = mq_cm s y := ⟨_, rfl⟩
  rw [mc_X3_calmByTrying, bk_X3_calmByTrying_0]
  have key : ∀ k f, f + k = 24 → ∀ (j4 j5 : Value), mv_run X (mv_call X (d + 1)) m_X3_calmByTrying 4 [.ref (x + 1), .int (nZ y), .int (nZ (cl_m c f : Nat)), .int (nZ f), j4, j5] [] (mz_h P V, z) = some (.inl (some (.int (nZ (mq_clm s y)))), (mz_h P V, z)) := by
    intro k
    induction k with
    | zero =>
      intro f hf j4 j5
      have : f = 24 := by omega
      subst this
      rw [bk_X3_calmByTrying_4, if_pos (by exact Int32.le_refl _), hc]
      rfl
    | succ k ih =>
      intro f hf j4 j5
      have hm24 := cl_m_le c f
      rw [bk_X3_calmByTrying_4, if_neg (by rw [nZ_le (by decide) ⟨by omega, by omega⟩]; omega)]
      have ih := ih (f + 1) (by omega)
      rw [nc1] at ih
      -- with l hours tried and calm
      have inner : ∀ k2 l : Nat, l + k2 = 24 → l + cl_l c (f + l) k2 = cl_l c f 24 → ∀ (b : Nat), b ≤ 24 → l ≤ b → (if b < cl_l c f 24 then cl_l c f 24 else b) = cl_m c (f + 1) → ∀ j5 : Value, mv_run X (mv_call X (d + 1)) m_X3_calmByTrying 13 [.ref (x + 1), .int (nZ y), .int (nZ b), .int (nZ f), .int (nZ ((l : Int) + 1)), j5] [] (mz_h P V, z) = some (.inl (some (.int (nZ (mq_clm s y)))), (mz_h P V, z)) := by
        intro k2
        induction k2 with
        | zero =>
          intro l hl hcl b hb hlb hbm j5
          have : l = 24 := by omega
          subst this
          have h24 := cl_le c 24 f
          have : b = cl_m c (f + 1) := by
            rw [← hbm, if_neg (by omega)]
          rw [bk_X3_calmByTrying_13, if_pos (by decide), nZ_add, this]
          exact ih _ _
        | succ k2 ih2 =>
          intro l hl hcl b hb hlb hbm j5
          have e0 : cl_l c (f + l) (k2 + 1) = if c (f + l) = true then cl_l c (f + l + 1) k2 + 1 else 0 := rfl
          have hm24 : (f + l) % 24 < 24 := Nat.mod_lt _ (by decide)
          have hw := hI.wind hm24
          have hm : ((f : Int) + (l + 1) - 1) % 24 = (((f + l) % 24 : Nat) : Int) := by omega
          have ec : c (f + l) = true ↔ (-y ≤ s (116 + (f + l) % 24) ∧ s (116 + (f + l) % 24) ≤ y) := by rw [hc]; exact decide_eq_true_iff
          rw [bk_X3_calmByTrying_13, if_neg (by rw [nZ_lt (by decide) ⟨by omega, by omega⟩]; omega), if_neg (by decide), mz_gR hP.h0.1 (by decide) hP.h0.2.2.2.2.1, nZ_add, nZ_sub, nZ_mod24 (by omega) (by omega), hm, mz_aJ hP.h0.2.2.2.2.2.1 (by omega) (by omega) (by decide), Int.toNat_natCast, h.2.2.1 _ hm24]
          simp only [mv_clI, mv_cl, J9_abs (show nS (s (116 + (f + l) % 24)) from ⟨by omega, by omega⟩)]
          by_cases e : c (f + l) = true
          · have := ec.mp e
            rw [if_pos e] at e0
            rw [if_pos (by rw [nZ_le ⟨by split <;> omega, by split <;> omega⟩ ⟨by omega, by omega⟩]; split <;> omega)]
            simp only [J9_max (show nS ((b : Nat) : Int) from ⟨by omega, by omega⟩) (show nS ((l : Nat) + 1 : Int) from ⟨by omega, by omega⟩), nZ_add]
            have e1 : (if ((b : Nat) : Int) < (l : Nat) + 1 then ((l : Nat) + 1 : Int) else (b : Nat)) = ((if b < l + 1 then l + 1 else b : Nat) : Int) := by split <;> split <;> omega
            have e2 : ((l : Int) + 1 + 1) = ((l + 1 : Nat) : Int) + 1 := by omega
            rw [e1, e2]
            have e3 : f + (l + 1) = f + l + 1 := by omega
            refine ih2 (l + 1) (by omega) (by rw [e3]; omega) _ (by split <;> omega) (by split <;> omega) ?_ _
            rw [← hbm]
            have : l + 1 ≤ cl_l c f 24 := by omega
            repeat' split
            all_goals omega
          · have : ¬ (-y ≤ s (116 + (f + l) % 24) ∧ s (116 + (f + l) % 24) ≤ y) := fun q => e (ec.mpr q)
            rw [if_neg e] at e0
            rw [if_neg (by rw [nZ_le ⟨by split <;> omega, by split <;> omega⟩ ⟨by omega, by omega⟩]; split <;> omega), nZ_add]
            have : b = cl_m c (f + 1) := by
              rw [← hbm, if_neg (by omega)]
            rw [this]
            exact ih _ _
      exact inner 24 0 (by omega) (by rw [Nat.zero_add]; rfl) (cl_m c f) hm24 (by omega) rfl j5
  exact key 24 0 (by decide) _ _
theorem Y8_reqW_y (hy : 0 ≤ y ∧ y ≤ 9) {hp : mv_H} : mv_call X (d + 2) 144 [.int (nZ y)] hp = some (.inl none, hp) := by
  rw [mc_X8_requireWindStrength, bk_X8_requireWindStrength_0]
  simp only [mv_clI, mv_cl, X8_isWithin (show nS y from ⟨by omega, by omega⟩) (show nS 0 by decide) (show nS 9 by decide), nZ_b1]
  rw [if_neg (fun q => q hy)]
theorem Y8_reqW_n (hy : nS y) (c : ¬ (0 ≤ y ∧ y ≤ 9)) {hp : mv_H} : mv_call X (d + 2) 144 [.int (nZ y)] hp = some (.inr (0, hp.2.1), (hp.1, hp.2.1 + 1, hp.2.2 + 6)) := by
  rw [mc_X8_requireWindStrength, bk_X8_requireWindStrength_0]
  simp only [mv_clI, mv_cl, X8_isWithin hy (show nS 0 by decide) (show nS 9 by decide), nZ_b1]
  rw [if_pos c]
  rfl
theorem Q8_longestCalm (hP : mX_P P x v n) (hI : mr_I s) (h : mh_R V (x + 1) s) (hy : nS y) : mv_call X (d + 3) 106 [.ref x, .int (nZ y)] (mz_h P V, z) = mq_r P V z (if 0 ≤ y ∧ y ≤ 9 then 0 else 1) (mq_clm s y) 0 := by
  rw [mc_X8_longestCalm, bk_X8_longestCalm_0]
  by_cases c : 0 ≤ y ∧ y ≤ 9
  · rw [mq_r0 (if_pos c)]
    simp only [mv_clV, mv_clI, mv_cl, Y8_reqW_y c, mx_g0 hP, mz_rcv hP.h0.1, Y3_calm2 hP hI h c]
  · rw [mq_r1 (by rw [if_neg c]; decide)]
    simp only [mv_clV, mv_cl, Y8_reqW_n hy c]
    rfl
theorem Q8_longestCalmByTrying (hP : mX_P P x v n) (hI : mr_I s) (h : mh_R V (x + 1) s) (hy : nS y) : mv_call X (d + 3) 107 [.ref x, .int (nZ y)] (mz_h P V, z) = mq_r P V z (if 0 ≤ y ∧ y ≤ 9 then 0 else 1) (mq_clm s y) 0 := by
  rw [mc_X8_longestCalmByTrying, bk_X8_longestCalmByTrying_0]
  by_cases c : 0 ≤ y ∧ y ≤ 9
  · rw [mq_r0 (if_pos c)]
    simp only [mv_clV, mv_clI, mv_cl, Y8_reqW_y c, mx_g0 hP, mz_rcv hP.h0.1, Y3_calmT hP hI h c]
  · rw [mq_r1 (by rw [if_neg c]; decide)]
    simp only [mv_clV, mv_cl, Y8_reqW_n hy c]
    rfl
end CLM
