/-! ONE COMMAND READ: the form that its first letters tell -/
def pk_k (t : Nat → Int) (L p : Nat) : Nat := if pr_chr t L 109 p = true then 0 else if pr_chr t L 99 p = true then 1 else if pr_chr t L 108 p = true then (if pr_chr t L 101 (p + 1) = true then 8 else 2) else if pr_chr t L 100 p = true then 3 else if pr_chr t L 114 p = true then 4 else if pr_chr t L 119 p = true then (if pr_chr t L 97 (p + 1) = true then 6 else 5) else if pr_chr t L 112 p = true then 7 else 9
theorem pr_fm_lit {t : Nat → Int} {L p : Nat} {q : Nat × (Nat → Int)} {y : Int} {l : List Int} (h : y ≠ 68 ∧ y ≠ 78 ∧ y ≠ 83) : pr_fm t L (y :: l) p q = if pr_chr t L y p = true then pr_fm t L l (p + 1) q else (false, p, q) := by
  have e : pr_at t L y p q = if pr_chr t L y p = true then (true, p + 1, q) else (false, p, q) := by
    unfold pr_at
    rw [if_neg h.1, if_neg h.2.1, if_neg h.2.2]
  show (if (pr_at t L y p q).1 = true then pr_fm t L l (pr_at t L y p q).2.1 (pr_at t L y p q).2.2 else pr_at t L y p q) = _
  rw [e]
  by_cases c : pr_chr t L y p = true
  · rw [if_pos c, if_pos c]; rfl
  · rw [if_neg c, if_neg c]; rfl
theorem pr_fm_p (t : Nat → Int) (L : Nat) : ∀ (l : List Int) (p : Nat) (q : Nat × (Nat → Int)), p ≤ L → p ≤ (pr_fm t L l p q).2.1 ∧ (pr_fm t L l p q).2.1 ≤ L ∧ (q.1 ≤ 4 → (pr_fm t L l p q).2.2.1 ≤ 4)
  | [], p, q, h => ⟨Nat.le_refl _, h, fun h => h⟩
  | y :: l, p, q, h => by
    obtain ⟨a1, a2, a3⟩ := pr_at_L (t := t) (q := q) (y := y) h
    have := pr_fm_p t L l (pr_at t L y p q).2.1 (pr_at t L y p q).2.2 a2
    show p ≤ (if (pr_at t L y p q).1 = true then pr_fm t L l (pr_at t L y p q).2.1 (pr_at t L y p q).2.2 else pr_at t L y p q).2.1 ∧ (if (pr_at t L y p q).1 = true then pr_fm t L l (pr_at t L y p q).2.1 (pr_at t L y p q).2.2 else pr_at t L y p q).2.1 ≤ L ∧ (q.1 ≤ 4 → (if (pr_at t L y p q).1 = true then pr_fm t L l (pr_at t L y p q).2.1 (pr_at t L y p q).2.2 else pr_at t L y p q).2.2.1 ≤ 4)
    split
    · exact ⟨by omega, this.2.1, fun w => this.2.2 (a3 w)⟩
    · exact ⟨a1, a2, a3⟩
/-- the first letters of the forms -/
def fm_1 (k : Nat) : Int := if k = 0 then 109 else if k = 1 then 99 else if k = 2 then 108 else if k = 3 then 100 else if k = 4 then 114 else if k = 5 then 119 else if k = 6 then 119 else if k = 7 then 112 else 108
theorem fm_hd (k : Nat) : ∃ l, fm_l k = fm_1 k :: l ∧ fm_1 k ≠ 68 ∧ fm_1 k ≠ 78 ∧ fm_1 k ≠ 83 := by
  unfold fm_l fm_1
  repeat' split
  all_goals exact ⟨_, rfl, by decide, by decide, by decide⟩
/-- another form than the one told fails, and no further -/
theorem pk_other {t : Nat → Int} {L p k : Nat} {q : Nat × (Nat → Int)} (hk : k < 9) (hne : k ≠ pk_k t L p) (hp : p ≤ L) : (pr_fm t L (fm_l k) p q).1 = false ∧ ((pr_fm t L (fm_l k) p q).2.1 = p ∨ (pk_k t L p < 9 ∧ (pr_fm t L (fm_l k) p q).2.1 = p + 1 ∧ pr_chr t L (fm_1 (pk_k t L p)) p = true)) := by
  obtain ⟨l, e1, e2⟩ := fm_hd k
  by_cases c : pr_chr t L (fm_1 k) p = true
  · -- its first letter stands there: one of two with it
    have hc := of_decide_eq_true c
    have no : ∀ y : Int, fm_1 k ≠ y → ¬ pr_chr t L y p = true := fun y hy w => hy (hc.2.symm.trans (of_decide_eq_true w).2)
    have hcase : k = 0 ∨ k = 1 ∨ k = 2 ∨ k = 3 ∨ k = 4 ∨ k = 5 ∨ k = 6 ∨ k = 7 ∨ k = 8 := by omega
    rcases hcase with rfl | rfl | rfl | rfl | rfl | rfl | rfl | rfl | rfl
    · exact absurd (show 0 = pk_k t L p by unfold pk_k; rw [if_pos (show pr_chr t L 109 p = true from c)]) hne
    · exact absurd (show 1 = pk_k t L p by unfold pk_k; rw [if_neg (no 109 (by decide)), if_pos (show pr_chr t L 99 p = true from c)]) hne
    · have c' : pr_chr t L 108 p = true := c
      have e : pk_k t L p = if pr_chr t L 101 (p + 1) = true then 8 else 2 := by unfold pk_k; rw [if_neg (no 109 (by decide)), if_neg (no 99 (by decide)), if_pos c']
      by_cases c2 : pr_chr t L 101 (p + 1) = true
      · rw [if_pos c2] at e
        have n2 : ¬ pr_chr t L 111 (p + 1) = true := fun w => by
          have a1 := (of_decide_eq_true c2).2
          have a2 := (of_decide_eq_true w).2
          omega
        have ef : pr_fm t L (fm_l 2) p q = (false, p + 1, q) := by
          show pr_fm t L (108 :: 111 :: _) p q = _
          rw [pr_fm_lit (by decide), if_pos c', pr_fm_lit (by decide), if_neg n2]
        rw [ef]
        exact ⟨rfl, Or.inr ⟨by rw [e]; decide, rfl, by rw [e]; exact c'⟩⟩
      · rw [if_neg c2] at e
        exact absurd e.symm hne
    · exact absurd (show 3 = pk_k t L p by unfold pk_k; rw [if_neg (no 109 (by decide)), if_neg (no 99 (by decide)), if_neg (no 108 (by decide)), if_pos (show pr_chr t L 100 p = true from c)]) hne
    · exact absurd (show 4 = pk_k t L p by unfold pk_k; rw [if_neg (no 109 (by decide)), if_neg (no 99 (by decide)), if_neg (no 108 (by decide)), if_neg (no 100 (by decide)), if_pos (show pr_chr t L 114 p = true from c)]) hne
    · have c' : pr_chr t L 119 p = true := c
      have e : pk_k t L p = if pr_chr t L 97 (p + 1) = true then 6 else 5 := by unfold pk_k; rw [if_neg (no 109 (by decide)), if_neg (no 99 (by decide)), if_neg (no 108 (by decide)), if_neg (no 100 (by decide)), if_neg (no 114 (by decide)), if_pos c']
      by_cases c2 : pr_chr t L 97 (p + 1) = true
      · rw [if_pos c2] at e
        have n2 : ¬ pr_chr t L 105 (p + 1) = true := fun w => by
          have a1 := (of_decide_eq_true c2).2
          have a2 := (of_decide_eq_true w).2
          omega
        have ef : pr_fm t L (fm_l 5) p q = (false, p + 1, q) := by
          show pr_fm t L (119 :: 105 :: _) p q = _
          rw [pr_fm_lit (by decide), if_pos c', pr_fm_lit (by decide), if_neg n2]
        rw [ef]
        exact ⟨rfl, Or.inr ⟨by rw [e]; decide, rfl, by rw [e]; exact c'⟩⟩
      · rw [if_neg c2] at e
        exact absurd e.symm hne
    · have c' : pr_chr t L 119 p = true := c
      have e : pk_k t L p = if pr_chr t L 97 (p + 1) = true then 6 else 5 := by unfold pk_k; rw [if_neg (no 109 (by decide)), if_neg (no 99 (by decide)), if_neg (no 108 (by decide)), if_neg (no 100 (by decide)), if_neg (no 114 (by decide)), if_pos c']
      by_cases c2 : pr_chr t L 97 (p + 1) = true
      · rw [if_pos c2] at e
        exact absurd e.symm hne
      · rw [if_neg c2] at e
        have ef : pr_fm t L (fm_l 6) p q = (false, p + 1, q) := by
          show pr_fm t L (119 :: 97 :: _) p q = _
          rw [pr_fm_lit (by decide), if_pos c', pr_fm_lit (by decide), if_neg c2]
        rw [ef]
        exact ⟨rfl, Or.inr ⟨by rw [e]; decide, rfl, by rw [e]; exact c'⟩⟩
    · exact absurd (show 7 = pk_k t L p by unfold pk_k; rw [if_neg (no 109 (by decide)), if_neg (no 99 (by decide)), if_neg (no 108 (by decide)), if_neg (no 100 (by decide)), if_neg (no 114 (by decide)), if_neg (no 119 (by decide)), if_pos (show pr_chr t L 112 p = true from c)]) hne
    · have c' : pr_chr t L 108 p = true := c
      have e : pk_k t L p = if pr_chr t L 101 (p + 1) = true then 8 else 2 := by unfold pk_k; rw [if_neg (no 109 (by decide)), if_neg (no 99 (by decide)), if_pos c']
      by_cases c2 : pr_chr t L 101 (p + 1) = true
      · rw [if_pos c2] at e
        exact absurd e.symm hne
      · rw [if_neg c2] at e
        have ef : pr_fm t L (fm_l 8) p q = (false, p + 1, q) := by
          show pr_fm t L (108 :: 101 :: _) p q = _
          rw [pr_fm_lit (by decide), if_pos c', pr_fm_lit (by decide), if_neg c2]
        rw [ef]
        exact ⟨rfl, Or.inr ⟨by rw [e]; decide, rfl, by rw [e]; exact c'⟩⟩
  · have ef : pr_fm t L (fm_l k) p q = (false, p, q) := by rw [e1, pr_fm_lit e2, if_neg c]
    rw [ef]
    exact ⟨rfl, Or.inl rfl⟩
/-- values don't depend on what stood there -/
theorem pr_at_q {t : Nat → Int} {L p : Nat} {y : Int} (j : Nat) (g g' : Nat → Int) : (pr_at t L y p (j, g)).1 = (pr_at t L y p (j, g')).1 ∧ (pr_at t L y p (j, g)).2.1 = (pr_at t L y p (j, g')).2.1 ∧ (pr_at t L y p (j, g)).2.2.1 = (pr_at t L y p (j, g')).2.2.1 ∧ j ≤ (pr_at t L y p (j, g)).2.2.1 ∧ ∀ i, (g i = g' i ∨ (j ≤ i ∧ i < (pr_at t L y p (j, g)).2.2.1)) → (pr_at t L y p (j, g)).2.2.2 i = (pr_at t L y p (j, g')).2.2.2 i := by
  have ad : ∀ y : Int, (ps_add (j, g) y).1 = (ps_add (j, g') y).1 ∧ j ≤ (ps_add (j, g) y).1 ∧ ∀ i, (g i = g' i ∨ (j ≤ i ∧ i < (ps_add (j, g) y).1)) → (ps_add (j, g) y).2 i = (ps_add (j, g') y).2 i := fun y => by
    unfold ps_add
    by_cases c : j < 4
    · rw [if_pos (show (j, g).1 < 4 from c), if_pos (show (j, g').1 < 4 from c)]
      refine ⟨rfl, by show j ≤ j + 1; omega, fun i hi => ?_⟩
      show mr_up g j y i = mr_up g' j y i
      have hi : g i = g' i ∨ (j ≤ i ∧ i < j + 1) := hi
      by_cases e : i = j
      · rw [e, mr_up_s, mr_up_s]
      · rw [mr_up_n _ _ e, mr_up_n _ _ e]
        rcases hi with h | h
        · exact h
        · omega
    · rw [if_neg (show ¬ (j, g).1 < 4 from c), if_neg (show ¬ (j, g').1 < 4 from c)]
      refine ⟨rfl, Nat.le_refl _, fun i hi => ?_⟩
      have hi : g i = g' i ∨ (j ≤ i ∧ i < j) := hi
      show g i = g' i
      rcases hi with h | h
      · exact h
      · omega
  have nn : ∀ (k : Nat) (sg : Int) (p : Nat), (pr_n t L k sg p (j, g)).1 = (pr_n t L k sg p (j, g')).1 ∧ (pr_n t L k sg p (j, g)).2.1 = (pr_n t L k sg p (j, g')).2.1 ∧ (pr_n t L k sg p (j, g)).2.2.1 = (pr_n t L k sg p (j, g')).2.2.1 ∧ j ≤ (pr_n t L k sg p (j, g)).2.2.1 ∧ ∀ i, (g i = g' i ∨ (j ≤ i ∧ i < (pr_n t L k sg p (j, g)).2.2.1)) → (pr_n t L k sg p (j, g)).2.2.2 i = (pr_n t L k sg p (j, g')).2.2.2 i := fun k sg p => ⟨rfl, rfl, (ad _).1, (ad _).2.1, (ad _).2.2⟩
  unfold pr_at
  by_cases c1 : y = 68
  · rw [if_pos c1, if_pos c1]; exact nn 1 1 p
  · rw [if_neg c1, if_neg c1]
    by_cases c2 : y = 78
    · rw [if_pos c2, if_pos c2]; exact nn 2 1 p
    · rw [if_neg c2, if_neg c2]
      by_cases c3 : y = 83
      · rw [if_pos c3, if_pos c3]
        by_cases c4 : pr_chr t L 45 p = true
        · rw [if_pos c4, if_pos c4]; exact nn 1 (-1) (p + 1)
        · rw [if_neg c4, if_neg c4]; exact nn 1 1 p
      · rw [if_neg c3, if_neg c3]
        by_cases c4 : pr_chr t L y p = true
        · rw [if_pos c4, if_pos c4]
          exact ⟨rfl, rfl, rfl, Nat.le_refl _, fun i hi => hi.elim id fun w => by have w2 : i < j := w.2; omega⟩
        · rw [if_neg c4, if_neg c4]
          exact ⟨rfl, rfl, rfl, Nat.le_refl _, fun i hi => hi.elim id fun w => by have w2 : i < j := w.2; omega⟩
theorem pr_fm_q {t : Nat → Int} {L : Nat} : ∀ (l : List Int) (p j : Nat) (g g' : Nat → Int), (pr_fm t L l p (j, g)).1 = (pr_fm t L l p (j, g')).1 ∧ (pr_fm t L l p (j, g)).2.1 = (pr_fm t L l p (j, g')).2.1 ∧ (pr_fm t L l p (j, g)).2.2.1 = (pr_fm t L l p (j, g')).2.2.1 ∧ j ≤ (pr_fm t L l p (j, g)).2.2.1 ∧ ∀ i, (g i = g' i ∨ (j ≤ i ∧ i < (pr_fm t L l p (j, g)).2.2.1)) → (pr_fm t L l p (j, g)).2.2.2 i = (pr_fm t L l p (j, g')).2.2.2 i
  | [], p, j, g, g' => ⟨rfl, rfl, rfl, Nat.le_refl _, fun i hi => hi.elim id fun w => by have w2 : i < j := w.2; omega⟩
  | y :: l, p, j, g, g' => by
    obtain ⟨a1, a2, a3, a4, a5⟩ := pr_at_q (t := t) (L := L) (p := p) (y := y) j g g'
    have e : ∀ g : Nat → Int, pr_fm t L (y :: l) p (j, g) = if (pr_at t L y p (j, g)).1 = true then pr_fm t L l (pr_at t L y p (j, g)).2.1 (pr_at t L y p (j, g)).2.2 else pr_at t L y p (j, g) := fun _ => rfl
    rw [e g, e g']
    by_cases c : (pr_at t L y p (j, g)).1 = true
    · rw [if_pos c, if_pos (by rw [← a1]; exact c)]
      obtain ⟨b1, b2, b3, b4, b5⟩ := pr_fm_q l (pr_at t L y p (j, g)).2.1 (pr_at t L y p (j, g)).2.2.1 (pr_at t L y p (j, g)).2.2.2 (pr_at t L y p (j, g')).2.2.2
      have e2 : (pr_at t L y p (j, g')).2.2 = ((pr_at t L y p (j, g)).2.2.1, (pr_at t L y p (j, g')).2.2.2) := by rw [a3]
      rw [← a2, e2]
      refine ⟨b1, b2, b3, Nat.le_trans a4 b4, fun i hi => b5 i ?_⟩
      by_cases ci : i < (pr_at t L y p (j, g)).2.2.1
      · exact Or.inl (a5 i (hi.imp id fun w => ⟨w.1, ci⟩))
      · rcases hi with h | h
        · exact Or.inl (a5 i (Or.inl h))
        · exact Or.inr ⟨by omega, h.2⟩
    · rw [if_neg c, if_neg (by rw [← a1]; exact c)]
      exact ⟨a1, a2, a3, a4, a5⟩
/-- what a command's text says: whether it is one, and how far -/
def pc_r (t : Nat → Int) (L p : Nat) : Bool × Nat × (Nat × (Nat → Int)) := if pk_k t L p = 9 then (false, p, (0, fun _ => 0)) else pr_fm t L (fm_l (pk_k t L p)) p (0, fun _ => 0)
theorem pk_9 (t : Nat → Int) (L p : Nat) : pk_k t L p ≤ 9 := by
  unfold pk_k
  repeat' split
  all_goals decide
section CMD
variable {X : mv_X} {P : mz_P} {V : mz_V} {z : Nat × Nat} {x v n d c L p x0 : Nat} {t F : Nat → Int} {q : Nat × (Nat → Int)}
theorem X6_readCommand (hX : mx_W X P x0) (hS : ∀ k, k < 9 → mx_S X x0 (21 + k) (fm_l k)) (hP : mX_P P x v n) (hT : pz_T P V x L t) (hc : x + 349 ≤ c) (hC : mz_Cm P c) (hp : p ≤ L) : ∃ (F' : Nat → Int) (q' : Nat × (Nat → Int)), mv_call X (d + 6) 71 [.ref (x + 346), .ref c] (mz_h P (pz_V V x c F p q), z) = some (.inl (some (.int (nZ (if (pc_r t L p).1 = true then 1 else 0)))), (mz_h P (pz_V V x c F' (pc_r t L p).2.1 q'), z)) ∧
    ((pc_r t L p).1 = true → F' 0 = pk_k t L p ∧ ∀ i, i < (pc_r t L p).2.2.1 → q'.2 i = (pc_r t L p).2.2.2 i) := by
  obtain ⟨t1, t2, t3, -⟩ := hP.tx
  obtain ⟨hL1, hL2, hL3⟩ := id hT
  have h9 := pk_9 t L p
  have far0 : p ≤ (pc_r t L p).2.1 ∧ (pc_r t L p).2.1 ≤ L := by
    unfold pc_r
    split
    · exact ⟨Nat.le_refl _, hp⟩
    · have := pr_fm_p t L (fm_l (pk_k t L p)) p (0, fun _ => 0) hp
      exact ⟨this.1, this.2.1⟩
  have far1 : pk_k t L p < 9 → pr_chr t L (fm_1 (pk_k t L p)) p = true → p + 1 ≤ (pc_r t L p).2.1 := fun h1 h2 => by
    unfold pc_r
    rw [if_neg (by omega)]
    obtain ⟨l, e1, e2⟩ := fm_hd (pk_k t L p)
    rw [e1, pr_fm_lit e2, if_pos h2]
    have := of_decide_eq_true h2
    exact (pr_fm_p t L l (p + 1) _ (by omega)).1
  rw [mc_X6_readCommand, bk_X6_readCommand_0, mz_gI t1 (by decide), pz_p hc]
  have key : ∀ r k : Nat, k + r = 9 → ∀ (F : Nat → Int) (p' : Nat) (q : Nat × (Nat → Int)) (f : Nat), p ≤ f → f ≤ (pc_r t L p).2.1 → (pk_k t L p < k ∨ pk_k t L p = 9 → f = (pc_r t L p).2.1) → (pk_k t L p < k → (pc_r t L p).1 = false) → ∃ (F' : Nat → Int) (q' : Nat × (Nat → Int)), mv_run X (mv_call X (d + 5)) m_X6_readCommand 10 [.ref (x + 346), .ref c, .int (nZ p), .int (nZ f), .int (nZ k)] [] (mz_h P (pz_V V x c F p' q), z) = some (.inl (some (.int (nZ (if (pc_r t L p).1 = true then 1 else 0)))), (mz_h P (pz_V V x c F' (pc_r t L p).2.1 q'), z)) ∧
      ((pc_r t L p).1 = true → F' 0 = pk_k t L p ∧ ∀ i, i < (pc_r t L p).2.2.1 → q'.2 i = (pc_r t L p).2.2.2 i) := by
    intro r
    induction r with
    | zero =>
      intro k hk F p' q f f1 f2 f3 f4
      have : k = 9 := by omega
      subst this
      have ef := f3 (by omega)
      have en : ¬ (pc_r t L p).1 = true := fun w => by
        by_cases e : pk_k t L p = 9
        · unfold pc_r at w
          rw [if_pos e] at w
          exact absurd (show false = true from w) (by decide)
        · rw [f4 (by omega)] at w
          exact absurd w (by decide)
      refine ⟨F, q, ?_, fun w => absurd w en⟩
      rw [bk_X6_readCommand_10, if_pos (by exact Int32.le_refl _), mz_pW t1 (by decide), pz_mv hc, ef, if_neg en]
    | succ r ih =>
      intro k hk F p' q f f1 f2 f3 f4
      have hk9 : k < 9 := by omega
      have ih := ih (k + 1) (by omega)
      rw [nc1] at ih
      rw [bk_X6_readCommand_10, if_neg (by rw [nZ_le (by decide) ⟨by omega, by omega⟩]; omega), mz_pW t1 (by decide), pz_mv hc, mz_rcv t1]
      simp only [mv_clI, mv_cl, X6_readAs (d := d) (q := q) (F := F) hX (hS k hk9) hk9 hP hT hc hC hp, nZ_b1]
      obtain ⟨a1, a2, -⟩ := pr_fm_p t L (fm_l k) p (0, q.2) hp
      by_cases ek : k = pk_k t L p
      · -- the form told
        have er : pc_r t L p = pr_fm t L (fm_l k) p (0, fun _ => 0) := by unfold pc_r; rw [if_neg (by omega), ← ek]
        obtain ⟨b1, b2, b3, b4, b5⟩ := pr_fm_q (t := t) (L := L) (fm_l k) p 0 q.2 (fun _ => 0)
        rw [← er] at b1 b2 b3 b5
        by_cases co : (pr_fm t L (fm_l k) p (0, q.2)).1 = true
        · have ok : (pc_r t L p).1 = true := b1.symm.trans co
          refine ⟨mr_up F 0 k, (pr_fm t L (fm_l k) p (0, q.2)).2.2, ?_, fun _ => ⟨by rw [mr_up_s, ek], fun i hi => b5 i (Or.inr ⟨Nat.zero_le _, by rw [b3]; exact hi⟩)⟩⟩
          rw [if_neg (fun w => w co), if_pos ok, b2]
        · have nok : (pc_r t L p).1 = false := by
            cases hb : (pc_r t L p).1 with
            | false => rfl
            | true => exact absurd (b1.trans hb) co
          rw [if_pos co, mz_gI t1 (by decide), pz_p hc]
          simp only [J9_max (show nS ((f : Nat) : Int) from ⟨by omega, by omega⟩) (show nS (((pr_fm t L (fm_l k) p (0, q.2)).2.1 : Nat) : Int) from ⟨by omega, by omega⟩), nZ_add]
          have em : (if ((f : Nat) : Int) < ((pr_fm t L (fm_l k) p (0, q.2)).2.1 : Nat) then (((pr_fm t L (fm_l k) p (0, q.2)).2.1 : Nat) : Int) else (f : Nat)) = (((pc_r t L p).2.1 : Nat) : Int) := by
            rw [b2]
            split <;> omega
          rw [em]
          exact ih (mr_up F 0 k) _ _ (pc_r t L p).2.1 far0.1 (Nat.le_refl _) (fun _ => rfl) (fun _ => nok)
      · obtain ⟨o1, o2⟩ := pk_other (t := t) (L := L) (p := p) (q := (0, q.2)) hk9 ek hp
        have co : ¬ (pr_fm t L (fm_l k) p (0, q.2)).1 = true := by rw [o1]; decide
        have le : (pr_fm t L (fm_l k) p (0, q.2)).2.1 ≤ (pc_r t L p).2.1 := by
          rcases o2 with h | ⟨h1, h2, h3⟩
          · omega
          · have := far1 h1 h3
            omega
        have le9 : pk_k t L p = 9 → (pr_fm t L (fm_l k) p (0, q.2)).2.1 = p := fun w => by
          rcases o2 with h | ⟨h1, h2, h3⟩
          · exact h
          · omega
        rw [if_pos co, mz_gI t1 (by decide), pz_p hc]
        simp only [J9_max (show nS ((f : Nat) : Int) from ⟨by omega, by omega⟩) (show nS (((pr_fm t L (fm_l k) p (0, q.2)).2.1 : Nat) : Int) from ⟨by omega, by omega⟩), nZ_add]
        have em : (if ((f : Nat) : Int) < ((pr_fm t L (fm_l k) p (0, q.2)).2.1 : Nat) then (((pr_fm t L (fm_l k) p (0, q.2)).2.1 : Nat) : Int) else (f : Nat)) = ((if f < (pr_fm t L (fm_l k) p (0, q.2)).2.1 then (pr_fm t L (fm_l k) p (0, q.2)).2.1 else f : Nat) : Int) := by
          split <;> split <;> omega
        rw [em]
        refine ih (mr_up F 0 k) _ _ _ (by split <;> omega) (by split <;> omega) (fun w => ?_) (fun w => f4 (by omega))
        have := f3 (by omega)
        split <;> omega
  obtain ⟨F', q', k1, k2⟩ := key 9 0 (by decide) F p q p (Nat.le_refl _) far0.1 (fun w => by
    rcases w with w | w
    · omega
    · unfold pc_r; rw [if_pos w]) (fun w => absurd w (Nat.not_lt_zero _))
  exact ⟨F', q', k1, k2⟩
end CMD
