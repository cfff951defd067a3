/-! TEXTS READ -/
def ps_add (q : Nat × (Nat → Int)) (y : Int) : Nat × (Nat → Int) := if q.1 < 4 then (q.1 + 1, mr_up q.2 q.1 y) else q
def pr_d (t : Nat → Int) (L p : Nat) : Bool := decide (p < L ∧ 48 ≤ t p ∧ t p ≤ 57)
def pr_num (t : Nat → Int) (L : Nat) : Nat → Nat → Int → Int × Nat
  | 0, p, y => (y, p)
  | k + 1, p, y => if pr_d t L p = true then pr_num t L k (p + 1) (10 * y + t p - 48) else (y, p)
def pr_chr (t : Nat → Int) (L : Nat) (c : Int) (p : Nat) : Bool := decide (p < L ∧ t p = c)
def pr_n (t : Nat → Int) (L k : Nat) (sg : Int) (p : Nat) (q : Nat × (Nat → Int)) : Bool × Nat × (Nat × (Nat → Int)) := (decide (p < (pr_num t L k p 0).2), (pr_num t L k p 0).2, ps_add q (sg * (pr_num t L k p 0).1))
def pr_at (t : Nat → Int) (L : Nat) (c : Int) (p : Nat) (q : Nat × (Nat → Int)) : Bool × Nat × (Nat × (Nat → Int)) :=
  if c = 68 then pr_n t L 1 1 p q else if c = 78 then pr_n t L 2 1 p q else if c = 83 then (if pr_chr t L 45 p = true then pr_n t L 1 (-1) (p + 1) q else pr_n t L 1 1 p q) else if pr_chr t L c p = true then (true, p + 1, q) else (false, p, q)
def pr_fm (t : Nat → Int) (L : Nat) : List Int → Nat → Nat × (Nat → Int) → Bool × Nat × (Nat × (Nat → Int))
  | [], p, q => (true, p, q)
  | c :: cs, p, q => if (pr_at t L c p q).1 = true then pr_fm t L cs (pr_at t L c p q).2.1 (pr_at t L c p q).2.2 else pr_at t L c p q
theorem pr_num_p (t : Nat → Int) (L : Nat) : ∀ k p y, p ≤ (pr_num t L k p y).2 ∧ (p ≤ L → (pr_num t L k p y).2 ≤ L) ∧ (pr_num t L k p y).2 ≤ p + k
  | 0, p, y => ⟨Nat.le_refl _, fun h => h, Nat.le_refl _⟩
  | k + 1, p, y => by
    show p ≤ (if pr_d t L p = true then pr_num t L k (p + 1) (10 * y + t p - 48) else (y, p)).2 ∧ (p ≤ L → (if pr_d t L p = true then pr_num t L k (p + 1) (10 * y + t p - 48) else (y, p)).2 ≤ L) ∧ (if pr_d t L p = true then pr_num t L k (p + 1) (10 * y + t p - 48) else (y, p)).2 ≤ p + (k + 1)
    by_cases c : pr_d t L p = true
    · rw [if_pos c]
      have := pr_num_p t L k (p + 1) (10 * y + t p - 48)
      have h2 := of_decide_eq_true c
      omega
    · rw [if_neg c]
      exact ⟨Nat.le_refl _, fun h => h, by omega⟩
theorem pr_num_v (t : Nat → Int) (L : Nat) : ∀ (k p : Nat) (y : Int), k ≤ 2 → 0 ≤ y ∧ y ≤ 9 * (2 - (k : Int)) → 0 ≤ (pr_num t L k p y).1 ∧ (pr_num t L k p y).1 ≤ 99
  | 0, p, y, _, h => by show 0 ≤ y ∧ y ≤ 99; omega
  | 1, p, y, _, h => by
    show 0 ≤ (if pr_d t L p = true then pr_num t L 0 (p + 1) (10 * y + t p - 48) else (y, p)).1 ∧ (if pr_d t L p = true then pr_num t L 0 (p + 1) (10 * y + t p - 48) else (y, p)).1 ≤ 99
    by_cases c : pr_d t L p = true
    · have h2 := of_decide_eq_true c
      rw [if_pos c]
      show 0 ≤ 10 * y + t p - 48 ∧ 10 * y + t p - 48 ≤ 99
      omega
    · rw [if_neg c]
      show 0 ≤ y ∧ y ≤ 99
      omega
  | 2, p, y, _, h => by
    show 0 ≤ (if pr_d t L p = true then pr_num t L 1 (p + 1) (10 * y + t p - 48) else (y, p)).1 ∧ (if pr_d t L p = true then pr_num t L 1 (p + 1) (10 * y + t p - 48) else (y, p)).1 ≤ 99
    by_cases c : pr_d t L p = true
    · have h2 := of_decide_eq_true c
      rw [if_pos c]
      exact pr_num_v t L 1 (p + 1) _ (by omega) (by omega)
    · rw [if_neg c]
      show 0 ≤ y ∧ y ≤ 99
      omega
  | k + 3, _, _, h, _ => by omega
/-- the class's cells while it reads: the place p, the values q of the command at c -/
def pz_V (V : mz_V) (x c : Nat) (F : Nat → Int) (p : Nat) (q : Nat × (Nat → Int)) : mz_V := mz_w (mz_w (mz_w V (x + 346) (mr_up (V (x + 346)) 4 p)) c (mr_up F 1 q.1)) (c + 1) q.2
section PRS
variable {X : mv_X} {P : mz_P} {V : mz_V} {z : Nat × Nat} {x v n d c L p : Nat} {t F : Nat → Int} {q : Nat × (Nat → Int)} {y : Int}
theorem pz_t (hc : x + 349 ≤ c) (k : Nat) (hk : k ≠ 4) : pz_V V x c F p q (x + 346) k = V (x + 346) k := by unfold pz_V; rw [mz_w_n _ _ (by omega), mz_w_n _ _ (by omega), mz_w_s, mr_up_n _ _ hk]
theorem pz_p (hc : x + 349 ≤ c) : pz_V V x c F p q (x + 346) 4 = p := by unfold pz_V; rw [mz_w_n _ _ (by omega), mz_w_n _ _ (by omega), mz_w_s, mr_up_s]
theorem pz_r {r : Nat} (h1 : r ≠ x + 346) (h2 : r ≠ c) (h3 : r ≠ c + 1) : pz_V V x c F p q r = V r := by unfold pz_V; rw [mz_w_n _ _ h3, mz_w_n _ _ h2, mz_w_n _ _ h1]
theorem pz_c : pz_V V x c F p q c = mr_up F 1 q.1 := by unfold pz_V; rw [mz_w_n _ _ (by omega), mz_w_s]
theorem pz_g : pz_V V x c F p q (c + 1) = q.2 := mz_w_s _ _ _
theorem pz_mv (hc : x + 349 ≤ c) (p' : Nat) : mz_w (pz_V V x c F p q) (x + 346) (mr_up (pz_V V x c F p q (x + 346)) 4 p') = pz_V V x c F p' q := by
  have e : pz_V V x c F p q (x + 346) = mr_up (V (x + 346)) 4 p := by unfold pz_V; rw [mz_w_n _ _ (by omega), mz_w_n _ _ (by omega), mz_w_s]
  rw [e, mr_up_up]
  unfold pz_V
  rw [mz_w_c _ _ _ (show c + 1 ≠ x + 346 by omega), mz_w_c _ _ _ (show c ≠ x + 346 by omega), mz_w_w]
theorem X1_add (hC : mz_Cm P c) (hq : q.1 ≤ 4) : mv_call X (d + 1) 18 [.ref c, .int (nZ y)] (mz_h P (pz_V V x c F p q), z) = some (.inl none, (mz_h P (pz_V V x c F p (ps_add q y)), z)) := by
  have e1 : pz_V V x c F p q c 1 = q.1 := by rw [pz_c, mr_up_s]
  rw [mc_X1_add, bk_X1_add_0, mz_gI hC.1 (by decide), e1, mz_gR hC.1 (by decide) hC.2.1, mz_len hC.2.2]
  unfold ps_add
  by_cases e : q.1 < 4
  · rw [if_neg (by rw [nZ_le (by decide) ⟨by omega, by omega⟩]; omega), if_pos e, mz_gR hC.1 (by decide) hC.2.1, mz_gI hC.1 (by decide), e1, mz_sJ hC.2.2 (by omega) (by omega) (by decide), pz_g, Int.toNat_natCast]
    have e3 : mz_w (pz_V V x c F p q) (c + 1) (mr_up q.2 q.1 y) = pz_V V x c F p (q.1, mr_up q.2 q.1 y) := by unfold pz_V; rw [mz_w_w]
    rw [e3, mz_gI hC.1 (by decide), pz_c, mr_up_s, nZ_add, mz_pW hC.1 (by decide), pz_c, mr_up_up]
    have e4 : mz_w (pz_V V x c F p (q.1, mr_up q.2 q.1 y)) c (mr_up F 1 ((q.1 : Int) + 1)) = pz_V V x c F p (q.1 + 1, mr_up q.2 q.1 y) := by
      unfold pz_V
      rw [mz_w_c _ _ _ (show c + 1 ≠ c by omega), mz_w_w, nc1]
    rw [e4]
  · rw [if_pos (by rw [nZ_le (by decide) ⟨by omega, by omega⟩]; omega), if_neg e]
theorem ps_add_1 (hq : q.1 ≤ 4) : (ps_add q y).1 ≤ 4 := by
  unfold ps_add
  split
  · show q.1 + 1 ≤ 4; omega
  · exact hq
/-- what the class's text is: L characters of t -/
def pz_T (P : mz_P) (V : mz_V) (x L : Nat) (t : Nat → Int) : Prop := V (x + 346) 1 = L ∧ L ≤ 60 ∧ ∀ i, i < L → V (x + 347) i = t i ∧ 0 ≤ t i ∧ t i ≤ 65535
theorem mX_P.tx (h : mX_P P x v n) : P.1 (x + 346) = some (.inl 10) ∧ P.2 (x + 346) 0 = some (x + 347) ∧ P.1 (x + 347) = some (.inr (.char, 60)) ∧ P.2 (x + 346) 2 = some (x + 348) ∧ P.1 (x + 348) = some (.inr (.object (mv_cn 5), 9)) ∧ ∀ i, i < 9 → P.2 (x + 348) i = some (x + 349 + 2 * i) ∧ mz_Cm P (x + 349 + 2 * i) := h.2.2.2.2.1
theorem X6_readCharacter (hP : mX_P P x v n) (hT : pz_T P V x L t) (hc : x + 349 ≤ c) (hy : nS y) (hp : p ≤ L) : mv_call X (d + 1) 76 [.ref (x + 346), .int (nZ y)] (mz_h P (pz_V V x c F p q), z) = some (.inl (some (.int (nZ (if pr_chr t L y p = true then 1 else 0)))), (mz_h P (pz_V V x c F (if pr_chr t L y p = true then p + 1 else p) q), z)) := by
  obtain ⟨t1, t2, t3, -⟩ := hP.tx
  obtain ⟨l1, l2, l3⟩ := hT
  rw [mc_X6_readCharacter, bk_X6_readCharacter_0, mz_gI t1 (by decide), mz_gI t1 (by decide), pz_p hc, pz_t hc 1 (by decide), l1]
  by_cases e : L ≤ p
  · have en : ¬ pr_chr t L y p = true := fun w => by have := of_decide_eq_true w; omega
    rw [if_pos ((nZ_le ⟨by omega, by omega⟩ ⟨by omega, by omega⟩).mpr (by omega)), if_neg en, if_neg en]
  · have h3 := l3 p (by omega)
    rw [if_neg (fun w => by rw [nZ_le ⟨by omega, by omega⟩ ⟨by omega, by omega⟩] at w; omega), mz_gR t1 (by decide) t2, mz_gI t1 (by decide), pz_p hc, mz_aI t3 (by decide) (nZ_i ⟨by omega, by omega⟩) (by omega), pz_r (by omega) (by omega) (by omega), h3.1]
    by_cases e2 : t p = y
    · have ey : pr_chr t L y p = true := decide_eq_true ⟨by omega, e2⟩
      rw [if_pos (by rw [e2]), if_pos ey, if_pos ey, mz_gI t1 (by decide), pz_p hc, nZ_add, mz_pW t1 (by decide)]
      have := pz_mv (V := V) (F := F) (p := p) (q := q) hc (p + 1)
      rw [nc1] at this
      rw [this]
    · have en : ¬ pr_chr t L y p = true := fun w => e2 (of_decide_eq_true w).2
      rw [if_neg (by rw [nZ_inj ⟨by omega, by omega⟩ hy]; exact e2), if_neg en, if_neg en]
theorem X6_readNumber (hP : mX_P P x v n) (hT : pz_T P V x L t) (hc : x + 349 ≤ c) (hC : mz_Cm P c) (hq : q.1 ≤ 4) (hp : p ≤ L) {k : Nat} (hk : k ≤ 2) {sg : Int} : mv_call X (d + 2) 75 [.ref (x + 346), .int (nZ k), .int (nZ sg), .ref c] (mz_h P (pz_V V x c F p q), z) = some (.inl (some (.int (nZ (if (pr_n t L k sg p q).1 = true then 1 else 0)))), (mz_h P (pz_V V x c F (pr_n t L k sg p q).2.1 (pr_n t L k sg p q).2.2), z)) := by
  obtain ⟨t1, t2, t3, -⟩ := hP.tx
  have hT0 := hT
  obtain ⟨l1, l2, l3⟩ := hT
  rw [mc_X6_readNumber, bk_X6_readNumber_0]
  have fin : ∀ (j : Nat) (y : Int) (p' : Nat), p' = p + j → j ≤ 2 → p' ≤ L → (y, p') = pr_num t L k p 0 → (mv_rcv X (mz_h P (pz_V V x c F p' q), z) [.ref c, .int (nZ sg * nZ y)] 5 (mv_clV (mv_call X (d + 1)) 18 [.ref c, .int (nZ sg * nZ y)] (mz_h P (pz_V V x c F p' q), z) mv_raise fun h1 => if nZ j ≤ 0 then (some (.inl (some (.int (nZ 0))), h1)) else (some (.inl (some (.int (nZ 1))), h1)))) = some (.inl (some (.int (nZ (if (pr_n t L k sg p q).1 = true then 1 else 0)))), (mz_h P (pz_V V x c F (pr_n t L k sg p q).2.1 (pr_n t L k sg p q).2.2), z)) := fun j y p' hj hj2 hp' hr => by
    rw [nZ_mul, mz_rcv hC.1]
    simp only [mv_clV, mv_cl, X1_add hC hq]
    have e : pr_n t L k sg p q = (decide (p < p'), p', ps_add q (sg * y)) := by unfold pr_n; rw [← hr]
    rw [e]
    by_cases c0 : j = 0
    · rw [if_pos ((nZ_le0 ⟨by omega, by omega⟩).mpr (by omega)), if_neg (fun w => by have := of_decide_eq_true w; omega)]
    · rw [if_neg (fun w => by rw [nZ_le0 ⟨by omega, by omega⟩] at w; omega), if_pos (decide_eq_true (by omega))]
  have key : ∀ r j : Nat, j + r = k → ∀ (y : Int) (p' : Nat), p' = p + j → p' ≤ L → pr_num t L r p' y = pr_num t L k p 0 → mv_run X (mv_call X (d + 1)) m_X6_readNumber 6 [.ref (x + 346), .int (nZ k), .int (nZ sg), .ref c, .int (nZ y), .int (nZ j)] [] (mz_h P (pz_V V x c F p' q), z) = some (.inl (some (.int (nZ (if (pr_n t L k sg p q).1 = true then 1 else 0)))), (mz_h P (pz_V V x c F (pr_n t L k sg p q).2.1 (pr_n t L k sg p q).2.2), z)) := by
    intro r
    induction r with
    | zero =>
      intro j hj y p' hp' hL hr
      rw [bk_X6_readNumber_6, if_pos ((nZ_le ⟨by omega, by omega⟩ ⟨by omega, by omega⟩).mpr (by omega))]
      exact fin j y p' hp' (by omega) hL hr
    | succ r ih =>
      intro j hj y p' hp' hL hr
      have er : pr_num t L (r + 1) p' y = if pr_d t L p' = true then pr_num t L r (p' + 1) (10 * y + t p' - 48) else (y, p') := rfl
      have ih := ih (j + 1) (by omega)
      rw [nc1] at ih
      rw [bk_X6_readNumber_6, if_neg (fun w => by rw [nZ_le ⟨by omega, by omega⟩ ⟨by omega, by omega⟩] at w; omega), mz_gI t1 (by decide), mz_gI t1 (by decide), pz_p hc, pz_t hc 1 (by decide), l1]
      by_cases e : L ≤ p'
      · rw [if_neg (fun w => by have := of_decide_eq_true w; omega)] at er
        rw [if_pos ((nZ_le ⟨by omega, by omega⟩ ⟨by omega, by omega⟩).mpr (by omega))]
        exact fin j y p' hp' (by omega) hL (er.symm.trans hr)
      · have h3 := l3 p' (by omega)
        rw [if_neg (fun w => by rw [nZ_le ⟨by omega, by omega⟩ ⟨by omega, by omega⟩] at w; omega), mz_gR t1 (by decide) t2, mz_gI t1 (by decide), pz_p hc, mz_aI t3 (by decide) (nZ_i ⟨by omega, by omega⟩) (by omega), pz_r (by omega) (by omega) (by omega), h3.1]
        simp only [mv_clI, mv_cl, X8_isWithin (show nS (t p') from ⟨by omega, by omega⟩) (show nS 48 by decide) (show nS 57 by decide), nZ_b1]
        by_cases e2 : 48 ≤ t p' ∧ t p' ≤ 57
        · have ed : pr_d t L p' = true := decide_eq_true ⟨by omega, e2⟩
          rw [if_pos ed] at er
          rw [if_neg (fun w => w e2), mz_gR t1 (by decide) t2, mz_gI t1 (by decide), pz_p hc, mz_aI t3 (by decide) (nZ_i ⟨by omega, by omega⟩) (by omega), pz_r (by omega) (by omega) (by omega), h3.1, mz_gI t1 (by decide), pz_p hc, nZ_add, mz_pW t1 (by decide)]
          have := pz_mv (V := V) (F := F) (p := p') (q := q) hc (p' + 1)
          rw [nc1] at this
          rw [this, nZ_mul, nZ_add, nZ_sub, nZ_add]
          exact ih _ (p' + 1) (by omega) (by omega) (er.symm.trans hr)
        · rw [if_neg (fun w => e2 (of_decide_eq_true w).2)] at er
          rw [if_pos e2]
          exact fin j y p' hp' (by omega) hL (er.symm.trans hr)
  exact key k 0 (by omega) 0 p rfl hp rfl
theorem X6_readPart (hP : mX_P P x v n) (hT : pz_T P V x L t) (hc : x + 349 ≤ c) (hC : mz_Cm P c) (hq : q.1 ≤ 4) (hp : p ≤ L) (hy : nS y) : mv_call X (d + 3) 74 [.ref (x + 346), .int (nZ y), .ref c] (mz_h P (pz_V V x c F p q), z) = some (.inl (some (.int (nZ (if (pr_at t L y p q).1 = true then 1 else 0)))), (mz_h P (pz_V V x c F (pr_at t L y p q).2.1 (pr_at t L y p q).2.2), z)) := by
  obtain ⟨t1, t2, t3, -⟩ := hP.tx
  have ok : ∀ b : Bool, mv_ok 6 (nZ (if b = true then 1 else 0)) = true := fun b => by cases b <;> rfl
  rw [mc_X6_readPart, bk_X6_readPart_0]
  unfold pr_at
  by_cases c1 : y = 68
  · rw [if_pos (by rw [c1]), if_pos c1, mz_rcv t1]
    have := X6_readNumber (X := X) (P := P) (V := V) (z := z) (d := d) (F := F) hP hT hc hC hq hp (k := 1) (by decide) (sg := 1)
    simp only [mv_clI, mv_cl, show ((1 : Nat) : Int) = 1 from rfl] at this ⊢
    rw [this]
    exact mv_chk_t (ok _)
  · rw [if_neg (by rw [nZ_inj hy (by decide)]; exact c1), if_neg c1]
    by_cases c2 : y = 78
    · rw [if_pos (by rw [c2]), if_pos c2, mz_rcv t1]
      have := X6_readNumber (X := X) (P := P) (V := V) (z := z) (d := d) (F := F) hP hT hc hC hq hp (k := 2) (by decide) (sg := 1)
      simp only [mv_clI, mv_cl, show ((2 : Nat) : Int) = 2 from rfl] at this ⊢
      rw [this]
      exact mv_chk_t (ok _)
    · rw [if_neg (by rw [nZ_inj hy (by decide)]; exact c2), if_neg c2]
      by_cases c3 : y = 83
      · rw [if_pos (by rw [c3]), if_pos c3, mz_rcv t1]
        have e76 := X6_readCharacter (X := X) (P := P) (V := V) (z := z) (d := d + 1) (F := F) (q := q) hP hT hc (y := 45) (by decide) hp
        simp only [mv_clI, mv_cl, e76, nZ_b1]
        by_cases c4 : pr_chr t L 45 p = true
        · have hlt := (of_decide_eq_true c4).1
          have := X6_readNumber (X := X) (P := P) (V := V) (z := z) (d := d) (F := F) (p := p + 1) hP hT hc hC hq (by omega) (k := 1) (by decide) (sg := -1)
          rw [if_neg (fun w => w c4), if_pos c4, if_pos c4, mz_rcv t1]
          simp only [show ((1 : Nat) : Int) = 1 from rfl] at this ⊢
          rw [this]
          exact mv_chk_t (ok _)
        · have := X6_readNumber (X := X) (P := P) (V := V) (z := z) (d := d) (F := F) hP hT hc hC hq hp (k := 1) (by decide) (sg := 1)
          rw [if_pos c4, if_neg c4, if_neg c4, mz_rcv t1]
          simp only [show ((1 : Nat) : Int) = 1 from rfl] at this ⊢
          rw [this]
          exact mv_chk_t (ok _)
      · rw [if_neg (by rw [nZ_inj hy (by decide)]; exact c3), if_neg c3, mz_rcv t1]
        simp only [mv_clI, mv_cl, X6_readCharacter (X := X) (d := d + 1) hP hT hc hy hp]
        rw [mv_chk_t (ok _)]
        by_cases c4 : pr_chr t L y p = true
        · rw [if_pos c4, if_pos c4, if_pos c4, if_pos rfl]
        · rw [if_neg c4, if_neg c4, if_neg c4, if_neg (show ¬ false = true by decide)]
end PRS
