/-! A COMMAND'S NUMBERS: how many; what it does depends on them alone; commands one after the other -/
def fm_d (y : Int) : Nat := if y = 68 then 1 else if y = 78 then 1 else if y = 83 then 1 else 0
def fm_n : List Int → Nat
  | [] => 0
  | y :: l => fm_d y + fm_n l
theorem pr_at_n {t : Nat → Int} {L p : Nat} {q : Nat × (Nat → Int)} {y : Int} (h : (pr_at t L y p q).1 = true) (hq : q.1 + fm_d y ≤ 4) : (pr_at t L y p q).2.2.1 = q.1 + fm_d y := by
  have ad : ∀ (a : Int), q.1 + 1 ≤ 4 → (ps_add q a).1 = q.1 + 1 := fun a ha => by
    unfold ps_add
    rw [if_pos (show q.1 < 4 by omega)]
  unfold fm_d at hq ⊢
  unfold pr_at at h ⊢
  by_cases c1 : y = 68
  · rw [if_pos c1] at hq
    rw [if_pos c1, if_pos c1]
    exact ad _ hq
  · rw [if_neg c1] at hq h
    rw [if_neg c1, if_neg c1]
    by_cases c2 : y = 78
    · rw [if_pos c2] at hq
      rw [if_pos c2, if_pos c2]
      exact ad _ hq
    · rw [if_neg c2] at hq h
      rw [if_neg c2, if_neg c2]
      by_cases c3 : y = 83
      · rw [if_pos c3] at hq
        rw [if_pos c3, if_pos c3]
        by_cases c4 : pr_chr t L 45 p = true
        · rw [if_pos c4]; exact ad _ hq
        · rw [if_neg c4]; exact ad _ hq
      · rw [if_neg c3] at h
        rw [if_neg c3, if_neg c3]
        by_cases c4 : pr_chr t L y p = true
        · rw [if_pos c4]; rfl
        · rw [if_neg c4]; rfl
theorem pr_fm_n {t : Nat → Int} {L : Nat} : ∀ (l : List Int) (p : Nat) (q : Nat × (Nat → Int)), (pr_fm t L l p q).1 = true → q.1 + fm_n l ≤ 4 → (pr_fm t L l p q).2.2.1 = q.1 + fm_n l
  | [], p, q, _, _ => rfl
  | y :: l, p, q, h, hq => by
    have e : pr_fm t L (y :: l) p q = if (pr_at t L y p q).1 = true then pr_fm t L l (pr_at t L y p q).2.1 (pr_at t L y p q).2.2 else pr_at t L y p q := rfl
    have hq : q.1 + (fm_d y + fm_n l) ≤ 4 := hq
    show _ = q.1 + (fm_d y + fm_n l)
    rw [e] at h ⊢
    by_cases c : (pr_at t L y p q).1 = true
    · rw [if_pos c] at h ⊢
      have a1 := pr_at_n c (by omega)
      have a2 := pr_fm_n l _ _ h (by omega)
      omega
    · rw [if_neg c] at h
      exact absurd h c
theorem fm_n4 : ∀ k, k < 9 → fm_n (fm_l k) ≤ 4 := by decide +kernel
theorem pc_r_n {t : Nat → Int} {L p : Nat} (h : (pc_r t L p).1 = true) : pk_k t L p < 9 ∧ (pc_r t L p).2.2.1 = fm_n (fm_l (pk_k t L p)) := by
  have h9 := pk_9 t L p
  unfold pc_r at h ⊢
  by_cases e : pk_k t L p = 9
  · rw [if_pos e] at h
    exact absurd (show false = true from h) (by decide)
  · rw [if_neg e] at h ⊢
    have hk : pk_k t L p < 9 := by omega
    have a1 := pr_fm_n _ _ _ h (by have := fm_n4 _ hk; show 0 + _ ≤ 4; omega)
    exact ⟨hk, a1.trans (Nat.zero_add _)⟩
def rc_k (t : Nat → Int) (L i : Nat) : Nat := pk_k t L (rd_p t L i)
def rc_y (t : Nat → Int) (L i : Nat) : Nat → Int := fun j => (nZ ((pc_r t L (rd_p t L i)).2.2.2 j)).toInt
theorem mc_y_e {s y y' : Nat → Int} {k : Nat} (hk : k < 9) (h : ∀ j, j < fm_n (fm_l k) → y j = y' j) : mc_rf s k y = mc_rf s k y' ∧ mc_st s k y = mc_st s k y' := by
  rcases mc_k9 hk with rfl | rfl | rfl | rfl | rfl | rfl | rfl | rfl | rfl
  · have h0 := h 0 (by decide)
    have h1 := h 1 (by decide)
    have h2 := h 2 (by decide)
    have h3 := h 3 (by decide)
    unfold mc_rf mc_st
    simp only [h0, h1, h2, h3, and_self]
  · have h0 := h 0 (by decide)
    unfold mc_rf mc_st
    simp only [h0, and_self]
  · have h0 := h 0 (by decide)
    have h1 := h 1 (by decide)
    unfold mc_rf mc_st
    simp only [h0, h1, and_self]
  · have h0 := h 0 (by decide)
    have h1 := h 1 (by decide)
    unfold mc_rf mc_st
    simp only [h0, h1, and_self]
  · have h0 := h 0 (by decide)
    have h1 := h 1 (by decide)
    unfold mc_rf mc_st
    simp only [h0, h1, and_self]
  · have h0 := h 0 (by decide)
    have h1 := h 1 (by decide)
    unfold mc_rf mc_st
    simp only [h0, h1, and_self]
  · have h0 := h 0 (by decide)
    unfold mc_rf mc_st
    simp only [h0, and_self]
  · have h0 := h 0 (by decide)
    have h1 := h 1 (by decide)
    have h2 := h 2 (by decide)
    unfold mc_rf mc_st
    simp only [h0, h1, h2, and_self]
  · have h0 := h 0 (by decide)
    unfold mc_rf mc_st
    simp only [h0, and_self]
/-- f commands from the i-th on: whether all go, where it ends, what is refused there, the numbers -/
def ex_l (t : Nat → Int) (L : Nat) : Nat → Nat → (Nat → Int) → Bool × Nat × Int × (Nat → Int)
  | 0, i, s => (true, i, 0, s)
  | f + 1, i, s => if mc_rf s (rc_k t L i) (rc_y t L i) = 0 then ex_l t L f (i + 1) (mc_st s (rc_k t L i) (rc_y t L i)) else (false, i, mc_rf s (rc_k t L i) (rc_y t L i), s)
theorem ex_l_I {t : Nat → Int} {L N : Nat} (hk : ∀ i, i < N → rc_k t L i < 9) : ∀ (f i : Nat) (s : Nat → Int), i + f = N → f ≤ 9 → mr_I s → s 0 + 48 * f ≤ 999999948 → mr_I (ex_l t L f i s).2.2.2 ∧ (ex_l t L f i s).2.2.2 0 ≤ s 0 + 48 * f ∧ i ≤ (ex_l t L f i s).2.1 ∧ (ex_l t L f i s).2.1 ≤ N ∧ ((ex_l t L f i s).1 = false → (ex_l t L f i s).2.1 < N ∧ 1 ≤ (ex_l t L f i s).2.2.1 ∧ (ex_l t L f i s).2.2.1 ≤ 10) := by
  intro f
  induction f with
  | zero =>
    intro i s hi _ hI _
    exact ⟨hI, by show s 0 ≤ s 0 + 48 * ((0 : Nat) : Int); omega, Nat.le_refl _, by show i ≤ N; omega, fun w => absurd (show true = false from w) (by decide)⟩
  | succ f ih =>
    intro i s hi hf hI hb
    have er : ex_l t L (f + 1) i s = if mc_rf s (rc_k t L i) (rc_y t L i) = 0 then ex_l t L f (i + 1) (mc_st s (rc_k t L i) (rc_y t L i)) else (false, i, mc_rf s (rc_k t L i) (rc_y t L i), s) := rfl
    have hki := hk i (by omega)
    rw [nc1] at hb ⊢
    by_cases c : mc_rf s (rc_k t L i) (rc_y t L i) = 0
    · rw [if_pos c] at er
      obtain ⟨a1, a2⟩ := mc_st_I hI (by omega) hki c
      obtain ⟨b1, b2, b3, b4, b5⟩ := ih (i + 1) _ (by omega) (by omega) a1 (by omega)
      rw [er]
      exact ⟨b1, by omega, by omega, b4, b5⟩
    · rw [if_neg c] at er
      rw [er]
      have hin := mc_rf_in s (rc_k t L i) (rc_y t L i)
      refine ⟨hI, ?_, Nat.le_refl _, ?_, fun _ => ⟨?_, ?_, ?_⟩⟩
      · show s 0 ≤ _; omega
      · show i ≤ N; omega
      · show i < N; omega
      · show 1 ≤ mc_rf s (rc_k t L i) (rc_y t L i); omega
      · show mc_rf s (rc_k t L i) (rc_y t L i) ≤ 10; omega
/-- commands that were read are commands -/
theorem rd_r_n {t : Nat → Int} {L : Nat} : ∀ f k : Nat, (∀ i, i < k → (pc_r t L (rd_p t L i)).1 = true) → (∀ i, i < (rd_r t L f k).2.2 → (pc_r t L (rd_p t L i)).1 = true) ∧ (rd_r t L f k).2.2 ≤ k + f := by
  intro f
  induction f with
  | zero =>
    intro k hk
    exact ⟨hk, Nat.le_refl _⟩
  | succ f ih =>
    intro k hk
    have er : rd_r t L (f + 1) k = if (pc_r t L (rd_p t L k)).1 = true then (if (pc_r t L (rd_p t L k)).2.1 < L then (if pr_chr t L 59 (pc_r t L (rd_p t L k)).2.1 = true then rd_r t L f (k + 1) else (false, (pc_r t L (rd_p t L k)).2.1, k + 1)) else (true, (pc_r t L (rd_p t L k)).2.1, k + 1)) else (false, (pc_r t L (rd_p t L k)).2.1, k) := rfl
    by_cases c0 : (pc_r t L (rd_p t L k)).1 = true
    · rw [if_pos c0] at er
      have hk1 : ∀ i, i < k + 1 → (pc_r t L (rd_p t L i)).1 = true := fun i hi => by
        by_cases e : i = k
        · subst e; exact c0
        · exact hk i (by omega)
      by_cases c1 : (pc_r t L (rd_p t L k)).2.1 < L
      · rw [if_pos c1] at er
        by_cases c2 : pr_chr t L 59 (pc_r t L (rd_p t L k)).2.1 = true
        · rw [if_pos c2] at er
          obtain ⟨a1, a2⟩ := ih (k + 1) hk1
          rw [er]
          exact ⟨a1, by omega⟩
        · rw [if_neg c2] at er
          rw [er]
          exact ⟨hk1, by show k + 1 ≤ k + (f + 1); omega⟩
      · rw [if_neg c1] at er
        rw [er]
        exact ⟨hk1, by show k + 1 ≤ k + (f + 1); omega⟩
    · rw [if_neg c0] at er
      rw [er]
      exact ⟨hk, by show k ≤ k + (f + 1); omega⟩
/-- how far a text is -/
theorem rd_r_p {t : Nat → Int} {L : Nat} : ∀ f k : Nat, rd_p t L k ≤ L → (rd_r t L f k).2.1 ≤ L := by
  intro f
  induction f with
  | zero => intro k hk; exact hk
  | succ f ih =>
    intro k hk
    have er : rd_r t L (f + 1) k = if (pc_r t L (rd_p t L k)).1 = true then (if (pc_r t L (rd_p t L k)).2.1 < L then (if pr_chr t L 59 (pc_r t L (rd_p t L k)).2.1 = true then rd_r t L f (k + 1) else (false, (pc_r t L (rd_p t L k)).2.1, k + 1)) else (true, (pc_r t L (rd_p t L k)).2.1, k + 1)) else (false, (pc_r t L (rd_p t L k)).2.1, k) := rfl
    have hp := (pc_r_p (t := t) hk).2
    by_cases c0 : (pc_r t L (rd_p t L k)).1 = true
    · rw [if_pos c0] at er
      by_cases c1 : (pc_r t L (rd_p t L k)).2.1 < L
      · rw [if_pos c1] at er
        by_cases c2 : pr_chr t L 59 (pc_r t L (rd_p t L k)).2.1 = true
        · rw [if_pos c2] at er
          rw [er]
          exact ih (k + 1) (by show (pc_r t L (rd_p t L k)).2.1 + 1 ≤ L; omega)
        · rw [if_neg c2] at er
          rw [er]
          exact hp
      · rw [if_neg c1] at er
        rw [er]
        exact hp
    · rw [if_neg c0] at er
      rw [er]
      exact hp
