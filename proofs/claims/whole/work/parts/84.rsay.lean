/-! TEXTS READ BY THE REFERENCE: letters, numbers -/
def rs_s (t : Nat → Int) (L : Nat) : List Int → Bool → Nat → Bool × Nat
  | [], f, p => (f, p)
  | y :: l, f, p => if f = true then (true, p) else if pr_chr t L y p = true then rs_s t L l false (p + 1) else (true, p)
/-- state: failed, the place, the row of the commands -/
abbrev rs_T : Type := Bool × Nat × (Nat → Int)
def rs_n (t : Nat → Int) (L : Nat) (l : List Int) (e k : Nat) (s : rs_T) : rs_T := if (rs_s t L l s.1 s.2.1).1 = true then (true, (rs_s t L l s.1 s.2.1).2, mr_up s.2.2 e 0) else (decide ((pr_num t L k (rs_s t L l s.1 s.2.1).2 0).2 = (rs_s t L l s.1 s.2.1).2), (pr_num t L k (rs_s t L l s.1 s.2.1).2 0).2, mr_up s.2.2 e (pr_num t L k (rs_s t L l s.1 s.2.1).2 0).1)
def rs_b (f : Bool) : Int := if f = true then 1 else 0
def rz_V (V : mz_V) (m : Nat) (s : rs_T) : mz_V := mz_w (mz_w V m (mr_up (mr_up (V m) 26 (rs_b s.1)) 23 s.2.1)) (m + 7) s.2.2
theorem rs_s_L (t : Nat → Int) (L : Nat) : ∀ (l : List Int) (f : Bool) (p : Nat), p ≤ L → p ≤ (rs_s t L l f p).2 ∧ (rs_s t L l f p).2 ≤ L
  | [], f, p, h => ⟨Nat.le_refl _, h⟩
  | y :: l, f, p, h => by
    show p ≤ (if f = true then (true, p) else if pr_chr t L y p = true then rs_s t L l false (p + 1) else (true, p)).2 ∧ (if f = true then (true, p) else if pr_chr t L y p = true then rs_s t L l false (p + 1) else (true, p)).2 ≤ L
    split
    · exact ⟨Nat.le_refl _, h⟩
    · split
      · rename_i c
        have := of_decide_eq_true c
        have := rs_s_L t L l false (p + 1) (by omega)
        omega
      · exact ⟨Nat.le_refl _, h⟩
section RSAY
variable {X : mv_X} {P : mz_P} {V : mz_V} {z : Nat × Nat} {d m L x0 k : Nat} {t : Nat → Int} {s : rs_T} {l : List Int}
/-- the reference's text while it reads: L characters of t, so many commands behind -/
def rz_T (V : mz_V) (m L N : Nat) (t : Nat → Int) : Prop := V m 24 = L ∧ L ≤ 60 ∧ V m 25 = N ∧ N < 50 ∧ ∀ i, i < L → V (m + 6) i = t i ∧ 0 ≤ t i ∧ t i ≤ 65535
theorem rz_k {j : Nat} (h1 : j ≠ 23) (h2 : j ≠ 26) : rz_V V m s m j = V m j := by unfold rz_V; rw [mz_w_n _ _ (by omega), mz_w_s, mr_up_n _ _ h1, mr_up_n _ _ h2]
theorem rz_p : rz_V V m s m 23 = s.2.1 := by unfold rz_V; rw [mz_w_n _ _ (by omega), mz_w_s, mr_up_s]
theorem rz_f : rz_V V m s m 26 = rs_b s.1 := by unfold rz_V; rw [mz_w_n _ _ (by omega), mz_w_s, mr_up_n _ _ (by decide), mr_up_s]
theorem rz_g : rz_V V m s (m + 7) = s.2.2 := mz_w_s _ _ _
theorem rz_r {r : Nat} (h1 : r ≠ m) (h2 : r ≠ m + 7) : rz_V V m s r = V r := by unfold rz_V; rw [mz_w_n _ _ h2, mz_w_n _ _ h1]
theorem rz_m : rz_V V m s m = mr_up (mr_up (V m) 26 (rs_b s.1)) 23 s.2.1 := by unfold rz_V; rw [mz_w_n _ _ (by omega), mz_w_s]
theorem rz_mp (p : Nat) : mz_w (rz_V V m s) m (mr_up (rz_V V m s m) 23 p) = rz_V V m (s.1, p, s.2.2) := by
  rw [rz_m, mr_up_up]
  unfold rz_V
  rw [mz_w_c _ _ _ (show m + 7 ≠ m by omega), mz_w_w]
theorem rz_mf (f : Bool) : mz_w (rz_V V m s) m (mr_up (rz_V V m s m) 26 (rs_b f)) = rz_V V m (f, s.2.1, s.2.2) := by
  have e : mr_up (rz_V V m s m) 26 (rs_b f) = mr_up (mr_up (V m) 26 (rs_b f)) 23 s.2.1 := by
    rw [rz_m]
    funext j
    unfold mr_up
    repeat' split
    all_goals first | rfl | omega
  rw [e]
  unfold rz_V
  rw [mz_w_c _ _ _ (show m + 7 ≠ m by omega), mz_w_w]
theorem rz_mg (g : Nat → Int) : mz_w (rz_V V m s) (m + 7) g = rz_V V m (s.1, s.2.1, g) := by unfold rz_V; rw [mz_w_w]
theorem rs_b0 (f : Bool) : (nZ (rs_b f) = 0) = (f = false) := by cases f <;> decide
theorem X9_here (hM : mr_M P m) {N : Nat} (hT : rz_T V m L N t) (hp : s.2.1 ≤ L) {j : Nat} (hj : j ≤ 1) : mv_call X (d + 1) 234 [.ref m, .int (nZ j)] (mz_h P (rz_V V m s), z) = some (.inl (some (.int (nZ (if s.2.1 + j < L then t (s.2.1 + j) else -1)))), (mz_h P (rz_V V m s), z)) := by
  obtain ⟨l1, l2, l3, l4, l5⟩ := hT
  rw [mc_X9_here, bk_X9_here_0, mz_gI hM.o (by decide), mz_gI hM.o (by decide), rz_p, rz_k (by decide) (by decide), l1, nZ_add]
  by_cases e : s.2.1 + j < L
  · rw [if_neg (fun w => by rw [nZ_le ⟨by omega, by omega⟩ ⟨by omega, by omega⟩] at w; omega), if_pos e, mr_gtx hM, mz_gI hM.o (by decide), rz_p, nZ_add, mr_atx hM (by omega) (by omega), rz_r (by omega) (by omega), show ((s.2.1 : Int) + j).toNat = s.2.1 + j by omega, (l5 _ e).1]
  · rw [if_pos ((nZ_le ⟨by omega, by omega⟩ ⟨by omega, by omega⟩).mpr (by omega)), if_neg e]
theorem pr_here {y : Int} (hy : 0 ≤ y) {p : Nat} : (if p < L then t p else -1) = y ↔ pr_chr t L y p = true := by
  unfold pr_chr
  rw [decide_eq_true_iff]
  by_cases e : p < L
  · rw [if_pos e]; exact ⟨fun h => ⟨e, h⟩, fun h => h.2⟩
  · rw [if_neg e]; exact ⟨fun h => absurd h (by omega), fun h => absurd h.1 e⟩
theorem X9_says (hX : mx_W X P x0) (hS : mx_S X x0 k l) (hM : mr_M P m) {N : Nat} (hT : rz_T V m L N t) (hp : s.2.1 ≤ L) : mv_call X (d + 5) 235 [.ref m, .ref (X.2.1 k)] (mz_h P (rz_V V m s), z) = some (.inl none, (mz_h P (rz_V V m ((rs_s t L l s.1 s.2.1).1, (rs_s t L l s.1 s.2.1).2, s.2.2)), z)) := by
  obtain ⟨vv, NN, fs, g, h1, h2, h3, h4, h5, h6, ⟨hN1, hN2⟩, h7, h8⟩ := id hS
  have key : ∀ (rest pre : List Int), l = pre ++ rest → ∀ s : rs_T, s.2.1 ≤ L → mv_run X (mv_call X (d + 4)) m_X9_says 2 [.ref m, .ref (X.2.1 k), .int (nZ pre.length)] [] (mz_h P (rz_V V m s), z) = some (.inl none, (mz_h P (rz_V V m ((rs_s t L rest s.1 s.2.1).1, (rs_s t L rest s.1 s.2.1).2, s.2.2)), z)) := by
    intro rest
    induction rest with
    | nil =>
      intro pre hpre s hp
      have hl : l.length = pre.length := by rw [hpre, List.append_nil]
      rw [bk_X9_says_2, mx_rO (hX.1 _ h1) h3]
      simp only [mv_clI, mv_cl, J0_len (d := d + 2) hX hS]
      rw [if_pos (by rw [hl]; exact Int32.le_refl _)]
      rfl
    | cons y rest ih =>
      intro pre hpre s hp
      have hl : l.length = pre.length + (rest.length + 1) := by rw [hpre, List.length_append, List.length_cons]
      have hy : l[pre.length]? = some y := by rw [hpre]; simp
      have hyr := (h8 _ _ hy).2
      have ih := ih (pre ++ [y]) (by rw [hpre]; simp)
      rw [List.length_append, List.length_singleton, nc1] at ih
      have er : rs_s t L (y :: rest) s.1 s.2.1 = if s.1 = true then (true, s.2.1) else if pr_chr t L y s.2.1 = true then rs_s t L rest false (s.2.1 + 1) else (true, s.2.1) := rfl
      rw [bk_X9_says_2, mx_rO (hX.1 _ h1) h3]
      simp only [mv_clI, mv_cl, J0_len (d := d + 2) hX hS]
      rw [if_neg (by rw [hl, nZ_le ⟨by omega, by omega⟩ ⟨by omega, by omega⟩]; omega), mz_gI hM.o (by decide), rz_f]
      by_cases cf : s.1 = true
      · rw [if_pos cf] at er
        rw [if_neg (by rw [rs_b0, cf]; decide), er]
        show some (Sum.inl none, (mz_h P (rz_V V m s), z)) = some (Sum.inl none, (mz_h P (rz_V V m (true, s.2.1, s.2.2)), z))
        rw [← cf]
      · have cf0 : s.1 = false := by
          cases hb : s.1 with
          | false => rfl
          | true => exact absurd hb cf
        rw [if_neg cf] at er
        rw [if_pos (by rw [rs_b0]; exact cf0), mz_rcv hM.o]
        have e0 := X9_here (X := X) (z := z) (d := d + 3) hM hT hp (j := 0) (by decide)
        simp only [show ((0 : Nat) : Int) = 0 from rfl, Nat.add_zero] at e0
        have hb : nS (if s.2.1 < L then t s.2.1 else -1) := by
          by_cases e : s.2.1 < L
          · rw [if_pos e]; have := hT.2.2.2.2 _ e; exact ⟨by omega, by omega⟩
          · rw [if_neg e]; decide
        simp only [e0, mx_rO (hX.1 _ h1) h3, J0_chr (d := d) hX hS hy]
        by_cases c2 : pr_chr t L y s.2.1 = true
        · have hlt := (of_decide_eq_true c2).1
          rw [if_pos c2] at er
          rw [if_pos (by rw [pr_here hyr.1 |>.mpr c2]), mv_chk_t (by decide), mz_pW hM.o (by decide)]
          have a1 := rz_mf (V := V) (m := m) (s := s) false
          have a1 : mz_w (rz_V V m s) m (mr_up (rz_V V m s m) 26 0) = rz_V V m (false, s.2.1, s.2.2) := a1
          rw [a1, mz_gI hM.o (by decide), mz_gI hM.o (by decide), rz_p, rz_f, if_pos (by rfl), nZ_add, mz_pW hM.o (by decide)]
          have a2 := rz_mp (V := V) (m := m) (s := (false, s.2.1, s.2.2)) (s.2.1 + 1)
          rw [nc1] at a2
          rw [a2, nZ_add, er]
          exact ih (false, s.2.1 + 1, s.2.2) (by show s.2.1 + 1 ≤ L; omega)
        · rw [if_neg c2] at er
          rw [if_neg (by rw [nZ_inj hb ⟨by omega, by omega⟩]; exact fun w => c2 ((pr_here hyr.1).mp w)), mv_chk_t (by decide), mz_pW hM.o (by decide)]
          have a1 : mz_w (rz_V V m s) m (mr_up (rz_V V m s m) 26 1) = rz_V V m (true, s.2.1, s.2.2) := rz_mf (V := V) (m := m) (s := s) true
          rw [a1, mz_gI hM.o (by decide), mz_gI hM.o (by decide), rz_p, rz_f, if_neg (show ¬ nZ (rs_b true) = 0 by decide), nZ_add, mz_pW hM.o (by decide)]
          have a2 := rz_mp (V := V) (m := m) (s := (true, s.2.1, s.2.2)) s.2.1
          rw [Int.add_zero, a2, nZ_add, er]
          have := ih (true, s.2.1, s.2.2) hp
          rw [this]
          cases rest with
          | nil => rfl
          | cons y2 r2 => rfl
  rw [mc_X9_says, bk_X9_says_0]
  exact key l [] rfl s hp
end RSAY
