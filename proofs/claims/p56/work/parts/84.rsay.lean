/-! TEXTS READ BY THE REFERENCE: letters, numbers -/
def rs_s (t : Nat → Int) (L : Nat) : List Int → Bool → Nat → Bool × Nat
  | [], f, p => (f, p)
  | y :: l, f, p => if f = true then (true, p) else if pr_chr t L y p = true then rs_s t L l false (p + 1) else (true, p)
/-- state: failed, the place, the row of the commands -/
abbrev rs_T : Type := Bool × Nat × (Nat → Int)
def rs_n (t : Nat → Int) (L : Nat) (l : List Int) (e k : Nat) (s : rs_T) : rs_T := if (rs_s t L l s.1 s.2.1).1 = true then (true, (rs_s t L l s.1 s.2.1).2, mr_up s.2.2 e 0) else (decide ((pr_num t L k (rs_s t L l s.1 s.2.1).2 0).2 = (rs_s t L l s.1 s.2.1).2), (pr_num t L k (rs_s t L l s.1 s.2.1).2 0).2, mr_up s.2.2 e (pr_num t L k (rs_s t L l s.1 s.2.1).2 0).1)
def rs_b (f : Bool) : Int := if f = true then 1 else 0
def rz_V (V : mz_V) (m : Nat) (s : rs_T) : mz_V := mz_w (mz_w V m (mr_up (mr_up (V m) 26 (rs_b s.1)) 23 s.2.1)) (m + 7) s.2.2
theorem rs_s_L (t : Nat → Int) (L : Nat) : ∀ (l : List Int) (f : Bool) (p : Nat), p ≤ L → p ≤ (rs_s t L l f p).2 ∧ (rs_s t L l f p).2 ≤ L
  | [], f, p, h => ⟨Nat.le_refl _, h⟩
  | y :: l, f, p, h => by
    show p ≤ (if f = true then (true, p) else if pr_chr t L y p = true then rs_s t L l false (p + 1) else (true, p)).2 ∧ (if f = true then (true, p) else if pr_chr t L y p = true then rs_s t L l false (p + 1) else (true, p)).2 ≤ L
    split
    · exact ⟨Nat.le_refl _, h⟩
    · split
      · rename_i c
        have := of_decide_eq_true c
        have := rs_s_L t L l false (p + 1) (by omega)
        omega
      · exact ⟨Nat.le_refl _, h⟩
section RSAY
variable {X : mv_X} {P : mz_P} {V : mz_V} {z : Nat × Nat} {d m L x0 k : Nat} {t : Nat → Int} {s : rs_T} {l : List Int}
/-- the reference's text while it reads: L characters of t, so many commands behind -/
def rz_T (V : mz_V) (m L N : Nat) (t : Nat → Int) : Prop := V m 24 = L ∧ L ≤ 60 ∧ V m 25 = N ∧ N < 50 ∧ ∀ i, i < L → V (m + 6) i = t i ∧ 0 ≤ t i ∧ t i ≤ 65535
theorem rz_k {j : Nat} (h1 : j ≠ 23) (h2 : j ≠ 26) : rz_V V m s m j = V m j := by unfold rz_V; rw [mz_w_n _ _ (by omega), mz_w_s, mr_up_n _ _ h1, mr_up_n _ _ h2]
theorem rz_p : rz_V V m s m 23 = s.2.1 := by unfold rz_V; rw [mz_w_n _ _ (by omega), mz_w_s, mr_up_s]
theorem rz_f : rz_V V m s m 26 = rs_b s.1 := by unfold rz_V; rw [mz_w_n _ _ (by omega), mz_w_s, mr_up_n _ _ (by decide), mr_up_s]
theorem rz_g : rz_V V m s (m + 7) = s.2.2 := mz_w_s _ _ _
theorem rz_r {r : Nat} (h1 : r ≠ m) (h2 : r ≠ m + 7) : rz_V V m s r = V r := by unfold rz_V; rw [mz_w_n _ _ h2, mz_w_n _ _ h1]
theorem rz_m : rz_V V m s m = mr_up (mr_up (V m) 26 (rs_b s.1)) 23 s.2.1 := by unfold rz_V; rw [mz_w_n _ _ (by omega), mz_w_s]
theorem rz_mp (p : Nat) : mz_w (rz_V V m s) m (mr_up (rz_V V m s m) 23 p) = rz_V V m (s.1, p, s.2.2) := by
  rw [rz_m, mr_up_up]
  unfold rz_V
  rw [mz_w_c _ _ _ (show m + 7 ≠ m by omega), mz_w_w]
theorem rz_mf (f : Bool) : mz_w (rz_V V m s) m (mr_up (rz_V V m s m) 26 (rs_b f)) = rz_V V m (f, s.2.1, s.2.2) := by
  have e : mr_up (rz_V V m s m) 26 (rs_b f) = mr_up (mr_up (V m) 26 (rs_b f)) 23 s.2.1 := by
    rw [rz_m]
    funext j
    unfold mr_up
    repeat' split
    all_goals first | rfl | omega
  rw [e]
  unfold rz_V
  rw [mz_w_c _ _ _ (show m + 7 ≠ m by omega), mz_w_w]
theorem rz_mg (g : Nat → Int) : mz_w (rz_V V m s) (m + 7) g = rz_V V m (s.1, s.2.1, g) := by unfold rz_V; rw [mz_w_w]
theorem rs_b0 (f : Bool) : (nZ (rs_b f) = 0) = (f = false) := by cases f <;> decide
theorem pr_here {y : Int} (hy : 0 ≤ y) {p : Nat} : (if p < L then t p else -1) = y ↔ pr_chr t L y p = true := by
  unfold pr_chr
  rw [decide_eq_true_iff]
  by_cases e : p < L
  · rw [if_pos e]; exact ⟨fun h => ⟨e, h⟩, fun h => h.2⟩
  · rw [if_neg e]; exact ⟨fun h => absurd h (by omega), fun h => absurd h.1 e⟩
end RSAY
