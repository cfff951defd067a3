/-! QUERIES, THE REFERENCE: the code is set, the answer told -/
def mq_t (V : mz_V) (m : Nat) (cd : Int) : mz_V := mz_w V m (mr_up (V m) 0 cd)
def mq_m (P : mz_P) (V : mz_V) (z : Nat × Nat) (m : Nat) (cd an : Int) : Option mv_R := some (.inl (some (.int (nZ an))), (mz_h P (mq_t V m cd), z))
theorem mq_t_1 (V : mz_V) (m : Nat) (cd : Int) : mq_t V m cd (m + 1) = V (m + 1) := mz_w_n _ _ (by omega)
theorem mq_t_0 (V : mz_V) (m : Nat) (cd : Int) : mq_t V m cd m 0 = cd := by unfold mq_t; rw [mz_w_s, mr_up_s]
theorem mq_t_k (V : mz_V) (m : Nat) (cd : Int) {k : Nat} (hk : k ≠ 0) : mq_t V m cd m k = V m k := by unfold mq_t; rw [mz_w_s, mr_up_n _ _ hk]
theorem mq_t_r (V : mz_V) {m : Nat} (cd : Int) {r : Nat} (hr : r ≠ m) : mq_t V m cd r = V r := mz_w_n _ _ hr
theorem mq_t_t (V : mz_V) (m : Nat) (c e : Int) : mq_t (mq_t V m c) m e = mq_t V m e := by unfold mq_t; rw [mz_w_w, mz_w_s, mr_up_up]
theorem mq_t_is {V : mz_V} {m : Nat} {w : mz_V} (h : mr_is V m w) (cd : Int) : mr_is (mq_t V m cd) m w := by
  obtain ⟨⟨h1, h3, h4, h6, h8⟩, hf⟩ := h
  refine ⟨⟨by rw [mq_t_r _ _ (by omega)]; exact h1, by rw [mq_t_r _ _ (by omega)]; exact h3, by rw [mq_t_r _ _ (by omega)]; exact h4, by rw [mq_t_r _ _ (by omega)]; exact h6, by rw [mq_t_r _ _ (by omega)]; exact h8⟩, fun k hk => ?_⟩
  rw [mq_t_k _ _ _ (by unfold mg_f at hk; omega)]
  exact hf k hk
theorem mq_t_X (V : mz_V) (m : Nat) (cd : Int) : mr_X V (mq_t V m cd) m := mr_X_w (by omega) (by omega)
section QRM
variable {X : mv_X} {P : mz_P} {V : mz_V} {z : Nat × Nat} {m d : Nat} {s : Nat → Int}
theorem mr_It (hI : mr_I (V (m + 1))) (c : Int) : mr_I (mq_t V m c (m + 1)) := by rw [mq_t_1]; exact hI
theorem nZ_pos {c : Int} (h : 0 ≤ c) (h2 : c ≤ 10) : (nZ c ≤ 0) = (c = 0) := by
  rw [nZ_le0 ⟨by omega, by omega⟩]
  exact propext ⟨fun q => by omega, fun q => by omega⟩
theorem mq_ahd_self (s : Nat → Int) (i : Nat) : mq_ahd s i i = false := by
  unfold mq_ahd
  rw [if_pos rfl, if_pos rfl]
  simp
theorem mq_ahs0 (s : Nat → Int) (i n : Nat) : 0 ≤ mq_ahs s i n := mz_s_0 fun j _ => by split <;> omega
theorem mq_ahs1 (s : Nat → Int) (i n : Nat) : mq_ahs s i n ≤ n := by
  have := mz_s_20 (f := fun j => if s (6 + 11 * j) = 1 ∧ mq_ahd s j i = true then (1 : Int) else 0) (m := 1) (n := n) fun j _ => by split <;> omega
  unfold mq_ahs
  omega
/-- what holds of pilots -/
def mq_pI (s : Nat → Int) : Prop := ∀ p : Nat, (p : Int) < s 5 → (1 ≤ s (140 + 3 * p) ∧ s (140 + 3 * p) ≤ 30) ∧ (0 ≤ s (140 + 3 * p + 1) ∧ s (140 + 3 * p + 1) ≤ 23) ∧ (0 ≤ s (140 + 3 * p + 2) ∧ s (140 + 3 * p + 2) ≤ 23)
end QRM
