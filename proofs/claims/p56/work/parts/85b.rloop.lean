/-! THE REFERENCE READS A TEXT -/
theorem rz_c {V : mz_V} {m : Nat} {s : rs_T} (N : Int) : mz_w (rz_V V m s) m (mr_up (rz_V V m s m) 25 N) = rz_V (mz_w V m (mr_up (V m) 25 N)) m s := by
  have e : mr_up (rz_V V m s m) 25 N = mr_up (mr_up (mr_up (V m) 25 N) 26 (rs_b s.1)) 23 s.2.1 := by
    rw [rz_m]
    funext j
    unfold mr_up
    repeat' split
    all_goals first | rfl | omega
  rw [e]
  unfold rz_V
  rw [mz_w_c _ _ _ (show m + 7 ≠ m by omega), mz_w_w, mz_w_w, mz_w_s]
theorem rd_ft : ¬ (false = true) := by decide
/-- command i in the reference's row -/
def rq_c (g : Nat → Int) (t : Nat → Int) (L i : Nat) : Prop := g (5 * i) = kc_c (pk_k t L (rd_p t L i)) ∧ (pc_r t L (rd_p t L i)).2.2.1 ≤ 4 ∧ ∀ j, j < (pc_r t L (rd_p t L i)).2.2.1 → g (5 * i + (j + 1)) = (pc_r t L (rd_p t L i)).2.2.2 j
def rx_F (U : mz_V) (m : Nat) (p : Int) : mz_V := mq_t (mz_w U m (mr_up (U m) 17 p)) m 1
section RLOOP
variable {X : mv_X} {P : mz_P} {V : mz_V} {z : Nat × Nat} {d m L x0 : Nat} {t : Nat → Int}
end RLOOP
