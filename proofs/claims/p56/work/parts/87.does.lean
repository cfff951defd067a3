/-! THE REFERENCE DOES A TEXT'S COMMANDS -/
section DOES
variable {X : mv_X} {P : mz_P} {V : mz_V} {z : Nat × Nat} {d m L x0 : Nat} {t : Nat → Int}
/-- command i in the reference's row, its numbers as the machine has them -/
def rn_c (g : Nat → Int) (t : Nat → Int) (L i : Nat) : Prop := g (5 * i) = kc_c (rc_k t L i) ∧ ∀ j, j < fm_n (fm_l (rc_k t L i)) → g (5 * i + (j + 1)) = rc_y t L i j
theorem kc_c_n (k : Nat) : (nZ (kc_c k)).toInt = kc_c k := by
  unfold kc_c
  repeat' split
  all_goals decide
theorem rq_rn {g : Nat → Int} {i : Nat} (hok : (pc_r t L (rd_p t L i)).1 = true) (h : rq_c g t L i) : rn_c (fun j => (nZ (g j)).toInt) t L i := by
  obtain ⟨h1, h2, h3⟩ := h
  obtain ⟨hk9, hcn⟩ := pc_r_n hok
  refine ⟨?_, fun j hj => ?_⟩
  · show (nZ (g (5 * i))).toInt = kc_c (pk_k t L (rd_p t L i))
    rw [h1, kc_c_n]
  · show (nZ (g (5 * i + (j + 1)))).toInt = (nZ ((pc_r t L (rd_p t L i)).2.2.2 j)).toInt
    rw [h3 j (by rw [hcn]; exact hj)]
end DOES
