/-! ONE COMMAND: what the reference reads is what the form told says -/
def kc_c (k : Nat) : Int := if k = 0 then 109 else if k = 1 then 99 else if k = 2 then 108 else if k = 3 then 100 else if k = 4 then 114 else if k = 5 then 119 else if k = 6 then 219 else if k = 7 then 112 else 208
def rs_ok (t : Nat → Int) (L N p : Nat) (g : Nat → Int) (s' : rs_T) : Prop := s'.1 = !(pc_r t L p).1 ∧ s'.2.1 = (pc_r t L p).2.1 ∧ (∀ i, i < 5 * N → s'.2.2 i = g i) ∧ ((pc_r t L p).1 = true → s'.2.2 (5 * N) = kc_c (pk_k t L p) ∧ (pc_r t L p).2.2.1 ≤ 4 ∧ ∀ j, j < (pc_r t L p).2.2.1 → s'.2.2 (5 * N + (j + 1)) = (pc_r t L p).2.2.2 j)
theorem rs_ok_k {t : Nat → Int} {L N p k : Nat} {g : Nat → Int} (hk : k < 9) (h5 : k ≠ 5) (h : pk_k t L p = k) : rs_ok t L N p g (sg_r t L N 0 (fm_s k) (false, p, mr_up g (5 * N) (kc_c k))) := by
  obtain ⟨f1, f2, f3⟩ := fm_s_l hk h5
  have er : pc_r t L p = pr_fm t L (fm_l k) p (0, fun _ => 0) := by unfold pc_r; rw [if_neg (by omega), h]
  obtain ⟨a1, a2, a3, a4⟩ := sg_rel (t := t) (L := L) (N := N) (fm_s k) p 0 (fun _ => 0) (mr_up g (5 * N) (kc_c k)) f3 (by omega)
  rw [f1, ← er] at a1 a2 a4
  refine ⟨by rw [a1, Bool.not_not], a2.symm, fun i hi => by rw [a3 i (by omega), mr_up_n _ _ (by omega)], fun w => ?_⟩
  obtain ⟨b1, b2, b3⟩ := a4 w
  exact ⟨by rw [a3 _ (by omega), mr_up_s, h], by omega, fun j hj => b3 j (Nat.zero_le _) (by omega)⟩
theorem rs_ok_5 {t : Nat → Int} {L N p : Nat} {g : Nat → Int} (h : pk_k t L p = 5) : rs_ok t L N p g (rs_w t L N (false, p, mr_up g (5 * N) 119)) := by
  have er : pc_r t L p = pr_fm t L (fm_l 5) p (0, fun _ => 0) := by unfold pc_r; rw [if_neg (by omega), h]
  obtain ⟨a1, a2, a3, a4⟩ := rw_rel (t := t) (L := L) (N := N) (p := p) (fun _ => 0) (mr_up g (5 * N) 119)
  rw [← er] at a1 a2 a4
  refine ⟨by rw [a1, Bool.not_not], a2.symm, fun i hi => by rw [a3 i (by omega), mr_up_n _ _ (by omega)], fun w => ?_⟩
  obtain ⟨b1, b2⟩ := a4 w
  exact ⟨by rw [a3 _ (by omega), mr_up_s, h]; rfl, by omega, fun j hj => b2 j (by omega)⟩
section ONES
variable {X : mv_X} {P : mz_P} {V : mz_V} {z : Nat × Nat} {d m L x0 N : Nat} {t : Nat → Int} {s : rs_T}
end ONES
