/-! ONE COMMAND: what the reference reads is what the form told says -/
def kc_c (k : Nat) : Int := if k = 0 then 109 else if k = 1 then 99 else if k = 2 then 108 else if k = 3 then 100 else if k = 4 then 114 else if k = 5 then 119 else if k = 6 then 219 else if k = 7 then 112 else 208
def rs_ok (t : Nat → Int) (L N p : Nat) (g : Nat → Int) (s' : rs_T) : Prop := s'.1 = !(pc_r t L p).1 ∧ s'.2.1 = (pc_r t L p).2.1 ∧ (∀ i, i < 5 * N → s'.2.2 i = g i) ∧ ((pc_r t L p).1 = true → s'.2.2 (5 * N) = kc_c (pk_k t L p) ∧ (pc_r t L p).2.2.1 ≤ 4 ∧ ∀ j, j < (pc_r t L p).2.2.1 → s'.2.2 (5 * N + (j + 1)) = (pc_r t L p).2.2.2 j)
theorem rs_ok_k {t : Nat → Int} {L N p k : Nat} {g : Nat → Int} (hk : k < 9) (h5 : k ≠ 5) (h : pk_k t L p = k) : rs_ok t L N p g (sg_r t L N 0 (fm_s k) (false, p, mr_up g (5 * N) (kc_c k))) := by
  obtain ⟨f1, f2, f3⟩ := fm_s_l hk h5
  have er : pc_r t L p = pr_fm t L (fm_l k) p (0, fun _ => 0) := by unfold pc_r; rw [if_neg (by omega), h]
  obtain ⟨a1, a2, a3, a4⟩ := sg_rel (t := t) (L := L) (N := N) (fm_s k) p 0 (fun _ => 0) (mr_up g (5 * N) (kc_c k)) f3 (by omega)
  rw [f1, ← er] at a1 a2 a4
  refine ⟨by rw [a1, Bool.not_not], a2.symm, fun i hi => by rw [a3 i (by omega), mr_up_n _ _ (by omega)], fun w => ?_⟩
  obtain ⟨b1, b2, b3⟩ := a4 w
  exact ⟨by rw [a3 _ (by omega), mr_up_s, h], by omega, fun j hj => b3 j (Nat.zero_le _) (by omega)⟩
theorem rs_ok_5 {t : Nat → Int} {L N p : Nat} {g : Nat → Int} (h : pk_k t L p = 5) : rs_ok t L N p g (rs_w t L N (false, p, mr_up g (5 * N) 119)) := by
  have er : pc_r t L p = pr_fm t L (fm_l 5) p (0, fun _ => 0) := by unfold pc_r; rw [if_neg (by omega), h]
  obtain ⟨a1, a2, a3, a4⟩ := rw_rel (t := t) (L := L) (N := N) (p := p) (fun _ => 0) (mr_up g (5 * N) 119)
  rw [← er] at a1 a2 a4
  refine ⟨by rw [a1, Bool.not_not], a2.symm, fun i hi => by rw [a3 i (by omega), mr_up_n _ _ (by omega)], fun w => ?_⟩
  obtain ⟨b1, b2⟩ := a4 w
  exact ⟨by rw [a3 _ (by omega), mr_up_s, h]; rfl, by omega, fun j hj => b2 j (by omega)⟩
section ONES
variable {X : mv_X} {P : mz_P} {V : mz_V} {z : Nat × Nat} {d m L x0 N : Nat} {t : Nat → Int} {s : rs_T}
theorem X9_readsOne (hX : mx_W X P x0) (hR : mx_R X x0) (hM : mr_M P m) (hT : rz_T V m L N t) {p : Nat} {g : Nat → Int} (hp : p ≤ L) : ∃ s' : rs_T, mv_call X (d + 8) 238 [.ref m] (mz_h P (rz_V V m (false, p, g)), z) = some (.inl none, (mz_h P (mz_w (rz_V V m s') m (mr_up (rz_V V m s' m) 25 ((N : Int) + 1))), z)) ∧ rs_ok t L N p g s' := by
  by_cases c109 : pr_chr t L 109 p = true
  · exact ⟨_, X9_one0 (d := d + 1) hX hR hM hT hp c109, rs_ok_k (k := 0) (by decide) (by decide) (by unfold pk_k; rw [if_pos c109])⟩
  · by_cases c99 : pr_chr t L 99 p = true
    · exact ⟨_, X9_one1 (d := d + 1) hX hR hM hT hp c99, rs_ok_k (k := 1) (by decide) (by decide) (by unfold pk_k; rw [if_neg c109, if_pos c99])⟩
    · by_cases c108 : pr_chr t L 108 p = true
      · by_cases c101 : pr_chr t L 101 (p + 1) = true
        · exact ⟨_, X9_one8 (d := d + 1) hX hR hM hT hp c108 c101, rs_ok_k (k := 8) (by decide) (by decide) (by unfold pk_k; rw [if_neg c109, if_neg c99, if_pos c108, if_pos c101])⟩
        · exact ⟨_, X9_one2 (d := d + 1) hX hR hM hT hp c108 c101, rs_ok_k (k := 2) (by decide) (by decide) (by unfold pk_k; rw [if_neg c109, if_neg c99, if_pos c108, if_neg c101])⟩
      · by_cases c100 : pr_chr t L 100 p = true
        · exact ⟨_, X9_one3 (d := d + 1) hX hR hM hT hp c100, rs_ok_k (k := 3) (by decide) (by decide) (by unfold pk_k; rw [if_neg c109, if_neg c99, if_neg c108, if_pos c100])⟩
        · by_cases c114 : pr_chr t L 114 p = true
          · exact ⟨_, X9_one4 (d := d + 1) hX hR hM hT hp c114, rs_ok_k (k := 4) (by decide) (by decide) (by unfold pk_k; rw [if_neg c109, if_neg c99, if_neg c108, if_neg c100, if_pos c114])⟩
          · by_cases c119 : pr_chr t L 119 p = true
            · by_cases c97 : pr_chr t L 97 (p + 1) = true
              · exact ⟨_, X9_one6 (d := d + 1) hX hR hM hT hp c119 c97, rs_ok_k (k := 6) (by decide) (by decide) (by unfold pk_k; rw [if_neg c109, if_neg c99, if_neg c108, if_neg c100, if_neg c114, if_pos c119, if_pos c97])⟩
              · exact ⟨_, X9_one5 (d := d) hX hR hM hT hp c119 c97, rs_ok_5 (by unfold pk_k; rw [if_neg c109, if_neg c99, if_neg c108, if_neg c100, if_neg c114, if_pos c119, if_neg c97])⟩
            · by_cases c112 : pr_chr t L 112 p = true
              · exact ⟨_, X9_one7 (d := d + 1) hX hR hM hT hp c112, rs_ok_k (k := 7) (by decide) (by decide) (by unfold pk_k; rw [if_neg c109, if_neg c99, if_neg c108, if_neg c100, if_neg c114, if_neg c119, if_pos c112])⟩
              · have h9 : pk_k t L p = 9 := by unfold pk_k; rw [if_neg c109, if_neg c99, if_neg c108, if_neg c100, if_neg c114, if_neg c119, if_neg c112]
                have er : pc_r t L p = (false, p, (0, fun _ => 0)) := by unfold pc_r; rw [if_pos h9]
                refine ⟨_, X9_one9 (d := d + 1) hM hT hp c99 c100 c108 c109 c112 c114 c119, ?_⟩
                unfold rs_ok
                rw [er]
                exact ⟨rfl, rfl, fun i hi => mr_up_n _ _ (by omega), fun w => absurd (show false = true from w) (by decide)⟩
end ONES
