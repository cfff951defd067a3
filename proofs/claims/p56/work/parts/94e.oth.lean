/-! CREWS, CALMS, NUMBERS IN FLOATING POINT, LINES -/
theorem pw_ex (E : Nat → Nat → Bool) : ∃ N, cw_max E N := by
  have key : ∀ n : Nat, n ≤ 64 → ∃ S0, S0 < 64 ∧ cw_R E 10 S0 ∧ ∀ S, S < n → cw_R E 10 S → mb_pop S ≤ mb_pop S0 := fun n => by
    induction n with
    | zero => exact fun _ => ⟨0, by decide, cw_R_0 E 10, fun S h => absurd h (Nat.not_lt_zero _)⟩
    | succ n ih =>
      intro hn
      obtain ⟨S0, h1, h2, h3⟩ := ih (by omega)
      by_cases c : cw_R E 10 n ∧ mb_pop S0 < mb_pop n
      · refine ⟨n, by omega, c.1, fun S hS hR => ?_⟩
        by_cases e : S = n
        · rw [e]; exact Int.le_refl _
        · have := h3 S (by omega) hR
          omega
      · refine ⟨S0, h1, h2, fun S hS hR => ?_⟩
        by_cases e : S = n
        · rw [e] at hR ⊢
          have : ¬ mb_pop S0 < mb_pop n := fun q => c ⟨hR, q⟩
          omega
        · exact h3 S (by omega) hR
  obtain ⟨S0, h1, h2, h3⟩ := key 64 (Nat.le_refl _)
  exact ⟨mb_pop S0, ⟨S0, h1, h2, rfl⟩, h3⟩
/-- on duty now -/
def pw_on (s : Nat → Int) (n : Nat) : Int := mz_s (fun p => if mq_on s p (s 0 % 24) = true then 1 else 0) n
theorem pw_le {s : Nat → Int} {N : Int} (h : pn_I s) (hN : cw_max (cw_E s) N) : N ≤ pw_on s (s 5).toNat ∧ N ≤ mq_cnt s := by
  obtain ⟨⟨S, h1, h2, rfl⟩, -⟩ := hN
  obtain ⟨G, g1, -, g3⟩ := cw_R_G 10 S (Nat.le_refl _) h1 h2
  have e := cw_pop (S := S) (f := cw_n G) g3
  have h5 := h.1.pil
  constructor
  · have c1 : mz_s (cw_n G) 6 ≤ mz_s (fun p => if (p : Int) < s 5 ∧ mq_on s p (s 0 % 24) = true then 1 else 0) 6 := mz_s_le fun q hq => by
      show cw_n G q ≤ if (q : Int) < s 5 ∧ mq_on s q (s 0 % 24) = true then 1 else 0
      rw [g3 q hq]
      by_cases c : S.testBit q = true
      · rw [if_pos c]
        have hx : 0 < cw_n G q := by rw [g3 q hq, if_pos c]; decide
        obtain ⟨b, hb, hbb⟩ := mz_s_ex hx
        have hG : G b = (q : Int) := Classical.byContradiction fun z => by
          have hbb : (0 : Int) < if G b = (q : Int) then 1 else 0 := hbb
          rw [if_neg z] at hbb
          exact absurd hbb (by decide)
        rcases g1 b hb with z | ⟨-, -, z⟩
        · rw [z] at hG; omega
        · rw [hG] at z
          have z := of_decide_eq_true (show decide (((q : Int).toNat : Int) < s 5 ∧ s (6 + 11 * b) = 1 ∧ mq_fit s (q : Int).toNat b = true) = true from z)
          rw [Int.toNat_natCast] at z
          have z3 := z.2.2
          unfold mq_fit at z3
          rw [Bool.and_eq_true] at z3
          rw [if_pos ⟨z.1, z3.1⟩]
          exact Int.le_refl _
      · rw [if_neg c]
        split <;> decide
    have c2 : mz_s (fun p => if (p : Int) < s 5 ∧ mq_on s p (s 0 % 24) = true then (1 : Int) else 0) 6 = pw_on s (s 5).toNat := by
      rw [mz_s_cut (n := (s 5).toNat) (m := 6) (by omega) fun q q1 _ => if_neg fun z => by omega]
      refine mz_s_c fun q hq => ?_
      show (if (q : Int) < s 5 ∧ mq_on s q (s 0 % 24) = true then (1 : Int) else 0) = if mq_on s q (s 0 % 24) = true then 1 else 0
      by_cases c : mq_on s q (s 0 % 24) = true
      · rw [if_pos ⟨by omega, c⟩, if_pos c]
      · rw [if_neg (fun z => c z.2), if_neg c]
    omega
  · have c1 : mz_s (cw_n G) 6 = mz_s (fun b => mz_s (fun q => if G b = (q : Int) then 1 else 0) 6) 10 := mz_s_sw (fun q b => if G b = (q : Int) then 1 else 0) 10 6
    have c2 : mz_s (fun b => mz_s (fun q => if G b = (q : Int) then (1 : Int) else 0) 6) 10 ≤ mq_cnt s := mz_s_le fun b hb => by
      show mz_s (fun q => if G b = (q : Int) then (1 : Int) else 0) 6 ≤ s (6 + 11 * b)
      rw [mz_s_one]
      rcases g1 b hb with z | ⟨z1, z2, z⟩
      · rw [if_neg (by omega)]
        have := h.1.here hb
        omega
      · have z := of_decide_eq_true (show decide (((G b).toNat : Int) < s 5 ∧ s (6 + 11 * b) = 1 ∧ mq_fit s (G b).toNat b = true) = true from z)
        rw [z.2.1]
        split <;> decide
    omega
-- calms
theorem pw_l_m {c c' : Nat → Bool} (h : ∀ q, c q = true → c' q = true) (f : Nat) : cl_l c f 24 ≤ cl_l c' f 24 := cl_ac c' 24 f _ (fun q h1 h2 => h q (cl_ca c 24 f q h1 h2)) (cl_le c 24 f)
theorem pw_m_m {c c' : Nat → Bool} (h : ∀ q, c q = true → c' q = true) : cl_m c 24 ≤ cl_m c' 24 := by
  rcases cl_m_w c 24 with e | ⟨f, hf, e⟩
  · omega
  · have h1 := pw_l_m h f
    have h2 := cl_m_u c' 24 f hf
    omega
theorem pw_clm {s : Nat → Int} (y : Int) : mq_clm s (y - 1) ≤ mq_clm s y ∧ 0 ≤ mq_clm s y ∧ mq_clm s y ≤ 24 := by
  have h1 := pw_m_m (c := mq_cm s (y - 1)) (c' := mq_cm s y) fun q hq => by
    have hq := of_decide_eq_true (show decide (-(y - 1) ≤ s (116 + q % 24) ∧ s (116 + q % 24) ≤ y - 1) = true from hq)
    exact decide_eq_true (show -y ≤ s (116 + q % 24) ∧ s (116 + q % 24) ≤ y by omega)
  have h2 := cl_m_le (mq_cm s y) 24
  unfold mq_clm
  omega
theorem pw_clm9 {s : Nat → Int} (hI : mr_I s) : mq_clm s 9 = 24 := by
  have h1 := cl_ac (mq_cm s 9) 24 0 24 (fun q _ _ => by
    have := hI.wind (show q % 24 < 24 by omega)
    exact decide_eq_true (show -9 ≤ s (116 + q % 24) ∧ s (116 + q % 24) ≤ 9 by omega)) (Nat.le_refl _)
  have h2 := cl_m_u (mq_cm s 9) 24 0 (by decide)
  have h3 := cl_m_le (mq_cm s 9) 24
  unfold mq_clm
  omega
-- floating point
theorem pf_mul_t : ∀ c : Fin 60, ∀ g : Fin 41, (decide (FP.fmul (UInt32.ofNat 1148846080) (FP.fdiv (FP.i2f (nZ ((g : Nat) : Int))) (FP.i2f (nZ ((c : Nat) + 1 : Nat)))) &&& 0x7fffffff ≤ 0x7f800000) && decide ((Op.cmpValue (FP.fcmp (FP.fdiv (FP.i2f (nZ ((g : Nat) : Int))) (FP.i2f (nZ ((c : Nat) + 1 : Nat)))) (mv_fc 1)) .l ≤ 0) = ((g : Nat) ≤ (c : Nat) + 1))) = true := by decide +kernel
theorem pf_mul {g c : Int} (hg : 0 ≤ g ∧ g ≤ 40) (hc : 1 ≤ c ∧ c ≤ 60) : FP.fmul (UInt32.ofNat 1148846080) (FP.fdiv (FP.i2f (nZ g)) (FP.i2f (nZ c))) &&& 0x7fffffff ≤ 0x7f800000 ∧ (Op.cmpValue (FP.fcmp (FP.fdiv (FP.i2f (nZ g)) (FP.i2f (nZ c))) (mv_fc 1)) .l ≤ 0 ↔ g ≤ c) := by
  obtain ⟨a, rfl⟩ : ∃ a : Nat, g = a := ⟨g.toNat, by omega⟩
  obtain ⟨b, rfl⟩ : ∃ b : Nat, c = ((b + 1 : Nat) : Int) := ⟨c.toNat - 1, by omega⟩
  have h := pf_mul_t ⟨b, by omega⟩ ⟨a, by omega⟩
  rw [Bool.and_eq_true, decide_eq_true_eq, decide_eq_true_eq] at h
  exact ⟨h.1, by rw [h.2]; show a ≤ b + 1 ↔ (a : Int) ≤ ((b + 1 : Nat) : Int); omega⟩
theorem pf_75 : FP.fmul (UInt32.ofNat 1148846080) (UInt32.ofNat 3264610304) &&& 0x7fffffff ≤ 0x7f800000 := by decide +kernel
theorem pf_74 : Op.cmpValue (FP.dcmp (UInt64.ofNat 13858279740860792832) (UInt64.ofNat 13858279740860792832)) .l = 0 := by decide +kernel
-- lines
theorem pw_line (s f : Nat → Int) (a : Nat) : 5 ≤ (ln_w s f a).1 := by
  have a1 := (ln_n_1 (0, f) a).1
  have a2 := (ln_n_1 (ln_c (ln_n (0, f) a) 58) (mr_ho s a 0)).1
  have a3 := (ln_n_1 (ln_c (ln_n (ln_c (ln_n (0, f) a) 58) (mr_ho s a 0)) 47) (s (6 + 11 * a + 2))).1
  have e1 : (ln_c (ln_n (0, f) a) 58).1 = (ln_n (0, f) a).1 + 1 := rfl
  have e2 : (ln_c (ln_n (ln_c (ln_n (0, f) a) 58) (mr_ho s a 0)) 47).1 = (ln_n (ln_c (ln_n (0, f) a) 58) (mr_ho s a 0)).1 + 1 := rfl
  have h5 : 5 ≤ (ln_h s f a).1 := by
    unfold ln_h
    have a1 : (0 : Nat) + 1 ≤ (ln_n (0, f) a).1 := a1
    omega
  unfold ln_w
  refine Nat.le_trans ?_ (ln_bags_1 s a _ 0 _).1
  split
  · show 5 ≤ (ln_h s f a).1 + 1
    omega
  · exact h5
