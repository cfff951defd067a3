/-! ROWS FROM THE PROOF OF whole -/
theorem mX_is_g {V V' : mz_V} {x v : Nat} {w : mz_V} {b : Int} (hI : mg_I w b) (hv : v = x + 368 ∨ x + 376 ≤ v) (h : ∀ r, x ≤ r → r < x + 368 → V' r = V r) (h2 : V' v = V v) (hW : mX_is V x v w) : mX_is V' x v w := by
  obtain ⟨W1, W2, W3, W4, W5, W6⟩ := hW
  have hx := h x (by omega) (by omega)
  exact ⟨mh_R_f hI.1.1.pil.2 (fun r r1 r2 => h r (by omega) (by omega)) W1, mX_s_same hI W2 rfl rfl (by rw [hx]) (fun r r1 r2 => h r (by omega) (by omega)), mX_h_same hI W3 rfl rfl (fun r r1 r2 => h r (by omega) (by omega)), mX_t_same W4 rfl rfl (by rw [h _ (by omega) (by omega)]) (h _ (by omega) (by omega)), mX_l_same W5 rfl rfl (h _ (by omega) (by omega)) h2, mX_d_same W6 rfl rfl rfl rfl (by rw [hx]) (by rw [hx]) (by rw [hx]) (by rw [hx])⟩
theorem mg_I_0 {w : mz_V} {b : Int} (hI : mg_I w b) : mg_I (mz_u w 0 15 0) b := by
  have er : ∀ r, r ≠ 0 → mz_u w 0 15 0 r = w r := fun r h => mz_u_o h
  have ek : ∀ k, k ≠ 15 → mz_u w 0 15 0 0 k = w 0 k := fun k h => mz_u_k _ _ h
  unfold mg_I at hI ⊢
  rw [er 1 (by decide), er 3 (by decide), er 4 (by decide), er 6 (by decide), er 8 (by decide), ek 6 (by decide), ek 7 (by decide), ek 16 (by decide), ek 17 (by decide), ek 19 (by decide), ek 20 (by decide), ek 21 (by decide), mz_u_s]
  obtain ⟨a1, a3, a4, a5, a6, a7, a8, a9⟩ := hI
  exact ⟨a1, a3, a4, a5, a6, ⟨by decide, by decide⟩, fun i hi => absurd hi (by omega), a9⟩
theorem mg_I_1 {w : mz_V} {b : Int} {s : Nat → Int} (hI : mg_I w b) (h1 : mr_I s) (h2 : s 0 ≤ b) : mg_I (mz_w w 1 s) b := by
  unfold mg_I at hI ⊢
  rw [mz_w_s, mz_w_n _ _ (show 0 ≠ 1 by decide), mz_w_n _ _ (show 3 ≠ 1 by decide), mz_w_n _ _ (show 4 ≠ 1 by decide), mz_w_n _ _ (show 6 ≠ 1 by decide), mz_w_n _ _ (show 8 ≠ 1 by decide)]
  exact ⟨⟨h1, h2⟩, hI.2⟩
theorem mg_xe_16 (w : mz_V) : mg_xe w 0 16 = w 0 16 := by
  unfold mg_xe
  by_cases c1 : (mg_xt w).1 = true
  · rw [if_pos c1]
    by_cases c2 : (mg_xl w).1 = true
    · rw [if_pos c2]
      unfold mg_x1
      rw [mz_u_k _ _ (by decide), mz_u_k _ _ (by decide), mz_w_n _ _ (by decide), mz_w_n _ _ (by decide)]
    · rw [if_neg c2]
      unfold mg_x2
      rw [mz_u_k _ _ (by decide), mz_u_k _ _ (by decide), mz_u_k _ _ (by decide), mz_u_k _ _ (by decide), mz_w_n _ _ (by decide)]
  · rw [if_neg c1]
    unfold mg_x3
    rw [mz_u_k _ _ (by decide), mz_u_k _ _ (by decide)]
theorem mg_xe_J {w : mz_V} {b : Int} (hJ : mg_J w b) (hb : b ≤ 999999000) : mg_J (mg_xe w) (b + 432) := by
  obtain ⟨hI, hK⟩ := hJ
  have h15 := hI.2.2.2.2.2.1
  have h17 := hI.2.2.2.2.2.2.2.2.2.1
  have hbw := hI.1.2
  have hrn := rd_r_n (t := w 6) (L := (w 0 15).toNat) 9 0 (fun i hi => absurd hi (Nat.not_lt_zero _))
  have hrp := rd_r_p (t := w 6) (L := (w 0 15).toNat) 9 0 (Nat.zero_le _)
  have hk9 : ∀ i, i < (mg_xt w).2.2 → rc_k (w 6) (w 0 15).toNat i < 9 := fun i hi => (pc_r_n (hrn.1 i hi)).1
  have hn9 : (mg_xt w).2.2 ≤ 9 := by have := hrn.2; omega
  have hE := ex_l_I (t := w 6) (L := (w 0 15).toNat) hk9 (mg_xt w).2.2 0 (w 1) (by omega) hn9 hI.1.1 (by omega)
  have hp60 : (mg_xt w).2.1 ≤ (w 0 15).toNat := hrp
  unfold mg_xe
  by_cases c1 : (mg_xt w).1 = true
  · rw [if_pos c1]
    by_cases c2 : (mg_xl w).1 = true
    · rw [if_pos c2]
      obtain ⟨e1, e2, -⟩ := hE
      have e1 : mr_I (mg_xl w).2.2.2 := e1
      have e2 : (mg_xl w).2.2.2 0 ≤ w 1 0 + 48 * ((mg_xt w).2.2 : Int) := e2
      obtain ⟨W, hW⟩ : ∃ W, W = mz_u (mz_w (mz_w w 1 (mg_xl w).2.2.2) 4 (mg_hp (w 4) (w 0 6) (w 1))) 0 6 (mg_kp (w 0 6)) := ⟨_, rfl⟩
      have eo : ∀ q, q ≠ 6 → W 0 q = w 0 q := fun q hq => by rw [hW, mz_u_k _ _ hq, mz_w_n _ _ (by decide), mz_w_n _ _ (by decide)]
      have er : ∀ r, r ≠ 0 → r ≠ 1 → r ≠ 4 → W r = w r := fun r r0 r1 r4 => by rw [hW, mz_u_o r0, mz_w_n _ _ r4, mz_w_n _ _ r1]
      have w1 : W 1 = (mg_xl w).2.2.2 := by rw [hW, mz_u_o (by decide), mz_w_n _ _ (by decide), mz_w_s]
      have hp := mg_I_push (mg_I_b (show b ≤ b + 384 by omega) hI) (w' := W) (by rw [w1]; exact e1) (by rw [w1]; omega) (by rw [hW, mz_u_o (by decide), mz_w_s]) (by rw [hW, mz_u_s]) eo er
      have ex : mg_x1 w (mg_xl w).2.2.2 = mz_u W 0 15 0 := by rw [hW]; rfl
      rw [ex]
      refine ⟨mg_I_b (by omega) (mg_I_0 hp), fun q => ?_⟩
      rw [mz_u_k _ _ (by decide), eo 19 (by decide)] at q
      rw [mz_u_k _ _ (by decide), eo 21 (by decide)]
      exact hK q
    · rw [if_neg c2]
      have hE1 : (mg_xl w).1 = false := by
        cases hb : (mg_xl w).1 with
        | false => rfl
        | true => exact absurd hb c2
      obtain ⟨e1, e2, e3, e4, e5⟩ := hE
      obtain ⟨f1, f2, f3⟩ := e5 hE1
      have f1 : (mg_xl w).2.1 < (mg_xt w).2.2 := f1
      have f2 : 1 ≤ (mg_xl w).2.2.1 := f2
      obtain ⟨W, hW⟩ : ∃ W, W = mz_u (mz_w w 1 (mr_cpy (mg_xl w).2.2.2 (w 1) 158)) 0 15 0 := ⟨_, rfl⟩
      have hp : mg_I W b := by
        rw [hW]
        exact mg_I_0 (mg_I_1 hI (mr_I_e (fun j hj => mr_cpy_l _ _ hj) hI.1.1) (by rw [mr_cpy_l _ _ (by decide)]; exact hbw))
      have w17 : W 0 17 = w 0 17 := by rw [hW, mz_u_k _ _ (by decide), mz_w_n _ _ (by decide)]
      have ex : mg_x2 w (mg_xl w).2.1 (mg_xl w).2.2.1 (mg_xl w).2.2.2 = mz_u (mz_u (mz_u W 0 19 6) 0 20 (mg_xl w).2.1) 0 21 (if (mg_xl w).2.2.1 ≤ 5 then (mg_xl w).2.2.1 else 7) := by rw [hW]; rfl
      rw [ex]
      have eo : ∀ q, q ≠ 19 → q ≠ 20 → q ≠ 21 → mz_u (mz_u (mz_u W 0 19 6) 0 20 (mg_xl w).2.1) 0 21 (if (mg_xl w).2.2.1 ≤ 5 then (mg_xl w).2.2.1 else 7) 0 q = W 0 q := fun q q1 q2 q3 => by rw [mz_u_k _ _ q3, mz_u_k _ _ q2, mz_u_k _ _ q1]
      have e19 : mz_u (mz_u (mz_u W 0 19 6) 0 20 (mg_xl w).2.1) 0 21 (if (mg_xl w).2.2.1 ≤ 5 then (mg_xl w).2.2.1 else 7) 0 19 = 6 := by rw [mz_u_k _ _ (by decide), mz_u_k _ _ (by decide), mz_u_s]
      have e20 : mz_u (mz_u (mz_u W 0 19 6) 0 20 (mg_xl w).2.1) 0 21 (if (mg_xl w).2.2.1 ≤ 5 then (mg_xl w).2.2.1 else 7) 0 20 = (mg_xl w).2.1 := by rw [mz_u_k _ _ (by decide), mz_u_s]
      refine ⟨mg_I_b (by omega) (mg_I_f hp (fun r hr => by rw [mz_u_o hr, mz_u_o hr, mz_u_o hr]) (eo 6 (by decide) (by decide) (by decide)) (eo 7 (by decide) (by decide) (by decide)) (eo 15 (by decide) (by decide) (by decide)) (eo 16 (by decide) (by decide) (by decide)) ?_ ?_ ?_ ?_), fun q => ?_⟩
      · rw [eo 17 (by decide) (by decide) (by decide), w17]; exact h17
      · rw [e19]; decide
      · rw [e20]; exact ⟨by omega, by omega⟩
      · rw [mz_u_s]
        by_cases c5 : (mg_xl w).2.2.1 ≤ 5
        · rw [if_pos c5]; exact ⟨by omega, by omega⟩
        · rw [if_neg c5]; decide
      · rw [e19] at q
        exact absurd q (by decide)
  · rw [if_neg c1]
    have hp := mg_I_0 hI
    have eo : ∀ q, q ≠ 17 → mg_x3 w (mg_xt w).2.1 0 q = mz_u w 0 15 0 0 q := fun q q1 => by unfold mg_x3; rw [mz_u_k _ _ q1]
    refine ⟨mg_I_b (by omega) (mg_I_f hp (fun r hr => by unfold mg_x3; rw [mz_u_o hr]) (eo 6 (by decide)) (eo 7 (by decide)) (eo 15 (by decide)) (eo 16 (by decide)) ?_ ?_ ?_ ?_), fun q => ?_⟩
    · unfold mg_x3
      rw [mz_u_s]
      omega
    · rw [eo 19 (by decide), mz_u_k _ _ (by decide)]; exact hI.2.2.2.2.2.2.2.2.2.2.1
    · rw [eo 20 (by decide), mz_u_k _ _ (by decide)]; exact hI.2.2.2.2.2.2.2.2.2.2.2.1
    · rw [eo 21 (by decide), mz_u_k _ _ (by decide)]; exact hI.2.2.2.2.2.2.2.2.2.2.2.2
    · rw [eo 19 (by decide), mz_u_k _ _ (by decide)] at q
      rw [eo 21 (by decide), mz_u_k _ _ (by decide)]
      exact hK q
theorem mr_I_z : mr_I fun _ => 0 := by
  refine ⟨⟨Int.le_refl 0, (show (0 : Int) ≤ 1000000000 by decide)⟩, ⟨Int.le_refl 0, (show (0 : Int) ≤ 6 by decide)⟩, fun i hi => ⟨(show (-9 : Int) ≤ 0 by decide), (show (0 : Int) ≤ 9 by decide)⟩, fun b hb => ⟨Or.inl rfl, ⟨Int.le_refl 0, (show (0 : Int) ≤ 99 by decide)⟩, ⟨Int.le_refl 0, (show (0 : Int) ≤ 40 by decide)⟩, ⟨Int.le_refl 0, (show (0 : Int) ≤ 60 by decide)⟩, ⟨Int.le_refl 0, (show (0 : Int) ≤ 6 by decide)⟩, fun k hk => ⟨Int.le_refl 0, (show (0 : Int) ≤ 20 by decide)⟩⟩⟩
/-- the reference's cells at the start -/
def mg_z : mz_V := fun r => if r = 0 then mr_up (fun _ => 0) 17 (-1) else fun _ => 0
theorem mg_J_z : mg_J mg_z 0 := by
  refine ⟨⟨⟨mr_I_z, Int.le_refl 0⟩, ⟨Int.le_refl 0, (show (0 : Int) ≤ 8 by decide)⟩, fun i hi => ?_, Or.inl rfl, fun h => ?_, ⟨Int.le_refl 0, (show (0 : Int) ≤ 60 by decide)⟩, fun i hi => ?_, ⟨Int.le_refl 0, (show (0 : Int) ≤ 40 by decide)⟩, fun i hi => ?_, ⟨(show (-1 : Int) ≤ -1 by decide), (show (-1 : Int) ≤ 60 by decide)⟩, ⟨Int.le_refl 0, (show (0 : Int) ≤ 6 by decide)⟩, (show nS 0 by decide), Int.le_refl 0, (show (0 : Int) ≤ 7 by decide)⟩, fun _ => rfl⟩
  · have hi : (i : Int) < 0 := hi
    omega
  · have h : (0 : Int) = 1 := h
    omega
  · have hi : (i : Int) < 0 := hi
    omega
  · have hi : (i : Int) < 0 := hi
    omega
