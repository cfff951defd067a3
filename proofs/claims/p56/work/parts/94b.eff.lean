/-! WHAT EACH COMMAND DOES TO THE NUMBERS THAT ARE ASKED FOR -/
theorem pn_ho_m {s s' : Nat → Int} {a t t' : Nat} (e1 : s' (6 + 11 * a + 1) = s (6 + 11 * a + 1)) (e2 : s' (6 + 11 * a + 2) = s (6 + 11 * a + 2)) (h : mr_bal s a t ≤ mr_bal s' a t') : mr_ho s' a t' ≤ mr_ho s a t := by
  unfold mr_ho mr_sp
  rw [e1, e2]
  repeat' split
  all_goals omega
theorem pn_ho_e {s s' : Nat → Int} {a t t' : Nat} (e1 : s' (6 + 11 * a + 1) = s (6 + 11 * a + 1)) (e2 : s' (6 + 11 * a + 2) = s (6 + 11 * a + 2)) (h : mr_bal s' a t' = mr_bal s a t) : mr_ho s' a t' = mr_ho s a t := by
  unfold mr_ho mr_sp
  rw [e1, e2, h]
theorem ps_0 {s : Nat → Int} (h : pn_I s) {a : Nat} (ha : a < 10) (h0 : s (6 + 11 * a) = 0) (b c e : Int) : mq_cnt (mc_st0 s a b c e) = mq_cnt s + 1 ∧ mq_wgt (mc_st0 s a b c e) = mq_wgt s ∧ (∀ j, j < 6 → mc_st0 s a b c e j = s j) ∧ mc_st0 s a b c e (6 + 11 * a) = 1 ∧ mc_st0 s a b c e (6 + 11 * a + 4) = 0 := by
  have o : ∀ j, ¬ (6 + 11 * a ≤ j ∧ j < 6 + 11 * a + 11) → mc_st0 s a b c e j = s j := fun j hj => by
    unfold mc_st0
    rw [mr_up_n _ _ (by omega), mr_up_n _ _ (by omega), mr_up_n _ _ (by omega), mr_up_n _ _ (by omega)]
    exact mr_zr_n _ hj
  have e1 : mc_st0 s a b c e (6 + 11 * a) = 1 := by
    unfold mc_st0
    rw [mr_up_n _ _ (by omega), mr_up_n _ _ (by omega), mr_up_n _ _ (by omega)]
    exact mr_up_s _ _ _
  have e4 : mc_st0 s a b c e (6 + 11 * a + 4) = 0 := by
    unfold mc_st0
    rw [mr_up_n _ _ (by omega), mr_up_n _ _ (by omega), mr_up_n _ _ (by omega), mr_up_n _ _ (by omega)]
    exact mr_zr_y _ ⟨by omega, by omega⟩
  have eb : mr_bal (mc_st0 s a b c e) a 0 = 0 := by
    unfold mr_bal mr_bw
    rw [e4]
    rfl
  obtain ⟨w1, w2⟩ := pn_ch (s' := mc_st0 s a b c e) h.1 ha fun j h1 h2 => o j h2
  rw [eb, pn_bal_0 h ha h0] at w1
  rw [e1, h0] at w2
  exact ⟨by omega, by omega, fun j hj => o j (by omega), e1, e4⟩
theorem ps_1 {s : Nat → Int} (h : pn_I s) {a : Nat} (ha : a < 10) (h1 : s (6 + 11 * a) = 1) : mq_cnt (mc_st1 s a) = mq_cnt s - 1 ∧ mq_wgt (mc_st1 s a) = mq_wgt s - mr_bal s a 0 ∧ mc_st1 s a 3 = s 3 + mr_bal s a 0 ∧ (∀ j, j < 6 → j ≠ 3 → mc_st1 s a j = s j) ∧ mc_st1 s a (6 + 11 * a) = 0 := by
  have o : ∀ j, ¬ (6 + 11 * a ≤ j ∧ j < 6 + 11 * a + 11) → mc_st1 s a j = mr_up s 3 (s 3 + mr_bal s a 0) j := fun j hj => mr_zr_n _ hj
  have e1 : mc_st1 s a (6 + 11 * a) = 0 := mr_zr_y _ ⟨by omega, by omega⟩
  obtain ⟨w1, w2⟩ := pn_ch (s' := mc_st1 s a) h.1 ha fun j q1 q2 => by rw [o j q2, mr_up_n _ _ (by omega)]
  have eb : mr_bal (mc_st1 s a) a 0 = 0 := pn_bal_clr _ _ _
  rw [eb] at w1
  rw [e1, h1] at w2
  exact ⟨by omega, by omega, by rw [o 3 (by omega), mr_up_s], fun j hj h3 => by rw [o j (by omega), mr_up_n _ _ h3], e1⟩
theorem ps_2 {s : Nat → Int} (h : pn_I s) {a : Nat} (ha : a < 10) {b : Int} (hb : 1 ≤ b) (h6 : s (6 + 11 * a + 4) ≠ 6) : mq_cnt (mc_st2 s a b) = mq_cnt s ∧ mq_wgt (mc_st2 s a b) = mq_wgt s + b ∧ mc_st2 s a b 2 = s 2 + b ∧ (∀ j, j < 6 → j ≠ 2 → mc_st2 s a b j = s j) ∧ mc_st2 s a b (6 + 11 * a) = s (6 + 11 * a) ∧ mc_st2 s a b (6 + 11 * a + 4) = s (6 + 11 * a + 4) + 1 ∧ mr_bal (mc_st2 s a b) a 0 = mr_bal s a 0 + b ∧ mr_ho (mc_st2 s a b) a 0 ≤ mr_ho s a 0 := by
  have hn := h.1.bags ha
  obtain ⟨n, hN⟩ : ∃ n : Nat, s (6 + 11 * a + 4) = n := ⟨(s (6 + 11 * a + 4)).toNat, by omega⟩
  have en : (s (6 + 11 * a + 4)).toNat = n := by omega
  have o : ∀ j, j ≠ 2 → j ≠ 6 + 11 * a + 4 → j ≠ 6 + 11 * a + (5 + n) → mc_st2 s a b j = s j := fun j j2 j4 jn => by
    unfold mc_st2
    rw [mr_up_n _ _ j2, mr_up_n _ _ j4, en, mr_up_n _ _ jn]
  have e4 : mc_st2 s a b (6 + 11 * a + 4) = s (6 + 11 * a + 4) + 1 := by
    unfold mc_st2
    rw [mr_up_n _ _ (by omega), mr_up_s]
  have e5 : mc_st2 s a b (6 + 11 * a + (5 + n)) = b := by
    unfold mc_st2
    rw [mr_up_n _ _ (by omega), mr_up_n _ _ (by omega), en, mr_up_s]
  have eb : mr_bal (mc_st2 s a b) a 0 = mr_bal s a 0 + b := by
    unfold mr_bal
    rw [e4, pn_bw0, pn_bw0, hN, show ((n : Int) + 1).toNat = n + 1 by omega, show ((n : Nat) : Int).toNat = n by omega]
    show mz_s (fun k => mc_st2 s a b (6 + 11 * a + (5 + k))) n + mc_st2 s a b (6 + 11 * a + (5 + n)) = mz_s (fun k => s (6 + 11 * a + (5 + k))) n + b
    rw [e5, mz_s_c (f := fun k => mc_st2 s a b (6 + 11 * a + (5 + k))) (g := fun k => s (6 + 11 * a + (5 + k))) fun k hk => o _ (by omega) (by omega) (by omega)]
  obtain ⟨w1, w2⟩ := pn_ch (s' := mc_st2 s a b) h.1 ha fun j q1 q2 => o j (by omega) (by omega) (by omega)
  have e0 := o (6 + 11 * a) (by omega) (by omega) (by omega)
  rw [eb] at w1
  rw [e0] at w2
  exact ⟨by omega, by omega, mr_up_s _ _ _, fun j hj h2 => o j h2 (by omega) (by omega), e0, e4, eb, pn_ho_m (o _ (by omega) (by omega) (by omega)) (o _ (by omega) (by omega) (by omega)) (by omega)⟩
theorem ps_3 {s : Nat → Int} (h : pn_I s) {a k : Nat} (ha : a < 10) (hk : (k : Int) < s (6 + 11 * a + 4)) : mq_cnt (mc_st3 s a k) = mq_cnt s ∧ mq_wgt (mc_st3 s a k) = mq_wgt s - s (6 + 11 * a + (5 + k)) ∧ mc_st3 s a k 3 = s 3 + s (6 + 11 * a + (5 + k)) ∧ (∀ j, j < 6 → j ≠ 3 → mc_st3 s a k j = s j) ∧ mc_st3 s a k (6 + 11 * a) = s (6 + 11 * a) ∧ mr_bal (mc_st3 s a k) a 0 = mr_bal s a 0 - s (6 + 11 * a + (5 + k)) ∧ mr_ho s a 0 ≤ mr_ho (mc_st3 s a k) a 0 := by
  have hn := h.1.bags ha
  have o : ∀ j, j ≠ 3 → ¬ (6 + 11 * a + 4 ≤ j ∧ j < 6 + 11 * a + 11) → mc_st3 s a k j = s j := fun j j3 hj => by
    unfold mc_st3
    rw [mr_up_n _ _ j3]
    exact mr_take_o (by omega) hj
  have eb : mr_bal (mc_st3 s a k) a 0 = mr_bal s a 0 - s (6 + 11 * a + (5 + k)) := by
    rw [← pn_bal_take hk]
    exact pn_bal_c 0 (mr_up_n _ _ (by omega)) fun j _ => mr_up_n _ _ (by omega)
  have hg := (h.1.bag ha (show k < 6 by omega)).1
  obtain ⟨w1, w2⟩ := pn_ch (s' := mc_st3 s a k) h.1 ha fun j q1 q2 => o j (by omega) (by omega)
  have e0 := o (6 + 11 * a) (by omega) (by omega)
  rw [eb] at w1
  rw [e0] at w2
  exact ⟨by omega, by omega, mr_up_s _ _ _, fun j hj h3 => o j h3 (by omega), e0, eb, pn_ho_m (s := mc_st3 s a k) (s' := s) (o _ (by omega) (by omega)).symm (o _ (by omega) (by omega)).symm (by omega)⟩
theorem ps_4 {s : Nat → Int} (h : pn_I s) {a : Nat} (ha : a < 10) {b : Int} (hb : mr_bst s a b ≠ -1) : mq_cnt (mc_st4 s a b) = mq_cnt s ∧ mq_wgt (mc_st4 s a b) = mq_wgt s - (mr_bal s a 0 - mr_bal s a (mr_bst s a b).toNat) ∧ mc_st4 s a b 3 = s 3 + (mr_bal s a 0 - mr_bal s a (mr_bst s a b).toNat) ∧ (∀ j, j < 6 → j ≠ 3 → mc_st4 s a b j = s j) ∧ mc_st4 s a b (6 + 11 * a) = s (6 + 11 * a) ∧ mr_bal (mc_st4 s a b) a 0 = mr_bal s a (mr_bst s a b).toNat ∧ mr_ho (mc_st4 s a b) a 0 = mr_ho s a (mr_bst s a b).toNat := by
  have hn := h.1.bags ha
  obtain ⟨b1, b2⟩ := mr_bst_bits h.1 ha hb
  obtain ⟨g1, g2, g3⟩ := pn_drp ha 6 s h.1 (Nat.le_refl _) (t := (mr_bst s a b).toNat) fun k _ hk => b2 k hk
  have es : pn_set s a (mr_bst s a b).toNat 6 = pn_set s a (mr_bst s a b).toNat (s (6 + 11 * a + 4)).toNat := mz_s_cut (by omega) fun q q1 q2 => if_neg fun hq => by
    have := b2 q hq
    omega
  have et := pn_bal_t (s := s) a (mr_bst s a b).toNat
  rw [es] at g1 g2
  have eb : mr_bal (mc_st4 s a b) a 0 = mr_bal s a (mr_bst s a b).toNat := by
    show mr_bal (mr_drp (mr_bst s a b).toNat a 6 s) a 0 = _
    rw [g1, et]
  have o : ∀ j, j ≠ 3 → ¬ (6 + 11 * a + 4 ≤ j ∧ j < 6 + 11 * a + 11) → mc_st4 s a b j = s j := g3
  have e3 : mc_st4 s a b 3 = s 3 + (mr_bal s a 0 - mr_bal s a (mr_bst s a b).toNat) := by
    show mr_drp (mr_bst s a b).toNat a 6 s 3 = _
    rw [g2, et]
    omega
  obtain ⟨w1, w2⟩ := pn_ch (s' := mc_st4 s a b) h.1 ha fun j q1 q2 => o j (by omega) (by omega)
  have e0 := o (6 + 11 * a) (by omega) (by omega)
  rw [eb] at w1
  rw [e0] at w2
  exact ⟨by omega, by omega, e3, fun j hj h3 => o j h3 (by omega), e0, eb, pn_ho_e (o _ (by omega) (by omega)) (o _ (by omega) (by omega)) eb⟩
theorem ps_w {s s' : Nat → Int} (h : pn_I s) (o : ∀ j, j < 116 → j ≠ 5 → s' j = s j) : mq_cnt s' = mq_cnt s ∧ mq_wgt s' = mq_wgt s := by
  obtain ⟨w1, w2⟩ := pn_same h.1 fun j h1 h2 => o j h2 (by omega)
  exact ⟨w2, w1⟩
theorem ps_5 (s : Nat → Int) (a : Nat) (b : Int) : ∀ j, j < 116 → mc_st5 s a b j = s j := fun j hj => mr_up_n _ _ (by omega)
theorem ps_7 (s : Nat → Int) (a b c : Int) : (∀ j, j < 116 → j ≠ 5 → mc_st7 s a b c j = s j) ∧ mc_st7 s a b c 5 = s 5 + 1 := by
  refine ⟨fun j hj h5 => ?_, mr_up_s _ _ _⟩
  unfold mc_st7
  rw [mr_up_n _ _ h5, mr_up_n _ _ (by omega), mr_up_n _ _ (by omega), mr_up_n _ _ (by omega)]
theorem ps_8 (s : Nat → Int) (a : Nat) : (∀ j, j < 116 → j ≠ 5 → mc_st8 s a j = s j) ∧ mc_st8 s a 5 = s 5 - 1 := by
  refine ⟨fun j hj h5 => ?_, mr_up_s _ _ _⟩
  unfold mc_st8
  rw [mr_up_n _ _ h5, mr_zr_n _ (by omega), mr_shf3_n _ (by omega)]
theorem pn_f0 {s x : Nat → Int} (h : pn_I s) (hr : mc_rf0 s (x 0) (x 1) (x 2) (x 3) = 0) : ∃ q : Nat, x 0 = q ∧ q < 10 ∧ s (6 + 11 * q) = 0 := by
  obtain ⟨q, e, hq, h1, h2, h3⟩ := mc_f0 hr
  refine ⟨q, e, hq, ?_⟩
  rcases h.1.here hq with h0 | h0
  · exact h0
  · exfalso
    unfold mc_rf0 at hr
    rw [if_pos ⟨⟨by omega, by omega⟩, h1, h2, h3⟩, if_pos ⟨by omega, by omega, by rw [e]; exact h0⟩] at hr
    cases hr
/-- what a command keeps: the loads -/
theorem pn_st_J {s x : Nat → Int} {B : Int} (h : pn_I s) (hJ : pn_J s B) (hb : s 0 ≤ 999999900) {k : Nat} (hk : k < 9) (hr : mc_rf s k x = 0) : pn_J (mc_st s k x) (B + 480) := by
  obtain ⟨j1, j2, j3, j4, j5, j6⟩ := hJ
  rcases mc_k9 hk with rfl | rfl | rfl | rfl | rfl | rfl | rfl | rfl | rfl
  · obtain ⟨q, e, hq, h0⟩ := pn_f0 h hr
    have e2 : (x 0).toNat = q := by omega
    obtain ⟨-, w, o, -, -⟩ := ps_0 h hq h0 (x 1) (x 2) (x 3)
    show pn_J (mc_st0 s (x 0).toNat (x 1) (x 2) (x 3)) (B + 480)
    rw [e2]
    unfold pn_J
    rw [w, o 1 (by decide), o 2 (by decide), o 3 (by decide), o 4 (by decide)]
    exact ⟨j1, j2, j3, by omega, j5, by omega⟩
  · obtain ⟨q, e, hq, h1⟩ := mc_f1 hr
    have e2 : (x 0).toNat = q := by omega
    obtain ⟨-, w, o3, o, -⟩ := ps_1 h hq h1
    have := mr_bal0 h.1 hq 0
    show pn_J (mc_st1 s (x 0).toNat) (B + 480)
    rw [e2]
    unfold pn_J
    rw [w, o 1 (by decide) (by decide), o 2 (by decide) (by decide), o3, o 4 (by decide) (by decide)]
    exact ⟨by omega, by omega, j3, by omega, j5, by omega⟩
  · obtain ⟨q, e, hq, h1, hb, h6⟩ := mc_f2 hr
    have e2 : (x 0).toNat = q := by omega
    obtain ⟨-, w, o2, o, -⟩ := ps_2 h hq hb.1 h6
    show pn_J (mc_st2 s (x 0).toNat (x 1)) (B + 480)
    rw [e2]
    unfold pn_J
    rw [w, o 1 (by decide) (by decide), o2, o 3 (by decide) (by decide), o 4 (by decide) (by decide)]
    exact ⟨by omega, by omega, j3, by omega, j5, by omega⟩
  · obtain ⟨q, r, e, hq, h1, e1, h6⟩ := mc_f3 hr
    have e2 : (x 0).toNat = q := by omega
    have e3 : (x 1).toNat = r := by omega
    obtain ⟨-, w, o3, o, -⟩ := ps_3 h hq h6
    have := (h.1.bag hq (show r < 6 by have := (h.1.bags hq).2; omega)).1
    show pn_J (mc_st3 s (x 0).toNat (x 1).toNat) (B + 480)
    rw [e2, e3]
    unfold pn_J
    rw [w, o 1 (by decide) (by decide), o 2 (by decide) (by decide), o3, o 4 (by decide) (by decide)]
    exact ⟨by omega, by omega, j3, by omega, j5, by omega⟩
  · obtain ⟨q, e, hq, h1, h63⟩ := mc_f4 hr
    have e2 : (x 0).toNat = q := by omega
    have hne : mr_bst s q (x 1) ≠ -1 := fun z => by have := (mr_bst_none h.1 hq).mp z; omega
    obtain ⟨-, w, o3, o, -⟩ := ps_4 h hq hne
    have : mr_bal s q (mr_bst s q (x 1)).toNat ≤ mr_bal s q 0 := by
      rw [pn_bal_t q (mr_bst s q (x 1)).toNat]
      have : 0 ≤ pn_set s q (mr_bst s q (x 1)).toNat (s (6 + 11 * q + 4)).toNat := mz_s_0 fun i hi => by
        show 0 ≤ if (mr_bst s q (x 1)).toNat.testBit i = true then s (6 + 11 * q + (5 + i)) else 0
        have := (h.1.bag hq (show i < 6 by have := (h.1.bags hq).2; omega)).1
        split <;> omega
      omega
    show pn_J (mc_st4 s (x 0).toNat (x 1)) (B + 480)
    rw [e2]
    unfold pn_J
    rw [w, o 1 (by decide) (by decide), o 2 (by decide) (by decide), o3, o 4 (by decide) (by decide)]
    exact ⟨by omega, by omega, j3, by omega, j5, by omega⟩
  · have o := ps_5 s (x 0).toNat (x 1)
    obtain ⟨-, w⟩ := ps_w (s' := mc_st5 s (x 0).toNat (x 1)) h fun j hj _ => o j hj
    show pn_J (mc_st5 s (x 0).toNat (x 1)) (B + 480)
    unfold pn_J
    rw [w, o 1 (by decide), o 2 (by decide), o 3 (by decide), o 4 (by decide)]
    exact ⟨j1, j2, j3, by omega, j5, by omega⟩
  · obtain ⟨q, e, q1, q48⟩ := mc_f6 hr
    have e2 : (x 0).toNat = q := by omega
    obtain ⟨a1, a2, a3, a4, a5, -⟩ := pn_pas h.1 q (by omega)
    have hl := mr_pas_n h.1 q (by omega)
    show pn_J (mr_pas s (x 0).toNat).1 (B + 480)
    rw [e2]
    unfold pn_J
    rw [a1, a2, a3]
    exact ⟨by omega, by omega, by omega, by omega, by omega, by omega⟩
  · obtain ⟨o, -⟩ := ps_7 s (x 0) (x 1) (x 2)
    obtain ⟨-, w⟩ := ps_w (s' := mc_st7 s (x 0) (x 1) (x 2)) h o
    show pn_J (mc_st7 s (x 0) (x 1) (x 2)) (B + 480)
    unfold pn_J
    rw [w, o 1 (by decide) (by decide), o 2 (by decide) (by decide), o 3 (by decide) (by decide), o 4 (by decide) (by decide)]
    exact ⟨j1, j2, j3, by omega, j5, by omega⟩
  · obtain ⟨o, -⟩ := ps_8 s (x 0).toNat
    obtain ⟨-, w⟩ := ps_w (s' := mc_st8 s (x 0).toNat) h o
    show pn_J (mc_st8 s (x 0).toNat) (B + 480)
    unfold pn_J
    rw [w, o 1 (by decide) (by decide), o 2 (by decide) (by decide), o 3 (by decide) (by decide), o 4 (by decide) (by decide)]
    exact ⟨j1, j2, j3, by omega, j5, by omega⟩
