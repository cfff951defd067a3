/-! WHAT HOLDS GOES ON HOLDING -/
theorem mr_I_t {s s' : Nat → Int} (h : mr_I s) (ho : ∀ j, 6 ≤ j → j < 116 → s' j = s j) (h0 : 0 ≤ s' 0 ∧ s' 0 ≤ 1000000000) (h5 : 0 ≤ s' 5 ∧ s' 5 ≤ 6) (hw : ∀ i, i < 24 → -9 ≤ s' (116 + i) ∧ s' (116 + i) ≤ 9) : mr_I s' := by
  refine ⟨h0, h5, hw, fun b hb => ?_⟩
  have h5 := h.2.2.2 b hb
  refine ⟨?_, ?_, ?_, ?_, ?_, fun j hj => ?_⟩
  · rw [ho _ (by omega) (by omega)]; exact h5.1
  · rw [ho _ (by omega) (by omega)]; exact h5.2.1
  · rw [ho _ (by omega) (by omega)]; exact h5.2.2.1
  · rw [ho _ (by omega) (by omega)]; exact h5.2.2.2.1
  · rw [ho _ (by omega) (by omega)]; exact h5.2.2.2.2.1
  · have := h5.2.2.2.2.2 j hj
    unfold mr_bag at this ⊢
    rw [ho _ (by omega) (by omega)]; exact this
theorem mr_clr_z (s : Nat → Int) (b : Nat) : mr_clr s b 0 = s 0 := mr_zr_n _ (by omega)
theorem mr_take_z (s : Nat → Int) (b k : Nat) : mr_take s b k 0 = s 0 := by
  unfold mr_take
  rw [mr_up_n _ _ (by omega), mr_up_n _ _ (by omega), mr_shf_n _ (by omega)]
theorem mr_drp_o {t a : Nat} : ∀ (n : Nat) (s : Nat → Int), mr_drp t a n s 0 = s 0
  | 0, _ => rfl
  | n + 1, s => by
    show mr_drp t a n (if t.testBit n then mr_take (mr_up s 3 (s 3 + s (6 + 11 * a + (5 + n)))) a n else s) 0 = s 0
    rw [mr_drp_o n]
    by_cases c : t.testBit n = true
    · rw [if_pos c]
      rw [mr_take_z, mr_up_n _ _ (by decide)]
    · rw [if_neg c]
/-- the numbers behind a command that is not refused -/
theorem mc_st_I {s y : Nat → Int} (hI : mr_I s) (hb : s 0 ≤ 999999900) {k : Nat} (hk : k < 9) (hr : mc_rf s k y = 0) : mr_I (mc_st s k y) ∧ mc_st s k y 0 ≤ s 0 + 48 := by
  have h0 := hI.hour
  have h5 := hI.pil
  have hcase : k = 0 ∨ k = 1 ∨ k = 2 ∨ k = 3 ∨ k = 4 ∨ k = 5 ∨ k = 6 ∨ k = 7 ∨ k = 8 := by omega
  rcases hcase with rfl | rfl | rfl | rfl | rfl | rfl | rfl | rfl | rfl
  · have hr : mc_rf0 s (y 0) (y 1) (y 2) (y 3) = 0 := hr
    show mr_I (mc_st0 s (y 0).toNat (y 1) (y 2) (y 3)) ∧ mc_st0 s (y 0).toNat (y 1) (y 2) (y 3) 0 ≤ s 0 + 48
    unfold mc_rf0 at hr
    by_cases c : (0 ≤ y 0 ∧ y 0 ≤ 9) ∧ (1 ≤ y 1 ∧ y 1 ≤ 99) ∧ (1 ≤ y 2 ∧ y 2 ≤ 40) ∧ (1 ≤ y 3 ∧ y 3 ≤ 60)
    · obtain ⟨a, ha⟩ : ∃ a, a = (y 0).toNat := ⟨_, rfl⟩
      have ha10 : a < 10 := by omega
      rw [← ha]
      have hc := mr_I_clr hI ha10
      unfold mc_st0
      refine ⟨mr_I_b hc ha10 (fun j hj => ?_) ⟨?_, ?_, ?_, ?_, ?_, fun i hi => ?_⟩, ?_⟩
      · rw [mr_up_n _ _ (by omega), mr_up_n _ _ (by omega), mr_up_n _ _ (by omega), mr_up_n _ _ (by omega)]
      · rw [mr_up_n _ _ (by omega), mr_up_n _ _ (by omega), mr_up_n _ _ (by omega), show 6 + 11 * a = 6 + 11 * a + 0 from rfl, mr_up_s]; exact Or.inr rfl
      · rw [mr_up_n _ _ (by omega), mr_up_n _ _ (by omega), mr_up_s]; omega
      · rw [mr_up_n _ _ (by omega), mr_up_s]; omega
      · rw [mr_up_s]; omega
      · rw [mr_up_n _ _ (by omega), mr_up_n _ _ (by omega), mr_up_n _ _ (by omega), mr_up_n _ _ (by omega)]; exact hc.bags ha10
      · unfold mr_bag
        rw [mr_up_n _ _ (by omega), mr_up_n _ _ (by omega), mr_up_n _ _ (by omega), mr_up_n _ _ (by omega)]; exact hc.bag ha10 hi
      · rw [mr_up_n _ _ (by omega), mr_up_n _ _ (by omega), mr_up_n _ _ (by omega), mr_up_n _ _ (by omega), mr_clr_z]; omega
    · rw [if_neg c] at hr
      exact absurd hr (by decide)
  · have hr : mc_rf1 s (y 0) = 0 := hr
    show mr_I (mc_st1 s (y 0).toNat) ∧ mc_st1 s (y 0).toNat 0 ≤ s 0 + 48
    unfold mc_rf1 at hr
    by_cases c : mr_has s (y 0)
    · obtain ⟨a, ha, ha10, hh⟩ := mr_has_h c
      rw [ha, Int.toNat_natCast]
      unfold mc_st1
      refine ⟨mr_I_clr (mr_I_up hI (by omega)) ha10, ?_⟩
      rw [mr_clr_z, mr_up_n _ _ (by decide)]
      omega
    · rw [if_neg c] at hr
      exact absurd hr (by decide)
  · have hr : mc_rf2 s (y 0) (y 1) = 0 := hr
    show mr_I (mc_st2 s (y 0).toNat (y 1)) ∧ mc_st2 s (y 0).toNat (y 1) 0 ≤ s 0 + 48
    unfold mc_rf2 at hr
    by_cases c : mr_has s (y 0)
    · obtain ⟨a, ha, ha10, hh⟩ := mr_has_h c
      rw [if_pos c] at hr
      by_cases c2 : 1 ≤ y 1 ∧ y 1 ≤ 20
      · rw [if_pos c2, ha, Int.toNat_natCast] at hr
        by_cases c3 : s (6 + 11 * a + 4) = 6
        · rw [if_pos c3] at hr
          exact absurd hr (by decide)
        · rw [ha, Int.toNat_natCast]
          unfold mc_st2
          refine ⟨mr_I_up (mr_I_add hI ha10 c2 c3) (by omega), ?_⟩
          rw [mr_up_n _ _ (by omega), mr_up_n _ _ (by omega), mr_up_n _ _ (by omega)]
          omega
      · rw [if_neg c2] at hr
        exact absurd hr (by decide)
    · rw [if_neg c] at hr
      exact absurd hr (by decide)
  · have hr : mc_rf3 s (y 0) (y 1) = 0 := hr
    show mr_I (mc_st3 s (y 0).toNat (y 1).toNat) ∧ mc_st3 s (y 0).toNat (y 1).toNat 0 ≤ s 0 + 48
    unfold mc_rf3 at hr
    by_cases c : mr_has s (y 0)
    · obtain ⟨a, ha, ha10, hh⟩ := mr_has_h c
      rw [if_pos c, ha, Int.toNat_natCast] at hr
      by_cases c2 : 0 ≤ y 1 ∧ y 1 < s (6 + 11 * a + 4)
      · rw [ha, Int.toNat_natCast]
        unfold mc_st3
        refine ⟨mr_I_up (mr_I_take hI ha10 (by omega)) (by omega), ?_⟩
        rw [mr_up_n _ _ (by omega), mr_take_z]
        omega
      · rw [if_neg c2] at hr
        exact absurd hr (by decide)
    · rw [if_neg c] at hr
      exact absurd hr (by decide)
  · have hr : mc_rf4 s (y 0) (y 1) = 0 := hr
    show mr_I (mc_st4 s (y 0).toNat (y 1)) ∧ mc_st4 s (y 0).toNat (y 1) 0 ≤ s 0 + 48
    unfold mc_rf4 at hr
    by_cases c : mr_has s (y 0)
    · obtain ⟨a, ha, ha10, hh⟩ := mr_has_h c
      rw [if_pos c, ha, Int.toNat_natCast] at hr
      by_cases c2 : 1 ≤ y 1 ∧ y 1 ≤ 40
      · rw [if_pos c2] at hr
        by_cases c3 : y 1 ≤ mr_ho s a 0
        · rw [if_pos c3] at hr
          exact absurd hr (by decide)
        · rw [if_neg c3] at hr
          by_cases c4 : mr_ho s a 63 < y 1
          · rw [if_pos c4] at hr
            exact absurd hr (by decide)
          · have hne : mr_bst s a (y 1) ≠ -1 := fun q => c4 ((mr_bst_none hI ha10).mp q)
            have hbits := mr_bst_bits hI ha10 hne
            rw [ha, Int.toNat_natCast]
            unfold mc_st4
            refine ⟨mr_drp_ok 6 s a hI ha10 (Nat.le_refl _) (fun j _ hj => hbits.2 j hj), ?_⟩
            rw [mr_drp_o]
            omega
      · rw [if_neg c2] at hr
        exact absurd hr (by decide)
    · rw [if_neg c] at hr
      exact absurd hr (by decide)
  · have hr : mc_rf5 s (y 0) (y 1) = 0 := hr
    show mr_I (mc_st5 s (y 0).toNat (y 1)) ∧ mc_st5 s (y 0).toNat (y 1) 0 ≤ s 0 + 48
    unfold mc_rf5 at hr
    by_cases c : (0 ≤ y 0 ∧ y 0 ≤ 23) ∧ (-9 ≤ y 1 ∧ y 1 ≤ 9)
    · unfold mc_st5
      refine ⟨mr_I_t hI (fun j h1 h2 => mr_up_n _ _ (by omega)) (by rw [mr_up_n _ _ (by omega)]; exact h0) (by rw [mr_up_n _ _ (by omega)]; exact h5) (fun i hi => ?_), by rw [mr_up_n _ _ (by omega)]; omega⟩
      by_cases e : 116 + i = 116 + (y 0).toNat
      · rw [e, mr_up_s]; exact c.2
      · rw [mr_up_n _ _ e]; exact hI.wind hi
    · rw [if_neg c] at hr
      exact absurd hr (by decide)
  · have hr : mc_rf6 (y 0) = 0 := hr
    show mr_I (mc_st6 s (y 0).toNat) ∧ mc_st6 s (y 0).toNat 0 ≤ s 0 + 48
    unfold mc_rf6 at hr
    by_cases c : 1 ≤ y 0 ∧ y 0 ≤ 48
    · have := mr_pas_I hI (y 0).toNat (by omega)
      exact ⟨this.1, by show (mr_pas s (y 0).toNat).1 0 ≤ s 0 + 48; omega⟩
    · rw [if_neg c] at hr
      exact absurd hr (by decide)
  · have hr : mc_rf7 s (y 0) (y 1) (y 2) = 0 := hr
    show mr_I (mc_st7 s (y 0) (y 1) (y 2)) ∧ mc_st7 s (y 0) (y 1) (y 2) 0 ≤ s 0 + 48
    unfold mc_rf7 at hr
    by_cases c : (1 ≤ y 0 ∧ y 0 ≤ 30) ∧ (0 ≤ y 1 ∧ y 1 ≤ 23) ∧ (0 ≤ y 2 ∧ y 2 ≤ 23)
    · rw [if_pos c] at hr
      by_cases c2 : s 5 = 6
      · rw [if_pos c2] at hr
        exact absurd hr (by decide)
      · unfold mc_st7
        refine ⟨mr_I_t hI (fun j h1 h2 => ?_) ?_ ?_ (fun i hi => ?_), ?_⟩
        · rw [mr_up_n _ _ (by omega), mr_up_n _ _ (by omega), mr_up_n _ _ (by omega), mr_up_n _ _ (by omega)]
        · rw [mr_up_n _ _ (by omega), mr_up_n _ _ (by omega), mr_up_n _ _ (by omega), mr_up_n _ _ (by omega)]; exact h0
        · rw [mr_up_s]; omega
        · rw [mr_up_n _ _ (by omega), mr_up_n _ _ (by omega), mr_up_n _ _ (by omega), mr_up_n _ _ (by omega)]; exact hI.wind hi
        · rw [mr_up_n _ _ (by omega), mr_up_n _ _ (by omega), mr_up_n _ _ (by omega), mr_up_n _ _ (by omega)]; omega
    · rw [if_neg c] at hr
      exact absurd hr (by decide)
  · have hr : mc_rf8 s (y 0) = 0 := hr
    show mr_I (mc_st8 s (y 0).toNat) ∧ mc_st8 s (y 0).toNat 0 ≤ s 0 + 48
    unfold mc_rf8 at hr
    by_cases c : 0 ≤ y 0 ∧ y 0 < s 5
    · unfold mc_st8
      refine ⟨mr_I_t hI (fun j h1 h2 => ?_) ?_ ?_ (fun i hi => ?_), ?_⟩
      · rw [mr_up_n _ _ (by omega), mr_zr_n _ (by omega), mr_shf3_n _ (by omega)]
      · rw [mr_up_n _ _ (by omega), mr_zr_n _ (by omega), mr_shf3_n _ (by omega)]; exact h0
      · rw [mr_up_s]; omega
      · rw [mr_up_n _ _ (by omega), mr_zr_n _ (by omega), mr_shf3_n _ (by omega)]; exact hI.wind hi
      · rw [mr_up_n _ _ (by omega), mr_zr_n _ (by omega), mr_shf3_n _ (by omega)]; omega
    · rw [if_neg c] at hr
      exact absurd hr (by decide)
/-- all that holds of the reference's cells -/
def mg_J (w : mz_V) (b : Int) : Prop := mg_I w b ∧ (w 0 19 = 0 → w 0 21 = 0)
theorem mg_I_b {w : mz_V} {b b' : Int} (h : b ≤ b') (hI : mg_I w b) : mg_I w b' := by
  obtain ⟨⟨a1, a2⟩, a3, a4, a5, a6, a7⟩ := hI
  exact ⟨⟨a1, by omega⟩, a3, fun i hi => ⟨(a4 i hi).1, by have := (a4 i hi).2; omega⟩, a5, fun q => ⟨(a6 q).1, by have := (a6 q).2; omega⟩, a7⟩
theorem mg_J_b {w : mz_V} {b b' : Int} (h : b ≤ b') (hI : mg_J w b) : mg_J w b' := ⟨mg_I_b h hI.1, hI.2⟩
/-- one more change behind -/
theorem mg_I_push {w w' : mz_V} {b : Int} (hI : mg_I w b) (h1 : mr_I (w' 1)) (h2 : w' 1 0 ≤ b + 48) (e4 : w' 4 = mg_hp (w 4) (w 0 6) (w 1)) (e6 : w' 0 6 = mg_kp (w 0 6)) (eo : ∀ q, q ≠ 6 → w' 0 q = w 0 q) (er : ∀ r, r ≠ 0 → r ≠ 1 → r ≠ 4 → w' r = w r) : mg_I w' (b + 48) := by
  obtain ⟨⟨a1, a2⟩, a3, a4, a5, a6, a7, a8, a9, a10, a11, a12, a13, a14⟩ := hI
  obtain ⟨kp, hkp⟩ : ∃ kp : Nat, w 0 6 = kp := ⟨(w 0 6).toNat, by omega⟩
  have hk8 : kp ≤ 8 := by omega
  have hkv : mg_kp (w 0 6) = if kp = 8 then 8 else (kp : Int) + 1 := by
    rw [hkp]; unfold mg_kp; repeat' split
    all_goals omega
  refine ⟨⟨h1, h2⟩, ?_, fun i hi => ?_, by rw [eo 7 (by decide)]; exact a5, fun q => ?_, by rw [eo 15 (by decide)]; exact a7, ?_, by rw [eo 16 (by decide)]; exact a9, ?_, by rw [eo 17 (by decide)]; exact a11, by rw [eo 19 (by decide)]; exact a12, by rw [eo 20 (by decide)]; exact a13, by rw [eo 21 (by decide)]; exact a14⟩
  · rw [e6, hkv]; split <;> omega
  · rw [e6] at hi
    have hat := fun k hk => mg_at_hp (w 4) (w 1) (i := i) hk8 (by rw [← hkp]; exact hi) (k := k) hk
    rw [← hkp] at hat
    have e0 : w' 4 (158 * i) = mg_at (w' 4) i 0 := rfl
    rw [e0, e4]
    by_cases c : i + 1 = (mg_kp (w 0 6)).toNat
    · refine ⟨mr_I_e (fun k hk => by rw [hat k hk, if_pos c]) a1, ?_⟩
      rw [hat 0 (by decide), if_pos c]
      omega
    · by_cases c8 : kp = 8
      · have hi7 : ((i + 1 : Nat) : Int) < w 0 6 := by
          rw [hkv, if_pos c8] at c hi
          omega
        have := a4 (i + 1) hi7
        refine ⟨mr_I_e (fun k hk => by rw [hat k hk, if_neg c, if_pos c8]) this.1, ?_⟩
        rw [hat 0 (by decide), if_neg c, if_pos c8]
        have h2 : mg_at (w 4) (i + 1) 0 ≤ b := this.2
        omega
      · have hi7 : (i : Int) < w 0 6 := by
          rw [hkv, if_neg c8] at c hi
          omega
        have := a4 i hi7
        refine ⟨mr_I_e (fun k hk => by rw [hat k hk, if_neg c, if_neg c8]) this.1, ?_⟩
        rw [hat 0 (by decide), if_neg c, if_neg c8]
        have h2 : mg_at (w 4) i 0 ≤ b := this.2
        omega
  · rw [eo 7 (by decide)] at q
    rw [er 3 (by decide) (by decide) (by decide)]
    have := a6 q
    exact ⟨this.1, by omega⟩
  · rw [eo 15 (by decide), er 6 (by decide) (by decide) (by decide)]; exact a8
  · rw [eo 16 (by decide), er 8 (by decide) (by decide) (by decide)]; exact a10
/-- fields alone -/
theorem mg_I_f {w w' : mz_V} {b : Int} (hI : mg_I w b) (er : ∀ r, r ≠ 0 → w' r = w r) (e6 : w' 0 6 = w 0 6) (e7 : w' 0 7 = w 0 7) (e15 : w' 0 15 = w 0 15) (e16 : w' 0 16 = w 0 16) (h17 : -1 ≤ w' 0 17 ∧ w' 0 17 ≤ 60) (h19 : 0 ≤ w' 0 19 ∧ w' 0 19 ≤ 6) (h20 : nS (w' 0 20)) (h21 : 0 ≤ w' 0 21 ∧ w' 0 21 ≤ 7) : mg_I w' b := by
  unfold mg_I at hI ⊢
  rw [er 1 (by decide), er 3 (by decide), er 4 (by decide), er 6 (by decide), er 8 (by decide), e6, e7, e15, e16]
  obtain ⟨a1, a3, a4, a5, a6, a7, a8, a9, a10, a11, a12, a13, a14⟩ := hI
  exact ⟨a1, a3, a4, a5, a6, a7, a8, a9, a10, h17, h19, h20, h21⟩
theorem mc_dt_nS {s y : Nat → Int} (hI : mr_I s) {k : Nat} (hk : k < 9) (hy : nS (y 1)) (hr : 1 ≤ mc_rf s k y ∧ mc_rf s k y ≤ 5) : nS (mc_dt s k y) := by
  have hcase : k = 0 ∨ k = 1 ∨ k = 2 ∨ k = 3 ∨ k = 4 ∨ k = 5 ∨ k = 6 ∨ k = 7 ∨ k = 8 := by omega
  rcases hcase with rfl | rfl | rfl | rfl | rfl | rfl | rfl | rfl | rfl
  · have hr : 1 ≤ mc_rf0 s (y 0) (y 1) (y 2) (y 3) ∧ mc_rf0 s (y 0) (y 1) (y 2) (y 3) ≤ 5 := hr
    unfold mc_rf0 at hr
    by_cases c : (0 ≤ y 0 ∧ y 0 ≤ 9) ∧ (1 ≤ y 1 ∧ y 1 ≤ 99) ∧ (1 ≤ y 2 ∧ y 2 ≤ 40) ∧ (1 ≤ y 3 ∧ y 3 ≤ 60)
    · have h0 := mr_ho0 hI (show (y 0).toNat < 10 by omega) 0
      have h1 := mr_ho1 hI (show (y 0).toNat < 10 by omega) 0
      show nS (mr_ho s (y 0).toNat 0)
      exact ⟨by omega, by omega⟩
    · rw [if_neg c] at hr
      omega
  · exact (by decide : nS 0)
  · exact (by decide : nS 6)
  · exact (by decide : nS 0)
  · have hr : 1 ≤ mc_rf4 s (y 0) (y 1) ∧ mc_rf4 s (y 0) (y 1) ≤ 5 := hr
    unfold mc_rf4 at hr
    by_cases c : mr_has s (y 0)
    · obtain ⟨a, ha, ha10, hh⟩ := mr_has_h c
      have h0 := mr_ho0 hI ha10 0
      have h1 := mr_ho1 hI ha10 0
      have h2 := mr_ho0 hI ha10 63
      have h3 := mr_ho1 hI ha10 63
      show nS (if y 1 ≤ mr_ho s (y 0).toNat 0 then mr_ho s (y 0).toNat 0 else mr_ho s (y 0).toNat 63)
      rw [ha, Int.toNat_natCast]
      split
      · exact ⟨by omega, by omega⟩
      · exact ⟨by omega, by omega⟩
    · rw [if_neg c] at hr
      omega
  · exact hy
  · exact (by decide : nS 0)
  · exact (by decide : nS 6)
  · exact (by decide : nS 0)
theorem mg_st_J {w : mz_V} {b : Int} (hJ : mg_J w b) (hb : b ≤ 999999900) {k : Nat} (hk : k < 9) {y : Nat → Int} (hy : nS (y 1)) : mg_J (mg_st w k y) (b + 48) := by
  obtain ⟨hI, hK⟩ := hJ
  have hI1 := hI.1.1
  by_cases c0 : mc_rf (w 1) k y = 0
  · have est : mg_st w k y = mz_u (mz_w (mz_w w 1 (mc_st (w 1) k y)) 4 (mg_hp (w 4) (w 0 6) (w 1))) 0 6 (mg_kp (w 0 6)) := if_pos c0
    have eo : ∀ q, q ≠ 6 → mg_st w k y 0 q = w 0 q := fun q hq => by rw [est, mz_u_k _ _ hq, mz_w_n _ _ (by decide), mz_w_n _ _ (by decide)]
    have er : ∀ r, r ≠ 0 → r ≠ 1 → r ≠ 4 → mg_st w k y r = w r := fun r r0 r1 r4 => by rw [est, mz_u_o r0, mz_w_n _ _ r4, mz_w_n _ _ r1]
    have e1 : mg_st w k y 1 = mc_st (w 1) k y := by rw [est, mz_u_o (by decide), mz_w_n _ _ (by decide), mz_w_s]
    obtain ⟨s1, s2⟩ := mc_st_I hI1 (by have := hI.1.2; omega) hk c0
    exact ⟨mg_I_push hI (by rw [e1]; exact s1) (by rw [e1]; have := hI.1.2; omega) (by rw [est, mz_u_o (by decide), mz_w_s]) (by rw [est, mz_u_s]) eo er, fun q => by rw [eo 21 (by decide)]; rw [eo 19 (by decide)] at q; exact hK q⟩
  · have hin := mc_rf_in (w 1) k y
    by_cases c5 : mc_rf (w 1) k y ≤ 5
    · have est : mg_st w k y = mz_u (mz_u (mz_u w 0 19 (mc_rf (w 1) k y)) 0 20 (mc_dt (w 1) k y)) 0 21 0 := by unfold mg_st; rw [if_neg c0, if_pos c5]
      have eo : ∀ q, q ≠ 19 → q ≠ 20 → q ≠ 21 → mg_st w k y 0 q = w 0 q := fun q q1 q2 q3 => by rw [est, mz_u_k _ _ q3, mz_u_k _ _ q2, mz_u_k _ _ q1]
      have e19 : mg_st w k y 0 19 = mc_rf (w 1) k y := by rw [est, mz_u_k _ _ (by decide), mz_u_k _ _ (by decide), mz_u_s]
      have e20 : mg_st w k y 0 20 = mc_dt (w 1) k y := by rw [est, mz_u_k _ _ (by decide), mz_u_s]
      have e21 : mg_st w k y 0 21 = 0 := by rw [est, mz_u_s]
      have h17 := hI.2.2.2.2.2.2.2.2.2.1
      refine ⟨mg_I_b (by omega) (mg_I_f hI (fun r hr => by rw [est, mz_u_o hr, mz_u_o hr, mz_u_o hr]) (eo 6 (by decide) (by decide) (by decide)) (eo 7 (by decide) (by decide) (by decide)) (eo 15 (by decide) (by decide) (by decide)) (eo 16 (by decide) (by decide) (by decide)) (by rw [eo 17 (by decide) (by decide) (by decide)]; exact h17) (by rw [e19]; omega) (by rw [e20]; exact mc_dt_nS hI1 hk hy (by omega)) (by rw [e21]; omega)), fun _ => e21⟩
    · have est : mg_st w k y = w := by unfold mg_st; rw [if_neg c0, if_neg c5]
      rw [est]
      exact ⟨mg_I_b (by omega) hI, hK⟩
theorem mg_un_J {w : mz_V} {b : Int} (hJ : mg_J w b) (h6 : w 0 6 ≠ 0) : mg_J (mg_un w) b := by
  obtain ⟨hI, hK⟩ := hJ
  have eu : ∀ q, q ≠ 6 → mg_un w 0 q = w 0 q := fun q hq => by unfold mg_un; rw [mz_u_k _ _ hq, mz_w_n _ _ (by decide)]
  have er : ∀ r, r ≠ 0 → r ≠ 1 → mg_un w r = w r := fun r h0 h1 => by unfold mg_un; rw [mz_u_o h0, mz_w_n _ _ h1]
  have e6 : mg_un w 0 6 = w 0 6 - 1 := by unfold mg_un; rw [mz_u_s]
  have e1 : mg_un w 1 = mr_cpy (w 1) (mg_at (w 4) ((w 0 6).toNat - 1)) 158 := by unfold mg_un; rw [mz_u_o (by decide), mz_w_s]
  refine ⟨?_, fun q => by rw [eu 21 (by decide)]; rw [eu 19 (by decide)] at q; exact hK q⟩
  unfold mg_I at hI ⊢
  obtain ⟨a1, a3, a4, a5, a6, a7⟩ := hI
  rw [er 3 (by decide) (by decide), er 4 (by decide) (by decide), er 6 (by decide) (by decide), er 8 (by decide) (by decide), eu 7 (by decide), eu 15 (by decide), eu 16 (by decide), eu 17 (by decide), eu 19 (by decide), eu 20 (by decide), eu 21 (by decide), e6, e1]
  have hk := a4 ((w 0 6).toNat - 1) (by omega)
  exact ⟨⟨mr_I_e (fun j hj => mr_cpy_l _ _ hj) hk.1, by rw [mr_cpy_l _ _ (by decide)]; exact hk.2⟩, by omega, fun i hi => a4 i (by omega), a5, a6, a7⟩
theorem mg_sv_J {w : mz_V} {b : Int} (hJ : mg_J w b) : mg_J (mg_sv w) b := by
  obtain ⟨hI, hK⟩ := hJ
  have eu : ∀ q, q ≠ 7 → mg_sv w 0 q = w 0 q := fun q hq => by unfold mg_sv; rw [mz_u_k _ _ hq, mz_w_n _ _ (by decide)]
  have er : ∀ r, r ≠ 0 → r ≠ 3 → mg_sv w r = w r := fun r h0 h1 => by unfold mg_sv; rw [mz_u_o h0, mz_w_n _ _ h1]
  have e7 : mg_sv w 0 7 = 1 := by unfold mg_sv; rw [mz_u_s]
  have e3 : mg_sv w 3 = mr_cpy (w 3) (w 1) 158 := by unfold mg_sv; rw [mz_u_o (by decide), mz_w_s]
  refine ⟨?_, fun q => by rw [eu 21 (by decide)]; rw [eu 19 (by decide)] at q; exact hK q⟩
  unfold mg_I at hI ⊢
  obtain ⟨a1, a3, a4, a5, a6, a7⟩ := hI
  rw [er 1 (by decide) (by decide), er 4 (by decide) (by decide), er 6 (by decide) (by decide), er 8 (by decide) (by decide), eu 6 (by decide), eu 15 (by decide), eu 16 (by decide), eu 17 (by decide), eu 19 (by decide), eu 20 (by decide), eu 21 (by decide), e7, e3]
  exact ⟨a1, a3, a4, Or.inr rfl, fun _ => ⟨mr_I_e (fun j hj => mr_cpy_l _ _ hj) a1.1, by rw [mr_cpy_l _ _ (by decide)]; exact a1.2⟩, a7⟩
theorem mg_rs_J {w : mz_V} {b : Int} (hJ : mg_J w b) (h7 : w 0 7 ≠ 0) : mg_J (mg_rs w) b := by
  obtain ⟨hI, hK⟩ := hJ
  have eu : ∀ q, q ≠ 6 → mg_rs w 0 q = w 0 q := fun q hq => by unfold mg_rs; rw [mz_u_k _ _ hq, mz_w_n _ _ (by decide)]
  have er : ∀ r, r ≠ 0 → r ≠ 1 → mg_rs w r = w r := fun r h0 h1 => by unfold mg_rs; rw [mz_u_o h0, mz_w_n _ _ h1]
  have e6 : mg_rs w 0 6 = 0 := by unfold mg_rs; rw [mz_u_s]
  have e1 : mg_rs w 1 = mr_cpy (w 1) (w 3) 158 := by unfold mg_rs; rw [mz_u_o (by decide), mz_w_s]
  refine ⟨?_, fun q => by rw [eu 21 (by decide)]; rw [eu 19 (by decide)] at q; exact hK q⟩
  unfold mg_I at hI ⊢
  obtain ⟨a1, a3, a4, a5, a6, a7⟩ := hI
  rw [er 3 (by decide) (by decide), er 4 (by decide) (by decide), er 6 (by decide) (by decide), er 8 (by decide) (by decide), eu 7 (by decide), eu 15 (by decide), eu 16 (by decide), eu 17 (by decide), eu 19 (by decide), eu 20 (by decide), eu 21 (by decide), e6, e1]
  have hk := a6 (by omega)
  exact ⟨⟨mr_I_e (fun j hj => mr_cpy_l _ _ hj) hk.1, by rw [mr_cpy_l _ _ (by decide)]; exact hk.2⟩, by omega, fun i hi => absurd hi (by omega), a5, a6, a7⟩
theorem mg_fd_J {w : mz_V} {b : Int} (hJ : mg_J w b) (h15 : w 0 15 ≠ 60) {y : Int} (hy : 0 ≤ y ∧ y ≤ 65535) : mg_J (mg_fd w y) b := by
  obtain ⟨hI, hK⟩ := hJ
  have eu : ∀ q, q ≠ 15 → mg_fd w y 0 q = w 0 q := fun q hq => by unfold mg_fd; rw [mz_u_k _ _ hq, mz_w_n _ _ (by decide)]
  have er : ∀ r, r ≠ 0 → r ≠ 6 → mg_fd w y r = w r := fun r h0 h1 => by unfold mg_fd; rw [mz_u_o h0, mz_w_n _ _ h1]
  have e15 : mg_fd w y 0 15 = w 0 15 + 1 := by unfold mg_fd; rw [mz_u_s]
  have e6 : mg_fd w y 6 = mr_up (w 6) (w 0 15).toNat y := by unfold mg_fd; rw [mz_u_o (by decide), mz_w_s]
  refine ⟨?_, fun q => by rw [eu 21 (by decide)]; rw [eu 19 (by decide)] at q; exact hK q⟩
  unfold mg_I at hI ⊢
  obtain ⟨a1, a3, a4, a5, a6, a7, a8, a9⟩ := hI
  rw [er 1 (by decide) (by decide), er 3 (by decide) (by decide), er 4 (by decide) (by decide), er 8 (by decide) (by decide), eu 6 (by decide), eu 7 (by decide), eu 16 (by decide), eu 17 (by decide), eu 19 (by decide), eu 20 (by decide), eu 21 (by decide), e15, e6]
  refine ⟨a1, a3, a4, a5, a6, by omega, fun i hi => ?_, a9⟩
  by_cases e : i = (w 0 15).toNat
  · rw [e, mr_up_s]; exact hy
  · rw [mr_up_n _ _ e]; exact a8 i (by omega)
