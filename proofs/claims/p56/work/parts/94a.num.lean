/-! NUMBERS: what holds of a harbour's numbers; loads, counts -/
def pn_I (s : Nat → Int) : Prop := mr_I s ∧ (∀ b, b < 10 → s (6 + 11 * b) = 1 → 1 ≤ s (6 + 11 * b + 1) ∧ 1 ≤ s (6 + 11 * b + 2) ∧ 1 ≤ s (6 + 11 * b + 3) ∧ ∀ k : Nat, (k : Int) < s (6 + 11 * b + 4) → 1 ≤ s (6 + 11 * b + (5 + k))) ∧
  (∀ b, b < 10 → s (6 + 11 * b) = 0 → ∀ k, k < 11 → s (6 + 11 * b + k) = 0) ∧ mq_pI s
theorem pn_of {V : mz_V} {a : Nat} {s : Nat → Int} (hI : mr_I s) (h : mh_R V a s) : pn_I s := by
  refine ⟨hI, fun b hb hh => ?_, fun b hb hh => (h.1 b hb).2.2.2 hh, mq_pI_of hI h⟩
  obtain ⟨h0, h1, h2, h3⟩ := h.1 b hb
  obtain ⟨e1, e2, e3, e5, e6⟩ := h2 hh
  obtain ⟨-, l1, -, s1, -, t1, -, -, -, -, -, g1, -⟩ := h0
  refine ⟨by rw [← e1]; exact l1, by rw [← e2]; exact s1, by rw [← e3]; exact t1, fun k hk => ?_⟩
  rw [← e5] at hk
  rw [← e6 k hk]
  exact g1 k hk
theorem pn_bal_c {s s' : Nat → Int} {b : Nat} (t : Nat) (h4 : s' (6 + 11 * b + 4) = s (6 + 11 * b + 4)) (h : ∀ k : Nat, (k : Int) < s (6 + 11 * b + 4) → s' (6 + 11 * b + (5 + k)) = s (6 + 11 * b + (5 + k))) : mr_bal s' b t = mr_bal s b t := by
  unfold mr_bal mr_bw
  rw [h4]
  refine mz_s_c fun k hk => ?_
  show (if t.testBit k then (0 : Int) else s' (6 + 11 * b + (5 + k))) = if t.testBit k then 0 else s (6 + 11 * b + (5 + k))
  rw [h k (by omega)]
theorem mz_s_1 {f g : Nat → Int} {b : Nat} : ∀ {n : Nat}, b < n → (∀ i, i < n → i ≠ b → f i = g i) → mz_s f n = mz_s g n + (f b - g b)
  | 0, hb, _ => absurd hb (Nat.not_lt_zero _)
  | n + 1, hb, h => by
    show mz_s f n + f n = mz_s g n + g n + (f b - g b)
    by_cases e : b = n
    · subst e
      rw [mz_s_c (g := g) fun i hi => h i (by omega) (by omega)]
      omega
    · rw [mz_s_1 (n := n) (by omega) fun i hi hn => h i (by omega) hn, h n (by omega) (fun q => e q.symm)]
      omega
theorem pn_bal_o {s s' : Nat → Int} {b i : Nat} (t : Nat) (hi : i ≠ b) (h : ∀ j, 6 ≤ j → ¬ (6 + 11 * b ≤ j ∧ j < 6 + 11 * b + 11) → s' j = s j) (h6 : s (6 + 11 * i + 4) ≤ 6) : mr_bal s' i t = mr_bal s i t :=
  pn_bal_c t (h _ (by omega) (by omega)) fun k hk => h _ (by omega) (by omega)
/-- one berth's change -/
theorem pn_ch {s s' : Nat → Int} {b : Nat} (hI : mr_I s) (hb : b < 10) (h : ∀ j, 6 ≤ j → ¬ (6 + 11 * b ≤ j ∧ j < 6 + 11 * b + 11) → s' j = s j) : mq_wgt s' = mq_wgt s + (mr_bal s' b 0 - mr_bal s b 0) ∧ mq_cnt s' = mq_cnt s + (s' (6 + 11 * b) - s (6 + 11 * b)) :=
  ⟨mz_s_1 (f := fun b => mr_bal s' b 0) (g := fun b => mr_bal s b 0) hb fun i hi hn => pn_bal_o 0 hn h (hI.bags hi).2, mz_s_1 (f := fun b => s' (6 + 11 * b)) (g := fun b => s (6 + 11 * b)) hb fun i hi hn => h (6 + 11 * i) (by omega) (by omega)⟩
theorem pn_same {s s' : Nat → Int} (hI : mr_I s) (h : ∀ j, 6 ≤ j → j < 116 → s' j = s j) : mq_wgt s' = mq_wgt s ∧ mq_cnt s' = mq_cnt s :=
  ⟨mz_s_c fun b hb => pn_bal_c 0 (h _ (by omega) (by omega)) fun k hk => h _ (by omega) (by have := (hI.bags hb).2; omega), mz_s_c fun b hb => h (6 + 11 * b) (by omega) (by omega)⟩
theorem pn_wgt0 {s : Nat → Int} (hI : mr_I s) : 0 ≤ mq_wgt s := mz_s_0 fun b hb => mr_bal0 hI hb 0
theorem pn_bal_clr (s : Nat → Int) (a t : Nat) : mr_bal (mr_clr s a) a t = 0 := by
  unfold mr_bal mr_bw
  rw [show mr_clr s a (6 + 11 * a + 4) = 0 from mr_zr_y _ ⟨by omega, by omega⟩]
  rfl
theorem pn_bal_0 {s : Nat → Int} (h : pn_I s) {b : Nat} (hb : b < 10) (h0 : s (6 + 11 * b) = 0) (t : Nat) : mr_bal s b t = 0 := by
  unfold mr_bal mr_bw
  rw [h.2.2.1 b hb h0 4 (by omega)]
  rfl
theorem pn_bw0 (s : Nat → Int) (b n : Nat) : mr_bw s b 0 n = mz_s (fun k => s (6 + 11 * b + (5 + k))) n := mz_s_c fun k _ => by
  show (if (0 : Nat).testBit k = true then (0 : Int) else s (6 + 11 * b + (5 + k))) = s (6 + 11 * b + (5 + k))
  rw [Nat.zero_testBit]
  rfl
theorem pn_take_4 (s : Nat → Int) (b k : Nat) : mr_take s b k (6 + 11 * b + 4) = s (6 + 11 * b + 4) - 1 := mr_up_s _ _ _
theorem pn_take_g {s : Nat → Int} {b k n j : Nat} (hn : s (6 + 11 * b + 4) = (n : Int)) (hj : j + 1 < n) : mr_take s b k (6 + 11 * b + (5 + j)) = if k ≤ j then s (6 + 11 * b + (5 + (j + 1))) else s (6 + 11 * b + (5 + j)) := by
  have e2 : (s (6 + 11 * b + 4)).toNat = n := by omega
  unfold mr_take
  rw [mr_up_n _ _ (by omega), e2, mr_up_n _ _ (by omega)]
  by_cases c : k ≤ j
  · rw [if_pos c]
    exact if_pos ⟨by omega, by omega⟩
  · rw [if_neg c]
    exact mr_shf_n _ (by omega)
theorem pn_bal_take {s : Nat → Int} {b k : Nat} (hk : (k : Int) < s (6 + 11 * b + 4)) : mr_bal (mr_take s b k) b 0 = mr_bal s b 0 - s (6 + 11 * b + (5 + k)) := by
  obtain ⟨n, hn⟩ : ∃ n : Nat, s (6 + 11 * b + 4) = n := ⟨(s (6 + 11 * b + 4)).toNat, by omega⟩
  have e1 : (s (6 + 11 * b + 4) - 1).toNat = n - 1 := by omega
  have e2 : (s (6 + 11 * b + 4)).toNat = n := by omega
  unfold mr_bal
  rw [pn_take_4, pn_bw0, pn_bw0, e1, e2, ← mz_s_rm (f := fun k => s (6 + 11 * b + (5 + k))) n (by omega)]
  refine mz_s_c fun j hj => ?_
  show mr_take s b k (6 + 11 * b + (5 + j)) = if k ≤ j ∧ j + 1 < n then s (6 + 11 * b + (5 + (j + 1))) else s (6 + 11 * b + (5 + j))
  rw [pn_take_g hn (by omega)]
  by_cases c : k ≤ j
  · rw [if_pos c, if_pos ⟨c, by omega⟩]
  · rw [if_neg c, if_neg (fun q => c q.1)]
/-- what a set of bags weighs -/
def pn_set (s : Nat → Int) (a t n : Nat) : Int := mz_s (fun k => if t.testBit k = true then s (6 + 11 * a + (5 + k)) else 0) n
theorem pn_bal_t {s : Nat → Int} (a t : Nat) : mr_bal s a t = mr_bal s a 0 - pn_set s a t (s (6 + 11 * a + 4)).toNat := by
  have h := mz_s_sub (fun k => s (6 + 11 * a + (5 + k))) (fun k => if t.testBit k = true then s (6 + 11 * a + (5 + k)) else 0) (s (6 + 11 * a + 4)).toNat
  have e0 : mr_bal s a 0 = mz_s (fun k => s (6 + 11 * a + (5 + k))) (s (6 + 11 * a + 4)).toNat := pn_bw0 _ _ _
  have e1 : mr_bal s a t = mz_s (fun k => s (6 + 11 * a + (5 + k)) - if t.testBit k = true then s (6 + 11 * a + (5 + k)) else 0) (s (6 + 11 * a + 4)).toNat := by
    unfold mr_bal mr_bw
    refine mz_s_c fun k _ => ?_
    show (if t.testBit k = true then (0 : Int) else s (6 + 11 * a + (5 + k))) = s (6 + 11 * a + (5 + k)) - if t.testBit k = true then s (6 + 11 * a + (5 + k)) else 0
    split <;> omega
  unfold pn_set
  rw [e0, e1]
  exact h.symm
theorem pn_drp {t a : Nat} (ha : a < 10) : ∀ (n : Nat) (s : Nat → Int), mr_I s → n ≤ 6 → (∀ k, k < n → t.testBit k = true → (k : Int) < s (6 + 11 * a + 4)) →
    mr_bal (mr_drp t a n s) a 0 = mr_bal s a 0 - pn_set s a t n ∧ mr_drp t a n s 3 = s 3 + pn_set s a t n ∧ (∀ j, j ≠ 3 → ¬ (6 + 11 * a + 4 ≤ j ∧ j < 6 + 11 * a + 11) → mr_drp t a n s j = s j)
  | 0, s, _, _, _ => ⟨by show mr_bal s a 0 = mr_bal s a 0 - 0; omega, by show s 3 = s 3 + 0; omega, fun _ _ _ => rfl⟩
  | n + 1, s, hI, hn, hb => by
    have e : mr_drp t a (n + 1) s = mr_drp t a n (if t.testBit n then mr_take (mr_up s 3 (s 3 + s (6 + 11 * a + (5 + n)))) a n else s) := rfl
    have es : pn_set s a t (n + 1) = pn_set s a t n + if t.testBit n = true then s (6 + 11 * a + (5 + n)) else 0 := rfl
    by_cases c : t.testBit n = true
    · have hk := hb n (by omega) c
      rw [e, if_pos c, es, if_pos c]
      have hI1 : mr_I (mr_up s 3 (s 3 + s (6 + 11 * a + (5 + n)))) := mr_I_up hI (Or.inr (Or.inr (Or.inl rfl)))
      have e4 : mr_up s 3 (s 3 + s (6 + 11 * a + (5 + n))) (6 + 11 * a + 4) = s (6 + 11 * a + 4) := mr_up_n _ _ (by omega)
      have eg : ∀ j, 4 ≤ j → mr_up s 3 (s 3 + s (6 + 11 * a + (5 + n))) j = s j := fun j hj => mr_up_n _ _ (by omega)
      have hk1 : (n : Int) < mr_up s 3 (s 3 + s (6 + 11 * a + (5 + n))) (6 + 11 * a + 4) := by rw [e4]; exact hk
      have hI2 := mr_I_take hI1 ha hk1
      have h6 := (hI.bags ha).2
      have t4 := pn_take_4 (mr_up s 3 (s 3 + s (6 + 11 * a + (5 + n)))) a n
      rw [e4] at t4
      obtain ⟨g1, g2, g3⟩ := pn_drp ha n _ hI2 (by omega) (fun k hkn hkt => by rw [t4]; omega)
      obtain ⟨N, hN⟩ : ∃ N : Nat, s (6 + 11 * a + 4) = N := ⟨(s (6 + 11 * a + 4)).toNat, by omega⟩
      have elo : ∀ j, j < n → mr_take (mr_up s 3 (s 3 + s (6 + 11 * a + (5 + n)))) a n (6 + 11 * a + (5 + j)) = s (6 + 11 * a + (5 + j)) := fun j hj => by
        rw [pn_take_g (n := N) (by rw [e4]; exact hN) (by omega), if_neg (by omega), eg _ (by omega)]
      have ps : pn_set (mr_take (mr_up s 3 (s 3 + s (6 + 11 * a + (5 + n)))) a n) a t n = pn_set s a t n := mz_s_c fun j hj => by
        show (if t.testBit j = true then mr_take (mr_up s 3 (s 3 + s (6 + 11 * a + (5 + n)))) a n (6 + 11 * a + (5 + j)) else 0) = if t.testBit j = true then s (6 + 11 * a + (5 + j)) else 0
        rw [elo j hj]
      have eb : mr_bal (mr_up s 3 (s 3 + s (6 + 11 * a + (5 + n)))) a 0 = mr_bal s a 0 := pn_bal_c 0 e4 fun k _ => eg _ (by omega)
      have o : ∀ j, ¬ (6 + 11 * a + 4 ≤ j ∧ j < 6 + 11 * a + 11) → mr_take (mr_up s 3 (s 3 + s (6 + 11 * a + (5 + n)))) a n j = mr_up s 3 (s 3 + s (6 + 11 * a + (5 + n))) j := fun j hj => mr_take_o (by rw [e4]; omega) hj
      refine ⟨?_, ?_, fun j j3 hj => ?_⟩
      · rw [g1, ps, pn_bal_take hk1, eb, eg _ (by omega)]; omega
      · rw [g2, ps, o 3 (by omega), mr_up_s]; omega
      · rw [g3 j j3 hj, o j hj, mr_up_n _ _ j3]
    · rw [e, if_neg c, es, if_neg c]
      obtain ⟨g1, g2, g3⟩ := pn_drp ha n s hI (by omega) (fun k hkn hkt => hb k (by omega) hkt)
      exact ⟨by rw [g1]; omega, by rw [g2]; omega, g3⟩
/-- the bags loaded are aboard, dropped or lost -/
def pn_J (s : Nat → Int) (B : Int) : Prop := s 2 = mq_wgt s + s 3 + s 4 ∧ 0 ≤ s 3 ∧ 0 ≤ s 4 ∧ s 2 ≤ B ∧ 0 ≤ s 1 ∧ s 1 ≤ B
/-- what an hour keeps -/
def pn_K (s s' : Nat → Int) (c : Int) : Prop := s' 1 = s 1 ∧ s' 2 = s 2 ∧ s' 3 = s 3 ∧ s' 4 + mq_wgt s' = s 4 + mq_wgt s ∧ s 4 ≤ s' 4 ∧ mq_cnt s' + c = mq_cnt s
theorem pn_K_tr {s s' s'' : Nat → Int} {c e : Int} (h : pn_K s s' c) (h' : pn_K s' s'' e) : pn_K s s'' (c + e) := by
  obtain ⟨a1, a2, a3, a4, a5, a6⟩ := h
  obtain ⟨b1, b2, b3, b4, b5, b6⟩ := h'
  exact ⟨by omega, by omega, by omega, by omega, by omega, by omega⟩
theorem pn_K_0 (s : Nat → Int) : pn_K s s 0 := ⟨rfl, rfl, rfl, rfl, Int.le_refl _, by omega⟩
theorem pn_shk {s : Nat → Int} (hI : mr_I s) {b : Nat} (hb : b < 10) : pn_K s (mr_shk s b) 0 := by
  unfold mr_shk
  by_cases c : s (6 + 11 * b) = 1 ∧ 0 < s (6 + 11 * b + 4)
  · rw [if_pos c]
    have h6 := (hI.bags hb).2
    obtain ⟨n, hn⟩ : ∃ n : Nat, s (6 + 11 * b + 4) = (n : Int) + 1 := ⟨(s (6 + 11 * b + 4)).toNat - 1, by omega⟩
    have e : (s (6 + 11 * b + 4)).toNat - 1 = n := by omega
    rw [e]
    have e4 : ∀ y : Int, mr_up s 4 y (6 + 11 * b + 4) = s (6 + 11 * b + 4) := fun y => mr_up_n _ _ (by omega)
    have hI1 := mr_I_up hI (k := 4) (x := s 4 + s (6 + 11 * b + (5 + n))) (Or.inr (Or.inr (Or.inr rfl)))
    have o : ∀ j, ¬ (6 + 11 * b + 4 ≤ j ∧ j < 6 + 11 * b + 11) → mr_take (mr_up s 4 (s 4 + s (6 + 11 * b + (5 + n)))) b n j = mr_up s 4 (s 4 + s (6 + 11 * b + (5 + n))) j := fun j hj => mr_take_o (by rw [e4]; omega) hj
    obtain ⟨w1, w2⟩ := pn_ch (s' := mr_take (mr_up s 4 (s 4 + s (6 + 11 * b + (5 + n)))) b n) hI hb fun j h1 h2 => by rw [o j (by omega), mr_up_n _ _ (by omega)]
    rw [pn_bal_take (by rw [e4]; omega), mr_up_n _ _ (by omega), pn_bal_c (s := s) 0 (e4 _) fun k _ => mr_up_n _ _ (by omega)] at w1
    rw [o _ (by omega), mr_up_n _ _ (by omega)] at w2
    have hg := (hI.bag hb (show n < 6 by omega)).1
    refine ⟨by rw [o _ (by omega), mr_up_n _ _ (by omega)], by rw [o _ (by omega), mr_up_n _ _ (by omega)], by rw [o _ (by omega), mr_up_n _ _ (by omega)], ?_, ?_, by omega⟩
    · rw [o _ (by omega), mr_up_s]; omega
    · rw [o _ (by omega), mr_up_s]; omega
  · rw [if_neg c]
    exact pn_K_0 s
theorem pn_sh {x : (Nat → Int) × List Nat} (hI : mr_I x.1) (b : Nat) : pn_K x.1 (mq_shake x b).1 0 := by
  unfold mq_shake
  by_cases c : b < 10
  · rw [if_pos c]; exact pn_shk hI c
  · rw [if_neg c]; exact pn_K_0 _
theorem pn_bst {s : Nat → Int} (hI : mr_I s) {b : Nat} (hb : b < 10) (hh : s (6 + 11 * b) = 1) : pn_K s (mr_clr (mr_up s 4 (s 4 + mr_bal s b 0)) b) 1 := by
  have o : ∀ j, ¬ (6 + 11 * b ≤ j ∧ j < 6 + 11 * b + 11) → mr_clr (mr_up s 4 (s 4 + mr_bal s b 0)) b j = mr_up s 4 (s 4 + mr_bal s b 0) j := fun j hj => mr_zr_n _ hj
  obtain ⟨w1, w2⟩ := pn_ch (s' := mr_clr (mr_up s 4 (s 4 + mr_bal s b 0)) b) hI hb fun j h1 h2 => by rw [o j h2, mr_up_n _ _ (by omega)]
  rw [pn_bal_clr] at w1
  rw [show mr_clr (mr_up s 4 (s 4 + mr_bal s b 0)) b (6 + 11 * b) = 0 from mr_zr_y _ ⟨by omega, by omega⟩] at w2
  have hg := mr_bal0 hI hb 0
  refine ⟨by rw [o _ (by omega), mr_up_n _ _ (by omega)], by rw [o _ (by omega), mr_up_n _ _ (by omega)], by rw [o _ (by omega), mr_up_n _ _ (by omega)], ?_, ?_, by omega⟩
  · rw [o _ (by omega), mr_up_s]; omega
  · rw [o _ (by omega), mr_up_s]; omega
theorem pn_st {x : (Nat → Int) × List Nat} (hI : mr_I x.1) (ho : mq_ok x.2) {b : Nat} (hb : b < 10) (hh : x.1 (6 + 11 * b) = 1) : pn_K x.1 (mq_step x b).1 1 := by
  have h1 := pn_bst hI hb hh
  have hI1 : mr_I (mr_clr (mr_up x.1 4 (x.1 4 + mr_bal x.1 b 0)) b) := mr_I_clr (mr_I_up hI (Or.inr (Or.inr (Or.inr rfl)))) hb
  unfold mq_step
  by_cases c : 0 < b
  · have hI2 := (mr_I_sh (x := (mr_clr (mr_up x.1 4 (x.1 4 + mr_bal x.1 b 0)) b, x.2)) hI1 ho (b - 1))
    have h2 := pn_sh (x := (mr_clr (mr_up x.1 4 (x.1 4 + mr_bal x.1 b 0)) b, x.2)) hI1 (b - 1)
    have h3 := pn_sh hI2.1 (b + 1)
    show pn_K x.1 (mq_shake (if 0 < b then mq_shake (mr_clr (mr_up x.1 4 (x.1 4 + mr_bal x.1 b 0)) b, x.2) (b - 1) else (mr_clr (mr_up x.1 4 (x.1 4 + mr_bal x.1 b 0)) b, x.2)) (b + 1)).1 1
    rw [if_pos c]
    have h4 := pn_K_tr (pn_K_tr h1 h2) h3
    exact h4
  · have h3 := pn_sh (x := (mr_clr (mr_up x.1 4 (x.1 4 + mr_bal x.1 b 0)) b, x.2)) hI1 (b + 1)
    show pn_K x.1 (mq_shake (if 0 < b then mq_shake (mr_clr (mr_up x.1 4 (x.1 4 + mr_bal x.1 b 0)) b, x.2) (b - 1) else (mr_clr (mr_up x.1 4 (x.1 4 + mr_bal x.1 b 0)) b, x.2)) (b + 1)).1 1
    rw [if_neg c]
    have h4 := pn_K_tr h1 h3
    exact h4
theorem pn_in_l (s : Nat → Int) (l : List Nat) (b : Nat) : l.length ≤ (mq_in s l b).length := by
  unfold mq_in
  split
  · rw [List.length_append]; omega
  · exact Nat.le_refl _
theorem pn_sh_l (x : (Nat → Int) × List Nat) (b : Nat) : x.2.length ≤ (mq_shake x b).2.length := by
  unfold mq_shake
  split
  · exact pn_in_l _ _ _
  · exact Nat.le_refl _
theorem pn_st_l (x : (Nat → Int) × List Nat) (b : Nat) : x.2.length ≤ (mq_step x b).2.length := by
  unfold mq_step
  by_cases c : 0 < b
  · show x.2.length ≤ (mq_shake (if 0 < b then mq_shake (mr_clr (mr_up x.1 4 (x.1 4 + mr_bal x.1 b 0)) b, x.2) (b - 1) else (mr_clr (mr_up x.1 4 (x.1 4 + mr_bal x.1 b 0)) b, x.2)) (b + 1)).2.length
    rw [if_pos c]
    exact Nat.le_trans (pn_sh_l (mr_clr (mr_up x.1 4 (x.1 4 + mr_bal x.1 b 0)) b, x.2) (b - 1)) (pn_sh_l _ (b + 1))
  · show x.2.length ≤ (mq_shake (if 0 < b then mq_shake (mr_clr (mr_up x.1 4 (x.1 4 + mr_bal x.1 b 0)) b, x.2) (b - 1) else (mr_clr (mr_up x.1 4 (x.1 4 + mr_bal x.1 b 0)) b, x.2)) (b + 1)).2.length
    rw [if_neg c]
    exact pn_sh_l (mr_clr (mr_up x.1 4 (x.1 4 + mr_bal x.1 b 0)) b, x.2) (b + 1)
theorem pn_lp : ∀ (f n : Nat) (x : (Nat → Int) × List Nat), mr_I x.1 → mq_ok x.2 → mq_hr x.1 x.2 n → n ≤ x.2.length → f + n = 10 → pn_K x.1 (mq_loop f n x).1 ((mq_loop f n x).2.length - n)
  | 0, n, x, hI, ho, hr, hn, hf => by
    have := mq_len ho
    have e : (x.2.length : Int) - n = 0 := by omega
    show pn_K x.1 x.1 ((x.2.length : Int) - n)
    rw [e]
    exact pn_K_0 _
  | f + 1, n, x, hI, ho, hr, hn, hf => by
    have e : mq_loop (f + 1) n x = match x.2[n]? with
      | some b => mq_loop f (n + 1) (mq_step x b)
      | none => x := rfl
    rw [e]
    cases hx : x.2[n]? with
    | none =>
      have hl : x.2.length ≤ n := List.getElem?_eq_none_iff.mp hx
      have e : (x.2.length : Int) - n = 0 := by omega
      show pn_K x.1 x.1 ((x.2.length : Int) - n)
      rw [e]
      exact pn_K_0 _
    | some b =>
      have hlt := (List.getElem?_eq_some_iff.mp hx).1
      have hb : b < 10 := ho.2 b (List.mem_of_getElem? hx)
      obtain ⟨hI', ho'⟩ := mr_I_st hI ho hb
      have h1 := pn_st hI ho hb (hr n b (Nat.le_refl _) hx)
      have h2 := pn_lp f (n + 1) (mq_step x b) hI' ho' (mq_hr_st hI ho hx hr) (Nat.le_trans hlt (pn_st_l x b)) (by omega)
      show pn_K x.1 (mq_loop f (n + 1) (mq_step x b)).1 (((mq_loop f (n + 1) (mq_step x b)).2.length : Int) - n)
      have h3 := pn_K_tr h1 h2
      have e2 : (1 : Int) + (((mq_loop f (n + 1) (mq_step x b)).2.length : Int) - ((n + 1 : Nat) : Int)) = ((mq_loop f (n + 1) (mq_step x b)).2.length : Int) - n := by omega
      rw [e2] at h3
      exact h3
theorem pn_lft (s : Nat → Int) (t : Int) : ∀ n, n ≤ 10 → ∀ j, (∀ b, b < 10 → j ≠ 6 + 11 * b + 1) → mr_lft s t n j = s j
  | 0, _, _, _ => rfl
  | b + 1, hb, j, hj => by
    have ih := pn_lft s t b (by omega) j hj
    unfold mr_lft
    by_cases c : mr_lft s t b (6 + 11 * b) = 0
    · rw [if_pos c]; exact ih
    · rw [if_neg c, mr_up_n _ _ (hj b (by omega))]; exact ih
theorem pn_h1 {s : Nat → Int} (hI : mr_I s) : pn_K s (mr_h1 s) 0 := by
  have o : ∀ j, j ≠ 0 → (∀ b, b < 10 → j ≠ 6 + 11 * b + 1) → mr_h1 s j = s j := fun j h0 hj => (pn_lft _ _ 10 (Nat.le_refl _) j hj).trans (mr_up_n _ _ h0)
  have w1 : mq_wgt (mr_h1 s) = mq_wgt s := mz_s_c fun b hb => pn_bal_c 0 (o _ (by omega) fun c hc => by omega) fun k hk => o _ (by omega) fun c hc => by have := (hI.bags hb).2; omega
  have w2 : mq_cnt (mr_h1 s) = mq_cnt s := mz_s_c fun b hb => o (6 + 11 * b) (by omega) fun c hc => by omega
  exact ⟨o 1 (by omega) fun c hc => by omega, o 2 (by omega) fun c hc => by omega, o 3 (by omega) fun c hc => by omega, by rw [w1, o 4 (by omega) fun c hc => by omega], by rw [o 4 (by omega) fun c hc => by omega]; exact Int.le_refl _, by omega⟩
/-- one hour -/
theorem pn_hr {s : Nat → Int} (hI : mr_I s) (hh : s 0 ≤ 999999999) : (mr_hr s).1 1 = s 1 + (mr_hr s).2 ∧ (mr_hr s).1 2 = s 2 ∧ (mr_hr s).1 3 = s 3 ∧ (mr_hr s).1 4 + mq_wgt (mr_hr s).1 = s 4 + mq_wgt s ∧ s 4 ≤ (mr_hr s).1 4 ∧ mq_cnt (mr_hr s).1 + (mr_hr s).2 = mq_cnt s := by
  have hI1 := mr_I_h1 hI hh
  have k1 := pn_h1 hI
  have k2 := pn_lp 10 0 (mr_h1 s, mq_all (mr_h1 s) 10) hI1 (mq_all_ok _ 10 (Nat.le_refl _)) (mq_hr_all 10) (Nat.zero_le _) rfl
  obtain ⟨a1, a2, a3, a4, a5, a6⟩ := pn_K_tr k1 k2
  have hI2 : mr_I (mr_h2 s).1 := (mr_I_h2 hI hh).1
  obtain ⟨w1, w2⟩ := pn_same (s := (mr_h2 s).1) (s' := (mr_hr s).1) hI2 fun j h1 h2 => mr_up_n _ _ (by omega)
  have e1 : (mr_hr s).1 1 = (mr_h2 s).1 1 + (mr_h2 s).2.length := by
    show mr_up (mr_h2 s).1 1 ((mr_h2 s).1 1 + ((mr_h2 s).2.length : Int)) 1 = _
    exact mr_up_s _ _ _
  have en : ∀ j, j ≠ 1 → (mr_hr s).1 j = (mr_h2 s).1 j := fun j hj => mr_up_n _ _ hj
  have e2 : (mr_hr s).2 = (mr_h2 s).2.length := rfl
  have b1 : (mr_h2 s).1 1 = s 1 := a1
  have b2 : (mr_h2 s).1 2 = s 2 := a2
  have b3 : (mr_h2 s).1 3 = s 3 := a3
  have b4 : (mr_h2 s).1 4 + mq_wgt (mr_h2 s).1 = s 4 + mq_wgt s := a4
  have b5 : s 4 ≤ (mr_h2 s).1 4 := a5
  have b6 : mq_cnt (mr_h2 s).1 + (0 + (((mr_h2 s).2.length : Int) - ((0 : Nat) : Int))) = mq_cnt s := a6
  rw [e2, w1, w2]
  refine ⟨by rw [e1, b1], by rw [en 2 (by decide), b2], by rw [en 3 (by decide), b3], by rw [en 4 (by decide), b4], by rw [en 4 (by decide)]; exact b5, by omega⟩
theorem pn_cnt0 {s : Nat → Int} (hI : mr_I s) : 0 ≤ mq_cnt s := mz_s_0 fun b hb => by
  have := hI.here hb
  show 0 ≤ s (6 + 11 * b)
  omega
theorem pn_ahead {s : Nat → Int} (hI : mr_I s) (hh : s 0 ≤ 999999999) : ((mr_hr s).2 : Int) ≤ mq_cnt s := by
  have h1 := (pn_hr hI hh).2.2.2.2.2
  have h2 := pn_cnt0 (mr_I_hr hI hh)
  omega
theorem pn_pas {s : Nat → Int} (hI : mr_I s) : ∀ n : Nat, s 0 + n ≤ 1000000000 → (mr_pas s n).1 1 = s 1 + (mr_pas s n).2 ∧ (mr_pas s n).1 2 = s 2 ∧ (mr_pas s n).1 3 = s 3 ∧ (mr_pas s n).1 4 + mq_wgt (mr_pas s n).1 = s 4 + mq_wgt s ∧ s 4 ≤ (mr_pas s n).1 4 ∧ mq_cnt (mr_pas s n).1 + (mr_pas s n).2 = mq_cnt s
  | 0, _ => ⟨by show s 1 = s 1 + 0; omega, rfl, rfl, rfl, Int.le_refl _, by show mq_cnt s + 0 = mq_cnt s; omega⟩
  | n + 1, hn => by
    obtain ⟨a1, a2, a3, a4, a5, a6⟩ := pn_pas hI n (by omega)
    obtain ⟨hI', h0⟩ := mr_pas_I hI n (by omega)
    obtain ⟨b1, b2, b3, b4, b5, b6⟩ := pn_hr hI' (by omega)
    show (mr_hr (mr_pas s n).1).1 1 = s 1 + (((mr_pas s n).2 + (mr_hr (mr_pas s n).1).2 : Nat) : Int) ∧ (mr_hr (mr_pas s n).1).1 2 = s 2 ∧ (mr_hr (mr_pas s n).1).1 3 = s 3 ∧ (mr_hr (mr_pas s n).1).1 4 + mq_wgt (mr_hr (mr_pas s n).1).1 = s 4 + mq_wgt s ∧ s 4 ≤ (mr_hr (mr_pas s n).1).1 4 ∧ mq_cnt (mr_hr (mr_pas s n).1).1 + (((mr_pas s n).2 + (mr_hr (mr_pas s n).1).2 : Nat) : Int) = mq_cnt s
    exact ⟨by omega, by omega, by omega, by omega, by omega, by omega⟩
