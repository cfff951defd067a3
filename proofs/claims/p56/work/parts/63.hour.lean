/-! A HARBOUR'S HOUR -/
theorem mb_or_t : ∀ m : Fin 1024, ∀ k : Fin 10, nZ ((m : Nat) : Int) ||| (nZ 1 <<< (nZ ((k : Nat) : Int) &&& 31)) = nZ (((m : Nat) ||| 2 ^ (k : Nat) : Nat) : Int) := by decide +kernel
theorem mb_or {m k : Nat} (hm : m < 1024) (hk : k < 10) : nZ m ||| (nZ 1 <<< (nZ k &&& 31)) = nZ ((m ||| 2 ^ k : Nat) : Int) := mb_or_t ⟨m, hm⟩ ⟨k, hk⟩
theorem mb_and_t : ∀ m : Fin 1024, ∀ k : Fin 10, decide (nZ ((m : Nat) : Int) &&& (nZ 1 <<< (nZ ((k : Nat) : Int) &&& 31)) = 0) = !((m : Nat).testBit k) := by decide +kernel
theorem mb_and {m k : Nat} (hm : m < 1024) (hk : k < 10) : (nZ m &&& (nZ 1 <<< (nZ k &&& 31)) = 0) = (m.testBit k = false) := by
  have h := mb_and_t ⟨m, hm⟩ ⟨k, hk⟩
  simp only at h
  apply propext
  rw [← decide_eq_true_iff (p := nZ m &&& (nZ 1 <<< (nZ k &&& 31)) = 0), h]
  simp
/-- the queue -/
def mh_Q (V : mz_V) (a : Nat) (l : List Nat) : Prop := V a 10 = l.length ∧ (∀ i, i < l.length → V (a + 4) i = (l.getD i 0 : Nat)) ∧ ∃ m : Nat, V a 11 = m ∧ m < 1024 ∧ ∀ k, k < 10 → m.testBit k = decide (k ∈ l)
theorem mh_Q_c {V V' : mz_V} {a : Nat} {l : List Nat} (h1 : V' a 10 = V a 10) (h2 : V' a 11 = V a 11) (h3 : V' (a + 4) = V (a + 4)) (h : mh_Q V a l) : mh_Q V' a l := by
  unfold mh_Q
  rw [h1, h2, h3]
  exact h
/-- the queue's cells are no part of what is told -/
theorem mh_R_q {V V' : mz_V} {a : Nat} {s : Nat → Int} (hp : s 5 ≤ 6) (h1 : ∀ r, r ≠ a → r ≠ a + 4 → V' r = V r) (h2 : ∀ k, k < 9 → V' a k = V a k) (h : mh_R V a s) : mh_R V' a s :=
  mh_R_p hp (fun i _ j _ => by rw [h1 _ (by omega) (by omega)]) (fun i _ j _ => by rw [h1 _ (by omega) (by omega)]) (fun i _ => by rw [h1 _ (by omega) (by omega)]) (fun j _ k _ => by rw [h1 _ (by omega) (by omega)]) (fun k _ hk => h2 k hk) h
section HOUR
variable {X : mv_X} {P : mz_P} {V : mz_V} {z : Nat × Nat} {a d : Nat} {s : Nat → Int} {l : List Nat}
theorem Y3_queue_no (hH : mz_H P a) (hI : mr_I s) (h : mh_R V a s) {x : Int} (hx : nS x) (hn : ¬ mr_has s x) : mv_call X (d + 2) 60 [.ref a, .int (nZ x)] (mz_h P V, z) = some (.inl none, (mz_h P V, z)) := by
  rw [mc_X3_queueIfOverstrained, bk_X3_queueIfOverstrained_0]
  simp only [mz_rcv hH.1, mv_clI, mv_cl, Y3_has hH hI h hx, nZ_b1, hn, not_false_eq_true, if_true]
theorem Y3_queue (hH : mz_H P a) (hI : mr_I s) (h : mh_R V a s) (hok : mq_ok l) (hQ : mh_Q V a l) {b : Nat} (hb : b < 10) :
    ∃ V', mv_call X (d + 4) 60 [.ref a, .int (nZ b)] (mz_h P V, z) = some (.inl none, (mz_h P V', z)) ∧ mh_R V' a s ∧ mh_Q V' a (mq_in s l b) ∧ mh_X V V' a := by
  by_cases hh : s (6 + 11 * b) = 1
  · have ha : mr_has s b := by rw [mr_has_n hb]; exact hh
    obtain ⟨q1, q2, m, q3, q4, q5⟩ := hQ
    have hl := mq_len hok
    rw [mc_X3_queueIfOverstrained, bk_X3_queueIfOverstrained_0]
    simp only [mz_rcv hH.1, mv_clI, mv_cl, Y3_has hH hI h (show nS (b : Int) from ⟨by omega, by omega⟩), nZ_b1]
    rw [if_neg (fun q => q ha), mz_gI hH.1 (by decide), q3]
    simp only [mb_and q4 hb, q5 b hb]
    by_cases c1 : b ∈ l
    · have e : mq_in s l b = l := if_neg (fun q => q.2.2 c1)
      rw [e]
      refine ⟨V, ?_, h, ⟨q1, q2, m, q3, q4, q5⟩, mh_X_rfl V a⟩
      rw [if_neg (by simpa using c1)]
    · rw [if_pos (by simpa using c1), mh_bal hH hb, mz_rcv (hH.b hb).1]
      simp only [Y0_over hH h hb hh, nZ_b1]
      by_cases c2 : s (6 + 11 * b + 3) < mr_ho s b 0
      · have e : mq_in s l b = l ++ [b] := if_pos ⟨hh, c2, c1⟩
        have hl2 := mq_lt hok hb c1
        rw [e, if_neg (fun q => q c2), mz_gI hH.1 (by decide), q1, if_neg (by rw [nZ_le (by decide) ⟨by omega, by omega⟩]; omega)]
        rw [mz_gR hH.1 (by decide) hH.2.2.2.2.2.2.2.2.2.1, mz_gI hH.1 (by decide), q1, mz_sJ hH.2.2.2.2.2.2.2.2.2.2 (by omega) (by omega) (by decide), Int.toNat_natCast]
        rw [mz_gI hH.1 (by decide), mz_w_n _ _ (show a ≠ a + 4 by omega), q1, nZ_add, mz_pf hH.1 (by decide), mz_gI hH.1 (by decide), mz_u_k _ _ (by decide), mz_w_n _ _ (show a ≠ a + 4 by omega), q3, mb_or q4 hb, mz_pf hH.1 (by decide)]
        refine ⟨_, rfl, mh_R_q hI.pil.2 (fun r h1 h2 => ?_) (fun k hk => ?_) h, ⟨?_, fun i hi => ?_, m ||| 2 ^ b, ?_, ?_, fun k hk => ?_⟩, fun r hr => ?_⟩
        · rw [mz_u_o h1, mz_u_o h1, mz_w_n _ _ h2]
        · rw [mz_u_k _ _ (by omega), mz_u_k _ _ (by omega), mz_w_n _ _ (by omega)]
        · rw [mz_u_k _ _ (by decide), mz_u_s, List.length_append]; rfl
        · rw [List.length_append] at hi
          have hi : i < l.length + 1 := hi
          rw [mz_u_o (by omega), mz_u_o (by omega), mz_w_s]
          by_cases e2 : i = l.length
          · subst e2
            rw [mr_up_s, List.getD_eq_getElem?_getD, List.getElem?_append_right (Nat.le_refl _), Nat.sub_self]
            rfl
          · rw [mr_up_n _ _ e2, q2 i (by omega), List.getD_eq_getElem?_getD, List.getD_eq_getElem?_getD, List.getElem?_append_left (by omega)]
        · rw [mz_u_s]
        · exact Nat.or_lt_two_pow (n := 10) q4 (Nat.pow_lt_pow_right (by decide) hb)
        · rw [Nat.testBit_or, q5 k hk, Nat.testBit_two_pow]
          by_cases e2 : b = k
          · subst e2; simp
          · have e3 : ¬ k = b := fun q => e2 q.symm
            simp [e2, e3]
        · rw [mz_u_o (by omega), mz_u_o (by omega), mz_w_n _ _ (by omega)]
      · have e : mq_in s l b = l := if_neg (fun q => c2 q.2.1)
        rw [e, if_pos c2]
        exact ⟨V, rfl, h, ⟨q1, q2, m, q3, q4, q5⟩, mh_X_rfl V a⟩
  · have e : mq_in s l b = l := if_neg (fun q => hh q.1)
    rw [e]
    exact ⟨V, Y3_queue_no hH hI h ⟨by omega, by omega⟩ (by rw [mr_has_n hb]; exact hh), h, hQ, mh_X_rfl V a⟩
theorem Y3_shake_no (hH : mz_H P a) (hI : mr_I s) (h : mh_R V a s) {x : Int} (hx : nS x) (hn : ¬ mr_has s x) : mv_call X (d + 2) 59 [.ref a, .int (nZ x)] (mz_h P V, z) = some (.inl none, (mz_h P V, z)) := by
  rw [mc_X3_shake, bk_X3_shake_0]
  simp only [mz_rcv hH.1, mv_clI, mv_cl, Y3_has hH hI h hx, nZ_b1, hn, not_false_eq_true, if_true]
theorem Y3_shake (hH : mz_H P a) (hI : mr_I s) (h : mh_R V a s) (hQ : mh_Q V a l) {b : Nat} (hb : b < 10) :
    ∃ V', mv_call X (d + 3) 59 [.ref a, .int (nZ b)] (mz_h P V, z) = some (.inl none, (mz_h P V', z)) ∧ mh_R V' a (mr_shk s b) ∧ mh_Q V' a l ∧ mh_X V V' a := by
  by_cases hh : s (6 + 11 * b) = 1
  · have ha : mr_has s b := by rw [mr_has_n hb]; exact hh
    have h1 := hI.bags hb
    obtain ⟨p1, p2, p3, p4, p5⟩ := (h.1 b hb).2.2.1 hh
    rw [mc_X3_shake, bk_X3_shake_0]
    simp only [mz_rcv hH.1, mv_clI, mv_cl, Y3_has hH hI h (show nS (b : Int) from ⟨by omega, by omega⟩), nZ_b1]
    rw [if_neg (fun q => q ha), mz_gI hH.1 (by decide), mh_bal hH hb, mh_bal hH hb, mz_gI (hH.b hb).1 (by decide), p4, nZ_sub, mz_rcv (hH.b hb).1]
    by_cases c : 0 < s (6 + 11 * b + 4)
    · obtain ⟨n, hn⟩ : ∃ n : Nat, s (6 + 11 * b + 4) = (n : Int) + 1 := ⟨(s (6 + 11 * b + 4)).toNat - 1, by omega⟩
      have hn2 : (s (6 + 11 * b + 4)).toNat - 1 = n := by omega
      have eg := p5 n (by omega)
      have ek : mr_shk s b = mr_up (mr_take s b n) 4 (V a 8 + V (a + 5 + 2 * b + 1) n) := by
        unfold mr_shk
        rw [if_pos ⟨hh, c⟩, hn2, mr_take_up (by omega), eg, h.2.1.2.2.2.2.2]
      rw [ek, hn, show (n : Int) + 1 - 1 = n by omega]
      simp only [X0_removeBag (hH.b hb) (h.1 b hb).1 (k := n) (by omega)]
      rw [nZ_add, mz_pf hH.1 (by decide)]
      refine ⟨_, rfl, mh_R_ct (k := 8) (j := 4) (mh_R_rm h hI.pil.2 hb hh (by omega)) (by rw [mr_take_o (by omega) (by omega)]; exact hI.pil.2) (by omega), mh_Q_c ?_ ?_ ?_ hQ, mh_X_u (mh_X_rm hb) (by omega) (by omega)⟩
      · rw [mz_u_k _ _ (by decide), mh_X_rm_a]
      · rw [mz_u_k _ _ (by decide), mh_X_rm_a]
      · unfold mb_rm
        rw [mz_u_o (by omega), mz_u_o (by omega), mz_u_o (by omega)]
        funext j
        exact mb_sh_o _ _ _ _ (by omega)
    · have ek : mr_shk s b = s := if_neg (fun q => c q.2)
      rw [ek]
      simp only [X0_removeBag_no (hH.b hb) (h.1 b hb).1 (k := s (6 + 11 * b + 4) - 1) ⟨by omega, by omega⟩ (by omega)]
      rw [nZ_add, mz_pf hH.1 (by decide), Int.add_zero]
      have e0 : mz_u V a 8 (V a 8) = V := by
        funext r j
        unfold mz_u
        split
        · next q => rw [q.1, q.2]
        · rfl
      rw [e0]
      exact ⟨V, rfl, h, hQ, mh_X_rfl V a⟩
  · have ek : mr_shk s b = s := if_neg (fun q => hh q.1)
    rw [ek]
    exact ⟨V, Y3_shake_no hH hI h ⟨by omega, by omega⟩ (by rw [mr_has_n hb]; exact hh), h, hQ, mh_X_rfl V a⟩
/-- who waits in the queue is there -/
def mq_hr (s : Nat → Int) (l : List Nat) (n : Nat) : Prop := ∀ i b, n ≤ i → l[i]? = some b → s (6 + 11 * b) = 1
theorem mq_hr_in {s : Nat → Int} {l : List Nat} {n b : Nat} (h : mq_hr s l n) : mq_hr s (mq_in s l b) n := by
  intro i c hi hc
  unfold mq_in at hc
  split at hc
  · next q =>
    rw [List.getElem?_append] at hc
    split at hc
    · exact h i c hi hc
    · have : c = b := by
        have := List.mem_of_getElem? hc
        exact List.mem_singleton.mp this
      rw [this]; exact q.1
  · exact h i c hi hc
theorem mr_shk_h {s : Nat → Int} (hI : mr_I s) {b : Nat} (hb : b < 10) (c : Nat) : mr_shk s b (6 + 11 * c) = s (6 + 11 * c) := by
  have h1 := hI.bags hb
  unfold mr_shk
  split
  · rw [mr_take_o (by rw [mr_up_n _ _ (by omega)]; omega) (by omega), mr_up_n _ _ (by omega)]
  · rfl
theorem mq_hr_sh {x : (Nat → Int) × List Nat} (hI : mr_I x.1) {n : Nat} (h : mq_hr x.1 x.2 n) (b : Nat) : mq_hr (mq_shake x b).1 (mq_shake x b).2 n := by
  unfold mq_shake
  split
  · next hb =>
    refine mq_hr_in (fun i c hi hc => ?_)
    show mr_shk x.1 b (6 + 11 * c) = 1
    rw [mr_shk_h hI hb]
    exact h i c hi hc
  · exact h
theorem mr_clr_h {s : Nat → Int} {b c : Nat} (h : c ≠ b) : mr_clr s b (6 + 11 * c) = s (6 + 11 * c) := mr_zr_n _ (by omega)
theorem mq_hr_st {x : (Nat → Int) × List Nat} (hI : mr_I x.1) (hok : mq_ok x.2) {n b : Nat} (hb : x.2[n]? = some b) (h : mq_hr x.1 x.2 n) : mq_hr (mq_step x b).1 (mq_step x b).2 (n + 1) := by
  have hb10 : b < 10 := hok.2 b (List.mem_of_getElem? hb)
  have h1 : mr_I (mr_clr (mr_up x.1 4 (x.1 4 + mr_bal x.1 b 0)) b) := mr_I_clr (mr_I_up hI (by omega)) hb10
  have h2 : mq_hr (mr_clr (mr_up x.1 4 (x.1 4 + mr_bal x.1 b 0)) b) x.2 (n + 1) := by
    intro i c hi hc
    have hcb : c ≠ b := by
      intro e
      subst e
      obtain ⟨g1, g2⟩ := List.getElem?_eq_some_iff.mp hb
      have := (List.getElem?_inj g1 hok.1).mp (hb.trans hc.symm)
      omega
    rw [mr_clr_h hcb, mr_up_n _ _ (by omega)]
    exact h i c (by omega) hc
  unfold mq_step
  simp only
  split
  · have h3 := mr_I_sh (x := (mr_clr (mr_up x.1 4 (x.1 4 + mr_bal x.1 b 0)) b, x.2)) h1 hok (b - 1)
    exact mq_hr_sh h3.1 (mq_hr_sh (x := (mr_clr (mr_up x.1 4 (x.1 4 + mr_bal x.1 b 0)) b, x.2)) h1 h2 _) _
  · exact mq_hr_sh (x := (mr_clr (mr_up x.1 4 (x.1 4 + mr_bal x.1 b 0)) b, x.2)) h1 h2 _
theorem mq_hr_all {s : Nat → Int} : ∀ n, mq_hr s (mq_all s n) 0
  | 0 => fun i b _ h => by simp [mq_all] at h
  | n + 1 => mq_hr_in (mq_hr_all n)
/-- shake, then into the queue -/
theorem Y3_shq (hH : mz_H P a) (hI : mr_I s) (h : mh_R V a s) (hok : mq_ok l) (hQ : mh_Q V a l) {b : Nat} (hb : b ≤ 10) : ∃ V1 V', mv_call X (d + 4) 59 [.ref a, .int (nZ b)] (mz_h P V, z) = some (.inl none, (mz_h P V1, z)) ∧ mv_call X (d + 4) 60 [.ref a, .int (nZ b)] (mz_h P V1, z) = some (.inl none, (mz_h P V', z)) ∧
    mh_R V' a (mq_shake (s, l) b).1 ∧ mh_Q V' a (mq_shake (s, l) b).2 ∧ mh_X V V' a := by
  by_cases c : b < 10
  · have es : mq_shake (s, l) b = (mr_shk s b, mq_in (mr_shk s b) l b) := if_pos c
    rw [es]
    obtain ⟨V1, e1, r1, g1, x1⟩ := Y3_shake (X := X) (z := z) (d := d + 1) hH hI h hQ c
    obtain ⟨V2, e2, r2, g2, x2⟩ := Y3_queue (X := X) (z := z) (d := d) hH (mr_I_shk hI c) r1 hok g1 c
    exact ⟨V1, V2, e1, e2, r2, g2, mh_X_tr x1 x2⟩
  · have es : mq_shake (s, l) b = (s, l) := if_neg c
    rw [es]
    have hn : ¬ mr_has s (b : Int) := fun q => by have := q.2.1; omega
    exact ⟨V, V, Y3_shake_no (d := d + 2) hH hI h ⟨by omega, by omega⟩ hn, Y3_queue_no (d := d + 2) hH hI h ⟨by omega, by omega⟩ hn, h, hQ, mh_X_rfl V a⟩
theorem Y3_bursts_l (hH : mz_H P a) : ∀ (f n : Nat) (s : Nat → Int) (l : List Nat) (V : mz_V) (j : Value), mr_I s → mh_R V a s → mq_ok l → mh_Q V a l → mq_hr s l n → n ≤ l.length → f + n = 10 →
    ∃ V', mv_run X (mv_call X (d + 4)) m_X3_burstBalloons 31 [.ref a, .int (nZ n), j] [] (mz_h P V, z) = some (.inl (some (.int (nZ (mq_loop f n (s, l)).2.length))), (mz_h P V', z)) ∧
      mh_R V' a (mr_up (mq_loop f n (s, l)).1 1 ((mq_loop f n (s, l)).1 1 + (mq_loop f n (s, l)).2.length)) ∧ mh_X V V' a := by
  have base : ∀ (n : Nat) (s : Nat → Int) (l : List Nat) (V : mz_V) (j : Value), mr_I s → mh_R V a s → mq_ok l → mh_Q V a l → n = l.length → ∃ V', mv_run X (mv_call X (d + 4)) m_X3_burstBalloons 31 [.ref a, .int (nZ n), j] [] (mz_h P V, z) = some (.inl (some (.int (nZ l.length))), (mz_h P V', z)) ∧ mh_R V' a (mr_up s 1 (s 1 + l.length)) ∧ mh_X V V' a := by
    intro n s l V j hI h hok hQ hn
    have hl := mq_len hok
    have hR := mh_R_ct (k := 5) (j := 1) (x := s 1 + l.length) h hI.pil.2 (by omega)
    refine ⟨_, ?_, hR, mh_X_uu (by omega) (by omega)⟩
    rw [bk_X3_burstBalloons_31, mz_gI hH.1 (by decide), hQ.1, hn, if_pos (Int32.le_refl _), mz_gI hH.1 (by decide), mz_gI hH.1 (by decide), hQ.1, nZ_add, mz_pf hH.1 (by decide), mz_gI hH.1 (by decide), mz_u_k _ _ (by decide), hQ.1, h.2.1.2.2.1]
  intro f
  induction f with
  | zero =>
    intro n s l V j hI h hok hQ _ hn hf
    have hl := mq_len hok
    exact base n s l V j hI h hok hQ (by omega)
  | succ f ih =>
    intro n s l V j hI h hok hQ hhr hn hf
    have hl := mq_len hok
    by_cases c : n = l.length
    · have e : mq_loop (f + 1) n (s, l) = (s, l) := by
        unfold mq_loop
        simp only [List.getElem?_eq_none_iff.mpr (Nat.le_of_eq c.symm)]
      rw [e]
      exact base n s l V j hI h hok hQ c
    · have hlt : n < l.length := by omega
      obtain ⟨b, hb⟩ : ∃ b, l[n]? = some b := ⟨_, List.getElem?_eq_getElem hlt⟩
      have hb10 : b < 10 := hok.2 b (List.mem_of_getElem? hb)
      have hh := hhr n b (Nat.le_refl _) hb
      have e : mq_loop (f + 1) n (s, l) = mq_loop f (n + 1) (mq_step (s, l) b) := by
        conv => lhs; unfold mq_loop
        simp only [hb]
      rw [e]
      have hqn : V (a + 4) n = (b : Int) := by rw [hQ.2.1 n hlt, List.getD_eq_getElem?_getD, hb]; rfl
      have hb0 := mb_bal_0 h hb10 hh
      have hp := hI.pil.2
      have hR1 := mh_R_ct (k := 8) (j := 4) (x := V a 8 + V (a + 5 + 2 * b) 4) (mh_R_clr h hp hb10) (by unfold mr_clr; rw [mr_zr_n _ (by omega)]; exact hp) (by omega)
      have ec : mr_up (mr_clr s b) 4 (V a 8 + V (a + 5 + 2 * b) 4) = mr_clr (mr_up s 4 (s 4 + mr_bal s b 0)) b := by rw [mr_clr_up (by omega), hb0, h.2.1.2.2.2.2.2]
      rw [ec] at hR1
      have hI1 : mr_I (mr_clr (mr_up s 4 (s 4 + mr_bal s b 0)) b) := mr_I_clr (mr_I_up hI (by omega)) hb10
      have hQ1 : mh_Q (mz_u (mz_u V (a + 5 + 2 * b) 0 0) a 8 (V a 8 + V (a + 5 + 2 * b) 4)) a l := by
        refine mh_Q_c ?_ ?_ ?_ hQ
        · rw [mz_u_k _ _ (by decide), mz_u_o (by omega)]
        · rw [mz_u_k _ _ (by decide), mz_u_o (by omega)]
        · rw [mz_u_o (by omega), mz_u_o (by omega)]
      have hX1 : mh_X V (mz_u (mz_u V (a + 5 + 2 * b) 0 0) a 8 (V a 8 + V (a + 5 + 2 * b) 4)) a := mh_X_u (mh_X_uu (by omega) (by omega)) (by omega) (by omega)
      have step1 : ∃ W1 W2, mv_call X (d + 4) 59 [.ref a, .int (nZ ((b : Int) - 1))] (mz_h P (mz_u (mz_u V (a + 5 + 2 * b) 0 0) a 8 (V a 8 + V (a + 5 + 2 * b) 4)), z) = some (.inl none, (mz_h P W1, z)) ∧ mv_call X (d + 4) 60 [.ref a, .int (nZ ((b : Int) - 1))] (mz_h P W1, z) = some (.inl none, (mz_h P W2, z)) ∧
          mh_R W2 a (if 0 < b then mq_shake (mr_clr (mr_up s 4 (s 4 + mr_bal s b 0)) b, l) (b - 1) else (mr_clr (mr_up s 4 (s 4 + mr_bal s b 0)) b, l)).1 ∧ mh_Q W2 a (if 0 < b then mq_shake (mr_clr (mr_up s 4 (s 4 + mr_bal s b 0)) b, l) (b - 1) else (mr_clr (mr_up s 4 (s 4 + mr_bal s b 0)) b, l)).2 ∧ mh_X V W2 a := by
        by_cases cb : 0 < b
        · simp only [if_pos cb]
          obtain ⟨W1, W2, g1, g2, g3, g4, g5⟩ := Y3_shq (X := X) (z := z) (d := d) hH hI1 hR1 hok hQ1 (b := b - 1) (by omega)
          rw [show ((b - 1 : Nat) : Int) = (b : Int) - 1 by omega] at g1 g2
          exact ⟨W1, W2, g1, g2, g3, g4, mh_X_tr hX1 g5⟩
        · simp only [if_neg cb]
          have hn1 : ∀ s : Nat → Int, ¬ mr_has s ((b : Int) - 1) := fun s q => by have := q.1; omega
          exact ⟨_, _, Y3_shake_no (d := d + 2) hH hI1 hR1 ⟨by omega, by omega⟩ (hn1 _), Y3_queue_no (d := d + 2) hH hI1 hR1 ⟨by omega, by omega⟩ (hn1 _), hR1, hQ1, hX1⟩
      obtain ⟨W1, W2, g1, g2, g3, g4, g5⟩ := step1
      have hI2 : mr_I (if 0 < b then mq_shake (mr_clr (mr_up s 4 (s 4 + mr_bal s b 0)) b, l) (b - 1) else (mr_clr (mr_up s 4 (s 4 + mr_bal s b 0)) b, l)).1 ∧ mq_ok (if 0 < b then mq_shake (mr_clr (mr_up s 4 (s 4 + mr_bal s b 0)) b, l) (b - 1) else (mr_clr (mr_up s 4 (s 4 + mr_bal s b 0)) b, l)).2 := by
        split
        · exact mr_I_sh (x := (mr_clr (mr_up s 4 (s 4 + mr_bal s b 0)) b, l)) hI1 hok _
        · exact ⟨hI1, hok⟩
      obtain ⟨W3, W4, g6, g7, g8, g9, g10⟩ := Y3_shq (X := X) (z := z) (d := d) hH hI2.1 g3 hI2.2 g4 (b := b + 1) (by omega)
      rw [nc1] at g6 g7
      have est : mq_step (s, l) b = mq_shake (if 0 < b then mq_shake (mr_clr (mr_up s 4 (s 4 + mr_bal s b 0)) b, l) (b - 1) else (mr_clr (mr_up s 4 (s 4 + mr_bal s b 0)) b, l)) (b + 1) := rfl
      have hst := mr_I_st (x := (s, l)) hI hok hb10
      have hst2 := mq_hr_st (x := (s, l)) hI hok hb hhr
      have hle : n + 1 ≤ (mq_step (s, l) b).2.length := by
        have g1 : ∀ (x : (Nat → Int) × List Nat) c, x.2.length ≤ (mq_shake x c).2.length := by
          intro x c
          unfold mq_shake
          split
          · unfold mq_in
            split
            · rw [List.length_append]; omega
            · exact Nat.le_refl _
          · exact Nat.le_refl _
        have g2 : l.length ≤ (if 0 < b then mq_shake (mr_clr (mr_up s 4 (s 4 + mr_bal s b 0)) b, l) (b - 1) else (mr_clr (mr_up s 4 (s 4 + mr_bal s b 0)) b, l)).2.length := by
          split
          · exact g1 (mr_clr (mr_up s 4 (s 4 + mr_bal s b 0)) b, l) _
          · exact Nat.le_refl _
        rw [est]
        have := g1 (if 0 < b then mq_shake (mr_clr (mr_up s 4 (s 4 + mr_bal s b 0)) b, l) (b - 1) else (mr_clr (mr_up s 4 (s 4 + mr_bal s b 0)) b, l)) (b + 1)
        omega
      obtain ⟨V', e3, r3, x3⟩ := ih (n + 1) (mq_step (s, l) b).1 (mq_step (s, l) b).2 W4 (.int (nZ b)) hst.1 g8 hst.2 g9 hst2 hle (by omega)
      refine ⟨V', ?_, r3, mh_X_tr g5 (mh_X_tr g10 x3)⟩
      rw [nc1] at e3
      rw [bk_X3_burstBalloons_31, mz_gI hH.1 (by decide), hQ.1, if_neg (by rw [nZ_le ⟨by omega, by omega⟩ ⟨by omega, by omega⟩]; omega), if_neg (by rw [nZ_le ⟨by omega, by omega⟩ ⟨by omega, by omega⟩]; omega)]
      rw [mz_gR hH.1 (by decide) hH.2.2.2.2.2.2.2.2.2.1, mz_aJ hH.2.2.2.2.2.2.2.2.2.2 (by omega) (by omega) (by decide), Int.toNat_natCast, hqn, mh_bal hH hb10, mv_chk_t (by decide), mz_pf (hH.b hb10).1 (by decide), mz_gI hH.1 (by decide), mh_bal hH hb10, mz_gI (hH.b hb10).1 (by decide), mz_u_o (show a ≠ a + 5 + 2 * b by omega), mz_u_k _ _ (show (4 : Nat) ≠ 0 by decide), nZ_add, mz_pf hH.1 (by decide)]
      simp only [mz_rcv hH.1, nZ_sub, nZ_add, mv_clV, mv_cl, g1, g2, g6, g7]
      exact e3
theorem Y3_bursts (hH : mz_H P a) (hI : mr_I s) (h : mh_R V a s) : ∃ V', mv_call X (d + 5) 58 [.ref a] (mz_h P V, z) = some (.inl (some (.int (nZ (mq_loop 10 0 (s, mq_all s 10)).2.length))), (mz_h P V', z)) ∧
      mh_R V' a (mr_up (mq_loop 10 0 (s, mq_all s 10)).1 1 ((mq_loop 10 0 (s, mq_all s 10)).1 1 + (mq_loop 10 0 (s, mq_all s 10)).2.length)) ∧ mh_X V V' a := by
  rw [mc_X3_burstBalloons, bk_X3_burstBalloons_0, mz_pf hH.1 (by decide), mz_pf hH.1 (by decide)]
  have key := mz_loop (φ := fun i => ∀ W, mh_R W a s → mh_Q W a (mq_all s i) → ∃ V', mv_run X (mv_call X (d + 4)) m_X3_burstBalloons 12 [.ref a, .int (nZ i), .retAddr 0] [] (mz_h P W, z) = some (.inl (some (.int (nZ (mq_loop 10 0 (s, mq_all s 10)).2.length))), (mz_h P V', z)) ∧
      mh_R V' a (mr_up (mq_loop 10 0 (s, mq_all s 10)).1 1 ((mq_loop 10 0 (s, mq_all s 10)).1 1 + (mq_loop 10 0 (s, mq_all s 10)).2.length)) ∧ mh_X W V' a) 10 ?_ (fun i hi ih => ?_) 0 (Nat.zero_le _) (mz_u (mz_u V a 10 0) a 11 0) (mh_R_q hI.pil.2 (fun r h1 _ => by rw [mz_u_o h1, mz_u_o h1]) (fun k hk => by rw [mz_u_k _ _ (by omega), mz_u_k _ _ (by omega)]) h) ⟨by rw [mz_u_k _ _ (by decide), mz_u_s]; rfl, fun i hi => absurd hi (Nat.not_lt_zero _), 0, by rw [mz_u_s]; rfl, by decide, fun k _ => by simp [mq_all]⟩
  · obtain ⟨V', e1, e2, e3⟩ := key
    exact ⟨V', e1, e2, mh_X_tr (mh_X_u (mh_X_uu (by omega) (by omega)) (by omega) (by omega)) e3⟩
  · intro W hW hQ
    obtain ⟨V', e1, e2, e3⟩ := Y3_bursts_l (X := X) (z := z) (d := d) hH 10 0 s (mq_all s 10) W (.retAddr 0) hI hW (mq_all_ok s 10 (Nat.le_refl _)) hQ (mq_hr_all 10) (Nat.zero_le _) rfl
    refine ⟨V', ?_, e2, e3⟩
    rw [bk_X3_burstBalloons_12, if_pos (by exact Int32.le_refl _)]
    exact e1
  · intro W hW hQ
    obtain ⟨W1, e1, r1, g1, x1⟩ := Y3_queue (X := X) (z := z) (d := d) hH hI hW (mq_all_ok s i (by omega)) hQ hi
    obtain ⟨V', e2, r2, x2⟩ := ih W1 r1 g1
    refine ⟨V', ?_, r2, mh_X_tr x1 x2⟩
    rw [nc1] at e2
    rw [bk_X3_burstBalloons_12, if_neg (by rw [nZ_le ⟨by omega, by omega⟩ ⟨by omega, by omega⟩]; omega), mz_rcv hH.1]
    simp only [mv_clV, mv_cl, e1, nZ_add]
    exact e2
/-- one berth's lift -/
theorem mh_R_lft (h : mh_R V a s) (hp : s 5 ≤ 6) {i : Nat} (hi : i < 10) {t : Int} (ht : t = 1 ∨ t = -1) : mh_R (if 1 ≤ V (a + 5 + 2 * i) 1 + t ∧ V (a + 5 + 2 * i) 1 + t ≤ 99 then mz_u V (a + 5 + 2 * i) 1 (V (a + 5 + 2 * i) 1 + t) else V) a
    (if s (6 + 11 * i) = 0 then s else mr_up s (6 + 11 * i + 1) (if s (6 + 11 * i + 1) + t ≤ 99 then (if 1 ≤ s (6 + 11 * i + 1) + t then s (6 + 11 * i + 1) + t else 1) else 99)) := by
  obtain ⟨hB, g2, g3, g4⟩ := h.1 i hi
  have l1 := hB.lift1
  have l2 := hB.lift2
  have hV : ∀ r, r ≠ a + 5 + 2 * i → (if 1 ≤ V (a + 5 + 2 * i) 1 + t ∧ V (a + 5 + 2 * i) 1 + t ≤ 99 then mz_u V (a + 5 + 2 * i) 1 (V (a + 5 + 2 * i) 1 + t) else V) r = V r := fun r hr => by
    split
    · exact mz_u_o hr
    · rfl
  have hk : ∀ k, k ≠ 1 → (if 1 ≤ V (a + 5 + 2 * i) 1 + t ∧ V (a + 5 + 2 * i) 1 + t ≤ 99 then mz_u V (a + 5 + 2 * i) 1 (V (a + 5 + 2 * i) 1 + t) else V) (a + 5 + 2 * i) k = V (a + 5 + 2 * i) k := fun k hk => by
    split
    · exact mz_u_k _ _ hk
    · rfl
  have h1 : (if 1 ≤ V (a + 5 + 2 * i) 1 + t ∧ V (a + 5 + 2 * i) 1 + t ≤ 99 then mz_u V (a + 5 + 2 * i) 1 (V (a + 5 + 2 * i) 1 + t) else V) (a + 5 + 2 * i) 1 = if V (a + 5 + 2 * i) 1 + t ≤ 99 then (if 1 ≤ V (a + 5 + 2 * i) 1 + t then V (a + 5 + 2 * i) 1 + t else 1) else 99 := by
    by_cases c : 1 ≤ V (a + 5 + 2 * i) 1 + t ∧ V (a + 5 + 2 * i) 1 + t ≤ 99
    · rw [if_pos c, mz_u_s, if_pos c.2, if_pos c.1]
    · rw [if_neg c]
      repeat' split
      all_goals omega
  generalize (if 1 ≤ V (a + 5 + 2 * i) 1 + t ∧ V (a + 5 + 2 * i) 1 + t ≤ 99 then mz_u V (a + 5 + 2 * i) 1 (V (a + 5 + 2 * i) 1 + t) else V) = W at *
  have hBW : mz_BI W (a + 5 + 2 * i) := by
    unfold mz_BI
    rw [hk 0 (by decide), hk 2 (by decide), hk 3 (by decide), hk 4 (by decide), hk 5 (by decide), hV (a + 5 + 2 * i + 1) (by omega), h1]
    obtain ⟨b0, b1, b2, b3⟩ := hB
    refine ⟨b0, ?_, ?_, b3⟩
    · repeat' split
      all_goals omega
    · repeat' split
      all_goals omega
  by_cases c0 : s (6 + 11 * i) = 0
  · rw [if_pos c0]
    refine mh_R_b h hp (fun r _ h2 _ => hV r h2) (fun j _ _ => rfl) hi ⟨hBW, by rw [hk 0 (by decide)]; exact g2, fun q => by rw [c0] at q; exact absurd q (by decide), g4⟩ ?_
    have := h.2.1
    unfold mh_C at this ⊢
    rw [hV a (by omega)]
    exact this
  · rw [if_neg c0]
    have hh : s (6 + 11 * i) = 1 := by
      rcases hB.moored with q | q
      · rw [g2] at q; exact absurd q c0
      · rw [g2] at q; exact q
    obtain ⟨p1, p2, p3, p4, p5⟩ := g3 hh
    rw [← p1]
    refine mh_R_b h hp (fun r _ h2 _ => hV r h2) (fun j _ hj => mr_up_n _ _ (by omega)) hi ⟨hBW, ?_, fun q => ?_, fun q => ?_⟩ ?_
    · rw [hk 0 (by decide), mr_up_n _ _ (by omega)]; exact g2
    · rw [hk 2 (by decide), hk 3 (by decide), hk 5 (by decide), hV (a + 5 + 2 * i + 1) (by omega), h1, mr_up_s, mr_up_n _ _ (by omega), mr_up_n _ _ (by omega), mr_up_n _ _ (by omega)]
      refine ⟨rfl, p2, p3, p4, fun k hk => ?_⟩
      rw [mr_up_n _ _ (by omega)]
      exact p5 k hk
    · rw [mr_up_n _ _ (by omega), hh] at q; exact absurd q (by decide)
    · have := h.2.1
      unfold mh_C at this ⊢
      rw [hV a (by omega), mr_up_n _ _ (by omega), mr_up_n _ _ (by omega), mr_up_n _ _ (by omega), mr_up_n _ _ (by omega), mr_up_n _ _ (by omega), mr_up_n _ _ (by omega)]
      exact this
theorem mh_R_h (h : mh_R V a s) (hp : s 5 ≤ 6) {x : Int} : mh_R (mz_u V a 4 x) a (mr_up s 0 x) := by
  obtain ⟨g1, ⟨c1, c2, c3, c4, c5, c6⟩, g3⟩ := h
  refine ⟨fun i hi => mb_R_c (mz_u_o (by omega)) (mz_u_o (by omega)) (fun q _ => mr_up_n _ _ (by omega)) (g1 i hi), ?_, mh_W_c (mz_u_o (by omega)) (fun j _ => mz_u_o (by omega)) (mr_up_n _ _ (by omega)) (fun j hj => mr_up_n _ _ (by omega)) hp g3⟩
  unfold mh_C
  simp [mz_u, mr_up, c1, c2, c3, c4, c5, c6]
/-- hours that pass -/
theorem Y3_passHours_l (hH : mz_H P a) (hI : mr_I s) {n : Nat} (hn : n ≤ 48) (hh : s 0 + n ≤ 999999999) : ∀ i, i ≤ n → ∀ (V : mz_V) (j4 j5 : Value), mh_R V a (mr_pas s i).1 →
    ∃ V', mv_run X (mv_call X (d + 5)) m_X3_passHours 4 [.ref a, .int (nZ n), .int (nZ (mr_pas s i).2), .int (nZ i), j4, j5] [] (mz_h P V, z) = some (.inl (some (.int (nZ (mr_pas s n).2))), (mz_h P V', z)) ∧ mh_R V' a (mr_pas s n).1 ∧ mh_X V V' a := by
  refine mz_loop (φ := fun i => ∀ (V : mz_V) (j4 j5 : Value), mh_R V a (mr_pas s i).1 → ∃ V', mv_run X (mv_call X (d + 5)) m_X3_passHours 4 [.ref a, .int (nZ n), .int (nZ (mr_pas s i).2), .int (nZ i), j4, j5] [] (mz_h P V, z) = some (.inl (some (.int (nZ (mr_pas s n).2))), (mz_h P V', z)) ∧ mh_R V' a (mr_pas s n).1 ∧ mh_X V V' a) n ?_ (fun i hi ih => ?_)
  · intro V j4 j5 h
    refine ⟨V, ?_, h, mh_X_rfl V a⟩
    rw [bk_X3_passHours_4, if_pos (by exact Int32.le_refl _)]
  · intro V j4 j5 h
    have hIi := mr_pas_I hI i (by omega)
    generalize hs : (mr_pas s i).1 = s1 at *
    have e1 : (mr_pas s (i + 1)).1 = (mr_hr s1).1 := by rw [← hs]; rfl
    have e2 : ((mr_pas s (i + 1)).2 : Int) = (mr_pas s i).2 + (mr_hr s1).2 := by
      rw [← hs]
      show (((mr_pas s i).2 + (mr_hr (mr_pas s i).1).2 : Nat) : Int) = _
      omega
    rw [e1, nc1, e2] at ih
    have h0 := hIi.1.hour
    have hp := hIi.1.pil.2
    have hI0 : mr_I (mr_up s1 0 (s1 0 + 1)) := mr_I_h hIi.1 (by omega) (by omega)
    have hR0 : mh_R (mz_u V a 4 (V a 4 + 1)) a (mr_up s1 0 (s1 0 + 1)) := by
      have := mh_R_h (x := V a 4 + 1) h hp
      rw [h.2.1.2.1] at this ⊢
      exact this
    have hX0 : mh_X V (mz_u V a 4 (V a 4 + 1)) a := mh_X_uu (by omega) (by omega)
    -- the lifts
    have lifts : ∀ (t : Int), t = mr_day (mr_up s1 0 (s1 0 + 1)) → ∀ k, k ≤ 10 → ∀ W, mh_R W a (mr_lft (mr_up s1 0 (s1 0 + 1)) t k) → mh_X V W a →
        ∃ V', mv_run X (mv_call X (d + 5)) m_X3_passHours 43 [.ref a, .int (nZ n), .int (nZ (mr_pas s i).2), .int (nZ i), .int (nZ t), .int (nZ k)] [] (mz_h P W, z) = some (.inl (some (.int (nZ (mr_pas s n).2))), (mz_h P V', z)) ∧ mh_R V' a (mr_pas s n).1 ∧ mh_X V V' a := by
      intro t ht
      have ht2 : t = 1 ∨ t = -1 := by rw [ht]; unfold mr_day; split <;> omega
      refine mz_loop (φ := fun k => ∀ W, mh_R W a (mr_lft (mr_up s1 0 (s1 0 + 1)) t k) → mh_X V W a → ∃ V', mv_run X (mv_call X (d + 5)) m_X3_passHours 43 [.ref a, .int (nZ n), .int (nZ (mr_pas s i).2), .int (nZ i), .int (nZ t), .int (nZ k)] [] (mz_h P W, z) = some (.inl (some (.int (nZ (mr_pas s n).2))), (mz_h P V', z)) ∧ mh_R V' a (mr_pas s n).1 ∧ mh_X V V' a) 10 ?_ (fun k hk ihk => ?_)
      · intro W hW hXW
        obtain ⟨W1, b1, b2, b3⟩ := Y3_bursts (X := X) (z := z) (d := d) hH (mr_I_lft hI0 t 10 (Nat.le_refl _)) hW
        have b4 : mh_R W1 a (mr_hr s1).1 := by
          rw [ht] at b2
          exact b2
        have b5 : (mq_loop 10 0 (mr_lft (mr_up s1 0 (s1 0 + 1)) t 10, mq_all (mr_lft (mr_up s1 0 (s1 0 + 1)) t 10) 10)).2.length = (mr_hr s1).2 := by rw [ht]; rfl
        rw [b5] at b1
        obtain ⟨V', c1, c2, c3⟩ := ih W1 (.int (nZ t)) (.int (nZ (10 : Nat))) b4
        refine ⟨V', ?_, c2, mh_X_tr hXW (mh_X_tr b3 c3)⟩
        rw [bk_X3_passHours_43, if_pos (by exact Int32.le_refl _), mz_rcv hH.1]
        simp only [mv_clI, mv_cl, b1, nZ_add]
        exact c1
      · intro W hW hXW
        have hIk := mr_I_lft hI0 t k (by omega)
        have hR2 := mh_R_lft hW hIk.pil.2 hk ht2
        have e3 : mr_lft (mr_up s1 0 (s1 0 + 1)) t (k + 1) = if mr_lft (mr_up s1 0 (s1 0 + 1)) t k (6 + 11 * k) = 0 then mr_lft (mr_up s1 0 (s1 0 + 1)) t k else mr_up (mr_lft (mr_up s1 0 (s1 0 + 1)) t k) (6 + 11 * k + 1) (if mr_lft (mr_up s1 0 (s1 0 + 1)) t k (6 + 11 * k + 1) + t ≤ 99 then (if 1 ≤ mr_lft (mr_up s1 0 (s1 0 + 1)) t k (6 + 11 * k + 1) + t then mr_lft (mr_up s1 0 (s1 0 + 1)) t k (6 + 11 * k + 1) + t else 1) else 99) := rfl
        rw [← e3] at hR2
        have hX2 : mh_X V (if 1 ≤ W (a + 5 + 2 * k) 1 + t ∧ W (a + 5 + 2 * k) 1 + t ≤ 99 then mz_u W (a + 5 + 2 * k) 1 (W (a + 5 + 2 * k) 1 + t) else W) a := by
          split
          · exact mh_X_u hXW (by omega) (by omega)
          · exact hXW
        obtain ⟨V', c1, c2, c3⟩ := ihk _ hR2 hX2
        refine ⟨V', ?_, c2, c3⟩
        rw [nc1] at c1
        rw [bk_X3_passHours_43, if_neg (by rw [nZ_le ⟨by omega, by omega⟩ ⟨by omega, by omega⟩]; omega), mh_bal hH hk, mz_rcv (hH.b hk).1]
        simp only [mv_clV, mv_cl, X0_changeLift (hH.b hk) (hW.1 k hk).1 ht2, nZ_add]
        exact c1
    have hn1 : (mr_up s1 0 (s1 0 + 1) 0) = V a 4 + 1 := by rw [mr_up_s, h.2.1.2.1]
    have hod := X3_hourOfDay (X := X) (z := z) (d := d + 4) hH (hR0.HI hI0)
    have h4 : (mz_u V a 4 (V a 4 + 1)) a 4 = mr_up s1 0 (s1 0 + 1) 0 := by rw [mz_u_s, hn1]
    rw [h4] at hod
    have hx : 0 ≤ mr_up s1 0 (s1 0 + 1) 0 := by rw [mr_up_s]; omega
    rw [bk_X3_passHours_4, if_neg (by rw [nZ_le ⟨by omega, by omega⟩ ⟨by omega, by omega⟩]; omega), mz_gI hH.1 (by decide), nZ_add, mz_pf hH.1 (by decide), mz_rcv hH.1]
    simp only [mv_clI, mv_cl, hod, X8_isWithin (show nS (mr_up s1 0 (s1 0 + 1) 0 % 24) from ⟨by omega, by omega⟩) (show nS 6 by decide) (show nS 17 by decide), nZ_b1]
    by_cases cd : 6 ≤ mr_up s1 0 (s1 0 + 1) 0 % 24 ∧ mr_up s1 0 (s1 0 + 1) 0 % 24 ≤ 17
    · rw [if_neg (fun q => q cd)]
      exact lifts 1 (by unfold mr_day; rw [if_pos cd]) 0 (Nat.zero_le _) _ hR0 hX0
    · rw [if_pos cd]
      exact lifts (-1) (by unfold mr_day; rw [if_neg cd]) 0 (Nat.zero_le _) _ hR0 hX0
theorem Y3_passHours (hH : mz_H P a) (hI : mr_I s) (h : mh_R V a s) {n : Nat} (hn : n ≤ 48) (hh : s 0 + n ≤ 999999999) :
    ∃ V', mv_call X (d + 6) 57 [.ref a, .int (nZ n)] (mz_h P V, z) = some (.inl (some (.int (nZ (mr_pas s n).2))), (mz_h P V', z)) ∧ mh_R V' a (mr_pas s n).1 ∧ mh_X V V' a := by
  rw [mc_X3_passHours, bk_X3_passHours_0]
  exact Y3_passHours_l hH hI hn hh 0 (Nat.zero_le _) V _ _ h
end HOUR
