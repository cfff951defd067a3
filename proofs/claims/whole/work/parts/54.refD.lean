/-! THE REFERENCE: waits, shakes, an hour -/
theorem nZ_b1 {p : Prop} {i : Decidable p} : (nZ (@ite _ p i 1 0) = 0) = ¬ p := by
  cases i with
  | isTrue h => exact propext ⟨fun e => absurd e (show ¬ nZ 1 = 0 by decide), fun e => absurd h e⟩
  | isFalse h => exact propext ⟨fun _ => h, fun _ => rfl⟩
theorem nZ_b0 {p : Prop} {i : Decidable p} : (nZ (@ite _ p i 0 1) = 0) = p := by
  cases i with
  | isTrue h => exact propext ⟨fun _ => h, fun _ => rfl⟩
  | isFalse h => exact propext ⟨fun e => absurd e (show ¬ nZ 1 = 0 by decide), fun e => absurd e h⟩
theorem nZ_10 : (nZ 1 = 0) = False := by decide
theorem nZ_00 : (nZ 0 = 0) = True := by decide
section REFD
variable {X : mv_X} {P : mz_P} {V : mz_V} {z : Nat × Nat} {m d : Nat} {s q u : Nat → Int} {w : Int} {l : List Nat}
theorem X9_waits (hM : mr_M P m) (h0 : 0 ≤ w) (h1 : w < 10) {b : Nat} (hb : b < 10) : mv_call X (d + 1) 175 [.ref m, .int (nZ b)] (mz_h P (mr_q V m s q u w), z) = some (.inl none, (mz_h P (mr_q V m s (mr_up q w.toNat b) (mr_up u b 1) (w + 1)), z)) := by
  rw [mc_X9_waits, bk_X9_waits_0]
  simp (disch := first | decide | omega) only [mr_gqu hM, mz_gI hM.o, mr_q_w, mr_pqu hM, mr_q_q, mr_q_wq, mr_gqd hM, mr_pqd hM, mr_q_u, mr_q_wu, Int.toNat_natCast, nZ_add, mz_pW hM.o, mr_q_ww]
theorem mr_has_n {s : Nat → Int} {b : Nat} (hb : b < 10) : mr_has s b = (s (6 + 11 * b) = 1) := by
  unfold mr_has
  rw [Int.toNat_natCast]
  exact propext ⟨fun h => h.2.2, fun h => ⟨by omega, by omega, h⟩⟩
theorem X9_hereN (hM : mr_M P m) (hI : mr_I (V (m + 1))) {b : Nat} (hb : b < 10) : mv_call X (d + 3) 160 [.ref m, .int (nZ b)] (mz_h P V, z) = some (.inl (some (.int (nZ (if V (m + 1) (6 + 11 * b) = 1 then 1 else 0)))), (mz_h P V, z)) := by
  rw [X9_isHere hM hI ⟨by omega, by omega⟩]
  by_cases c : V (m + 1) (6 + 11 * b) = 1
  · rw [if_pos c, if_pos (by rw [mr_has_n hb]; exact c)]
  · rw [if_neg c, if_neg (by rw [mr_has_n hb]; exact c)]
/-- the end of 'shakes' -/
theorem X9_shakes_e (hM : mr_M P m) (hI : mr_I s) (hok : mq_ok l) (hQ : mr_Q l q u w) {b : Nat} (hb : b < 10) (hh : s (6 + 11 * b) = 1) :
    ∃ q' u' w', (if mr_ho s b 0 ≤ s (6 + 11 * b + 3) then some (Sum.inl none, (mz_h P (mr_q V m s q u w), z)) else if nZ (u b) = 0 then some (Sum.inl none, (mz_h P (mr_q V m s (mr_up q w.toNat b) (mr_up u b 1) (w + 1)), z)) else some (Sum.inl none, (mz_h P (mr_q V m s q u w), z)) : Option mv_R) = some (.inl none, (mz_h P (mr_q V m s q' u' w'), z)) ∧ mr_Q (mq_in s l b) q' u' w' := by
  by_cases c1 : mr_ho s b 0 ≤ s (6 + 11 * b + 3)
  · refine ⟨q, u, w, if_pos c1, ?_⟩
    unfold mq_in
    rw [if_neg (by omega)]
    exact hQ
  · rw [if_neg c1]
    have hu := hQ.2.2 b hb
    by_cases c2 : b ∈ l
    · rw [if_pos c2] at hu
      refine ⟨q, u, w, if_neg (by rw [hu]; decide), ?_⟩
      unfold mq_in
      rw [if_neg (fun q => q.2.2 c2)]
      exact hQ
    · rw [if_neg c2] at hu
      refine ⟨_, _, _, if_pos (by rw [hu]; rfl), ?_⟩
      unfold mq_in
      rw [if_pos ⟨hh, by omega, c2⟩]
      have := mr_Q_push hQ (b := b)
      rw [hQ.1, Int.toNat_natCast]
      rw [hQ.1] at this
      exact this
theorem X9_shakes (hM : mr_M P m) (hI : mr_I s) (hok : mq_ok l) (hQ : mr_Q l q u w) {b : Nat} (hb : b ≤ 10) :
    ∃ q' u' w', mv_call X (d + 7) 176 [.ref m, .int (nZ b)] (mz_h P (mr_q V m s q u w), z) = some (.inl none, (mz_h P (mr_q V m (mq_shake (s, l) b).1 q' u' w'), z)) ∧ mr_Q (mq_shake (s, l) b).2 q' u' w' := by
  have hI' : mr_I (mr_q V m s q u w (m + 1)) := by rw [mr_q_s]; exact hI
  have hw := hQ.1
  have hl := mq_len hok
  rw [mc_X9_shakes, bk_X9_shakes_0]
  by_cases h10 : b < 10
  · have es : mq_shake (s, l) b = (mr_shk s b, mq_in (mr_shk s b) l b) := if_pos h10
    rw [es]
    have h1 := hI.bags h10
    by_cases hh : s (6 + 11 * b) = 1
    · have hw10 : b ∉ l → w < 10 := fun hn => by have := mq_lt hok h10 hn; omega
      by_cases hn : 0 < s (6 + 11 * b + 4)
      · have ek : mr_shk s b = mr_take (mr_up s 4 (s 4 + s (6 + 11 * b + (5 + ((s (6 + 11 * b + 4)).toNat - 1))))) b ((s (6 + 11 * b + 4)).toNat - 1) := if_pos ⟨hh, hn⟩
        obtain ⟨n, en⟩ : ∃ n : Nat, s (6 + 11 * b + 4) = (n : Int) + 1 := ⟨(s (6 + 11 * b + 4)).toNat - 1, by omega⟩
        have en2 : (s (6 + 11 * b + 4)).toNat - 1 = n := by omega
        rw [ek, en2]
        have hI1 : mr_I (mr_up s 4 (s 4 + s (6 + 11 * b + (5 + n)))) := mr_I_up hI (by omega)
        have e4 : mr_up s 4 (s 4 + s (6 + 11 * b + (5 + n))) (6 + 11 * b + 4) = (n : Int) + 1 := by rw [mr_up_n _ _ (by omega)]; exact en
        have hI2 : mr_I (mr_take (mr_up s 4 (s 4 + s (6 + 11 * b + (5 + n)))) b n) := mr_I_take hI1 h10 (by rw [e4]; omega)
        have hh2 : mr_take (mr_up s 4 (s 4 + s (6 + 11 * b + (5 + n)))) b n (6 + 11 * b) = 1 := by
          rw [mr_take_o (by rw [e4]; omega) (by omega), mr_up_n _ _ (by omega)]; exact hh
        have hI1' : mr_I (mr_q V m (mr_up s 4 (s 4 + s (6 + 11 * b + (5 + n)))) q u w (m + 1)) := by rw [mr_q_s]; exact hI1
        have hI2' : mr_I (mr_q V m (mr_take (mr_up s 4 (s 4 + s (6 + 11 * b + (5 + n)))) b n) q u w (m + 1)) := by rw [mr_q_s]; exact hI2
        have e7 : (5 + ((n : Int) + 1) - 1).toNat = 5 + n := by omega
        have et := X9_takesBag (X := X) (z := z) (d := d + 4) (V := mr_q V m (mr_up s 4 (s 4 + s (6 + 11 * b + (5 + n)))) q u w) (k := n) hM hI1' h10 (by rw [mr_q_s, e4]; omega)
        rw [mr_q_s, mr_q_ws] at et
        have hfin := X9_shakes_e (P := P) (V := V) (z := z) hM hI2 hok hQ h10 hh2
        obtain ⟨q', u', w', h5, h6⟩ := hfin
        refine ⟨q', u', w', ?_, h6⟩
        rw [← h5]
        simp (disch := first | decide | omega | (apply And.intro <;> omega)) only [mz_rcv hM.o, mv_clI, mv_clV, mv_cl, X9_hereN hM hI' h10, mr_q_s, hh, if_true, nZ_10, nZ_b1, not_true, if_false, X9_ofz hM, Int.reduceToNat, en, nZ_le0,
          show ¬ ((n : Int) + 1 ≤ 0) by omega, mr_gs hM, mr_as hM, nZ_add, nZ_sub, e7, mr_ps hM, mr_q_ws, e4, show ((n : Int) + 1 - 1) = n by omega, et, X9_isTooHigh hM hI2' h10, nZ_b0, mr_gqd hM, mr_aqd hM, Int.toNat_natCast, mr_q_u]
        by_cases c1 : mr_ho (mr_take (mr_up s 4 (s 4 + s (6 + 11 * b + (5 + n)))) b n) b 0 ≤ mr_take (mr_up s 4 (s 4 + s (6 + 11 * b + (5 + n)))) b n (6 + 11 * b + 3)
        · rw [if_pos c1, if_pos c1]
        · rw [if_neg c1, if_neg c1]
          by_cases c2 : nZ (u b) = 0
          · rw [if_pos c2, if_pos c2, X9_waits hM (by omega) (hw10 (fun hm => by rw [hQ.2.2 b h10, if_pos hm] at c2; exact absurd c2 (by decide))) h10]
          · rw [if_neg c2, if_neg c2]
      · have ek : mr_shk s b = s := if_neg (fun q => hn q.2)
        rw [ek]
        have hfin := X9_shakes_e (P := P) (V := V) (z := z) hM hI hok hQ h10 hh
        obtain ⟨q', u', w', h5, h6⟩ := hfin
        refine ⟨q', u', w', ?_, h6⟩
        rw [← h5]
        simp (disch := first | decide | omega | (apply And.intro <;> omega)) only [mz_rcv hM.o, mv_clI, mv_clV, mv_cl, X9_hereN hM hI' h10, mr_q_s, hh, if_true, nZ_10, nZ_b1, not_true, if_false, X9_ofz hM, Int.reduceToNat, nZ_le0,
          show s (6 + 11 * b + 4) ≤ 0 by omega, X9_isTooHigh hM hI' h10, nZ_b0, mr_gqd hM, mr_aqd hM, Int.toNat_natCast, mr_q_u]
        by_cases c1 : mr_ho s b 0 ≤ s (6 + 11 * b + 3)
        · rw [if_pos c1, if_pos c1]
        · rw [if_neg c1, if_neg c1]
          by_cases c2 : nZ (u b) = 0
          · rw [if_pos c2, if_pos c2, X9_waits hM (by omega) (hw10 (fun hm => by rw [hQ.2.2 b h10, if_pos hm] at c2; exact absurd c2 (by decide))) h10]
          · rw [if_neg c2, if_neg c2]
    · have ek : mr_shk s b = s := if_neg (fun q => hh q.1)
      rw [ek]
      have e2 : mq_in s l b = l := if_neg (fun q => hh q.1)
      refine ⟨q, u, w, ?_, by rw [e2]; exact hQ⟩
      simp only [mz_rcv hM.o, mv_clI, mv_cl, X9_hereN hM hI' h10, mr_q_s, nZ_b1, hh, not_false_eq_true, if_true]
  · have es : mq_shake (s, l) b = (s, l) := if_neg h10
    rw [es]
    refine ⟨q, u, w, ?_, hQ⟩
    have hno : ¬ mr_has (mr_q V m s q u w (m + 1)) (b : Int) := fun q => by have := q.2.1; omega
    simp only [mz_rcv hM.o, mv_clI, mv_cl, X9_isHere hM hI' (show nS (b : Int) from ⟨by omega, by omega⟩), nZ_b1, hno, not_false_eq_true, if_true]
theorem X9_shakes_m (hM : mr_M P m) (hI : mr_I (V (m + 1))) : mv_call X (d + 7) 176 [.ref m, .int (nZ (-1))] (mz_h P V, z) = some (.inl none, (mz_h P V, z)) := by
  have hno : ¬ mr_has (V (m + 1)) (-1) := fun q => by have := q.1; omega
  rw [mc_X9_shakes, bk_X9_shakes_0]
  simp only [mz_rcv hM.o, mv_clI, mv_cl, X9_isHere hM hI (show nS (-1) by decide), nZ_b1, hno, not_false_eq_true, if_true]
/-- the bursts -/
theorem X9_bursts_l (hM : mr_M P m) (v1 : Int32) : ∀ (f n : Nat) (s q u : Nat → Int) (w : Int) (l : List Nat) (j : Value), mr_I s → mq_ok l → mr_Q l q u w → n ≤ l.length → f + n = 10 →
    ∃ q' u' w', mv_run X (mv_call X (d + 7)) m_X9_oneHour 141 [.ref m, .int v1, .int (nZ n), j] [] (mz_h P (mr_q V m s q u w), z) =
      some (.inl (some (.int (nZ (mq_loop f n (s, l)).2.length))), (mz_h P (mr_q V m (mr_up (mq_loop f n (s, l)).1 1 ((mq_loop f n (s, l)).1 1 + (mq_loop f n (s, l)).2.length)) q' u' w'), z)) := by
  have base : ∀ (n : Nat) (s q u : Nat → Int) (w : Int) (l : List Nat) (j : Value), mr_I s → mq_ok l → mr_Q l q u w → n = l.length → mv_run X (mv_call X (d + 7)) m_X9_oneHour 141 [.ref m, .int v1, .int (nZ n), j] [] (mz_h P (mr_q V m s q u w), z) = some (.inl (some (.int (nZ l.length))), (mz_h P (mr_q V m (mr_up s 1 (s 1 + l.length)) q u w), z)) := by
    intro n s q u w l j hI hok hQ hn
    have hl := mq_len hok
    rw [bk_X9_oneHour_141]
    simp (disch := first | decide | omega) only [mz_gI hM.o, mr_q_w, hQ.1, hn]
    rw [if_pos (Int32.le_refl _)]
    simp (disch := first | decide | omega) only [mr_gs hM, mr_as hM, mr_ps hM, mr_q_s, mr_q_ws, nZ_add, Int.reduceToNat]
  intro f
  induction f with
  | zero =>
    intro n s q u w l j hI hok hQ hn hf
    have hl := mq_len hok
    exact ⟨q, u, w, base n s q u w l j hI hok hQ (by omega)⟩
  | succ f ih =>
    intro n s q u w l j hI hok hQ hn hf
    have hl := mq_len hok
    by_cases c : n = l.length
    · have e : mq_loop (f + 1) n (s, l) = (s, l) := by
        unfold mq_loop
        simp only [List.getElem?_eq_none_iff.mpr (Nat.le_of_eq c.symm)]
      rw [e]
      exact ⟨q, u, w, base n s q u w l j hI hok hQ c⟩
    · have hlt : n < l.length := by omega
      have hw := hQ.1
      subst hw
      obtain ⟨b, hb⟩ : ∃ b, l[n]? = some b := ⟨_, List.getElem?_eq_getElem hlt⟩
      have hb10 : b < 10 := hok.2 b (List.mem_of_getElem? hb)
      have e : mq_loop (f + 1) n (s, l) = mq_loop f (n + 1) (mq_step (s, l) b) := by
        conv => lhs; unfold mq_loop
        simp only [hb]
      rw [e]
      have hqn : q n = (b : Int) := by rw [hQ.2.1 n hlt, List.getD_eq_getElem?_getD, hb]; rfl
      have hI' : mr_I (mr_q V m s q u l.length (m + 1)) := by rw [mr_q_s]; exact hI
      have hI1 : mr_I (mr_clr (mr_up s 4 (s 4 + mr_bal s b 0)) b) := mr_I_clr (mr_I_up hI (by omega)) hb10
      have eb := X9_bal0 (X := X) (z := z) (d := d + 5) hM hI' hb10
      rw [mr_q_s] at eb
      rw [bk_X9_oneHour_141]
      simp (disch := first | decide | omega | (apply And.intro <;> omega)) only [mz_gI hM.o, mr_q_w, nZ_le, show ¬ ((l.length : Int) ≤ (n : Int)) by omega, if_false, mr_gqu hM, mr_aqu hM, Int.toNat_natCast, mr_q_q, hqn, mr_gs hM, mr_as hM, mr_q_s, Int.reduceToNat,
        mz_rcv hM.o, mv_clI, mv_clV, mv_cl, eb, nZ_add, nZ_sub, mr_ps hM, mr_q_ws, X9_clears hM hb10]
      -- the berth before
      have step1 : ∃ q1 u1 w1, mv_call X (d + 7) 176 [.ref m, .int (nZ ((b : Int) - 1))] (mz_h P (mr_q V m (mr_clr (mr_up s 4 (s 4 + mr_bal s b 0)) b) q u l.length), z) = some (.inl none, (mz_h P (mr_q V m (if 0 < b then mq_shake (mr_clr (mr_up s 4 (s 4 + mr_bal s b 0)) b, l) (b - 1) else (mr_clr (mr_up s 4 (s 4 + mr_bal s b 0)) b, l)).1 q1 u1 w1), z)) ∧ mr_Q (if 0 < b then mq_shake (mr_clr (mr_up s 4 (s 4 + mr_bal s b 0)) b, l) (b - 1) else (mr_clr (mr_up s 4 (s 4 + mr_bal s b 0)) b, l)).2 q1 u1 w1 := by
        by_cases cb : 0 < b
        · simp only [if_pos cb]
          have := X9_shakes (X := X) (P := P) (V := V) (z := z) (d := d) hM hI1 hok hQ (b := b - 1) (by omega)
          rw [show ((b - 1 : Nat) : Int) = (b : Int) - 1 by omega] at this
          exact this
        · simp only [if_neg cb]
          refine ⟨q, u, l.length, ?_, hQ⟩
          have : b = 0 := by omega
          subst this
          exact X9_shakes_m hM (by rw [mr_q_s]; exact hI1)
      obtain ⟨q1, u1, w1, e1, hQ1⟩ := step1
      have hI2 : mr_I (if 0 < b then mq_shake (mr_clr (mr_up s 4 (s 4 + mr_bal s b 0)) b, l) (b - 1) else (mr_clr (mr_up s 4 (s 4 + mr_bal s b 0)) b, l)).1 ∧ mq_ok (if 0 < b then mq_shake (mr_clr (mr_up s 4 (s 4 + mr_bal s b 0)) b, l) (b - 1) else (mr_clr (mr_up s 4 (s 4 + mr_bal s b 0)) b, l)).2 := by
        split
        · exact mr_I_sh (x := (mr_clr (mr_up s 4 (s 4 + mr_bal s b 0)) b, l)) hI1 hok _
        · exact ⟨hI1, hok⟩
      obtain ⟨q2, u2, w2, e2, hQ2⟩ := X9_shakes (X := X) (P := P) (V := V) (z := z) (d := d) hM hI2.1 hI2.2 hQ1 (b := b + 1) (by omega)
      rw [show ((b + 1 : Nat) : Int) = (b : Int) + 1 by omega] at e2
      have est : mq_step (s, l) b = mq_shake (if 0 < b then mq_shake (mr_clr (mr_up s 4 (s 4 + mr_bal s b 0)) b, l) (b - 1) else (mr_clr (mr_up s 4 (s 4 + mr_bal s b 0)) b, l)) (b + 1) := rfl
      have hst := mr_I_st (x := (s, l)) hI hok hb10
      have hle : n + 1 ≤ (mq_step (s, l) b).2.length := by
        have g1 : ∀ (x : (Nat → Int) × List Nat) c, x.2.length ≤ (mq_shake x c).2.length := by
          intro x c
          unfold mq_shake
          split
          · unfold mq_in
            split
            · rw [List.length_append]; omega
            · exact Nat.le_refl _
          · exact Nat.le_refl _
        have g2 : l.length ≤ (if 0 < b then mq_shake (mr_clr (mr_up s 4 (s 4 + mr_bal s b 0)) b, l) (b - 1) else (mr_clr (mr_up s 4 (s 4 + mr_bal s b 0)) b, l)).2.length := by
          split
          · exact g1 (mr_clr (mr_up s 4 (s 4 + mr_bal s b 0)) b, l) _
          · exact Nat.le_refl _
        rw [est]
        have := g1 (if 0 < b then mq_shake (mr_clr (mr_up s 4 (s 4 + mr_bal s b 0)) b, l) (b - 1) else (mr_clr (mr_up s 4 (s 4 + mr_bal s b 0)) b, l)) (b + 1)
        omega
      rw [← est] at e2 hQ2
      obtain ⟨q3, u3, w3, e3⟩ := ih (n + 1) (mq_step (s, l) b).1 q2 u2 w2 (mq_step (s, l) b).2 (.int (nZ b)) hst.1 hst.2 hQ2 hle (by omega)
      refine ⟨q3, u3, w3, ?_⟩
      rw [nc1] at e3
      simp only [e1, e2, mz_rcv hM.o]
      exact e3
theorem X9_hour_106 (hM : mr_M P m) (hI : mr_I s) (v1 : Int32) : ∀ (i : Nat), i ≤ 10 → ∀ (q u : Nat → Int) (w : Int) (j : Value), mr_Q (mq_all s i) q u w →
    ∃ q' u' w', mv_run X (mv_call X (d + 7)) m_X9_oneHour 106 [.ref m, .int v1, .int (nZ i), j] [] (mz_h P (mr_q V m s q u w), z) =
      some (.inl (some (.int (nZ (mq_loop 10 0 (s, mq_all s 10)).2.length))), (mz_h P (mr_q V m (mr_up (mq_loop 10 0 (s, mq_all s 10)).1 1 ((mq_loop 10 0 (s, mq_all s 10)).1 1 + (mq_loop 10 0 (s, mq_all s 10)).2.length)) q' u' w'), z)) := by
  refine mz_loop (φ := fun i => ∀ (q u : Nat → Int) (w : Int) (j : Value), mr_Q (mq_all s i) q u w → ∃ q' u' w', mv_run X (mv_call X (d + 7)) m_X9_oneHour 106 [.ref m, .int v1, .int (nZ i), j] [] (mz_h P (mr_q V m s q u w), z) = _) 10 ?_ (fun i hi ih => ?_)
  · intro q u w j hQ
    obtain ⟨q', u', w', h⟩ := X9_bursts_l (X := X) (P := P) (V := V) (z := z) (d := d) hM v1 10 0 s q u w (mq_all s 10) j hI (mq_all_ok s 10 (Nat.le_refl _)) hQ (Nat.zero_le _) rfl
    refine ⟨q', u', w', ?_⟩
    rw [bk_X9_oneHour_106, if_pos (by exact Int32.le_refl _)]
    exact h
  · intro q u w j hQ
    have hI' : mr_I (mr_q V m s q u w (m + 1)) := by rw [mr_q_s]; exact hI
    have hok := mq_all_ok s i (by omega)
    have e : mq_all s (i + 1) = mq_in s (mq_all s i) i := rfl
    have hni : i ∉ mq_all s i := by
      have : ∀ n, ∀ b ∈ mq_all s n, b < n := by
        intro n
        induction n with
        | zero => intro b hb; exact absurd hb List.not_mem_nil
        | succ n ih2 =>
          intro b hb
          have hb : b ∈ mq_in s (mq_all s n) n := hb
          unfold mq_in at hb
          split at hb
          · rcases List.mem_append.mp hb with hb | hb
            · have := ih2 b hb; omega
            · rw [List.mem_singleton.mp hb]; omega
          · have := ih2 b hb; omega
      intro q
      have := this i i q
      omega
    have hl := mq_lt hok hi hni
    rw [bk_X9_oneHour_106, if_neg (by rw [nZ_le ⟨by omega, by omega⟩ ⟨by omega, by omega⟩]; omega)]
    simp only [mz_rcv hM.o, mv_clI, mv_clV, mv_cl, X9_hereN hM hI' hi, mr_q_s, nZ_b1, X9_isTooHigh hM hI' hi, nZ_b0, nZ_add]
    by_cases c1 : s (6 + 11 * i) = 1
    · rw [if_neg (fun q => q c1)]
      by_cases c2 : mr_ho s i 0 ≤ s (6 + 11 * i + 3)
      · rw [if_pos c2]
        have e2 : mq_in s (mq_all s i) i = mq_all s i := if_neg (fun q => by have := q.2.1; omega)
        obtain ⟨q', u', w', h⟩ := ih q u w j (by rw [e, e2]; exact hQ)
        rw [nc1] at h
        exact ⟨q', u', w', h⟩
      · rw [if_neg c2, X9_waits hM (by rw [hQ.1]; omega) (by rw [hQ.1]; omega) hi]
        have e2 : mq_in s (mq_all s i) i = mq_all s i ++ [i] := if_pos ⟨c1, by omega, hni⟩
        have hp := mr_Q_push hQ (b := i)
        obtain ⟨q', u', w', h⟩ := ih (mr_up q w.toNat i) (mr_up u i 1) (w + 1) j (by rw [e, e2, hQ.1, Int.toNat_natCast]; rw [hQ.1] at hp; exact hp)
        rw [nc1] at h
        exact ⟨q', u', w', h⟩
    · rw [if_pos c1]
      have e2 : mq_in s (mq_all s i) i = mq_all s i := if_neg (fun q => c1 q.1)
      obtain ⟨q', u', w', h⟩ := ih q u w j (by rw [e, e2]; exact hQ)
      rw [nc1] at h
      exact ⟨q', u', w', h⟩
theorem X9_hour_29 (hM : mr_M P m) (hI : mr_I s) (q u : Nat → Int) : ∀ (i : Nat), i ≤ 10 → ∀ (j : Value),
    ∃ q' u' w', mv_run X (mv_call X (d + 7)) m_X9_oneHour 29 [.ref m, .int (nZ (if 6 ≤ s 0 % 24 ∧ s 0 % 24 ≤ 17 then 1 else 0)), .int (nZ i), j] [] (mz_h P (mr_q V m (mr_lft s (mr_day s) i) q (mr_zr u 0 i) 0), z) =
      some (.inl (some (.int (nZ (mq_loop 10 0 (mr_lft s (mr_day s) 10, mq_all (mr_lft s (mr_day s) 10) 10)).2.length))), (mz_h P (mr_q V m (mr_up (mq_loop 10 0 (mr_lft s (mr_day s) 10, mq_all (mr_lft s (mr_day s) 10) 10)).1 1 ((mq_loop 10 0 (mr_lft s (mr_day s) 10, mq_all (mr_lft s (mr_day s) 10) 10)).1 1 + (mq_loop 10 0 (mr_lft s (mr_day s) 10, mq_all (mr_lft s (mr_day s) 10) 10)).2.length)) q' u' w'), z)) := by
  refine mz_loop (φ := fun i => ∀ (j : Value), ∃ q' u' w', mv_run X (mv_call X (d + 7)) m_X9_oneHour 29 [.ref m, .int (nZ (if 6 ≤ s 0 % 24 ∧ s 0 % 24 ≤ 17 then 1 else 0)), .int (nZ i), j] [] (mz_h P (mr_q V m (mr_lft s (mr_day s) i) q (mr_zr u 0 i) 0), z) = _) 10 ?_ (fun i hi ih => ?_)
  · intro j
    obtain ⟨q', u', w', h⟩ := X9_hour_106 (X := X) (P := P) (V := V) (z := z) (d := d) hM (mr_I_lft hI (mr_day s) 10 (Nat.le_refl _)) (nZ (if 6 ≤ s 0 % 24 ∧ s 0 % 24 ≤ 17 then 1 else 0)) 0 (Nat.zero_le _) q (mr_zr u 0 10) 0 j ⟨rfl, fun i hi => absurd hi (Nat.not_lt_zero _), fun b hb => by rw [mr_zr_y _ ⟨Nat.zero_le _, hb⟩]; rfl⟩
    refine ⟨q', u', w', ?_⟩
    rw [bk_X9_oneHour_29, if_pos (by exact Int32.le_refl _)]
    exact h
  · intro j
    have hIg := mr_I_lft hI (mr_day s) i (by omega)
    have hI' : mr_I (mr_q V m (mr_lft s (mr_day s) i) q (mr_zr u 0 i) 0 (m + 1)) := by rw [mr_q_s]; exact hIg
    have h1 := hIg.lift hi
    have e : mr_lft s (mr_day s) (i + 1) = if mr_lft s (mr_day s) i (6 + 11 * i) = 0 then mr_lft s (mr_day s) i else mr_up (mr_lft s (mr_day s) i) (6 + 11 * i + 1) (if mr_lft s (mr_day s) i (6 + 11 * i + 1) + mr_day s ≤ 99 then (if 1 ≤ mr_lft s (mr_day s) i (6 + 11 * i + 1) + mr_day s then mr_lft s (mr_day s) i (6 + 11 * i + 1) + mr_day s else 1) else 99) := rfl
    have eu := mr_zr1 u (p := 0) (q := i) (Nat.zero_le _)
    rw [bk_X9_oneHour_29, if_neg (by rw [nZ_le ⟨by omega, by omega⟩ ⟨by omega, by omega⟩]; omega)]
    simp (disch := first | decide | omega) only [mr_gqd hM, mr_pqd hM, mr_q_u, mr_q_wu, Int.toNat_natCast, eu, mz_rcv hM.o, mv_clI, mv_clV, mv_cl, X9_ofz hM, mr_q_s, Int.reduceToNat, nZ_b1, X9_setsz hM, mr_q_ws, nZ_add, Nat.add_zero]
    by_cases c0 : mr_lft s (mr_day s) i (6 + 11 * i) = 0
    · rw [if_pos (by rw [c0]; rfl)]
      obtain ⟨q', u', w', h⟩ := ih j
      rw [e, if_pos c0, nc1] at h
      exact ⟨q', u', w', h⟩
    · rw [if_neg (by rcases hIg.here hi with g | g <;> (first | exact absurd g c0 | (rw [g]; decide)))]
      rw [if_neg c0] at e
      by_cases cd : 6 ≤ s 0 % 24 ∧ s 0 % 24 ≤ 17
      · have ed : mr_day s = 1 := if_pos cd
        rw [ed] at e h1 ih ⊢
        rw [if_neg (fun q => q cd)]
        by_cases c1 : mr_lft s 1 i (6 + 11 * i + 1) + 1 ≤ 99
        · rw [if_pos c1] at e
          rw [if_pos (by rw [nZ_le ⟨by omega, by omega⟩ (by decide)]; exact c1)]
          by_cases c2 : 1 ≤ mr_lft s 1 i (6 + 11 * i + 1) + 1
          · rw [if_pos c2] at e
            rw [if_pos (by rw [nZ_le (by decide) ⟨by omega, by omega⟩]; exact c2), ← e, ← nc1]
            exact ih _
          · omega
        · rw [if_neg c1] at e
          rw [if_neg (by rw [nZ_le ⟨by omega, by omega⟩ (by decide)]; exact c1), ← e, ← nc1]
          exact ih _
      · have ed : mr_day s = -1 := if_neg cd
        rw [ed] at e h1 ih ⊢
        rw [if_pos cd]
        by_cases c1 : mr_lft s (-1) i (6 + 11 * i + 1) + -1 ≤ 99
        · rw [if_pos c1] at e
          rw [if_pos (by rw [nZ_le ⟨by omega, by omega⟩ (by decide)]; exact c1)]
          by_cases c2 : 1 ≤ mr_lft s (-1) i (6 + 11 * i + 1) + -1
          · rw [if_pos c2] at e
            rw [if_pos (by rw [nZ_le (by decide) ⟨by omega, by omega⟩]; exact c2), ← e, ← nc1]
            exact ih _
          · rw [if_neg c2] at e
            rw [if_neg (by rw [nZ_le (by decide) ⟨by omega, by omega⟩]; exact c2), ← e, ← nc1]
            exact ih _
        · omega
theorem X9_oneHour (hM : mr_M P m) (hI : mr_I (V (m + 1))) (hh : V (m + 1) 0 ≤ 999999999) :
    ∃ q' u' w', mv_call X (d + 8) 177 [.ref m] (mz_h P V, z) = some (.inl (some (.int (nZ (mr_hr (V (m + 1))).2))), (mz_h P (mr_q V m (mr_hr (V (m + 1))).1 q' u' w'), z)) := by
  have h0 := hI.hour
  have hI1 : mr_I (mr_up (V (m + 1)) 0 (V (m + 1) 0 + 1)) := mr_I_h hI (by omega) (by omega)
  have e0 := mr_q_id V m
  obtain ⟨q', u', w', h⟩ := X9_hour_29 (X := X) (P := P) (V := V) (z := z) (d := d) hM hI1 (V (m + 9)) (V (m + 10)) 0 (Nat.zero_le _) (.retAddr 0)
  rw [mr_zr0] at h
  refine ⟨q', u', w', ?_⟩
  rw [mc_X9_oneHour, bk_X9_oneHour_0]
  have e1 : mz_w V (m + 1) (mr_up (V (m + 1)) 0 (V (m + 1) 0 + 1)) = mr_q V m (mr_up (V (m + 1)) 0 (V (m + 1) 0 + 1)) (V (m + 9)) (V (m + 10)) (V m 22) := by
    conv => lhs; rw [← e0]
    rw [mr_q_s, mr_q_ws]
  have hI' : mr_I (mr_q V m (mr_up (V (m + 1)) 0 (V (m + 1) 0 + 1)) (V (m + 9)) (V (m + 10)) (V m 22) (m + 1)) := by rw [mr_q_s]; exact hI1
  have hn := X9_now (X := X) (z := z) (d := d + 6) hM hI'
  rw [mr_q_s] at hn
  have hin := X9_in (X := X) (d := d + 6) (x := mr_up (V (m + 1)) 0 (V (m + 1) 0 + 1) 0 % 24) (l := 6) (u := 17) (h := (mz_h P (mr_q V m (mr_up (V (m + 1)) 0 (V (m + 1) 0 + 1)) (V (m + 9)) (V (m + 10)) (V m 22)), z)) ⟨by omega, by omega⟩ (by decide) (by decide)
  simp (disch := first | decide | omega) only [mr_gs hM, mr_as hM, mr_ps hM, Int.reduceToNat, nZ_add, e1, mz_rcv hM.o, mv_clI, mv_cl, hn, hin, mz_pW hM.o, mr_q_ww]
  exact h
end REFD
