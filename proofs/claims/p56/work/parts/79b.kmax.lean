/-! CREWS BY CHANGING: all pilots -/
theorem cw_n_0 {H : Nat → Int} {q : Nat} (h : ∀ b, b < 10 → H b ≠ (q : Int)) : cw_n H q = 0 := by
  unfold cw_n
  rw [show mz_s (fun b => if H b = (q : Int) then (1 : Int) else 0) 10 = mz_s (fun _ => 0) 10 from mz_s_c fun i hi => if_neg (h i hi), mz_s_zero]
theorem cw_n_1 {H : Nat → Int} {q b : Nat} (hb : b < 10) (h : H b = (q : Int)) : 1 ≤ cw_n H q := by
  have key : ∀ n, b < n → 1 ≤ mz_s (fun b => if H b = (q : Int) then (1 : Int) else 0) n := by
    intro n
    induction n with
    | zero => intro h; omega
    | succ n ih =>
      intro hn
      show 1 ≤ mz_s (fun b => if H b = (q : Int) then (1 : Int) else 0) n + (if H n = (q : Int) then 1 else 0)
      by_cases e : b = n
      · subst e
        have : 0 ≤ mz_s (fun b => if H b = (q : Int) then (1 : Int) else 0) b := mz_s_0 fun i _ => by split <;> omega
        rw [if_pos h]
        omega
      · have := ih (by omega)
        split <;> omega
  exact key 10 hb
theorem cw_held {H : Nat → Int} {k : Nat} (ha : ∀ b, b < 10 → H b = -1 ∨ (0 ≤ H b ∧ H b < k)) : mz_s (fun b => if H b = -1 then 0 else 1) 10 = mz_s (cw_n H) k := by
  have e : mz_s (cw_n H) k = mz_s (fun b => mz_s (fun q => if H b = (q : Int) then (1 : Int) else 0) k) 10 := mz_s_sw (fun q b => if H b = (q : Int) then 1 else 0) 10 k
  rw [e]
  refine mz_s_c fun b hb => ?_
  show (if H b = -1 then (0 : Int) else 1) = mz_s (fun q => if H b = (q : Int) then (1 : Int) else 0) k
  rw [mz_s_one]
  have := ha b hb
  split <;> split <;> omega
section KMAX
variable {X : mv_X} {P : mz_P} {V : mz_V} {z : Nat × Nat} {x v n d m : Nat} {s : Nat → Int} {N : Int}
theorem X2_changing (hP : mX_P P x v n) (hI : mr_I s) (hR : mh_R V (x + 1) s) (hN : cw_max (cw_E s) N) : ∃ H U : Nat → Int, mv_call X (d + 10) 21 [.ref (x + 372), .ref (x + 1)] (mz_h P V, z) = some (.inl (some (.int (nZ N))), (mz_h P (mz_w (mz_w V (x + 373) H) (x + 374) U), z)) := by
  obtain ⟨c1, c2, c3, c4, c5, c6, c7⟩ := hP.cr
  have h5 := hI.pil
  obtain ⟨np, hnp⟩ : ∃ np : Nat, s 5 = np := ⟨(s 5).toNat, by omega⟩
  have hnp6 : np ≤ 6 := by omega
  have hE : ∀ p b, cw_E s p b = true → p < np := fun p b h => by
    have := of_decide_eq_true h
    omega
  have hR2 : ∀ (H U : Nat → Int), mh_R (mz_w (mz_w V (x + 373) H) (x + 374) U) (x + 1) s := fun H U => mh_R_f hI.pil.2 (fun r ra rb => by rw [mz_w_n _ _ (by omega), mz_w_n _ _ (by omega)]) hR
  have key : ∀ k c : Nat, c + k = np → ∀ (H U : Nat → Int) (W : Nat → Bool), (∀ b, b < 10 → H b = -1 ∨ (0 ≤ H b ∧ H b < c)) → (∀ b, b < 10 → H b ≠ -1 → cw_E s (H b).toNat b = true) →
      (∀ q, q < c → cw_n H q = 1 ∨ (cw_n H q = 0 ∧ ∀ b, b < 10 → cw_E s q b = true → W b = true)) → (∀ b, b < 10 → W b = true → H b ≠ -1 ∧ ∀ b', b' < 10 → cw_E s (H b).toNat b' = true → W b' = true) →
      ∃ H' U' : Nat → Int, mv_run X (mv_call X (d + 9)) m_X2_mostByChanging 12 [.ref (x + 372), .ref (x + 1), .int (nZ (mz_s (cw_n H) c)), .int (nZ c)] [] (mz_h P (mz_w (mz_w V (x + 373) H) (x + 374) U), z) = some (.inl (some (.int (nZ N))), (mz_h P (mz_w (mz_w V (x + 373) H') (x + 374) U'), z)) := by
    intro k
    induction k with
    | zero =>
      intro c hc H U W ha hE2 hcc hd
      have : c = np := by omega
      subst this
      refine ⟨H, U, ?_⟩
      have hm := cw_max_of hnp6 hE (fun b hb => by
        by_cases e : H b = -1
        · exact Or.inl e
        · have := ha b hb
          exact Or.inr ⟨by omega, by omega, hE2 b hb e⟩) hcc hd
      rw [bk_X2_mostByChanging_12, mz_gI hP.h0.1 (by decide), mz_w_n _ _ (by omega), mz_w_n _ _ (by omega), hR.2.1.1, hnp, if_pos (by exact Int32.le_refl _), cw_max_u hm hN]
    | succ k ih =>
      intro c hc H U W ha hE2 hcc hd
      have hc6 : c < 6 := by omega
      have h0 : cw_n H c = 0 := cw_n_0 fun b hb => by have := ha b hb; omega
      have hheld : mz_s (fun b => if H b = -1 then 0 else 1) 10 ≤ 5 := by
        rw [cw_held ha]
        have : mz_s (cw_n H) c ≤ 1 * c := mz_s_b fun q hq => by have := hcc q hq; omega
        omega
      obtain ⟨cc, H2, U2, i1, i2, i3⟩ := X2_find (X := X) (V := V) (z := z) (d := d) hP hI hR (W := W) 6 0 (by decide) c H (mr_fl U 0 10) hc6 (fun b hb => by have := ha b hb; omega) hE2 hheld hd (fun b hb => Or.inl (mr_fl_l _ _ hb)) (fun b hb h => by rw [mr_fl_l _ _ hb] at h; exact absurd h (by decide)) (mz_s_0 fun i hi => by rw [mr_fl_l _ _ hi]; exact Int.le_refl _)
      have i1 : mv_call X (d + 9) 22 [.ref (x + 1), .int (nZ c), .ref (x + 373), .ref (x + 374), .int (nZ 0)] (mz_h P (mz_w (mz_w V (x + 373) H) (x + 374) (mr_fl U 0 10)), z) = some (.inl (some (.int (nZ cc))), (mz_h P (mz_w (mz_w V (x + 373) H2) (x + 374) U2), z)) := i1
      have efl := J7_fill (X := X) (P := P) (V := mz_w (mz_w V (x + 373) H) (x + 374) U) (z := z) (d := d + 8) (r := x + 374) (n := 10) (y := 0) c5 (by decide)
      rw [mz_w_s, mz_w_w] at efl
      rw [bk_X2_mostByChanging_12, mz_gI hP.h0.1 (by decide), mz_w_n _ _ (by omega), mz_w_n _ _ (by omega), hR.2.1.1, hnp, if_neg (by rw [nZ_le ⟨by omega, by omega⟩ ⟨by omega, by omega⟩]; omega), mz_gR c1 (by decide) c4]
      simp only [mv_clV, mv_clI, mv_cl, efl]
      rw [mz_gR c1 (by decide) c2, mz_gR c1 (by decide) c4]
      simp only [i1]
      have es : mz_s (cw_n H2) (c + 1) = mz_s (cw_n H2) c + cw_n H2 c := rfl
      rcases i3 with ⟨rfl, rfl, f1, f2, f3, f4⟩ | ⟨rfl, g1, g2, g3, g4, g5, g6⟩
      · rw [if_pos (by rfl), nZ_add]
        have key := ih (c + 1) (by omega) H2 U2 (fun b => W b || decide (U2 b = 1)) (fun b hb => by have := ha b hb; omega) hE2 (fun q hq => by
          by_cases e : q = c
          · subst e
            exact Or.inr ⟨h0, fun b hb he => by
              show (W b || decide (U2 b = 1)) = true
              rw [decide_eq_true (f3 b hb he), Bool.or_true]⟩
          · rcases hcc q (by omega) with h | ⟨h1, h2⟩
            · exact Or.inl h
            · exact Or.inr ⟨h1, fun b hb he => by
                show (W b || decide (U2 b = 1)) = true
                rw [h2 b hb he, Bool.true_or]⟩) (fun b hb hw => by
          have hw : (W b || decide (U2 b = 1)) = true := hw
          by_cases e : W b = true
          · refine ⟨(hd b hb e).1, fun b' hb' he => ?_⟩
            show (W b' || decide (U2 b' = 1)) = true
            rw [(hd b hb e).2 b' hb' he, Bool.true_or]
          · have hu : U2 b = 1 := by
              rw [Bool.or_eq_true] at hw
              rcases hw with h | h
              · exact absurd h e
              · exact of_decide_eq_true h
            refine ⟨f2 b hb hu, fun b' hb' he => ?_⟩
            show (W b' || decide (U2 b' = 1)) = true
            rw [decide_eq_true (f4 b hb hu (by rw [mr_fl_l _ _ hb]; decide) b' hb' he), Bool.or_true])
        rw [es, h0, Int.add_zero, nc1] at key
        exact key
      · rw [if_neg (by decide), nZ_add, nZ_add]
        have hn : ∀ q, q < c → cw_n H2 q = cw_n H q := fun q hq => by rw [g3 q, if_neg (by omega), Int.add_zero]
        have hnc : cw_n H2 c = 1 := by rw [g3 c, if_pos rfl, h0]; rfl
        have hlt : ∀ b, b < 10 → H2 b = -1 ∨ (0 ≤ H2 b ∧ H2 b < (c + 1 : Nat)) := fun b hb => by
          rcases g1 b hb with h | ⟨h1, h2⟩
          · exact Or.inl h
          · refine Or.inr ⟨h1, ?_⟩
            by_cases e : H2 b < (c + 1 : Nat)
            · exact e
            · exfalso
              have hq : H2 b = ((H2 b).toNat : Int) := by omega
              have a1 := cw_n_1 hb hq
              rw [g3, if_neg (by omega)] at a1
              have a2 : cw_n H (H2 b).toNat = 0 := cw_n_0 fun b' hb' => by have := ha b' hb'; omega
              omega
        have key := ih (c + 1) (by omega) H2 U2 W hlt g2 (fun q hq => by
          by_cases e : q = c
          · subst e; exact Or.inl hnc
          · rw [hn q (by omega)]; exact hcc q (by omega)) (fun b hb hw => by rw [g4 b hb hw]; exact hd b hb hw)
        have e2 : mz_s (cw_n H2) c = mz_s (cw_n H) c := mz_s_c hn
        rw [es, hnc, e2, nc1] at key
        exact key
  have efl := J7_fill (X := X) (P := P) (V := V) (z := z) (d := d + 8) (r := x + 373) (n := 10) (y := -1) c3 (by decide)
  have e0 : mz_w (mz_w V (x + 373) (mr_fl (V (x + 373)) (-1) 10)) (x + 374) (V (x + 374)) = mz_w V (x + 373) (mr_fl (V (x + 373)) (-1) 10) := by
    conv => lhs; rw [← mz_w_n V (a := x + 373) (b := x + 374) (mr_fl (V (x + 373)) (-1) 10) (by omega)]
    exact mz_w_id _ _
  have k0 := key np 0 (by omega) (mr_fl (V (x + 373)) (-1) 10) (V (x + 374)) (fun _ => false) (fun b hb => Or.inl (mr_fl_l _ _ hb)) (fun b hb h => absurd (mr_fl_l _ _ hb) h) (fun q hq => absurd hq (Nat.not_lt_zero _)) (fun b hb h => absurd h (by decide))
  rw [e0] at k0
  rw [mc_X2_mostByChanging, bk_X2_mostByChanging_0, mz_gR c1 (by decide) c2]
  simp only [mv_clV, mv_cl, efl]
  exact k0
theorem Q8_mostCrewed (hP : mX_P P x v n) (hI : mr_I s) (h : mh_R V (x + 1) s) (hN : cw_max (cw_E s) N) : ∃ H U : Nat → Int, mv_call X (d + 11) 113 [.ref x] (mz_h P V, z) = some (.inl (some (.int (nZ N))), (mz_h P (mz_w (mz_w V (x + 373) H) (x + 374) U), z)) := by
  obtain ⟨H, U, q⟩ := X2_changing (X := X) (z := z) (d := d) hP hI h hN
  refine ⟨H, U, ?_⟩
  rw [mc_X8_mostCrewed, bk_X8_mostCrewed_0, mx_g9 hP, mx_g0 hP, mz_rcv hP.cr.1]
  simp only [mv_clI, mv_cl, q]
end KMAX
