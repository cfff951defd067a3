/-! CREWS BY SETS -/
theorem cw_sub_t : ∀ T, T < 64 → ∀ p, p < 6 → T.testBit p = true → ((T - 2 ^ p).testBit p = false ∧ (T - 2 ^ p) ||| 2 ^ p = T ∧ T - 2 ^ p < T) := by decide +kernel
theorem cw_orb_t : ∀ S, S < 64 → ∀ p, p < 6 → (decide (S ||| 2 ^ p = S) = S.testBit p ∧ S ||| 2 ^ p < 64 ∧ (S.testBit p = false → mb_pop (S ||| 2 ^ p) = mb_pop S + 1)) := by decide +kernel
theorem cw_R_0 (E : Nat → Nat → Bool) : ∀ k, cw_R E k 0
  | 0 => rfl
  | k + 1 => Or.inl (cw_R_0 E k)
/-- sets from k on are done, and of the one before it the pilots below q -/
def cq_d (E : Nat → Nat → Bool) (b : Nat) (R : Nat → Prop) (k q T : Nat) : Prop := R T ∨ ∃ p, p < 6 ∧ T.testBit p = true ∧ E p b = true ∧ R (T - 2 ^ p) ∧ (k ≤ T - 2 ^ p ∨ (T - 2 ^ p + 1 = k ∧ p < q))
/-- sets below k are done, and of k the pilots below q -/
def cq_a (E : Nat → Nat → Bool) (b : Nat) (R : Nat → Prop) (k q T : Nat) : Prop := R T ∨ ∃ p, p < 6 ∧ T.testBit p = true ∧ E p b = true ∧ R (T - 2 ^ p) ∧ (T - 2 ^ p < k ∨ (T - 2 ^ p = k ∧ p < q))
theorem cq_d1 {E : Nat → Nat → Bool} {b : Nat} {R : Nat → Prop} {S q T : Nat} (hT : T < 64) (hS : S < 64) (hq : q < 6) : cq_d E b R (S + 1) (q + 1) T ↔ cq_d E b R (S + 1) q T ∨ (S.testBit q = false ∧ T = S ||| 2 ^ q ∧ E q b = true ∧ R S) := by
  refine ⟨fun h => ?_, fun h => ?_⟩
  · rcases h with h | ⟨p, h1, h2, h3, h4, h5⟩
    · exact Or.inl (Or.inl h)
    · by_cases e : S + 1 ≤ T - 2 ^ p ∨ (T - 2 ^ p + 1 = S + 1 ∧ p < q)
      · exact Or.inl (Or.inr ⟨p, h1, h2, h3, h4, e⟩)
      · have e1 : T - 2 ^ p = S := by omega
        have e2 : p = q := by omega
        subst e2
        obtain ⟨t1, t2, t3⟩ := cw_sub_t T hT p h1 h2
        rw [e1] at t1 t2 h4
        exact Or.inr ⟨t1, t2.symm, h3, h4⟩
  · rcases h with h | ⟨h1, h2, h3, h4⟩
    · rcases h with h | ⟨p, h1, h2, h3, h4, h5⟩
      · exact Or.inl h
      · exact Or.inr ⟨p, h1, h2, h3, h4, by omega⟩
    · obtain ⟨o1, o2, o3, o4, o5⟩ := cw_or_t S hS q hq h1
      subst h2
      exact Or.inr ⟨q, hq, o2, h3, by rw [o3]; exact h4, Or.inr ⟨by rw [o3], by omega⟩⟩
theorem cq_a1 {E : Nat → Nat → Bool} {b : Nat} {R : Nat → Prop} {S q T : Nat} (hT : T < 64) (hS : S < 64) (hq : q < 6) : cq_a E b R S (q + 1) T ↔ cq_a E b R S q T ∨ (S.testBit q = false ∧ T = S ||| 2 ^ q ∧ E q b = true ∧ R S) := by
  refine ⟨fun h => ?_, fun h => ?_⟩
  · rcases h with h | ⟨p, h1, h2, h3, h4, h5⟩
    · exact Or.inl (Or.inl h)
    · by_cases e : T - 2 ^ p < S ∨ (T - 2 ^ p = S ∧ p < q)
      · exact Or.inl (Or.inr ⟨p, h1, h2, h3, h4, e⟩)
      · have e1 : T - 2 ^ p = S := by omega
        have e2 : p = q := by omega
        subst e2
        obtain ⟨t1, t2, t3⟩ := cw_sub_t T hT p h1 h2
        rw [e1] at t1 t2 h4
        exact Or.inr ⟨t1, t2.symm, h3, h4⟩
  · rcases h with h | ⟨h1, h2, h3, h4⟩
    · rcases h with h | ⟨p, h1, h2, h3, h4, h5⟩
      · exact Or.inl h
      · exact Or.inr ⟨p, h1, h2, h3, h4, by omega⟩
    · obtain ⟨o1, o2, o3, o4, o5⟩ := cw_or_t S hS q hq h1
      subst h2
      exact Or.inr ⟨q, hq, o2, h3, by rw [o3]; exact h4, Or.inr ⟨o3, by omega⟩⟩
/-- of the set itself nothing new -/
theorem cq_d_s {E : Nat → Nat → Bool} {b : Nat} {R : Nat → Prop} {S q : Nat} (hS : S < 64) : cq_d E b R (S + 1) q S ↔ R S := by
  refine ⟨fun h => ?_, Or.inl⟩
  rcases h with h | ⟨p, h1, h2, h3, h4, h5⟩
  · exact h
  · obtain ⟨t1, t2, t3⟩ := cw_sub_t S hS p h1 h2
    omega
def cq_g (g : Nat → Int) (R : Nat → Prop) : Prop := ∀ T, T < 64 → (g T = 1 ∧ R T) ∨ (g T = 0 ∧ ¬ R T)
theorem cq_g_c {g : Nat → Int} {R R' : Nat → Prop} (h : cq_g g R) (e : ∀ T, T < 64 → (R T ↔ R' T)) : cq_g g R' := fun T hT => (h T hT).imp (fun u => ⟨u.1, (e T hT).mp u.2⟩) fun u => ⟨u.1, fun w => u.2 ((e T hT).mpr w)⟩
section SETS
variable {X : mv_X} {P : mz_P} {V : mz_V} {z : Nat × Nat} {x v n d m : Nat} {s : Nat → Int} {N : Int}
theorem X2_give (hP : mX_P P x v n) (hI : mr_I s) (hR : mh_R V (x + 1) s) {b : Nat} (hb : b < 10) {R : Nat → Prop} {g : Nat → Int} (hg : cq_g g R) : ∃ g' : Nat → Int, mv_call X (d + 3) 24 [.ref (x + 372), .ref (x + 1), .int (nZ b)] (mz_h P (mz_w V (x + 375) g), z) = some (.inl none, (mz_h P (mz_w V (x + 375) g'), z)) ∧
    cq_g g' (fun T => R T ∨ ∃ p, p < 6 ∧ T.testBit p = true ∧ cw_E s p b = true ∧ R (T - 2 ^ p)) := by
  obtain ⟨c1, c2, c3, c4, c5, c6, c7⟩ := hP.cr
  have h5 := hI.pil
  obtain ⟨np, hnp⟩ : ∃ np : Nat, s 5 = np := ⟨(s 5).toNat, by omega⟩
  have hnp6 : np ≤ 6 := by omega
  have hE : ∀ p b, cw_E s p b = true → p < np := fun p b h => by
    have := of_decide_eq_true h
    omega
  have hR2 : ∀ g : Nat → Int, mh_R (mz_w V (x + 375) g) (x + 1) s := fun g => mh_R_f hI.pil.2 (fun r ra rb => mz_w_n _ _ (by omega)) hR
  have ag : ∀ (g : Nat → Int) (T : Nat) (F : Int32 → Option mv_R), T < 64 → mv_aI X (mz_h P (mz_w V (x + 375) g), z) 1 (x + 375) (nZ T) F = F (nZ (g T)) := fun g T F hT => by
    rw [mz_aJ c7 (by omega) (by omega) (by decide), mz_w_s, Int.toNat_natCast]
  have sg : ∀ (g : Nat → Int) (T : Nat) (y : Int) (F : mv_H → Option mv_R), T < 64 → mv_as (mz_h P (mz_w V (x + 375) g), z) 1 (x + 375) (nZ T) (.int (nZ y)) F = F (mz_h P (mz_w V (x + 375) (mr_up g T y)), z) := fun g T y F hT => by
    rw [mz_sJ c7 (by omega) (by omega) (by decide), mz_w_s, mz_w_w, Int.toNat_natCast]
  have outer : ∀ k : Nat, k ≤ 64 → ∀ (g : Nat → Int) (j4 j5 : Value), cq_g g (cq_d (cw_E s) b R k 0) → ∃ g' : Nat → Int, mv_run X (mv_call X (d + 2)) m_X2_giveToOnePilot 3 [.ref (x + 372), .ref (x + 1), .int (nZ b), .int (nZ ((k : Int) - 1)), j4, j5] [] (mz_h P (mz_w V (x + 375) g), z) = some (.inl none, (mz_h P (mz_w V (x + 375) g'), z)) ∧
      cq_g g' (fun T => R T ∨ ∃ p, p < 6 ∧ T.testBit p = true ∧ cw_E s p b = true ∧ R (T - 2 ^ p)) := by
    intro k
    induction k with
    | zero =>
      intro _ g j4 j5 h
      refine ⟨g, ?_, cq_g_c h fun T hT => ⟨fun u => u.imp id fun ⟨p, h1, h2, h3, h4, h5⟩ => ⟨p, h1, h2, h3, h4⟩, fun u => u.imp id fun ⟨p, h1, h2, h3, h4⟩ => ⟨p, h1, h2, h3, h4, Or.inl (Nat.zero_le _)⟩⟩⟩
      rw [bk_X2_giveToOnePilot_3, if_pos (by decide)]
    | succ k ih =>
      intro hk g j4 j5 h
      have ek : (((k + 1 : Nat) : Int) - 1) = (k : Int) := by omega
      have hk64 : k < 64 := by omega
      rw [ek, bk_X2_giveToOnePilot_3, if_neg (by rw [show (0 : Int32) = nZ 0 from rfl, nZ_lt ⟨by omega, by omega⟩ (by decide)]; omega)]
      have inner : ∀ k2 q : Nat, q + k2 = np → ∀ (g : Nat → Int) (j5 : Value), cq_g g (cq_d (cw_E s) b R (k + 1) q) → ∃ g' : Nat → Int, mv_run X (mv_call X (d + 2)) m_X2_giveToOnePilot 10 [.ref (x + 372), .ref (x + 1), .int (nZ b), .int (nZ k), .int (nZ q), j5] [] (mz_h P (mz_w V (x + 375) g), z) = some (.inl none, (mz_h P (mz_w V (x + 375) g'), z)) ∧
          cq_g g' (fun T => R T ∨ ∃ p, p < 6 ∧ T.testBit p = true ∧ cw_E s p b = true ∧ R (T - 2 ^ p)) := by
        intro k2
        induction k2 with
        | zero =>
          intro q hq g j5 h
          have : q = np := by omega
          subst this
          rw [bk_X2_giveToOnePilot_10, mz_gI hP.h0.1 (by decide), mz_w_n _ _ (by omega), hR.2.1.1, hnp, if_pos (by exact Int32.le_refl _), nZ_add]
          exact ih (by omega) g _ _ (cq_g_c h fun T hT => ⟨fun u => u.imp id fun ⟨p, h1, h2, h3, h4, h5⟩ => ⟨p, h1, h2, h3, h4, by omega⟩, fun u => u.imp id fun ⟨p, h1, h2, h3, h4, h5⟩ => ⟨p, h1, h2, h3, h4, by have := hE p b h3; omega⟩⟩)
        | succ k2 ih2 =>
          intro q hq g j5 h
          have hq6 : q < 6 := by omega
          have ih2 := ih2 (q + 1) (by omega)
          rw [nc1] at ih2
          rw [bk_X2_giveToOnePilot_10, mz_gI hP.h0.1 (by decide), mz_w_n _ _ (by omega), hR.2.1.1, hnp, if_neg (by rw [nZ_le ⟨by omega, by omega⟩ ⟨by omega, by omega⟩]; omega), if_neg (by rw [nZ_le (by decide) ⟨by omega, by omega⟩]; omega), mz_gR c1 (by decide) c6, ag _ _ _ hk64, mb_or (by omega) (by omega), nZ_add]
          obtain ⟨b1, b2, b3⟩ := cw_orb_t k hk64 q hq6
          have hgk := h k hk64
          rw [cq_d_s hk64] at hgk
          -- nothing new
          have same : ¬ (k.testBit q = false ∧ cw_E s q b = true ∧ R k) → ∀ j5 : Value, ∃ g' : Nat → Int, mv_run X (mv_call X (d + 2)) m_X2_giveToOnePilot 10 [.ref (x + 372), .ref (x + 1), .int (nZ b), .int (nZ k), .int (nZ ((q : Int) + 1)), j5] [] (mz_h P (mz_w V (x + 375) g), z) = some (.inl none, (mz_h P (mz_w V (x + 375) g'), z)) ∧
              cq_g g' (fun T => R T ∨ ∃ p, p < 6 ∧ T.testBit p = true ∧ cw_E s p b = true ∧ R (T - 2 ^ p)) := fun hn j5 => ih2 g j5 (cq_g_c h fun T hT => (Iff.trans (cq_d1 hT hk64 hq6) ⟨fun u => u.elim id fun w => absurd ⟨w.1, w.2.2.1, w.2.2.2⟩ hn, Or.inl⟩).symm)
          rcases hgk with ⟨gk, rk⟩ | ⟨gk, rk⟩
          · rw [gk, if_pos rfl]
            by_cases cb : k.testBit q = true
            · rw [cb] at b1
              rw [if_pos (by rw [of_decide_eq_true b1])]
              exact same (fun w => by rw [cb] at w; exact absurd w.1 (by decide)) _
            · have cb : k.testBit q = false := by
                cases hb : k.testBit q with
                | false => rfl
                | true => exact absurd hb cb
              rw [cb] at b1
              have hne := of_decide_eq_false b1
              rw [if_neg (by rw [nZ_inj ⟨by omega, by omega⟩ ⟨by omega, by omega⟩]; omega), mz_rcv hP.h0.1]
              simp only [mv_clI, mv_cl, Y3_fitsE (d := d) hP hI (hR2 g) hq6 hb, nZ_b1]
              by_cases ce : cw_E s q b = true
              · rw [if_neg (fun w => w ce), mz_gR c1 (by decide) c6, sg _ _ _ _ b2]
                refine ih2 _ _ (fun T hT => ?_)
                by_cases eT : T = k ||| 2 ^ q
                · rw [eT, mr_up_s]
                  exact Or.inl ⟨rfl, (cq_d1 b2 hk64 hq6).mpr (Or.inr ⟨cb, rfl, ce, rk⟩)⟩
                · rw [mr_up_n _ _ eT]
                  refine (h T hT).imp (fun u => ⟨u.1, (cq_d1 hT hk64 hq6).mpr (Or.inl u.2)⟩) fun u => ⟨u.1, fun w => ?_⟩
                  rcases (cq_d1 hT hk64 hq6).mp w with w | w
                  · exact u.2 w
                  · exact eT w.2.1
              · rw [if_pos ce]
                exact same (fun w => ce w.2.1) _
          · rw [gk, if_neg (by decide)]
            exact same (fun w => rk w.2.2) _
      exact inner np 0 (by omega) g j5 h
  have := outer 64 (by decide) g (.retAddr 0) (.retAddr 0) (cq_g_c hg fun T hT => ⟨Or.inl, fun u => u.elim id fun ⟨p, h1, h2, h3, h4, h5⟩ => by
    obtain ⟨t1, t2, t3⟩ := cw_sub_t T hT p h1 h2
    omega⟩)
  rw [mc_X2_giveToOnePilot, bk_X2_giveToOnePilot_0]
  exact this
theorem X2_sets (hP : mX_P P x v n) (hI : mr_I s) (hR : mh_R V (x + 1) s) (hN : cw_max (cw_E s) N) : ∃ g : Nat → Int, mv_call X (d + 4) 23 [.ref (x + 372), .ref (x + 1)] (mz_h P V, z) = some (.inl (some (.int (nZ N))), (mz_h P (mz_w V (x + 375) g), z)) := by
  obtain ⟨c1, c2, c3, c4, c5, c6, c7⟩ := hP.cr
  have ag : ∀ (g : Nat → Int) (T : Nat) (F : Int32 → Option mv_R), T < 64 → mv_aI X (mz_h P (mz_w V (x + 375) g), z) 1 (x + 375) (nZ T) F = F (nZ (g T)) := fun g T F hT => by
    rw [mz_aJ c7 (by omega) (by omega) (by decide), mz_w_s, Int.toNat_natCast]
  have hR2 : ∀ g : Nat → Int, mh_R (mz_w V (x + 375) g) (x + 1) s := fun g => mh_R_f hI.pil.2 (fun r ra rb => mz_w_n _ _ (by omega)) hR
  have last : ∀ (g : Nat → Int), cq_g g (cw_R (cw_E s) 10) → ∀ k S : Nat, S + k = 64 → ∀ best : Int, (∀ T, T < S → cw_R (cw_E s) 10 T → mb_pop T ≤ best) → (0 ≤ best ∧ best ≤ 6) → (best = 0 ∨ ∃ T, T < 64 ∧ cw_R (cw_E s) 10 T ∧ mb_pop T = best) →
      mv_run X (mv_call X (d + 3)) m_X2_mostBySets 39 [.ref (x + 372), .ref (x + 1), .int (nZ best), .int (nZ S)] [] (mz_h P (mz_w V (x + 375) g), z) = some (.inl (some (.int (nZ N))), (mz_h P (mz_w V (x + 375) g), z)) := by
    intro g hg k
    induction k with
    | zero =>
      intro S hS best h1 h2 h3
      have : S = 64 := by omega
      subst this
      have hm : cw_max (cw_E s) best := by
        refine ⟨?_, h1⟩
        rcases h3 with h | h
        · exact ⟨0, by decide, cw_R_0 _ _, by rw [h]; decide⟩
        · exact h
      rw [bk_X2_mostBySets_39, if_pos (by exact Int32.le_refl _), cw_max_u hm hN]
    | succ k ih =>
      intro S hS best h1 h2 h3
      have hS64 : S < 64 := by omega
      have ih := ih (S + 1) (by omega)
      rw [nc1] at ih
      have p0 := mb_pop0 S
      have p6 := mb_pop6 S
      rw [bk_X2_mostBySets_39, if_neg (by rw [nZ_le (by decide) ⟨by omega, by omega⟩]; omega), mz_gR c1 (by decide) c6, ag _ _ _ hS64]
      rcases hg S hS64 with ⟨gk, rk⟩ | ⟨gk, rk⟩
      · rw [gk, if_pos rfl]
        simp only [mv_clI, mv_cl, J6_bitCount hS64, J9_max (show nS best from ⟨by omega, by omega⟩) (show nS (mb_pop S) from ⟨by omega, by omega⟩), nZ_add]
        refine ih _ (fun T hT hRT => ?_) (by split <;> omega) ?_
        · by_cases e : T = S
          · subst e; split <;> omega
          · have := h1 T (by omega) hRT
            split <;> omega
        · by_cases e : best < mb_pop S
          · rw [if_pos e]; exact Or.inr ⟨S, hS64, rk, rfl⟩
          · rw [if_neg e]; exact h3
      · rw [gk, if_neg (by decide), nZ_add]
        exact ih best (fun T hT hRT => by
          by_cases e : T = S
          · subst e; exact absurd hRT rk
          · exact h1 T (by omega) hRT) h2 h3
  have mid : ∀ k b : Nat, b + k = 10 → ∀ g : Nat → Int, cq_g g (cw_R (cw_E s) b) → ∃ g' : Nat → Int, mv_run X (mv_call X (d + 3)) m_X2_mostBySets 17 [.ref (x + 372), .ref (x + 1), .int (nZ b), .retAddr 0] [] (mz_h P (mz_w V (x + 375) g), z) = some (.inl (some (.int (nZ N))), (mz_h P (mz_w V (x + 375) g'), z)) := by
    intro k
    induction k with
    | zero =>
      intro b hb g hg
      have : b = 10 := by omega
      subst this
      refine ⟨g, ?_⟩
      rw [bk_X2_mostBySets_17, if_pos (by exact Int32.le_refl _)]
      exact last g hg 64 0 (by decide) 0 (fun T hT => absurd hT (Nat.not_lt_zero _)) (by omega) (Or.inl rfl)
    | succ k ih =>
      intro b hb g hg
      obtain ⟨g1, q1, q2⟩ := X2_give (X := X) (z := z) (d := d) hP hI hR (show b < 10 by omega) hg
      obtain ⟨g', q3⟩ := ih (b + 1) (by omega) g1 q2
      rw [nc1] at q3
      refine ⟨g', ?_⟩
      rw [bk_X2_mostBySets_17, if_neg (by rw [nZ_le (by decide) ⟨by omega, by omega⟩]; omega), mz_rcv c1]
      simp only [mv_clV, mv_cl, q1, nZ_add]
      exact q3
  have efl := J7_fill (X := X) (P := P) (V := V) (z := z) (d := d + 2) (r := x + 375) (n := 64) (y := 0) c7 (by decide)
  obtain ⟨g', q⟩ := mid 10 0 (by decide) (mr_up (mr_fl (V (x + 375)) 0 64) 0 1) (fun T hT => by
    by_cases e : T = 0
    · subst e; rw [mr_up_s]; exact Or.inl ⟨rfl, rfl⟩
    · rw [mr_up_n _ _ e, mr_fl_l _ _ hT]; exact Or.inr ⟨rfl, e⟩)
  refine ⟨g', ?_⟩
  rw [mc_X2_mostBySets, bk_X2_mostBySets_0, mz_gR c1 (by decide) c6]
  simp only [mv_clV, mv_cl, efl]
  rw [mz_gR c1 (by decide) c6, mz_sJ c7 (by decide) (by decide) (by decide), mz_w_s, mz_w_w]
  exact q
theorem Q8_mostCrewedBySets (hP : mX_P P x v n) (hI : mr_I s) (h : mh_R V (x + 1) s) (hN : cw_max (cw_E s) N) : ∃ g : Nat → Int, mv_call X (d + 5) 114 [.ref x] (mz_h P V, z) = some (.inl (some (.int (nZ N))), (mz_h P (mz_w V (x + 375) g), z)) := by
  obtain ⟨g, q⟩ := X2_sets (X := X) (z := z) (d := d) hP hI h hN
  refine ⟨g, ?_⟩
  rw [mc_X8_mostCrewedBySets, bk_X8_mostCrewedBySets_0, mx_g9 hP, mx_g0 hP, mz_rcv hP.cr.1]
  simp only [mv_clI, mv_cl, q]
end SETS
