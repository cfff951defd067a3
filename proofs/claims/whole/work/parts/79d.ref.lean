/-! CREWS, THE REFERENCE -/
def cq_v (g : Nat → Int) (R : Nat → Prop) : Prop := ∀ T, T < 64 → (g T = mb_pop T ∧ R T) ∨ (g T = -1 ∧ ¬ R T)
theorem cq_v_c {g : Nat → Int} {R R' : Nat → Prop} (h : cq_v g R) (e : ∀ T, T < 64 → (R T ↔ R' T)) : cq_v g R' := fun T hT => (h T hT).imp (fun u => ⟨u.1, (e T hT).mp u.2⟩) fun u => ⟨u.1, fun w => u.2 ((e T hT).mpr w)⟩
section CREF
variable {X : mv_X} {P : mz_P} {V : mz_V} {z : Nat × Nat} {d m : Nat} {s : Nat → Int}
/-- both rows of the reference's counts -/
theorem Q9_mostCrewed (hM : mr_M P m) (hI : mr_I (V (m + 1))) (hpI : mq_pI (V (m + 1))) : ∃ (N : Int) (f g : Nat → Int), cw_max (cw_E (V (m + 1))) N ∧ mv_call X (d + 5) 222 [.ref m] (mz_h P V, z) = some (.inl (some (.int (nZ N))), (mz_h P (mz_w (mz_w (mq_t V m 0) (m + 11) f) (m + 12) g), z)) := by
  obtain ⟨s, hs⟩ : ∃ s, s = V (m + 1) := ⟨_, rfl⟩
  rw [← hs] at hI hpI ⊢
  have h5 := hI.pil
  obtain ⟨np, hnp⟩ : ∃ np : Nat, s 5 = np := ⟨(s 5).toNat, by omega⟩
  have hnp6 : np ≤ 6 := by omega
  have hE : ∀ p b, cw_E s p b = true → p < np := fun p b h => by
    have := of_decide_eq_true h
    omega
  obtain ⟨U, hU⟩ : ∃ U : (Nat → Int) → (Nat → Int) → mz_V, U = fun f g => mz_w (mz_w (mq_t V m 0) (m + 11) f) (m + 12) g := ⟨_, rfl⟩
  have U1 : ∀ f g, U f g (m + 1) = s := fun f g => by rw [hU]; show mz_w (mz_w (mq_t V m 0) (m + 11) f) (m + 12) g (m + 1) = s; rw [mz_w_n _ _ (by omega), mz_w_n _ _ (by omega), mq_t_1, hs]
  have U11 : ∀ f g, U f g (m + 11) = f := fun f g => by rw [hU]; show mz_w (mz_w (mq_t V m 0) (m + 11) f) (m + 12) g (m + 11) = f; rw [mz_w_n _ _ (by omega), mz_w_s]
  have U12 : ∀ f g, U f g (m + 12) = g := fun f g => by rw [hU]; exact mz_w_s _ _ _
  have W11 : ∀ f g f', mz_w (U f g) (m + 11) f' = U f' g := fun f g f' => by rw [hU]; show mz_w (mz_w (mz_w (mq_t V m 0) (m + 11) f) (m + 12) g) (m + 11) f' = mz_w (mz_w (mq_t V m 0) (m + 11) f') (m + 12) g; rw [mz_w_c _ _ _ (by omega), mz_w_w]
  have W12 : ∀ f g g', mz_w (U f g) (m + 12) g' = U f g' := fun f g g' => by rw [hU]; exact mz_w_w _ _ _ _
  have hIU : ∀ f g, mr_I (U f g (m + 1)) := fun f g => by rw [U1]; exact hI
  have hpU : ∀ f g, mq_pI (U f g (m + 1)) := fun f g => by rw [U1]; exact hpI
  have aF : ∀ (f g : Nat → Int) (T : Nat) (F : Int32 → Option mv_R), T < 64 → (mv_gR X (mz_h P (U f g), z) m 13 13 fun r => mv_aI X (mz_h P (U f g), z) 1 r (nZ T) F) = F (nZ (f T)) := fun f g T F hT => by
    rw [mr_gmo hM, mr_amo hM (by omega) (by omega), U11, Int.toNat_natCast]
  have aG : ∀ (f g : Nat → Int) (T : Nat) (F : Int32 → Option mv_R), T < 64 → (mv_gR X (mz_h P (U f g), z) m 13 14 fun r => mv_aI X (mz_h P (U f g), z) 1 r (nZ T) F) = F (nZ (g T)) := fun f g T F hT => by
    rw [mr_gne hM, mr_ane hM (by omega) (by omega), U12, Int.toNat_natCast]
  have sF : ∀ (f g : Nat → Int) (T : Nat) (y : Int) (F : mv_H → Option mv_R), T < 64 → mv_as (mz_h P (U f g), z) 1 (m + 11) (nZ T) (.int (nZ y)) F = F (mz_h P (U (mr_up f T y) g), z) := fun f g T y F hT => by
    rw [mr_pmo hM (by omega) (by omega), U11, W11, Int.toNat_natCast]
  have sG : ∀ (f g : Nat → Int) (T : Nat) (y : Int) (F : mv_H → Option mv_R), T < 64 → mv_as (mz_h P (U f g), z) 1 (m + 12) (nZ T) (.int (nZ y)) F = F (mz_h P (U f (mr_up g T y)), z) := fun f g T y F hT => by
    rw [mr_pne hM (by omega) (by omega), U12, W12, Int.toNat_natCast]
  -- the greatest at the end
  have last : ∀ (f g : Nat → Int), cq_v f (cw_R (cw_E s) 10) → ∀ k S : Nat, S + k = 64 → ∀ best : Int, (∀ T, T < S → cw_R (cw_E s) 10 T → mb_pop T ≤ best) → (0 ≤ best ∧ best ≤ 6) → (best = 0 ∨ ∃ T, T < 64 ∧ cw_R (cw_E s) 10 T ∧ mb_pop T = best) →
      ∀ j3 j4 : Value, ∃ N, cw_max (cw_E s) N ∧ mv_run X (mv_call X (d + 4)) m_X9_mostCrewed 212 [.ref m, .int (nZ best), .int (nZ S), j3, j4] [] (mz_h P (U f g), z) = some (.inl (some (.int (nZ N))), (mz_h P (U f g), z)) := by
    intro f g hg k
    induction k with
    | zero =>
      intro S hS best h1 h2 h3 j3 j4
      have : S = 64 := by omega
      subst this
      have hm : cw_max (cw_E s) best := by
        refine ⟨?_, h1⟩
        rcases h3 with h | h
        · exact ⟨0, by decide, cw_R_0 _ _, by rw [h]; decide⟩
        · exact h
      exact ⟨best, hm, by rw [bk_X9_mostCrewed_212, if_pos (by exact Int32.le_refl _)]⟩
    | succ k ih =>
      intro S hS best h1 h2 h3 j3 j4
      have hS64 : S < 64 := by omega
      have ih := ih (S + 1) (by omega)
      rw [nc1] at ih
      have p0 := mb_pop0 S
      have p6 := mb_pop6 S
      rw [bk_X9_mostCrewed_212, if_neg (by rw [nZ_le (by decide) ⟨by omega, by omega⟩]; omega), aF _ _ _ _ hS64]
      have fS : -1 ≤ f S ∧ f S ≤ 6 := by
        rcases hg S hS64 with ⟨gk, rk⟩ | ⟨gk, rk⟩ <;> omega
      by_cases e : f S ≤ best
      · rw [if_pos ((nZ_le ⟨by omega, by omega⟩ ⟨by omega, by omega⟩).mpr e), nZ_add]
        exact ih best (fun T hT hRT => by
          by_cases e2 : T = S
          · subst e2
            rcases hg T hS64 with ⟨gk, rk⟩ | ⟨gk, rk⟩
            · omega
            · exact absurd hRT rk
          · exact h1 T (by omega) hRT) h2 h3 _ _
      · rw [if_neg (fun q => e ((nZ_le ⟨by omega, by omega⟩ ⟨by omega, by omega⟩).mp q)), aF _ _ _ _ hS64, nZ_add]
        rcases hg S hS64 with ⟨gk, rk⟩ | ⟨gk, rk⟩
        · exact ih (f S) (fun T hT hRT => by
            by_cases e2 : T = S
            · subst e2; omega
            · have := h1 T (by omega) hRT
              omega) (by omega) (Or.inr ⟨S, hS64, rk, gk.symm⟩) _ _
        · omega
  -- berth by berth
  have mid : ∀ k b : Nat, b + k = 10 → ∀ (f g : Nat → Int) (j2 j3 j4 : Value), cq_v f (cw_R (cw_E s) b) → ∃ (N : Int) (f' g' : Nat → Int), cw_max (cw_E s) N ∧ mv_run X (mv_call X (d + 4)) m_X9_mostCrewed 36 [.ref m, .int (nZ b), j2, j3, j4] [] (mz_h P (U f g), z) = some (.inl (some (.int (nZ N))), (mz_h P (U f' g'), z)) := by
    intro k
    induction k with
    | zero =>
      intro b hb f g j2 j3 j4 hf
      have : b = 10 := by omega
      subst this
      obtain ⟨N, n1, n2⟩ := last f g hf 64 0 (by decide) 0 (fun T hT => absurd hT (Nat.not_lt_zero _)) (by omega) (Or.inl rfl) j3 j4
      refine ⟨N, f, g, n1, ?_⟩
      rw [bk_X9_mostCrewed_36, if_pos (by exact Int32.le_refl _)]
      exact n2
    | succ k ih =>
      intro b hb f g j2 j3 j4 hf
      have hb10 : b < 10 := by omega
      have ih := ih (b + 1) (by omega)
      rw [nc1] at ih
      rw [bk_X9_mostCrewed_36, if_neg (by rw [nZ_le (by decide) ⟨by omega, by omega⟩]; omega), mz_rcv hM.o]
      simp only [mv_clI, mv_cl, X9_isHere hM (hIU f g) (i := (b : Int)) ⟨by omega, by omega⟩, U1, mr_has_n hb10, nZ_b1]
      by_cases ch : s (6 + 11 * b) = 1
      · rw [if_neg (fun q => q ch)]
        -- next back to most
        have back : ∀ (R : Nat → Prop) (g : Nat → Int), cq_v g R → (∀ T, T < 64 → (R T ↔ cw_R (cw_E s) (b + 1) T)) → ∀ k2 S : Nat, S + k2 = 64 → ∀ (f : Nat → Int) (j3 j4 : Value), (∀ T, T < S → f T = g T) → ∃ (N : Int) (f' g' : Nat → Int), cw_max (cw_E s) N ∧ mv_run X (mv_call X (d + 4)) m_X9_mostCrewed 178 [.ref m, .int (nZ b), .int (nZ S), j3, j4] [] (mz_h P (U f g), z) = some (.inl (some (.int (nZ N))), (mz_h P (U f' g'), z)) := by
          intro R g hg hRR k2
          induction k2 with
          | zero =>
            intro S hS f j3 j4 hfg
            have : S = 64 := by omega
            subst this
            rw [bk_X9_mostCrewed_178, if_pos (by exact Int32.le_refl _), nZ_add]
            exact ih f g _ _ _ (fun T hT => by rw [hfg T hT]; exact cq_v_c hg hRR T hT)
          | succ k2 ih2 =>
            intro S hS f j3 j4 hfg
            have hS64 : S < 64 := by omega
            have ih2 := ih2 (S + 1) (by omega)
            rw [nc1] at ih2
            rw [bk_X9_mostCrewed_178, if_neg (by rw [nZ_le (by decide) ⟨by omega, by omega⟩]; omega), mr_gmo hM, aG _ _ _ _ hS64, sF _ _ _ _ _ hS64, nZ_add]
            exact ih2 _ _ _ (fun T hT => by
              by_cases e : T = S
              · subst e; exact mr_up_s _ _ _
              · rw [mr_up_n _ _ e]; exact hfg T (by omega))
        -- set by set
        have sets : ∀ k2 S : Nat, S + k2 = 64 → ∀ (g : Nat → Int) (j3 j4 : Value), cq_v g (cq_a (cw_E s) b (cw_R (cw_E s) b) S 0) → ∃ (N : Int) (f' g' : Nat → Int), cw_max (cw_E s) N ∧ mv_run X (mv_call X (d + 4)) m_X9_mostCrewed 81 [.ref m, .int (nZ b), .int (nZ S), j3, j4] [] (mz_h P (U f g), z) = some (.inl (some (.int (nZ N))), (mz_h P (U f' g'), z)) := by
          intro k2
          induction k2 with
          | zero =>
            intro S hS g j3 j4 hg
            have : S = 64 := by omega
            subst this
            rw [bk_X9_mostCrewed_81, if_pos (by exact Int32.le_refl _)]
            exact back _ g hg (fun T hT => ⟨fun u => u.imp id fun ⟨p, h1, h2, h3, h4, h5⟩ => ⟨p, h1, h2, h3, h4⟩, fun u => u.imp id fun ⟨p, h1, h2, h3, h4⟩ => ⟨p, h1, h2, h3, h4, Or.inl (Nat.lt_of_le_of_lt (Nat.sub_le _ _) hT)⟩⟩) 64 0 (by decide) f _ _ (fun T hT => absurd hT (Nat.not_lt_zero _))
          | succ k2 ih2 =>
            intro S hS g j3 j4 hg
            have hS64 : S < 64 := by omega
            have ih2 := ih2 (S + 1) (by omega)
            rw [nc1] at ih2
            have hfS := hf S hS64
            rw [bk_X9_mostCrewed_81, if_neg (by rw [nZ_le (by decide) ⟨by omega, by omega⟩]; omega)]
            have pil : ∀ k3 q : Nat, q + k3 = np → ∀ (g : Nat → Int) (j4 : Value), cq_v g (cq_a (cw_E s) b (cw_R (cw_E s) b) S q) → ∃ (N : Int) (f' g' : Nat → Int), cw_max (cw_E s) N ∧ mv_run X (mv_call X (d + 4)) m_X9_mostCrewed 89 [.ref m, .int (nZ b), .int (nZ S), .int (nZ q), j4] [] (mz_h P (U f g), z) = some (.inl (some (.int (nZ N))), (mz_h P (U f' g'), z)) := by
              intro k3
              induction k3 with
              | zero =>
                intro q hq g j4 hg
                have : q = np := by omega
                subst this
                rw [bk_X9_mostCrewed_89, mr_gs hM, mr_as hM (by decide) (by decide), U1, show (5 : Int).toNat = 5 from rfl, hnp, if_pos (by exact Int32.le_refl _), nZ_add]
                exact ih2 g _ _ (cq_v_c hg fun T hT => ⟨fun u => u.imp id fun ⟨p, h1, h2, h3, h4, h5⟩ => ⟨p, h1, h2, h3, h4, by omega⟩, fun u => u.imp id fun ⟨p, h1, h2, h3, h4, h5⟩ => ⟨p, h1, h2, h3, h4, by have := hE p b h3; omega⟩⟩)
              | succ k3 ih3 =>
                intro q hq g j4 hg
                have hq6 : q < 6 := by omega
                have ih3 := ih3 (q + 1) (by omega)
                rw [nc1] at ih3
                obtain ⟨b1, b2, b3⟩ := cw_orb_t S hS64 q hq6
                have p0 := mb_pop0 S
                have p6 := mb_pop6 S
                rw [bk_X9_mostCrewed_89, mr_gs hM, mr_as hM (by decide) (by decide), U1, show (5 : Int).toNat = 5 from rfl, hnp, if_neg (by rw [nZ_le ⟨by omega, by omega⟩ ⟨by omega, by omega⟩]; omega), aF _ _ _ _ hS64, mb_or (by omega) (by omega), nZ_add, nZ_add]
                rcases hfS with ⟨fS, rS⟩ | ⟨fS, rS⟩
                · rw [fS, if_neg (by rw [nZ_inj ⟨by omega, by omega⟩ (by decide)]; omega)]
                  have same : ¬ (S.testBit q = false ∧ cw_E s q b = true ∧ cw_R (cw_E s) b S) → ∀ j4 : Value, ∃ (N : Int) (f' g' : Nat → Int), cw_max (cw_E s) N ∧ mv_run X (mv_call X (d + 4)) m_X9_mostCrewed 89 [.ref m, .int (nZ b), .int (nZ S), .int (nZ ((q : Int) + 1)), j4] [] (mz_h P (U f g), z) = some (.inl (some (.int (nZ N))), (mz_h P (U f' g'), z)) := fun hn j4 => ih3 g j4 (cq_v_c hg fun T hT => (Iff.trans (cq_a1 hT hS64 hq6) ⟨fun u => u.elim id fun w => absurd ⟨w.1, w.2.2.1, w.2.2.2⟩ hn, Or.inl⟩).symm)
                  by_cases cb : S.testBit q = true
                  · rw [cb] at b1
                    rw [if_pos (by rw [of_decide_eq_true b1])]
                    exact same (fun w => by rw [cb] at w; exact absurd w.1 (by decide)) _
                  · have cb : S.testBit q = false := by
                      cases hb : S.testBit q with
                      | false => rfl
                      | true => exact absurd hb cb
                    rw [cb] at b1
                    have hne := of_decide_eq_false b1
                    rw [if_neg (by rw [nZ_inj ⟨by omega, by omega⟩ ⟨by omega, by omega⟩]; omega), mz_rcv hM.o]
                    simp only [mv_clI, mv_cl, X9_crews hM (hIU f g) (hpU f g) (show (q : Int) < U f g (m + 1) 5 by rw [U1]; omega) hb10, U1, nZ_b1]
                    have eE : cw_E s q b = true ↔ mq_fit s q b = true := ⟨fun h => (of_decide_eq_true h).2.2, fun h => decide_eq_true ⟨by omega, ch, h⟩⟩
                    by_cases ce : mq_fit s q b = true
                    · have ceE := eE.mpr ce
                      rw [if_neg (fun w => w ce), aF _ _ _ _ hS64, aG _ _ _ _ b2, fS, nZ_add]
                      have hpop := b3 cb
                      have hgT := hg _ b2
                      have hnew := (cq_a1 (E := cw_E s) (b := b) (R := cw_R (cw_E s) b) b2 hS64 hq6).mpr (Or.inr ⟨cb, rfl, ceE, rS⟩)
                      have gb : -1 ≤ g (S ||| 2 ^ q) ∧ g (S ||| 2 ^ q) ≤ 7 := by
                        rcases hgT with h | h <;> omega
                      by_cases cl : mb_pop S + 1 ≤ g (S ||| 2 ^ q)
                      · rw [if_pos ((nZ_le ⟨by omega, by omega⟩ ⟨by omega, by omega⟩).mpr cl)]
                        refine ih3 g _ (fun T hT => ?_)
                        by_cases eT : T = S ||| 2 ^ q
                        · rw [eT]
                          refine Or.inl ⟨?_, hnew⟩
                          rcases hgT with h | h <;> omega
                        · refine (hg T hT).imp (fun u => ⟨u.1, (cq_a1 hT hS64 hq6).mpr (Or.inl u.2)⟩) fun u => ⟨u.1, fun w => ?_⟩
                          rcases (cq_a1 hT hS64 hq6).mp w with w | w
                          · exact u.2 w
                          · exact eT w.2.1
                      · rw [if_neg (fun w => cl ((nZ_le ⟨by omega, by omega⟩ ⟨by omega, by omega⟩).mp w)), mr_gne hM, aF _ _ _ _ hS64, fS, nZ_add, sG _ _ _ _ _ b2]
                        refine ih3 _ _ (fun T hT => ?_)
                        by_cases eT : T = S ||| 2 ^ q
                        · rw [eT, mr_up_s]
                          exact Or.inl ⟨hpop.symm, hnew⟩
                        · rw [mr_up_n _ _ eT]
                          refine (hg T hT).imp (fun u => ⟨u.1, (cq_a1 hT hS64 hq6).mpr (Or.inl u.2)⟩) fun u => ⟨u.1, fun w => ?_⟩
                          rcases (cq_a1 hT hS64 hq6).mp w with w | w
                          · exact u.2 w
                          · exact eT w.2.1
                    · rw [if_pos ce]
                      exact same (fun w => ce (eE.mp w.2.1)) _
                · rw [fS, if_pos rfl]
                  refine ih2 g _ _ (cq_v_c hg fun T hT => ⟨fun u => u.imp id fun ⟨p, h1, h2, h3, h4, h5⟩ => ⟨p, h1, h2, h3, h4, by omega⟩, fun u => u.imp id fun ⟨p, h1, h2, h3, h4, h5⟩ => ⟨p, h1, h2, h3, h4, ?_⟩⟩)
                  by_cases e : T - 2 ^ p = S
                  · rw [e] at h4; exact absurd h4 rS
                  · omega
            exact pil np 0 (by omega) g _ hg
        -- most to next
        have cpy : ∀ k2 S : Nat, S + k2 = 64 → ∀ (g : Nat → Int) (j3 j4 : Value), (∀ T, T < S → g T = f T) → ∃ (N : Int) (f' g' : Nat → Int), cw_max (cw_E s) N ∧ mv_run X (mv_call X (d + 4)) m_X9_mostCrewed 55 [.ref m, .int (nZ b), .int (nZ S), j3, j4] [] (mz_h P (U f g), z) = some (.inl (some (.int (nZ N))), (mz_h P (U f' g'), z)) := by
          intro k2
          induction k2 with
          | zero =>
            intro S hS g j3 j4 hfg
            have : S = 64 := by omega
            subst this
            rw [bk_X9_mostCrewed_55, if_pos (by exact Int32.le_refl _)]
            refine sets 64 0 (by decide) g _ _ (fun T hT => ?_)
            rw [hfg T hT]
            refine (hf T hT).imp (fun u => ⟨u.1, Or.inl u.2⟩) fun u => ⟨u.1, fun w => ?_⟩
            rcases w with w | ⟨p, h1, h2, h3, h4, h5⟩
            · exact u.2 w
            · omega
          | succ k2 ih2 =>
            intro S hS g j3 j4 hfg
            have hS64 : S < 64 := by omega
            have ih2 := ih2 (S + 1) (by omega)
            rw [nc1] at ih2
            rw [bk_X9_mostCrewed_55, if_neg (by rw [nZ_le (by decide) ⟨by omega, by omega⟩]; omega), mr_gne hM, aF _ _ _ _ hS64, sG _ _ _ _ _ hS64, nZ_add]
            exact ih2 _ _ _ (fun T hT => by
              by_cases e : T = S
              · subst e; exact mr_up_s _ _ _
              · rw [mr_up_n _ _ e]; exact hfg T (by omega))
        exact cpy 64 0 (by decide) g _ _ (fun T hT => absurd hT (Nat.not_lt_zero _))
      · rw [if_pos ch, nZ_add]
        refine ih f g _ _ _ (cq_v_c hf fun T hT => ⟨Or.inl, fun u => u.elim id fun ⟨p, h1, h2, h3, h4⟩ => ?_⟩)
        exact absurd (of_decide_eq_true h3).2.1 ch
  -- the start
  have start : ∀ k S : Nat, S + k = 64 → ∀ (f g : Nat → Int), (∀ T, T < S → f T = if T = 0 then 0 else -1) → ∃ (N : Int) (f' g' : Nat → Int), cw_max (cw_E s) N ∧ mv_run X (mv_call X (d + 4)) m_X9_mostCrewed 7 [.ref m, .int (nZ S), .retAddr 0, .retAddr 0, .retAddr 0] [] (mz_h P (U f g), z) = some (.inl (some (.int (nZ N))), (mz_h P (U f' g'), z)) := by
    intro k
    induction k with
    | zero =>
      intro S hS f g hf
      have : S = 64 := by omega
      subst this
      rw [bk_X9_mostCrewed_7, if_pos (by exact Int32.le_refl _)]
      refine mid 10 0 (by decide) f g _ _ _ (fun T hT => ?_)
      rw [hf T hT]
      by_cases e : T = 0
      · subst e; exact Or.inl ⟨by decide, rfl⟩
      · rw [if_neg e]; exact Or.inr ⟨rfl, e⟩
    | succ k ih =>
      intro S hS f g hf
      have hS64 : S < 64 := by omega
      have ih := ih (S + 1) (by omega)
      rw [nc1] at ih
      rw [bk_X9_mostCrewed_7, if_neg (by rw [nZ_le (by decide) ⟨by omega, by omega⟩]; omega), mr_gmo hM]
      by_cases e : S = 0
      · rw [if_pos (by rw [e]; rfl), sF _ _ _ _ _ hS64, nZ_add]
        exact ih _ _ (fun T hT => by
          have : T = S := by omega
          subst this
          rw [mr_up_s, if_pos e])
      · rw [if_neg (by rw [nZ_eq0 ⟨by omega, by omega⟩]; omega), sF _ _ _ _ _ hS64, nZ_add]
        exact ih _ _ (fun T hT => by
          by_cases e2 : T = S
          · subst e2; rw [mr_up_s, if_neg e]
          · rw [mr_up_n _ _ e2]; exact hf T (by omega))
  obtain ⟨N, f', g', n1, n2⟩ := start 64 0 (by decide) (V (m + 11)) (V (m + 12)) (fun T hT => absurd hT (Nat.not_lt_zero _))
  have e0 : U (V (m + 11)) (V (m + 12)) = mq_t V m 0 := by
    rw [hU]
    show mz_w (mz_w (mq_t V m 0) (m + 11) (V (m + 11))) (m + 12) (V (m + 12)) = mq_t V m 0
    have a1 : mz_w (mq_t V m 0) (m + 11) (V (m + 11)) = mq_t V m 0 := by
      conv => lhs; rw [← mq_t_r V (m := m) 0 (show m + 11 ≠ m by omega)]
      exact mz_w_id _ _
    rw [a1]
    conv => lhs; rw [← mq_t_r V (m := m) 0 (show m + 12 ≠ m by omega)]
    exact mz_w_id _ _
  rw [e0] at n2
  refine ⟨N, f', g', n1, ?_⟩
  rw [hU] at n2
  rw [mc_X9_mostCrewed, bk_X9_mostCrewed_0, mq_p0 hM]
  exact n2
theorem Q9_mostCrewedBySets (hM : mr_M P m) (hI : mr_I (V (m + 1))) (hpI : mq_pI (V (m + 1))) : ∃ (N : Int) (f g : Nat → Int), cw_max (cw_E (V (m + 1))) N ∧ mv_call X (d + 6) 223 [.ref m] (mz_h P V, z) = some (.inl (some (.int (nZ N))), (mz_h P (mz_w (mz_w (mq_t V m 0) (m + 11) f) (m + 12) g), z)) := by
  obtain ⟨N, f, g, n1, n2⟩ := Q9_mostCrewed (X := X) (z := z) (d := d) hM hI hpI
  refine ⟨N, f, g, n1, ?_⟩
  rw [mc_X9_mostCrewedBySets, bk_X9_mostCrewedBySets_0, mz_rcv hM.o]
  simp only [mv_clI, mv_cl, n2]
end CREF
