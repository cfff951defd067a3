/-! CREWS BY CHANGING -/
def mr_fl (f : Nat → Int) (y : Int) (n : Nat) : Nat → Int := fun j => if j < n then y else f j
theorem mr_fl_l (f : Nat → Int) (y : Int) {n j : Nat} (h : j < n) : mr_fl f y n j = y := if_pos h
theorem mr_fl1 (f : Nat → Int) (y : Int) (n : Nat) : mr_up (mr_fl f y n) n y = mr_fl f y (n + 1) := by
  funext j
  unfold mr_up mr_fl
  by_cases e : j = n
  · rw [if_pos e, if_pos (by omega)]
  · rw [if_neg e]
    by_cases e2 : j < n
    · rw [if_pos e2, if_pos (by omega)]
    · rw [if_neg e2, if_neg (by omega)]
theorem mr_fl0 (f : Nat → Int) (y : Int) : mr_fl f y 0 = f := by
  funext j
  unfold mr_fl
  rw [if_neg (Nat.not_lt_zero _)]
theorem J7_fill {X : mv_X} {P : mz_P} {V : mz_V} {z : Nat × Nat} {d r n : Nat} {y : Int} (hr : P.1 r = some (.inr (.int, n))) (hn : n ≤ 65536) : mv_call X (d + 1) 281 [.ref r, .int (nZ y)] (mz_h P V, z) = some (.inl none, (mz_h P (mz_w V r (mr_fl (V r) y n)), z)) := by
  rw [mc_J7_fill_53178, bk_J7_fill_53178_0, mz_len hr]
  have key := mz_loop (φ := fun i => mv_run X (mv_call X d) m_J7_fill_53178 5 [.ref r, .int (nZ y), .int (nZ i), .int (nZ n)] [] (mz_h P (mz_w V r (mr_fl (V r) y i)), z) = some (.inl none, (mz_h P (mz_w V r (mr_fl (V r) y n)), z))) n ?_ (fun i hi ih => ?_) 0 (Nat.zero_le _)
  · rw [mr_fl0, mz_w_id] at key
    exact key
  · rw [bk_J7_fill_53178_5, if_pos (by exact Int32.le_refl _)]
  · rw [nc1] at ih
    rw [bk_J7_fill_53178_5, if_neg (by rw [nZ_le ⟨by omega, by omega⟩ ⟨by omega, by omega⟩]; omega), mz_sJ hr (by omega) (by omega) hn, mz_w_s, mz_w_w, Int.toNat_natCast, mr_fl1, nZ_add]
    exact ih
/-- pilot p can take berth b -/
def cw_E (s : Nat → Int) (p b : Nat) : Bool := decide ((p : Int) < s 5 ∧ s (6 + 11 * b) = 1 ∧ mq_fit s p b = true)
abbrev kn_F (E : Nat → Nat → Bool) (p : Nat) (H U U' : Nat → Int) : Prop := (∀ b, b < 10 → U b = 1 → U' b = 1) ∧ (∀ b, b < 10 → U' b = 1 → H b ≠ -1) ∧ (∀ b, b < 10 → E p b = true → U' b = 1) ∧ ∀ b, b < 10 → U' b = 1 → U b ≠ 1 → ∀ b', b' < 10 → E (H b).toNat b' = true → U' b' = 1
abbrev kn_S (E : Nat → Nat → Bool) (W : Nat → Bool) (p : Nat) (H U H' : Nat → Int) : Prop := (∀ b, b < 10 → H' b = -1 ∨ (0 ≤ H' b ∧ H' b < 6)) ∧ (∀ b, b < 10 → H' b ≠ -1 → E (H' b).toNat b = true) ∧ (∀ q, cw_n H' q = cw_n H q + if q = p then 1 else 0) ∧ (∀ b, b < 10 → W b = true → H' b = H b) ∧ (∃ b, b < 10 ∧ E p b = true ∧ W b = false) ∧ ∀ b, b < 10 → U b = 1 → H' b = H b
section KUHN
variable {X : mv_X} {P : mz_P} {V : mz_V} {z : Nat × Nat} {x v n d m : Nat} {s : Nat → Int}
theorem mX_P.cr (h : mX_P P x v n) : P.1 (x + 372) = some (.inl 6) ∧ P.2 (x + 372) 0 = some (x + 373) ∧ P.1 (x + 373) = some (.inr (.int, 10)) ∧ P.2 (x + 372) 1 = some (x + 374) ∧ P.1 (x + 374) = some (.inr (.int, 10)) ∧ P.2 (x + 372) 2 = some (x + 375) ∧ P.1 (x + 375) = some (.inr (.int, 64)) := h.2.2.2.2.2.2.2
theorem Y3_fitsE (hP : mX_P P x v n) (hI : mr_I s) (h : mh_R V (x + 1) s) {p k : Nat} (hp : p < 6) (hk : k < 10) : mv_call X (d + 2) 39 [.ref (x + 1), .int (nZ p), .int (nZ k)] (mz_h P V, z) = some (.inl (some (.int (nZ (if cw_E s p k = true then 1 else 0)))), (mz_h P V, z)) := by
  rw [Y3_fits hP hI h hp hk]
  unfold cw_E
  by_cases c : (p : Int) < s 5 ∧ s (6 + 11 * k) = 1 ∧ mq_fit s p k = true
  · rw [if_pos c, if_pos (decide_eq_true c)]
  · rw [if_neg c, if_neg (by rw [decide_eq_false c]; decide)]
theorem X2_find (hP : mX_P P x v n) (hI : mr_I s) (hR : mh_R V (x + 1) s) {W : Nat → Bool} : ∀ r e : Nat, e + r = 6 → ∀ (p : Nat) (H U : Nat → Int), p < 6 → (∀ b, b < 10 → H b = -1 ∨ (0 ≤ H b ∧ H b < 6)) → (∀ b, b < 10 → H b ≠ -1 → cw_E s (H b).toNat b = true) → mz_s (fun b => if H b = -1 then 0 else 1) 10 ≤ 5 →
    (∀ b, b < 10 → W b = true → H b ≠ -1 ∧ ∀ b', b' < 10 → cw_E s (H b).toNat b' = true → W b' = true) → (∀ b, b < 10 → U b = 0 ∨ U b = 1) → (∀ b, b < 10 → U b = 1 → H b ≠ -1) → (e : Int) ≤ mz_s U 10 →
    ∃ (c : Int) (H' U' : Nat → Int), mv_call X (d + r + 3) 22 [.ref (x + 1), .int (nZ p), .ref (x + 373), .ref (x + 374), .int (nZ e)] (mz_h P (mz_w (mz_w V (x + 373) H) (x + 374) U), z) = some (.inl (some (.int (nZ c))), (mz_h P (mz_w (mz_w V (x + 373) H') (x + 374) U'), z)) ∧ (∀ b, b < 10 → U' b = 0 ∨ U' b = 1) ∧
      ((c = 0 ∧ H' = H ∧ kn_F (cw_E s) p H U U') ∨ (c = 1 ∧ kn_S (cw_E s) W p H U H')) := by
  obtain ⟨c1, c2, c3, c4, c5, c6, c7⟩ := hP.cr
  have few : ∀ (H U : Nat → Int), (∀ b, b < 10 → U b = 0 ∨ U b = 1) → (∀ b, b < 10 → U b = 1 → H b ≠ -1) → mz_s U 10 ≤ mz_s (fun b => if H b = -1 then 0 else 1) 10 := fun H U h1 h2 => mz_s_le fun b hb => by
    have := h1 b hb
    have := h2 b hb
    show U b ≤ (if H b = -1 then (0 : Int) else 1)
    split <;> omega
  intro r
  induction r with
  | zero =>
    intro e he p H U hp hH hE hh hW hU hUH heU
    have := few H U hU hUH
    omega
  | succ r ihr =>
    intro e he p H U hp hH hE hh hW hU hUH heU
    have aH : ∀ (U : Nat → Int) (b : Nat) (F : Int32 → Option mv_R), b < 10 → mv_aI X (mz_h P (mz_w (mz_w V (x + 373) H) (x + 374) U), z) 1 (x + 373) (nZ b) F = F (nZ (H b)) := fun U b F hb => by
      rw [mz_aJ c3 (by omega) (by omega) (by decide), mz_w_n _ _ (by omega), mz_w_s, Int.toNat_natCast]
    have aU : ∀ (H U : Nat → Int) (b : Nat) (F : Int32 → Option mv_R), b < 10 → mv_aI X (mz_h P (mz_w (mz_w V (x + 373) H) (x + 374) U), z) 1 (x + 374) (nZ b) F = F (nZ (U b)) := fun H U b F hb => by
      rw [mz_aJ c5 (by omega) (by omega) (by decide), mz_w_s, Int.toNat_natCast]
    have sU : ∀ (H U : Nat → Int) (b : Nat) (y : Int) (F : mv_H → Option mv_R), b < 10 → mv_as (mz_h P (mz_w (mz_w V (x + 373) H) (x + 374) U), z) 1 (x + 374) (nZ b) (.int (nZ y)) F = F (mz_h P (mz_w (mz_w V (x + 373) H) (x + 374) (mr_up U b y)), z) := fun H U b y F hb => by
      rw [mz_sJ c5 (by omega) (by omega) (by decide), mz_w_s, mz_w_w, Int.toNat_natCast]
    have sH : ∀ (H U : Nat → Int) (b : Nat) (y : Int) (F : mv_H → Option mv_R), b < 10 → mv_as (mz_h P (mz_w (mz_w V (x + 373) H) (x + 374) U), z) 1 (x + 373) (nZ b) (.int (nZ y)) F = F (mz_h P (mz_w (mz_w V (x + 373) (mr_up H b y)) (x + 374) U), z) := fun H U b y F hb => by
      rw [mz_sJ c3 (by omega) (by omega) (by decide), mz_w_n _ _ (by omega), mz_w_s, Int.toNat_natCast, mz_w_c _ _ _ (by omega), mz_w_w]
    have hR2 : ∀ (H U : Nat → Int), mh_R (mz_w (mz_w V (x + 373) H) (x + 374) U) (x + 1) s := fun H U => mh_R_f hI.pil.2 (fun r ra rb => by rw [mz_w_n _ _ (by omega), mz_w_n _ _ (by omega)]) hR
    have loop : ∀ k b : Nat, b + k = 10 → ∀ U : Nat → Int, (∀ b, b < 10 → U b = 0 ∨ U b = 1) → (∀ b, b < 10 → U b = 1 → H b ≠ -1) → (e : Int) ≤ mz_s U 10 → (∀ b', b' < b → cw_E s p b' = true → U b' = 1) →
        ∃ (c : Int) (H' U' : Nat → Int), mv_run X (mv_call X (d + r + 3)) m_X2_findsBalloon 12 [.ref (x + 1), .int (nZ p), .ref (x + 373), .ref (x + 374), .int (nZ e), .int (nZ b)] [] (mz_h P (mz_w (mz_w V (x + 373) H) (x + 374) U), z) = some (.inl (some (.int (nZ c))), (mz_h P (mz_w (mz_w V (x + 373) H') (x + 374) U'), z)) ∧ (∀ b, b < 10 → U' b = 0 ∨ U' b = 1) ∧
          ((c = 0 ∧ H' = H ∧ kn_F (cw_E s) p H U U') ∨ (c = 1 ∧ kn_S (cw_E s) W p H U H')) := by
      intro k
      induction k with
      | zero =>
        intro b hb U hU hUH heU hlow
        have : b = 10 := by omega
        subst this
        refine ⟨0, H, U, ?_, hU, Or.inl ⟨rfl, rfl, fun b hb h => h, hUH, fun b hb h => hlow b hb h, fun b hb h1 h2 => absurd h1 h2⟩⟩
        rw [bk_X2_findsBalloon_12, if_pos (by exact Int32.le_refl _)]
      | succ k ihk =>
        intro b hb U hU hUH heU hlow
        have hb10 : b < 10 := by omega
        rw [bk_X2_findsBalloon_12, if_neg (by rw [nZ_le (by decide) ⟨by omega, by omega⟩]; omega), aU _ _ _ _ hb10]
        have go : (cw_E s p b = true → U b = 1) → ∃ (c : Int) (H' U' : Nat → Int), mv_run X (mv_call X (d + r + 3)) m_X2_findsBalloon 12 [.ref (x + 1), .int (nZ p), .ref (x + 373), .ref (x + 374), .int (nZ e), .int (nZ ((b : Int) + 1))] [] (mz_h P (mz_w (mz_w V (x + 373) H) (x + 374) U), z) = some (.inl (some (.int (nZ c))), (mz_h P (mz_w (mz_w V (x + 373) H') (x + 374) U'), z)) ∧ (∀ b, b < 10 → U' b = 0 ∨ U' b = 1) ∧
          ((c = 0 ∧ H' = H ∧ kn_F (cw_E s) p H U U') ∨ (c = 1 ∧ kn_S (cw_E s) W p H U H')) := fun hU1 => by
          have := ihk (b + 1) (by omega) U hU hUH heU (fun b' hb' he' => by
            by_cases e : b' = b
            · subst e; exact hU1 he'
            · exact hlow b' (by omega) he')
          rw [nc1] at this
          exact this
        by_cases cu : U b = 1
        · rw [if_neg (by rw [cu]; decide), nZ_add]
          exact go fun _ => cu
        · have cu0 : U b = 0 := by have := hU b hb10; omega
          rw [if_pos (by rw [cu0]; rfl), mz_rcv hP.h0.1]
          simp only [mv_clI, mv_cl, Y3_fitsE (d := d + r + 1) hP hI (hR2 H U) hp hb10, nZ_b1]
          by_cases ce : cw_E s p b = true
          · rw [if_neg (fun q => q ce), sU _ _ _ _ _ hb10, aH _ _ _ hb10]
            have hHb := hH b hb10
            by_cases ch : H b = -1
            · -- free: taken
              rw [if_pos (by rw [ch]), sH _ _ _ _ _ hb10]
              refine ⟨1, mr_up H b p, mr_up U b 1, rfl, fun b' hb' => ?_, Or.inr ⟨rfl, fun b' hb' => ?_, fun b' hb' hne => ?_, fun q => ?_, fun b' hb' hw => ?_, ⟨b, hb10, ce, ?_⟩, fun b' hb' hu => ?_⟩⟩
              · by_cases e : b' = b
                · subst e; rw [mr_up_s]; exact Or.inr rfl
                · rw [mr_up_n _ _ e]; exact hU b' hb'
              · by_cases e : b' = b
                · subst e; rw [mr_up_s]; exact Or.inr ⟨by omega, by omega⟩
                · rw [mr_up_n _ _ e]; exact hH b' hb'
              · by_cases e : b' = b
                · subst e; rw [mr_up_s, Int.toNat_natCast]; exact ce
                · rw [mr_up_n _ _ e] at hne ⊢; exact hE b' hb' hne
              · rw [cw_n_up H hb10, ch, if_neg (show ¬ (-1 : Int) = (q : Int) by omega)]
                by_cases e : q = p
                · subst e; rw [if_pos rfl, if_pos rfl]; omega
                · rw [if_neg (show ¬ (p : Int) = (q : Int) by omega), if_neg e]; omega
              · have := hW b' hb' hw
                rw [mr_up_n _ _ (fun e => this.1 (by rw [e]; exact ch))]
              · cases hw : W b with
                | false => rfl
                | true => exact absurd ch (hW b hb10 hw).1
              · rw [mr_up_n _ _ (fun e => hUH b' hb' hu (by rw [e]; exact ch))]
            · obtain ⟨q, hq⟩ : ∃ q : Nat, H b = q := ⟨(H b).toNat, by omega⟩
              have hq6 : q < 6 := by omega
              have hU1 : ∀ b', b' < 10 → mr_up U b 1 b' = 0 ∨ mr_up U b 1 b' = 1 := fun b' hb' => by
                by_cases e : b' = b
                · subst e; rw [mr_up_s]; exact Or.inr rfl
                · rw [mr_up_n _ _ e]; exact hU b' hb'
              have hU1H : ∀ b', b' < 10 → mr_up U b 1 b' = 1 → H b' ≠ -1 := fun b' hb' h => by
                by_cases e : b' = b
                · subst e; exact ch
                · rw [mr_up_n _ _ e] at h; exact hUH b' hb' h
              have hsum : ((e + 1 : Nat) : Int) ≤ mz_s (mr_up U b 1) 10 := by
                have := mz_s_up (fun _ y => y) U b 1 10
                rw [if_pos hb10, cu0] at this
                have this : mz_s (mr_up U b 1) 10 = mz_s U 10 + (1 - 0) := this
                omega
              obtain ⟨c, H2, U2, i1, i2, i3⟩ := ihr (e + 1) (by omega) q H (mr_up U b 1) hq6 hH hE hh hW hU1 hU1H hsum
              rw [nc1] at i1
              rw [if_neg (by rw [nZ_inj ⟨by omega, by omega⟩ (by decide)]; exact ch), aH _ _ _ hb10, hq, nZ_add]
              simp only [i1]
              rcases i3 with ⟨rfl, rfl, f1, f2, f3, f4⟩ | ⟨rfl, g1, g2, g3, g4, g5, g6⟩
              · -- not found from there: on
                rw [if_pos (by rfl), nZ_add]
                have hU2b : U2 b = 1 := f1 b hb10 (mr_up_s _ _ _)
                have hmono : ∀ b', b' < 10 → U b' = 1 → U2 b' = 1 := fun b' hb' h => f1 b' hb' (by
                  by_cases e : b' = b
                  · subst e; exact mr_up_s _ _ _
                  · rw [mr_up_n _ _ e]; exact h)
                have hs2 : (e : Int) ≤ mz_s U2 10 := by
                  have : mz_s U 10 ≤ mz_s U2 10 := mz_s_le fun b' hb' => by
                    have h1 := hU b' hb'
                    have h2 := i2 b' hb'
                    have h3 := hmono b' hb'
                    omega
                  omega
                have key := ihk (b + 1) (by omega) U2 i2 f2 hs2 (fun b' hb' he' => by
                  by_cases e : b' = b
                  · subst e; exact hU2b
                  · exact hmono b' (by omega) (hlow b' (by omega) he'))
                rw [nc1] at key
                obtain ⟨c', H3, U3, j1, j2, j3⟩ := key
                refine ⟨c', H3, U3, j1, j2, ?_⟩
                rcases j3 with ⟨e1, e2, k1, k2, k3, k4⟩ | ⟨e1, k1, k2, k3, k4, k5, k6⟩
                · refine Or.inl ⟨e1, e2, fun b' hb' h => k1 b' hb' (hmono b' hb' h), k2, k3, fun b' hb' h1 h2 b2 hb2 he2 => ?_⟩
                  by_cases u2 : U2 b' = 1
                  · refine k1 b2 hb2 ?_
                    by_cases e : b' = b
                    · subst e
                      rw [hq, Int.toNat_natCast] at he2
                      exact f3 b2 hb2 he2
                    · exact f4 b' hb' u2 (by rw [mr_up_n _ _ e]; exact h2) b2 hb2 he2
                  · exact k4 b' hb' h1 u2 b2 hb2 he2
                · exact Or.inr ⟨e1, k1, k2, k3, k4, k5, fun b' hb' h => k6 b' hb' (hmono b' hb' h)⟩
              · -- found: changed
                rw [if_neg (by decide), sH _ _ _ _ _ hb10]
                have hH2b : H2 b = q := by rw [g6 b hb10 (mr_up_s _ _ _), hq]
                have hWb : W b = false := by
                  cases hw : W b with
                  | false => rfl
                  | true =>
                    obtain ⟨b2, u1, u2, u3⟩ := g5
                    have := (hW b hb10 hw).2 b2 u1 (by rw [hq, Int.toNat_natCast]; exact u2)
                    rw [u3] at this
                    exact absurd this (by decide)
                refine ⟨1, mr_up H2 b p, U2, rfl, i2, Or.inr ⟨rfl, fun b' hb' => ?_, fun b' hb' hne => ?_, fun q' => ?_, fun b' hb' hw => ?_, ⟨b, hb10, ce, hWb⟩, fun b' hb' hu => ?_⟩⟩
                · by_cases e : b' = b
                  · subst e; rw [mr_up_s]; exact Or.inr ⟨by omega, by omega⟩
                  · rw [mr_up_n _ _ e]; exact g1 b' hb'
                · by_cases e : b' = b
                  · subst e; rw [mr_up_s, Int.toNat_natCast]; exact ce
                  · rw [mr_up_n _ _ e] at hne ⊢; exact g2 b' hb' hne
                · rw [cw_n_up H2 hb10, hH2b, g3 q']
                  by_cases e1 : q' = p
                  · rw [if_pos e1, if_pos (show (p : Int) = (q' : Int) by omega)]
                    by_cases e2 : q' = q
                    · rw [if_pos e2, if_pos (show (q : Int) = (q' : Int) by omega)]; omega
                    · rw [if_neg e2, if_neg (show ¬ (q : Int) = (q' : Int) by omega)]; omega
                  · rw [if_neg e1, if_neg (show ¬ (p : Int) = (q' : Int) by omega)]
                    by_cases e2 : q' = q
                    · rw [if_pos e2, if_pos (show (q : Int) = (q' : Int) by omega)]; omega
                    · rw [if_neg e2, if_neg (show ¬ (q : Int) = (q' : Int) by omega)]; omega
                · have : b' ≠ b := fun e => by rw [e, hWb] at hw; exact absurd hw (by decide)
                  rw [mr_up_n _ _ this]
                  exact g4 b' hb' hw
                · have : b' ≠ b := fun e => cu (by rw [← e]; exact hu)
                  rw [mr_up_n _ _ this]
                  exact g6 b' hb' (by rw [mr_up_n _ _ this]; exact hu)
          · rw [if_pos ce, nZ_add]
            exact go fun h => absurd h ce
    have := loop 10 0 (by decide) U hU hUH heU (fun b' hb' => absurd hb' (Nat.not_lt_zero _))
    rw [show d + (r + 1) + 3 = d + r + 3 + 1 by omega, mc_X2_findsBalloon, bk_X2_findsBalloon_0, if_pos (by rw [nZ_lt ⟨by omega, by omega⟩ (by decide)]; omega)]
    exact this
end KUHN
