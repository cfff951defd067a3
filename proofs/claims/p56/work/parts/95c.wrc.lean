/-! THE LAW'S WRAPPERS: what writes -/
/-- a state's next, once kept -/
def ph_ch (w w2 : mz_V) : Prop := w2 4 = mg_hp (w 4) (w 0 6) (w 1) ∧ w2 0 6 = mg_kp (w 0 6)
def ph_no (w w2 : mz_V) : Prop := w2 1 = w 1 ∧ w2 4 = w 4 ∧ w2 0 6 = w 0 6
section WRC
variable {X : mv_X} {x : Nat} {S : Nat → Int} {w : mz_V} {b : Int} {c : Nat × Nat} {m : Nat} {h : mv_H} {d a k p y : Nat} {as : List Value} {Φ : Option mv_R → Prop} {g : Nat → Nat → mv_H → Option mv_R} {f : Int32 → mv_H → Option mv_R}
/-- a call that leaves another state -/
theorem ph_up {r : Value} {w2 : mz_V} {b2 : Int} (hH : ph_H X x S w b c m h) (hq : ∀ (P : mz_P) (V : mz_V) (v n : Nat) (z : Nat × Nat) (w1 : mz_V), mX_P P x v n → mX_is V x v w1 → mg_J w1 b → ph_E w w1 → ∃ (V' : mz_V) (w1' : mz_V), mv_call X d y as (mz_h P V, z) = some (.inl (some r), (mz_h P V', z)) ∧ mX_is V' x v w1' ∧ mX_X V V' x v ∧ mg_J w1' b2 ∧ ph_E w2 w1' ∧ w1' 0 16 = w1 0 16) : ∃ h', mv_call X d y as h = some (.inl (some r), h') ∧ ph_H X x S w2 b2 c m h' := by
  obtain ⟨P, V, v, n, w1, e, ⟨⟨hP, hW, hJ⟩, hX, z1, hv, h16, hs, hS⟩, hE, c1⟩ := hH
  obtain ⟨h1, z⟩ := h
  have e : h1 = mz_h P V := e
  subst e
  obtain ⟨V', w1', e', hW', hX', hJ', hE', e16⟩ := hq P V v n z w1 hP hW hJ hE
  exact ⟨_, e', P, V', v, n, w1', rfl, ⟨⟨hP, hW', hJ'⟩, hX, z1, hv, by rw [e16]; exact h16, hs, (hX' (x + 376) (by omega) (by omega)).trans hS⟩, hE', c1⟩
/-- .. and is refused -/
theorem ph_ux {ex : Nat} {w2 : mz_V} {b2 : Int} (hH : ph_H X x S w b c m h) (hq : ∀ (P : mz_P) (V : mz_V) (v n : Nat) (z : Nat × Nat) (w1 : mz_V), mX_P P x v n → mX_is V x v w1 → mg_J w1 b → ph_E w w1 → ∃ (V' : mz_V) (w1' : mz_V), mv_call X d y as (mz_h P V, z) = some (.inr (ex, z.1), (mz_h P V', (z.1 + 1, z.2 + 6))) ∧ mX_is V' x v w1' ∧ mX_X V V' x v ∧ mg_J w1' b2 ∧ ph_E w2 w1' ∧ w1' 0 16 = w1 0 16) : ∃ q h', mv_call X d y as h = some (.inr (ex, q), h') ∧ ph_H X x S w2 b2 c (m + 1) h' := by
  obtain ⟨P, V, v, n, w1, e, ⟨⟨hP, hW, hJ⟩, hX, ⟨z1, z2⟩, hv, h16, hs, hS⟩, hE, c1, c2⟩ := hH
  obtain ⟨h1, z⟩ := h
  have e : h1 = mz_h P V := e
  subst e
  have z1 : x + 377 ≤ z.1 := z1
  have z2 : v < z.1 := z2
  have c1 : z.1 ≤ c.1 + m := c1
  have c2 : z.2 ≤ c.2 + 6 * m := c2
  obtain ⟨V', w1', e', hW', hX', hJ', hE', e16⟩ := hq P V v n z w1 hP hW hJ hE
  exact ⟨z.1, _, e', P, V', v, n, w1', rfl, ⟨⟨hP, hW', hJ'⟩, hX, ⟨by show x + 377 ≤ z.1 + 1; omega, by show v < z.1 + 1; omega⟩, hv, by rw [e16]; exact h16, hs, (hX' (x + 376) (by omega) (by omega)).trans hS⟩, hE', by show z.1 + 1 ≤ c.1 + (m + 1); omega, by show z.2 + 6 ≤ c.2 + 6 * (m + 1); omega⟩
theorem LD_burstsAhead (hH : ph_H X x S w b c m h) (hb : b ≤ 999999900) (K : ∀ h1, ph_H X x S w b c m h1 → Φ (f (nZ (mr_hr (w 1)).2) h1)) : Φ (mv_rcv X h [.ref x] 12 (mv_clI (mv_call X (d + 7)) 116 [.ref x] h g f)) := by
  rw [ph_rcv hH]
  obtain ⟨h1, e, H1⟩ := ph_wr (d := d + 7) (y := 116) (as := [.ref x]) (r := .int (nZ (mr_hr (w 1)).2)) hH fun P V v n z w1 hP hW hJ hE => by
    obtain ⟨V', e, hW', hX'⟩ := Q8_burstsAhead (X := X) (z := z) (d := d) hP hW hJ.1 hb
    rw [hE.1] at e
    exact ⟨V', e, hW', hX'⟩
  exact ph_ret e (K h1 H1)
theorem LD_tangles (hH : ph_H X x S w b c m h) (K : ∀ h1, ph_H X x S w b c m h1 → Φ (f (nZ (mq_tgl (w 1))) h1)) : Φ (mv_rcv X h [.ref x] 12 (mv_clI (mv_call X (d + 6)) 104 [.ref x] h g f)) := by
  rw [ph_rcv hH]
  obtain ⟨h1, e, H1⟩ := ph_wr (d := d + 6) (y := 104) (as := [.ref x]) (r := .int (nZ (mq_tgl (w 1)))) hH fun P V v n z w1 hP hW hJ hE => by
    have hv := hP.hv
    obtain ⟨f1, e⟩ := Q8_tangles (X := X) (z := z) (d := d) hP hJ.1.1.1 hW.1
    rw [hE.1] at e
    have hU : ∀ r, r ≠ x + 370 → mz_w V (x + 370) f1 r = V r := fun r hr => mz_w_n _ _ hr
    exact ⟨_, e, mX_is_g hJ.1 hv (fun r _ _ => hU r (by omega)) (hU v (by omega)) hW, fun r hr _ => hU r (by omega)⟩
  exact ph_ret e (K h1 H1)
theorem LD_tanglesByMerging (hH : ph_H X x S w b c m h) (K : ∀ h1, ph_H X x S w b c m h1 → Φ (f (nZ (mq_tgl (w 1))) h1)) : Φ (mv_rcv X h [.ref x] 12 (mv_clI (mv_call X (d + 8)) 105 [.ref x] h g f)) := by
  rw [ph_rcv hH]
  obtain ⟨h1, e, H1⟩ := ph_wr (d := d + 8) (y := 105) (as := [.ref x]) (r := .int (nZ (mq_tgl (w 1)))) hH fun P V v n z w1 hP hW hJ hE => by
    have hv := hP.hv
    obtain ⟨f1, f2, e⟩ := Q8_tanglesByMerging (X := X) (z := z) (d := d) hP hJ.1.1.1 hW.1
    rw [hE.1] at e
    have hU : ∀ r, r ≠ x + 370 → r ≠ x + 371 → mz_w (mz_w V (x + 370) f1) (x + 371) f2 r = V r := fun r h1 h2 => (mz_w_n _ _ h2).trans (mz_w_n _ _ h1)
    exact ⟨_, e, mX_is_g hJ.1 hv (fun r _ _ => hU r (by omega) (by omega)) (hU v (by omega) (by omega)) hW, fun r hr _ => hU r (by omega) (by omega)⟩
  exact ph_ret e (K h1 H1)
theorem LD_mostCrewed {N : Int} (hH : ph_H X x S w b c m h) (hN : cw_max (cw_E (w 1)) N) (K : ∀ h1, ph_H X x S w b c m h1 → Φ (f (nZ N) h1)) : Φ (mv_rcv X h [.ref x] 12 (mv_clI (mv_call X (d + 11)) 113 [.ref x] h g f)) := by
  rw [ph_rcv hH]
  obtain ⟨h1, e, H1⟩ := ph_wr (d := d + 11) (y := 113) (as := [.ref x]) (r := .int (nZ N)) hH fun P V v n z w1 hP hW hJ hE => by
    have hv := hP.hv
    obtain ⟨f1, f2, e⟩ := Q8_mostCrewed (X := X) (z := z) (d := d) hP hJ.1.1.1 hW.1 (by rw [hE.1]; exact hN)
    have hU : ∀ r, r ≠ x + 373 → r ≠ x + 374 → mz_w (mz_w V (x + 373) f1) (x + 374) f2 r = V r := fun r h1 h2 => (mz_w_n _ _ h2).trans (mz_w_n _ _ h1)
    exact ⟨_, e, mX_is_g hJ.1 hv (fun r _ _ => hU r (by omega) (by omega)) (hU v (by omega) (by omega)) hW, fun r hr _ => hU r (by omega) (by omega)⟩
  exact ph_ret e (K h1 H1)
theorem LD_mostCrewedBySets {N : Int} (hH : ph_H X x S w b c m h) (hN : cw_max (cw_E (w 1)) N) (K : ∀ h1, ph_H X x S w b c m h1 → Φ (f (nZ N) h1)) : Φ (mv_rcv X h [.ref x] 12 (mv_clI (mv_call X (d + 5)) 114 [.ref x] h g f)) := by
  rw [ph_rcv hH]
  obtain ⟨h1, e, H1⟩ := ph_wr (d := d + 5) (y := 114) (as := [.ref x]) (r := .int (nZ N)) hH fun P V v n z w1 hP hW hJ hE => by
    have hv := hP.hv
    obtain ⟨f1, e⟩ := Q8_mostCrewedBySets (X := X) (z := z) (d := d) hP hJ.1.1.1 hW.1 (by rw [hE.1]; exact hN)
    have hU : ∀ r, r ≠ x + 375 → mz_w V (x + 375) f1 r = V r := fun r hr => mz_w_n _ _ hr
    exact ⟨_, e, mX_is_g hJ.1 hv (fun r _ _ => hU r (by omega)) (hU v (by omega)) hW, fun r hr _ => hU r (by omega)⟩
  exact ph_ret e (K h1 H1)
theorem LP_writeBalloon (hH : ph_H X x S w b c m h) (hk : k < 10) (hh : w 1 (6 + 11 * k) = 1) (K : ∀ (r : Nat) (h1 : mv_H), 5 ≤ r → r ≤ 27 → ph_H X x S w b c (m + 210) h1 → Φ (f (nZ r) h1)) : Φ (mv_clI (mv_call X (d + 8)) 374 [.ref x, .int (nZ (k : Nat))] h g f) := by
  have hr := hH
  obtain ⟨P, V, v, n, w1, e, ⟨⟨hP, hW, hJ⟩, hX, ⟨z1, z2⟩, hv, h16, hs, hS⟩, hE, c1, c2⟩ := hH
  obtain ⟨h1, z⟩ := h
  have e : h1 = mz_h P V := e
  subst e
  have z1 : x + 377 ≤ z.1 := z1
  have z2 : v < z.1 := z2
  have c1 : z.1 ≤ c.1 + m := c1
  have c2 : z.2 ≤ c.2 + 6 * m := c2
  obtain ⟨P', V', z', v', n', e', hP', hW', hF, hv', hn'⟩ := Q8_writeBalloon (X := X) (d := d) (x0 := x) (Nat.le_refl _) (by omega) z2 hX hP hW hJ.1 h16 hk (by rw [hE.1]; exact hh)
  have hok := ln_w_ok hJ.1.1.1 hk (w1 8)
  have hln := pw_line (w1 1) (w1 8) k
  have hX' := mx_W_F hF (show x ≤ z.1 by omega) hX
  obtain ⟨F1, F2, F3, ⟨F4, F5⟩, ⟨F6, F7⟩, F8⟩ := hF
  have e2 : mv_call X (d + 8) 374 [.ref x, .int (nZ (k : Nat))] (mz_h P V, z) = some (.inl (some (.int (nZ (ln_w (w1 1) (w1 8) k).1))), (mz_h P' V', z')) := by
    rw [mc_L_writeBalloon, bk_L_writeBalloon_0, bk_L_writeBalloon_2, ph_rcv hr]
    simp only [mv_clI, mv_cl, e']
    exact bk_L_writeBalloon_5 _ _ _ _ _ _
  have e8 : mg_wl w1 k 0 6 = w1 0 6 ∧ mg_wl w1 k 0 7 = w1 0 7 ∧ mg_wl w1 k 0 19 = w1 0 19 ∧ mg_wl w1 k 0 20 = w1 0 20 := by
    unfold mg_wl
    refine ⟨?_, ?_, ?_, ?_⟩ <;> rw [mz_u_k _ _ (by decide), mz_w_n _ _ (by decide)]
  have er : ∀ r, r ≠ 0 → r ≠ 8 → mg_wl w1 k r = w1 r := fun r h0 h8 => by
    unfold mg_wl
    rw [mz_u_o h0, mz_w_n _ _ h8]
  have K := K (ln_w (w1 1) (w1 8) k).1 (mz_h P' V', z') hln hok.2
  generalize hM : m + 210 = M at K
  refine ph_ret e2 (K ⟨P', V', v', n', mg_wl w1 k, rfl, ⟨⟨hP', hW', mg_wl_J hJ hk⟩, hX', ⟨by show x + 377 ≤ z'.1; omega, hv'⟩, by omega, hn', (F1 _ (by omega)).trans hs, (F3 _ (by omega) (by omega) (by omega)).trans hS⟩, ?_, by show z'.1 ≤ c.1 + M; omega, by show z'.2 ≤ c.2 + 6 * M; omega⟩)
  obtain ⟨g1, g2, g3, g4, g5, g6, g7⟩ := hE
  exact ⟨(er 1 (by decide) (by decide)).trans g1, (er 3 (by decide) (by decide)).trans g2, (er 4 (by decide) (by decide)).trans g3, e8.1.trans g4, e8.2.1.trans g5, e8.2.2.1.trans g6, e8.2.2.2.trans g7⟩
theorem LP_feed {q : Int} (hH : ph_H X x S w b c m h) (hq : 0 ≤ q ∧ q ≤ 65535) (K : ∀ (r : Int32) (h1 : mv_H), ph_H X x S w b c (m + 1) h1 → Φ (f r h1)) : Φ (mv_clI (mv_call X (d + 3)) 372 [.ref x, .int (nZ q)] h g f) := by
  have hr := hH
  obtain ⟨P, V, v, n, w1, e, ⟨⟨hP, hW, hJ⟩, hX, ⟨z1, z2⟩, hv, h16, hs, hS⟩, hE, c1, c2⟩ := hH
  obtain ⟨h1, z⟩ := h
  have e : h1 = mz_h P V := e
  subst e
  have z1 : x + 377 ≤ z.1 := z1
  have z2 : v < z.1 := z2
  have c1 : z.1 ≤ c.1 + m := c1
  have c2 : z.2 ≤ c.2 + 6 * m := c2
  obtain ⟨V', e', hW', hX'⟩ := Q8_feed (X := X) (z := z) (d := d) hP hW hJ.1 hq
  have h376 := (hX' (x + 376) (by omega) (by omega)).trans hS
  by_cases c60 : w1 0 15 = 60
  · rw [if_pos c60, mq_r1 (by decide)] at e'
    rw [if_pos c60] at hW'
    have e2 : mv_call X (d + 3) 372 [.ref x, .int (nZ q)] (mz_h P V, z) = some (.inl (some (.int (nZ (-79)))), (mz_h P V', (z.1 + 1, z.2 + 6))) := by
      rw [mc_L_feed, bk_L_feed_0, bk_L_feed_2, ph_rcv hr]
      simp only [mv_clI, mv_cl, e']
      exact bk_L_feed_7 _ _ _ _ _
    exact ph_ret e2 (K _ _ ⟨P, V', v, n, w1, rfl, ⟨⟨hP, hW', hJ⟩, hX, ⟨by show x + 377 ≤ z.1 + 1; omega, by show v < z.1 + 1; omega⟩, hv, h16, hs, h376⟩, hE, by show z.1 + 1 ≤ c.1 + (m + 1); omega, by show z.2 + 6 ≤ c.2 + 6 * (m + 1); omega⟩)
  · rw [if_neg c60, mq_r0 rfl] at e'
    rw [if_neg c60] at hW'
    have e2 : mv_call X (d + 3) 372 [.ref x, .int (nZ q)] (mz_h P V, z) = some (.inl (some (.int (nZ (w1 0 15 + 1)))), (mz_h P V', z)) := by
      rw [mc_L_feed, bk_L_feed_0, bk_L_feed_2, ph_rcv hr]
      simp only [mv_clI, mv_cl, e']
      exact bk_L_feed_5 _ _ _ _ _ _
    have ek : ∀ j, j ≠ 15 → mg_fd w1 q 0 j = w1 0 j := fun j hj => by
      unfold mg_fd
      rw [mz_u_k _ _ hj, mz_w_n _ _ (by decide)]
    have er : ∀ r, r ≠ 0 → r ≠ 6 → mg_fd w1 q r = w1 r := fun r h0 h6 => by
      unfold mg_fd
      rw [mz_u_o h0, mz_w_n _ _ h6]
    obtain ⟨g1, g2, g3, g4, g5, g6, g7⟩ := hE
    exact ph_ret e2 (K _ _ ⟨P, V', v, n, mg_fd w1 q, rfl, ⟨⟨hP, hW', mg_fd_J hJ c60 hq⟩, hX, ⟨z1, z2⟩, hv, by rw [ek 16 (by decide)]; exact h16, hs, h376⟩, ⟨(er 1 (by decide) (by decide)).trans g1, (er 3 (by decide) (by decide)).trans g2, (er 4 (by decide) (by decide)).trans g3, (ek 6 (by decide)).trans g4, (ek 7 (by decide)).trans g5, (ek 19 (by decide)).trans g6, (ek 20 (by decide)).trans g7⟩, by show z.1 ≤ c.1 + (m + 1); omega, by show z.2 ≤ c.2 + 6 * (m + 1); omega⟩)
end WRC
