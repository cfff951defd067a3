/-! THE LAW'S WRAPPERS: changes -/
def pc_an (s : Nat → Int) (k : Nat) (u : Nat → Int) : Int := if mc_rf s k u = 0 then mc_an s k u else if mc_rf s k u = 8 then -78 else if mc_rf s k u = 9 then -75 else if mc_rf s k u = 10 then -77 else -76
theorem mg_st_y {w : mz_V} {k : Nat} {u : Nat → Int} (h : mc_rf (w 1) k u = 0) : mg_st w k u 1 = mc_st (w 1) k u ∧ mg_st w k u 4 = mg_hp (w 4) (w 0 6) (w 1) ∧ mg_st w k u 0 6 = mg_kp (w 0 6) ∧ (∀ r, r ≠ 0 → r ≠ 1 → r ≠ 4 → mg_st w k u r = w r) ∧ ∀ j, j ≠ 6 → mg_st w k u 0 j = w 0 j := by
  unfold mg_st
  rw [if_pos h]
  exact ⟨by rw [mz_u_o (by decide), mz_w_n _ _ (by decide), mz_w_s], by rw [mz_u_o (by decide), mz_w_s], mz_u_s _ _ _ _, fun r h0 h1 h4 => by rw [mz_u_o h0, mz_w_n _ _ h4, mz_w_n _ _ h1], fun j hj => by rw [mz_u_k _ _ hj, mz_w_n _ _ (by decide), mz_w_n _ _ (by decide)]⟩
theorem mg_st_n {w : mz_V} {k : Nat} {u : Nat → Int} (h : mc_rf (w 1) k u ≠ 0) : (∀ r, r ≠ 0 → mg_st w k u r = w r) ∧ (∀ j, j ≠ 19 → j ≠ 20 → j ≠ 21 → mg_st w k u 0 j = w 0 j) ∧ mg_st w k u 0 19 = (if mc_rf (w 1) k u ≤ 5 then mc_rf (w 1) k u else w 0 19) ∧ mg_st w k u 0 20 = (if mc_rf (w 1) k u ≤ 5 then mc_dt (w 1) k u else w 0 20) := by
  unfold mg_st
  rw [if_neg h]
  by_cases c : mc_rf (w 1) k u ≤ 5
  · rw [if_pos c, if_pos c, if_pos c]
    exact ⟨fun r h0 => by rw [mz_u_o h0, mz_u_o h0, mz_u_o h0], fun j a1 a2 a3 => by rw [mz_u_k _ _ a3, mz_u_k _ _ a2, mz_u_k _ _ a1], by rw [mz_u_k _ _ (by decide), mz_u_k _ _ (by decide), mz_u_s], by rw [mz_u_k _ _ (by decide), mz_u_s]⟩
  · rw [if_neg c, if_neg c, if_neg c]
    exact ⟨fun _ _ => rfl, fun _ _ _ _ => rfl, rfl, rfl⟩
theorem mg_st_16 (w : mz_V) (k : Nat) (u : Nat → Int) : mg_st w k u 0 16 = w 0 16 := by
  by_cases h : mc_rf (w 1) k u = 0
  · exact (mg_st_y h).2.2.2.2 16 (by decide)
  · exact (mg_st_n h).2.1 16 (by decide) (by decide) (by decide)
theorem pe_st {w w1 : mz_V} (hE : ph_E w w1) (k : Nat) (u : Nat → Int) : ph_E (mg_st w k u) (mg_st w1 k u) := by
  obtain ⟨g1, g2, g3, g4, g5, g6, g7⟩ := hE
  by_cases h : mc_rf (w 1) k u = 0
  · have h' : mc_rf (w1 1) k u = 0 := by rw [g1]; exact h
    obtain ⟨a1, a2, a3, a4, a5⟩ := mg_st_y h
    obtain ⟨b1, b2, b3, b4, b5⟩ := mg_st_y h'
    exact ⟨by rw [b1, a1, g1], by rw [b4 3 (by decide) (by decide) (by decide), a4 3 (by decide) (by decide) (by decide), g2], by rw [b2, a2, g3, g4, g1], by rw [b3, a3, g4], by rw [b5 7 (by decide), a5 7 (by decide), g5], by rw [b5 19 (by decide), a5 19 (by decide), g6], by rw [b5 20 (by decide), a5 20 (by decide), g7]⟩
  · have h' : mc_rf (w1 1) k u ≠ 0 := by rw [g1]; exact h
    obtain ⟨a1, a2, a3, a4⟩ := mg_st_n h
    obtain ⟨b1, b2, b3, b4⟩ := mg_st_n h'
    exact ⟨by rw [b1 1 (by decide), a1 1 (by decide), g1], by rw [b1 3 (by decide), a1 3 (by decide), g2], by rw [b1 4 (by decide), a1 4 (by decide), g3], by rw [b2 6 (by decide) (by decide) (by decide), a2 6 (by decide) (by decide) (by decide), g4], by rw [b2 7 (by decide) (by decide) (by decide), a2 7 (by decide) (by decide) (by decide), g5], by rw [b3, a3, g1, g6], by rw [b4, a4, g1, g7]⟩
section WRD
variable {X : mv_X} {x : Nat} {S : Nat → Int} {w : mz_V} {b : Int} {c : Nat × Nat} {m : Nat} {h : mv_H} {d a k p y : Nat} {as : List Value} {Φ : Option mv_R → Prop} {g : Nat → Nat → mv_H → Option mv_R} {f : Int32 → mv_H → Option mv_R} {u : Nat → Int} {x0 x1 x2 x3 : Int}
theorem ph_chg (hH : ph_H X x S w b c m h) (hb : b ≤ 999999900) (hk : k < 9) (n0 : nS x0) (n1 : nS x1) (n2 : nS x2) (n3 : nS x3) (hu : u = fun i => if i = 0 then x0 else if i = 1 then x1 else if i = 2 then x2 else x3) :
    (mc_rf (w 1) k u = 0 → ∃ h1, mv_call X (d + 8) 137 [.ref x, .int (nZ k), .int (nZ x0), .int (nZ x1), .int (nZ x2), .int (nZ x3)] h = some (.inl (some (.int (nZ (mc_an (w 1) k u)))), h1) ∧ ph_H X x S (mg_st w k u) (b + 48) c m h1) ∧
    (mc_rf (w 1) k u ≠ 0 → ∃ q h1, mv_call X (d + 8) 137 [.ref x, .int (nZ k), .int (nZ x0), .int (nZ x1), .int (nZ x2), .int (nZ x3)] h = some (.inr (mg_ex (mc_rf (w 1) k u), q), h1) ∧ ph_H X x S (mg_st w k u) (b + 48) c (m + 1) h1) := by
  have hu1 : nS (u 1) := by rw [hu]; exact n1
  refine ⟨fun h0 => ph_up hH fun P V v n z w1 hP hW hJ hE => ?_, fun h0 => ph_ux hH fun P V v n z w1 hP hW hJ hE => ?_⟩
  · obtain ⟨V', e, hW', hX'⟩ := Y8_change (X := X) (z := z) (d := d) hP hW hJ.1 hb hk n0 n1 n2 n3 hu
    rw [hE.1, if_pos h0] at e
    exact ⟨V', mg_st w1 k u, e, hW', hX', mg_st_J hJ hb hk hu1, pe_st hE k u, mg_st_16 w1 k u⟩
  · obtain ⟨V', e, hW', hX'⟩ := Y8_change (X := X) (z := z) (d := d) hP hW hJ.1 hb hk n0 n1 n2 n3 hu
    rw [hE.1, if_neg h0] at e
    exact ⟨V', mg_st w1 k u, e, hW', hX', mg_st_J hJ hb hk hu1, pe_st hE k u, mg_st_16 w1 k u⟩
theorem LP_moor (hH : ph_H X x S w b c m h) (hb : b ≤ 999999900) (n0 : nS x0) (n1 : nS x1) (n2 : nS x2) (n3 : nS x3) (hu : u = fun i => if i = 0 then x0 else if i = 1 then x1 else if i = 2 then x2 else x3) (K : ∀ h1, ph_H X x S (mg_st w 0 u) (b + 48) c (m + 1) h1 → Φ (f (nZ (pc_an (w 1) 0 u)) h1)) : Φ (mv_clI (mv_call X (d + 10)) 344 [.ref x, .int (nZ x0), .int (nZ x1), .int (nZ x2), .int (nZ x3)] h g f) := by
  obtain ⟨c1, c2⟩ := ph_chg (d := d) hH hb (k := 0) (by decide) n0 n1 n2 n3 hu
  obtain ⟨r, hr⟩ : ∃ r, r = mc_rf (w 1) 0 u := ⟨_, rfl⟩
  have hrv : r = 0 ∨ r = 2 ∨ r = 8 := by
    rw [hr]
    show mc_rf0 _ _ _ _ _ = 0 ∨ mc_rf0 _ _ _ _ _ = 2 ∨ mc_rf0 _ _ _ _ _ = 8
    unfold mc_rf0
    (repeat' split) <;> decide
  rw [← hr] at c1 c2
  unfold pc_an at K
  rw [← hr] at K
  rcases hrv with e0 | e0 | e0
  · obtain ⟨h1, e, H1⟩ := c1 e0
    have e : mv_call X (d + 8) 137 [.ref x, .int (nZ 0), .int (nZ x0), .int (nZ x1), .int (nZ x2), .int (nZ x3)] h = some (.inl (some (.int (nZ (mc_an (w 1) 0 u)))), h1) := e
    have e2 : mv_call X (d + 9) 84 [.ref x, .int (nZ x0), .int (nZ x1), .int (nZ x2), .int (nZ x3)] h = some (.inl (some (.int (nZ (mc_an (w 1) 0 u)))), h1) := by
      rw [mc_X8_moor, bk_X8_moor_0, ph_rcv hH]
      simp only [mv_clI, mv_cl, e]
    have e3 : mv_call X (d + 10) 344 [.ref x, .int (nZ x0), .int (nZ x1), .int (nZ x2), .int (nZ x3)] h = some (.inl (some (.int (nZ (mc_an (w 1) 0 u)))), h1) := by
      rw [mc_L_moor, bk_L_moor_0, bk_L_moor_6, ph_rcv hH]
      simp only [mv_clI, mv_cl, e2]
      exact bk_L_moor_9 _ _ _ _ _ _ _ _ _
    have K1 := K h1 (ph_mono (Nat.le_succ _) H1)
    rw [if_pos e0] at K1
    exact ph_ret e3 K1
  · obtain ⟨q, h1, e, H1⟩ := c2 (by rw [e0]; decide)
    rw [e0] at e
    have e : mv_call X (d + 8) 137 [.ref x, .int (nZ 0), .int (nZ x0), .int (nZ x1), .int (nZ x2), .int (nZ x3)] h = some (.inr (3, q), h1) := e
    have e2 : mv_call X (d + 9) 84 [.ref x, .int (nZ x0), .int (nZ x1), .int (nZ x2), .int (nZ x3)] h = some (.inr (3, q), h1) := by
      rw [mc_X8_moor, bk_X8_moor_0, ph_rcv hH]
      simp only [mv_clI, mv_cl, e]
      rfl
    have e3 : mv_call X (d + 10) 344 [.ref x, .int (nZ x0), .int (nZ x1), .int (nZ x2), .int (nZ x3)] h = some (.inl (some (.int (nZ (-76)))), h1) := by
      rw [mc_L_moor, bk_L_moor_0, bk_L_moor_6, ph_rcv hH]
      simp only [mv_clI, mv_cl, e2]
      exact bk_L_moor_17 _ _ _ _ _ _ _ _
    have K1 := K h1 H1
    rw [e0] at K1
    exact ph_ret e3 K1
  · obtain ⟨q, h1, e, H1⟩ := c2 (by rw [e0]; decide)
    rw [e0] at e
    have e : mv_call X (d + 8) 137 [.ref x, .int (nZ 0), .int (nZ x0), .int (nZ x1), .int (nZ x2), .int (nZ x3)] h = some (.inr (0, q), h1) := e
    have e2 : mv_call X (d + 9) 84 [.ref x, .int (nZ x0), .int (nZ x1), .int (nZ x2), .int (nZ x3)] h = some (.inr (0, q), h1) := by
      rw [mc_X8_moor, bk_X8_moor_0, ph_rcv hH]
      simp only [mv_clI, mv_cl, e]
      rfl
    have e3 : mv_call X (d + 10) 344 [.ref x, .int (nZ x0), .int (nZ x1), .int (nZ x2), .int (nZ x3)] h = some (.inl (some (.int (nZ (-78)))), h1) := by
      rw [mc_L_moor, bk_L_moor_0, bk_L_moor_6, ph_rcv hH]
      simp only [mv_clI, mv_cl, e2]
      exact bk_L_moor_12 _ _ _ _ _ _ _ _
    have K1 := K h1 H1
    rw [e0] at K1
    exact ph_ret e3 K1
theorem LP_castOff (hH : ph_H X x S w b c m h) (hb : b ≤ 999999900) (n0 : nS x0) (hu : u = fun i => if i = 0 then x0 else if i = 1 then 0 else if i = 2 then 0 else 0) (K : ∀ h1, ph_H X x S (mg_st w 1 u) (b + 48) c (m + 1) h1 → Φ (f (nZ (pc_an (w 1) 1 u)) h1)) : Φ (mv_clI (mv_call X (d + 10)) 345 [.ref x, .int (nZ x0)] h g f) := by
  obtain ⟨c1, c2⟩ := ph_chg (d := d) hH hb (k := 1) (by decide) n0 ⟨by decide, by decide⟩ ⟨by decide, by decide⟩ ⟨by decide, by decide⟩ hu
  obtain ⟨r, hr⟩ : ∃ r, r = mc_rf (w 1) 1 u := ⟨_, rfl⟩
  have hrv : r = 0 ∨ r = 9 := by
    rw [hr]
    show mc_rf1 _ _ = 0 ∨ mc_rf1 _ _ = 9
    unfold mc_rf1
    (repeat' split) <;> decide
  rw [← hr] at c1 c2
  unfold pc_an at K
  rw [← hr] at K
  rcases hrv with e0 | e0
  · obtain ⟨h1, e, H1⟩ := c1 e0
    have e : mv_call X (d + 8) 137 [.ref x, .int (nZ 1), .int (nZ x0), .int (nZ 0), .int (nZ 0), .int (nZ 0)] h = some (.inl (some (.int (nZ (mc_an (w 1) 1 u)))), h1) := e
    have e2 : mv_call X (d + 9) 85 [.ref x, .int (nZ x0)] h = some (.inl (some (.int (nZ (mc_an (w 1) 1 u)))), h1) := by
      rw [mc_X8_castOff, bk_X8_castOff_0, ph_rcv hH]
      simp only [mv_clI, mv_cl, e]
    have e3 : mv_call X (d + 10) 345 [.ref x, .int (nZ x0)] h = some (.inl (some (.int (nZ (mc_an (w 1) 1 u)))), h1) := by
      rw [mc_L_castOff, bk_L_castOff_0, bk_L_castOff_2, ph_rcv hH]
      simp only [mv_clI, mv_cl, e2]
      exact bk_L_castOff_5 _ _ _ _ _ _
    have K1 := K h1 (ph_mono (Nat.le_succ _) H1)
    rw [if_pos e0] at K1
    exact ph_ret e3 K1
  · obtain ⟨q, h1, e, H1⟩ := c2 (by rw [e0]; decide)
    rw [e0] at e
    have e : mv_call X (d + 8) 137 [.ref x, .int (nZ 1), .int (nZ x0), .int (nZ 0), .int (nZ 0), .int (nZ 0)] h = some (.inr (1, q), h1) := e
    have e2 : mv_call X (d + 9) 85 [.ref x, .int (nZ x0)] h = some (.inr (1, q), h1) := by
      rw [mc_X8_castOff, bk_X8_castOff_0, ph_rcv hH]
      simp only [mv_clI, mv_cl, e]
      rfl
    have e3 : mv_call X (d + 10) 345 [.ref x, .int (nZ x0)] h = some (.inl (some (.int (nZ (-75)))), h1) := by
      rw [mc_L_castOff, bk_L_castOff_0, bk_L_castOff_2, ph_rcv hH]
      simp only [mv_clI, mv_cl, e2]
      exact bk_L_castOff_7 _ _ _ _ _
    have K1 := K h1 H1
    rw [e0] at K1
    exact ph_ret e3 K1
theorem LP_load (hH : ph_H X x S w b c m h) (hb : b ≤ 999999900) (n0 : nS x0) (n1 : nS x1) (hu : u = fun i => if i = 0 then x0 else if i = 1 then x1 else if i = 2 then 0 else 0) (K : ∀ h1, ph_H X x S (mg_st w 2 u) (b + 48) c (m + 1) h1 → Φ (f (nZ (pc_an (w 1) 2 u)) h1)) : Φ (mv_clI (mv_call X (d + 10)) 352 [.ref x, .int (nZ x0), .int (nZ x1)] h g f) := by
  obtain ⟨c1, c2⟩ := ph_chg (d := d) hH hb (k := 2) (by decide) n0 n1 ⟨by decide, by decide⟩ ⟨by decide, by decide⟩ hu
  obtain ⟨r, hr⟩ : ∃ r, r = mc_rf (w 1) 2 u := ⟨_, rfl⟩
  have hrv : r = 0 ∨ r = 1 ∨ r = 8 ∨ r = 9 := by
    rw [hr]
    show mc_rf2 _ _ _ = 0 ∨ mc_rf2 _ _ _ = 1 ∨ mc_rf2 _ _ _ = 8 ∨ mc_rf2 _ _ _ = 9
    unfold mc_rf2
    (repeat' split) <;> decide
  rw [← hr] at c1 c2
  unfold pc_an at K
  rw [← hr] at K
  rcases hrv with e0 | e0 | e0 | e0
  · obtain ⟨h1, e, H1⟩ := c1 e0
    have e : mv_call X (d + 8) 137 [.ref x, .int (nZ 2), .int (nZ x0), .int (nZ x1), .int (nZ 0), .int (nZ 0)] h = some (.inl (some (.int (nZ (mc_an (w 1) 2 u)))), h1) := e
    have e2 : mv_call X (d + 9) 93 [.ref x, .int (nZ x0), .int (nZ x1)] h = some (.inl (some (.int (nZ (mc_an (w 1) 2 u)))), h1) := by
      rw [mc_X8_load, bk_X8_load_0, ph_rcv hH]
      simp only [mv_clI, mv_cl, e]
    have e3 : mv_call X (d + 10) 352 [.ref x, .int (nZ x0), .int (nZ x1)] h = some (.inl (some (.int (nZ (mc_an (w 1) 2 u)))), h1) := by
      rw [mc_L_load, bk_L_load_0, bk_L_load_3, ph_rcv hH]
      simp only [mv_clI, mv_cl, e2]
      exact bk_L_load_6 _ _ _ _ _ _ _
    have K1 := K h1 (ph_mono (Nat.le_succ _) H1)
    rw [if_pos e0] at K1
    exact ph_ret e3 K1
  · obtain ⟨q, h1, e, H1⟩ := c2 (by rw [e0]; decide)
    rw [e0] at e
    have e : mv_call X (d + 8) 137 [.ref x, .int (nZ 2), .int (nZ x0), .int (nZ x1), .int (nZ 0), .int (nZ 0)] h = some (.inr (3, q), h1) := e
    have e2 : mv_call X (d + 9) 93 [.ref x, .int (nZ x0), .int (nZ x1)] h = some (.inr (3, q), h1) := by
      rw [mc_X8_load, bk_X8_load_0, ph_rcv hH]
      simp only [mv_clI, mv_cl, e]
      rfl
    have e3 : mv_call X (d + 10) 352 [.ref x, .int (nZ x0), .int (nZ x1)] h = some (.inl (some (.int (nZ (-76)))), h1) := by
      rw [mc_L_load, bk_L_load_0, bk_L_load_3, ph_rcv hH]
      simp only [mv_clI, mv_cl, e2]
      exact bk_L_load_16 _ _ _ _ _ _
    have K1 := K h1 H1
    rw [e0] at K1
    exact ph_ret e3 K1
  · obtain ⟨q, h1, e, H1⟩ := c2 (by rw [e0]; decide)
    rw [e0] at e
    have e : mv_call X (d + 8) 137 [.ref x, .int (nZ 2), .int (nZ x0), .int (nZ x1), .int (nZ 0), .int (nZ 0)] h = some (.inr (0, q), h1) := e
    have e2 : mv_call X (d + 9) 93 [.ref x, .int (nZ x0), .int (nZ x1)] h = some (.inr (0, q), h1) := by
      rw [mc_X8_load, bk_X8_load_0, ph_rcv hH]
      simp only [mv_clI, mv_cl, e]
      rfl
    have e3 : mv_call X (d + 10) 352 [.ref x, .int (nZ x0), .int (nZ x1)] h = some (.inl (some (.int (nZ (-78)))), h1) := by
      rw [mc_L_load, bk_L_load_0, bk_L_load_3, ph_rcv hH]
      simp only [mv_clI, mv_cl, e2]
      exact bk_L_load_12 _ _ _ _ _ _
    have K1 := K h1 H1
    rw [e0] at K1
    exact ph_ret e3 K1
  · obtain ⟨q, h1, e, H1⟩ := c2 (by rw [e0]; decide)
    rw [e0] at e
    have e : mv_call X (d + 8) 137 [.ref x, .int (nZ 2), .int (nZ x0), .int (nZ x1), .int (nZ 0), .int (nZ 0)] h = some (.inr (1, q), h1) := e
    have e2 : mv_call X (d + 9) 93 [.ref x, .int (nZ x0), .int (nZ x1)] h = some (.inr (1, q), h1) := by
      rw [mc_X8_load, bk_X8_load_0, ph_rcv hH]
      simp only [mv_clI, mv_cl, e]
      rfl
    have e3 : mv_call X (d + 10) 352 [.ref x, .int (nZ x0), .int (nZ x1)] h = some (.inl (some (.int (nZ (-75)))), h1) := by
      rw [mc_L_load, bk_L_load_0, bk_L_load_3, ph_rcv hH]
      simp only [mv_clI, mv_cl, e2]
      exact bk_L_load_8 _ _ _ _ _ _
    have K1 := K h1 H1
    rw [e0] at K1
    exact ph_ret e3 K1
theorem LP_drop (hH : ph_H X x S w b c m h) (hb : b ≤ 999999900) (n0 : nS x0) (n1 : nS x1) (hu : u = fun i => if i = 0 then x0 else if i = 1 then x1 else if i = 2 then 0 else 0) (K : ∀ h1, ph_H X x S (mg_st w 3 u) (b + 48) c (m + 1) h1 → Φ (f (nZ (pc_an (w 1) 3 u)) h1)) : Φ (mv_clI (mv_call X (d + 10)) 353 [.ref x, .int (nZ x0), .int (nZ x1)] h g f) := by
  obtain ⟨c1, c2⟩ := ph_chg (d := d) hH hb (k := 3) (by decide) n0 n1 ⟨by decide, by decide⟩ ⟨by decide, by decide⟩ hu
  obtain ⟨r, hr⟩ : ∃ r, r = mc_rf (w 1) 3 u := ⟨_, rfl⟩
  have hrv : r = 0 ∨ r = 9 ∨ r = 10 := by
    rw [hr]
    show mc_rf3 _ _ _ = 0 ∨ mc_rf3 _ _ _ = 9 ∨ mc_rf3 _ _ _ = 10
    unfold mc_rf3
    (repeat' split) <;> decide
  rw [← hr] at c1 c2
  unfold pc_an at K
  rw [← hr] at K
  rcases hrv with e0 | e0 | e0
  · obtain ⟨h1, e, H1⟩ := c1 e0
    have e : mv_call X (d + 8) 137 [.ref x, .int (nZ 3), .int (nZ x0), .int (nZ x1), .int (nZ 0), .int (nZ 0)] h = some (.inl (some (.int (nZ (mc_an (w 1) 3 u)))), h1) := e
    have e2 : mv_call X (d + 9) 94 [.ref x, .int (nZ x0), .int (nZ x1)] h = some (.inl (some (.int (nZ (mc_an (w 1) 3 u)))), h1) := by
      rw [mc_X8_drop, bk_X8_drop_0, ph_rcv hH]
      simp only [mv_clI, mv_cl, e]
    have e3 : mv_call X (d + 10) 353 [.ref x, .int (nZ x0), .int (nZ x1)] h = some (.inl (some (.int (nZ (mc_an (w 1) 3 u)))), h1) := by
      rw [mc_L_drop, bk_L_drop_0, bk_L_drop_3, ph_rcv hH]
      simp only [mv_clI, mv_cl, e2]
      exact bk_L_drop_6 _ _ _ _ _ _ _
    have K1 := K h1 (ph_mono (Nat.le_succ _) H1)
    rw [if_pos e0] at K1
    exact ph_ret e3 K1
  · obtain ⟨q, h1, e, H1⟩ := c2 (by rw [e0]; decide)
    rw [e0] at e
    have e : mv_call X (d + 8) 137 [.ref x, .int (nZ 3), .int (nZ x0), .int (nZ x1), .int (nZ 0), .int (nZ 0)] h = some (.inr (1, q), h1) := e
    have e2 : mv_call X (d + 9) 94 [.ref x, .int (nZ x0), .int (nZ x1)] h = some (.inr (1, q), h1) := by
      rw [mc_X8_drop, bk_X8_drop_0, ph_rcv hH]
      simp only [mv_clI, mv_cl, e]
      rfl
    have e3 : mv_call X (d + 10) 353 [.ref x, .int (nZ x0), .int (nZ x1)] h = some (.inl (some (.int (nZ (-75)))), h1) := by
      rw [mc_L_drop, bk_L_drop_0, bk_L_drop_3, ph_rcv hH]
      simp only [mv_clI, mv_cl, e2]
      exact bk_L_drop_8 _ _ _ _ _ _
    have K1 := K h1 H1
    rw [e0] at K1
    exact ph_ret e3 K1
  · obtain ⟨q, h1, e, H1⟩ := c2 (by rw [e0]; decide)
    rw [e0] at e
    have e : mv_call X (d + 8) 137 [.ref x, .int (nZ 3), .int (nZ x0), .int (nZ x1), .int (nZ 0), .int (nZ 0)] h = some (.inr (2, q), h1) := e
    have e2 : mv_call X (d + 9) 94 [.ref x, .int (nZ x0), .int (nZ x1)] h = some (.inr (2, q), h1) := by
      rw [mc_X8_drop, bk_X8_drop_0, ph_rcv hH]
      simp only [mv_clI, mv_cl, e]
      rfl
    have e3 : mv_call X (d + 10) 353 [.ref x, .int (nZ x0), .int (nZ x1)] h = some (.inl (some (.int (nZ (-77)))), h1) := by
      rw [mc_L_drop, bk_L_drop_0, bk_L_drop_3, ph_rcv hH]
      simp only [mv_clI, mv_cl, e2]
      exact bk_L_drop_12 _ _ _ _ _ _
    have K1 := K h1 H1
    rw [e0] at K1
    exact ph_ret e3 K1
theorem LP_rise (hH : ph_H X x S w b c m h) (hb : b ≤ 999999900) (n0 : nS x0) (n1 : nS x1) (hu : u = fun i => if i = 0 then x0 else if i = 1 then x1 else if i = 2 then 0 else 0) (K : ∀ h1, ph_H X x S (mg_st w 4 u) (b + 48) c (m + 1) h1 → Φ (f (nZ (pc_an (w 1) 4 u)) h1)) : Φ (mv_clI (mv_call X (d + 10)) 354 [.ref x, .int (nZ x0), .int (nZ x1)] h g f) := by
  obtain ⟨c1, c2⟩ := ph_chg (d := d) hH hb (k := 4) (by decide) n0 n1 ⟨by decide, by decide⟩ ⟨by decide, by decide⟩ hu
  obtain ⟨r, hr⟩ : ∃ r, r = mc_rf (w 1) 4 u := ⟨_, rfl⟩
  have hrv : r = 0 ∨ r = 3 ∨ r = 4 ∨ r = 8 ∨ r = 9 := by
    rw [hr]
    show mc_rf4 _ _ _ = 0 ∨ mc_rf4 _ _ _ = 3 ∨ mc_rf4 _ _ _ = 4 ∨ mc_rf4 _ _ _ = 8 ∨ mc_rf4 _ _ _ = 9
    unfold mc_rf4
    (repeat' split) <;> decide
  rw [← hr] at c1 c2
  unfold pc_an at K
  rw [← hr] at K
  rcases hrv with e0 | e0 | e0 | e0 | e0
  · obtain ⟨h1, e, H1⟩ := c1 e0
    have e : mv_call X (d + 8) 137 [.ref x, .int (nZ 4), .int (nZ x0), .int (nZ x1), .int (nZ 0), .int (nZ 0)] h = some (.inl (some (.int (nZ (mc_an (w 1) 4 u)))), h1) := e
    have e2 : mv_call X (d + 9) 95 [.ref x, .int (nZ x0), .int (nZ x1)] h = some (.inl (some (.int (nZ (mc_an (w 1) 4 u)))), h1) := by
      rw [mc_X8_rise, bk_X8_rise_0, ph_rcv hH]
      simp only [mv_clI, mv_cl, e]
    have e3 : mv_call X (d + 10) 354 [.ref x, .int (nZ x0), .int (nZ x1)] h = some (.inl (some (.int (nZ (mc_an (w 1) 4 u)))), h1) := by
      rw [mc_L_rise, bk_L_rise_0, bk_L_rise_3, ph_rcv hH]
      simp only [mv_clI, mv_cl, e2]
      exact bk_L_rise_6 _ _ _ _ _ _ _
    have K1 := K h1 (ph_mono (Nat.le_succ _) H1)
    rw [if_pos e0] at K1
    exact ph_ret e3 K1
  · obtain ⟨q, h1, e, H1⟩ := c2 (by rw [e0]; decide)
    rw [e0] at e
    have e : mv_call X (d + 8) 137 [.ref x, .int (nZ 4), .int (nZ x0), .int (nZ x1), .int (nZ 0), .int (nZ 0)] h = some (.inr (3, q), h1) := e
    have e2 : mv_call X (d + 9) 95 [.ref x, .int (nZ x0), .int (nZ x1)] h = some (.inr (3, q), h1) := by
      rw [mc_X8_rise, bk_X8_rise_0, ph_rcv hH]
      simp only [mv_clI, mv_cl, e]
      rfl
    have e3 : mv_call X (d + 10) 354 [.ref x, .int (nZ x0), .int (nZ x1)] h = some (.inl (some (.int (nZ (-76)))), h1) := by
      rw [mc_L_rise, bk_L_rise_0, bk_L_rise_3, ph_rcv hH]
      simp only [mv_clI, mv_cl, e2]
      exact bk_L_rise_16 _ _ _ _ _ _
    have K1 := K h1 H1
    rw [e0] at K1
    exact ph_ret e3 K1
  · obtain ⟨q, h1, e, H1⟩ := c2 (by rw [e0]; decide)
    rw [e0] at e
    have e : mv_call X (d + 8) 137 [.ref x, .int (nZ 4), .int (nZ x0), .int (nZ x1), .int (nZ 0), .int (nZ 0)] h = some (.inr (3, q), h1) := e
    have e2 : mv_call X (d + 9) 95 [.ref x, .int (nZ x0), .int (nZ x1)] h = some (.inr (3, q), h1) := by
      rw [mc_X8_rise, bk_X8_rise_0, ph_rcv hH]
      simp only [mv_clI, mv_cl, e]
      rfl
    have e3 : mv_call X (d + 10) 354 [.ref x, .int (nZ x0), .int (nZ x1)] h = some (.inl (some (.int (nZ (-76)))), h1) := by
      rw [mc_L_rise, bk_L_rise_0, bk_L_rise_3, ph_rcv hH]
      simp only [mv_clI, mv_cl, e2]
      exact bk_L_rise_16 _ _ _ _ _ _
    have K1 := K h1 H1
    rw [e0] at K1
    exact ph_ret e3 K1
  · obtain ⟨q, h1, e, H1⟩ := c2 (by rw [e0]; decide)
    rw [e0] at e
    have e : mv_call X (d + 8) 137 [.ref x, .int (nZ 4), .int (nZ x0), .int (nZ x1), .int (nZ 0), .int (nZ 0)] h = some (.inr (0, q), h1) := e
    have e2 : mv_call X (d + 9) 95 [.ref x, .int (nZ x0), .int (nZ x1)] h = some (.inr (0, q), h1) := by
      rw [mc_X8_rise, bk_X8_rise_0, ph_rcv hH]
      simp only [mv_clI, mv_cl, e]
      rfl
    have e3 : mv_call X (d + 10) 354 [.ref x, .int (nZ x0), .int (nZ x1)] h = some (.inl (some (.int (nZ (-78)))), h1) := by
      rw [mc_L_rise, bk_L_rise_0, bk_L_rise_3, ph_rcv hH]
      simp only [mv_clI, mv_cl, e2]
      exact bk_L_rise_12 _ _ _ _ _ _
    have K1 := K h1 H1
    rw [e0] at K1
    exact ph_ret e3 K1
  · obtain ⟨q, h1, e, H1⟩ := c2 (by rw [e0]; decide)
    rw [e0] at e
    have e : mv_call X (d + 8) 137 [.ref x, .int (nZ 4), .int (nZ x0), .int (nZ x1), .int (nZ 0), .int (nZ 0)] h = some (.inr (1, q), h1) := e
    have e2 : mv_call X (d + 9) 95 [.ref x, .int (nZ x0), .int (nZ x1)] h = some (.inr (1, q), h1) := by
      rw [mc_X8_rise, bk_X8_rise_0, ph_rcv hH]
      simp only [mv_clI, mv_cl, e]
      rfl
    have e3 : mv_call X (d + 10) 354 [.ref x, .int (nZ x0), .int (nZ x1)] h = some (.inl (some (.int (nZ (-75)))), h1) := by
      rw [mc_L_rise, bk_L_rise_0, bk_L_rise_3, ph_rcv hH]
      simp only [mv_clI, mv_cl, e2]
      exact bk_L_rise_8 _ _ _ _ _ _
    have K1 := K h1 H1
    rw [e0] at K1
    exact ph_ret e3 K1
theorem LP_setWind (hH : ph_H X x S w b c m h) (hb : b ≤ 999999900) (n0 : nS x0) (n1 : nS x1) (hu : u = fun i => if i = 0 then x0 else if i = 1 then x1 else if i = 2 then 0 else 0) (K : ∀ h1, ph_H X x S (mg_st w 5 u) (b + 48) c (m + 1) h1 → Φ (f (nZ (pc_an (w 1) 5 u)) h1)) : Φ (mv_clI (mv_call X (d + 10)) 360 [.ref x, .int (nZ x0), .int (nZ x1)] h g f) := by
  obtain ⟨c1, c2⟩ := ph_chg (d := d) hH hb (k := 5) (by decide) n0 n1 ⟨by decide, by decide⟩ ⟨by decide, by decide⟩ hu
  obtain ⟨r, hr⟩ : ∃ r, r = mc_rf (w 1) 5 u := ⟨_, rfl⟩
  have hrv : r = 0 ∨ r = 5 ∨ r = 8 := by
    rw [hr]
    show mc_rf5 _ _ _ = 0 ∨ mc_rf5 _ _ _ = 5 ∨ mc_rf5 _ _ _ = 8
    unfold mc_rf5
    (repeat' split) <;> decide
  rw [← hr] at c1 c2
  unfold pc_an at K
  rw [← hr] at K
  rcases hrv with e0 | e0 | e0
  · obtain ⟨h1, e, H1⟩ := c1 e0
    have e : mv_call X (d + 8) 137 [.ref x, .int (nZ 5), .int (nZ x0), .int (nZ x1), .int (nZ 0), .int (nZ 0)] h = some (.inl (some (.int (nZ (mc_an (w 1) 5 u)))), h1) := e
    have e2 : mv_call X (d + 9) 101 [.ref x, .int (nZ x0), .int (nZ x1)] h = some (.inl (some (.int (nZ (mc_an (w 1) 5 u)))), h1) := by
      rw [mc_X8_setWind, bk_X8_setWind_0, ph_rcv hH]
      simp only [mv_clI, mv_cl, e]
    have e3 : mv_call X (d + 10) 360 [.ref x, .int (nZ x0), .int (nZ x1)] h = some (.inl (some (.int (nZ (mc_an (w 1) 5 u)))), h1) := by
      rw [mc_L_setWind, bk_L_setWind_0, bk_L_setWind_3, ph_rcv hH]
      simp only [mv_clI, mv_cl, e2]
      exact bk_L_setWind_6 _ _ _ _ _ _ _
    have K1 := K h1 (ph_mono (Nat.le_succ _) H1)
    rw [if_pos e0] at K1
    exact ph_ret e3 K1
  · obtain ⟨q, h1, e, H1⟩ := c2 (by rw [e0]; decide)
    rw [e0] at e
    have e : mv_call X (d + 8) 137 [.ref x, .int (nZ 5), .int (nZ x0), .int (nZ x1), .int (nZ 0), .int (nZ 0)] h = some (.inr (3, q), h1) := e
    have e2 : mv_call X (d + 9) 101 [.ref x, .int (nZ x0), .int (nZ x1)] h = some (.inr (3, q), h1) := by
      rw [mc_X8_setWind, bk_X8_setWind_0, ph_rcv hH]
      simp only [mv_clI, mv_cl, e]
      rfl
    have e3 : mv_call X (d + 10) 360 [.ref x, .int (nZ x0), .int (nZ x1)] h = some (.inl (some (.int (nZ (-76)))), h1) := by
      rw [mc_L_setWind, bk_L_setWind_0, bk_L_setWind_3, ph_rcv hH]
      simp only [mv_clI, mv_cl, e2]
      exact bk_L_setWind_12 _ _ _ _ _ _
    have K1 := K h1 H1
    rw [e0] at K1
    exact ph_ret e3 K1
  · obtain ⟨q, h1, e, H1⟩ := c2 (by rw [e0]; decide)
    rw [e0] at e
    have e : mv_call X (d + 8) 137 [.ref x, .int (nZ 5), .int (nZ x0), .int (nZ x1), .int (nZ 0), .int (nZ 0)] h = some (.inr (0, q), h1) := e
    have e2 : mv_call X (d + 9) 101 [.ref x, .int (nZ x0), .int (nZ x1)] h = some (.inr (0, q), h1) := by
      rw [mc_X8_setWind, bk_X8_setWind_0, ph_rcv hH]
      simp only [mv_clI, mv_cl, e]
      rfl
    have e3 : mv_call X (d + 10) 360 [.ref x, .int (nZ x0), .int (nZ x1)] h = some (.inl (some (.int (nZ (-78)))), h1) := by
      rw [mc_L_setWind, bk_L_setWind_0, bk_L_setWind_3, ph_rcv hH]
      simp only [mv_clI, mv_cl, e2]
      exact bk_L_setWind_8 _ _ _ _ _ _
    have K1 := K h1 H1
    rw [e0] at K1
    exact ph_ret e3 K1
theorem LP_pass (hH : ph_H X x S w b c m h) (hb : b ≤ 999999900) (n0 : nS x0) (hu : u = fun i => if i = 0 then x0 else if i = 1 then 0 else if i = 2 then 0 else 0) (K : ∀ h1, ph_H X x S (mg_st w 6 u) (b + 48) c (m + 1) h1 → Φ (f (nZ (pc_an (w 1) 6 u)) h1)) : Φ (mv_clI (mv_call X (d + 10)) 369 [.ref x, .int (nZ x0)] h g f) := by
  obtain ⟨c1, c2⟩ := ph_chg (d := d) hH hb (k := 6) (by decide) n0 ⟨by decide, by decide⟩ ⟨by decide, by decide⟩ ⟨by decide, by decide⟩ hu
  obtain ⟨r, hr⟩ : ∃ r, r = mc_rf (w 1) 6 u := ⟨_, rfl⟩
  have hrv : r = 0 ∨ r = 8 := by
    rw [hr]
    show mc_rf6 _ = 0 ∨ mc_rf6 _ = 8
    unfold mc_rf6
    (repeat' split) <;> decide
  rw [← hr] at c1 c2
  unfold pc_an at K
  rw [← hr] at K
  rcases hrv with e0 | e0
  · obtain ⟨h1, e, H1⟩ := c1 e0
    have e : mv_call X (d + 8) 137 [.ref x, .int (nZ 6), .int (nZ x0), .int (nZ 0), .int (nZ 0), .int (nZ 0)] h = some (.inl (some (.int (nZ (mc_an (w 1) 6 u)))), h1) := e
    have e2 : mv_call X (d + 9) 115 [.ref x, .int (nZ x0)] h = some (.inl (some (.int (nZ (mc_an (w 1) 6 u)))), h1) := by
      rw [mc_X8_pass, bk_X8_pass_0, ph_rcv hH]
      simp only [mv_clI, mv_cl, e]
    have e3 : mv_call X (d + 10) 369 [.ref x, .int (nZ x0)] h = some (.inl (some (.int (nZ (mc_an (w 1) 6 u)))), h1) := by
      rw [mc_L_pass, bk_L_pass_0, bk_L_pass_2, ph_rcv hH]
      simp only [mv_clI, mv_cl, e2]
      exact bk_L_pass_5 _ _ _ _ _ _
    have K1 := K h1 (ph_mono (Nat.le_succ _) H1)
    rw [if_pos e0] at K1
    exact ph_ret e3 K1
  · obtain ⟨q, h1, e, H1⟩ := c2 (by rw [e0]; decide)
    rw [e0] at e
    have e : mv_call X (d + 8) 137 [.ref x, .int (nZ 6), .int (nZ x0), .int (nZ 0), .int (nZ 0), .int (nZ 0)] h = some (.inr (0, q), h1) := e
    have e2 : mv_call X (d + 9) 115 [.ref x, .int (nZ x0)] h = some (.inr (0, q), h1) := by
      rw [mc_X8_pass, bk_X8_pass_0, ph_rcv hH]
      simp only [mv_clI, mv_cl, e]
      rfl
    have e3 : mv_call X (d + 10) 369 [.ref x, .int (nZ x0)] h = some (.inl (some (.int (nZ (-78)))), h1) := by
      rw [mc_L_pass, bk_L_pass_0, bk_L_pass_2, ph_rcv hH]
      simp only [mv_clI, mv_cl, e2]
      exact bk_L_pass_7 _ _ _ _ _
    have K1 := K h1 H1
    rw [e0] at K1
    exact ph_ret e3 K1
theorem LP_addPilot (hH : ph_H X x S w b c m h) (hb : b ≤ 999999900) (n0 : nS x0) (n1 : nS x1) (n2 : nS x2) (hu : u = fun i => if i = 0 then x0 else if i = 1 then x1 else if i = 2 then x2 else 0) (K : ∀ h1, ph_H X x S (mg_st w 7 u) (b + 48) c (m + 1) h1 → Φ (f (nZ (pc_an (w 1) 7 u)) h1)) : Φ (mv_clI (mv_call X (d + 10)) 365 [.ref x, .int (nZ x0), .int (nZ x1), .int (nZ x2)] h g f) := by
  obtain ⟨c1, c2⟩ := ph_chg (d := d) hH hb (k := 7) (by decide) n0 n1 n2 ⟨by decide, by decide⟩ hu
  obtain ⟨r, hr⟩ : ∃ r, r = mc_rf (w 1) 7 u := ⟨_, rfl⟩
  have hrv : r = 0 ∨ r = 1 ∨ r = 8 := by
    rw [hr]
    show mc_rf7 _ _ _ _ = 0 ∨ mc_rf7 _ _ _ _ = 1 ∨ mc_rf7 _ _ _ _ = 8
    unfold mc_rf7
    (repeat' split) <;> decide
  rw [← hr] at c1 c2
  unfold pc_an at K
  rw [← hr] at K
  rcases hrv with e0 | e0 | e0
  · obtain ⟨h1, e, H1⟩ := c1 e0
    have e : mv_call X (d + 8) 137 [.ref x, .int (nZ 7), .int (nZ x0), .int (nZ x1), .int (nZ x2), .int (nZ 0)] h = some (.inl (some (.int (nZ (mc_an (w 1) 7 u)))), h1) := e
    have e2 : mv_call X (d + 9) 108 [.ref x, .int (nZ x0), .int (nZ x1), .int (nZ x2)] h = some (.inl (some (.int (nZ (mc_an (w 1) 7 u)))), h1) := by
      rw [mc_X8_addPilot, bk_X8_addPilot_0, ph_rcv hH]
      simp only [mv_clI, mv_cl, e]
    have e3 : mv_call X (d + 10) 365 [.ref x, .int (nZ x0), .int (nZ x1), .int (nZ x2)] h = some (.inl (some (.int (nZ (mc_an (w 1) 7 u)))), h1) := by
      rw [mc_L_addPilot, bk_L_addPilot_0, bk_L_addPilot_4, ph_rcv hH]
      simp only [mv_clI, mv_cl, e2]
      exact bk_L_addPilot_7 _ _ _ _ _ _ _ _
    have K1 := K h1 (ph_mono (Nat.le_succ _) H1)
    rw [if_pos e0] at K1
    exact ph_ret e3 K1
  · obtain ⟨q, h1, e, H1⟩ := c2 (by rw [e0]; decide)
    rw [e0] at e
    have e : mv_call X (d + 8) 137 [.ref x, .int (nZ 7), .int (nZ x0), .int (nZ x1), .int (nZ x2), .int (nZ 0)] h = some (.inr (3, q), h1) := e
    have e2 : mv_call X (d + 9) 108 [.ref x, .int (nZ x0), .int (nZ x1), .int (nZ x2)] h = some (.inr (3, q), h1) := by
      rw [mc_X8_addPilot, bk_X8_addPilot_0, ph_rcv hH]
      simp only [mv_clI, mv_cl, e]
      rfl
    have e3 : mv_call X (d + 10) 365 [.ref x, .int (nZ x0), .int (nZ x1), .int (nZ x2)] h = some (.inl (some (.int (nZ (-76)))), h1) := by
      rw [mc_L_addPilot, bk_L_addPilot_0, bk_L_addPilot_4, ph_rcv hH]
      simp only [mv_clI, mv_cl, e2]
      exact bk_L_addPilot_15 _ _ _ _ _ _ _
    have K1 := K h1 H1
    rw [e0] at K1
    exact ph_ret e3 K1
  · obtain ⟨q, h1, e, H1⟩ := c2 (by rw [e0]; decide)
    rw [e0] at e
    have e : mv_call X (d + 8) 137 [.ref x, .int (nZ 7), .int (nZ x0), .int (nZ x1), .int (nZ x2), .int (nZ 0)] h = some (.inr (0, q), h1) := e
    have e2 : mv_call X (d + 9) 108 [.ref x, .int (nZ x0), .int (nZ x1), .int (nZ x2)] h = some (.inr (0, q), h1) := by
      rw [mc_X8_addPilot, bk_X8_addPilot_0, ph_rcv hH]
      simp only [mv_clI, mv_cl, e]
      rfl
    have e3 : mv_call X (d + 10) 365 [.ref x, .int (nZ x0), .int (nZ x1), .int (nZ x2)] h = some (.inl (some (.int (nZ (-78)))), h1) := by
      rw [mc_L_addPilot, bk_L_addPilot_0, bk_L_addPilot_4, ph_rcv hH]
      simp only [mv_clI, mv_cl, e2]
      exact bk_L_addPilot_10 _ _ _ _ _ _ _
    have K1 := K h1 H1
    rw [e0] at K1
    exact ph_ret e3 K1
theorem LP_removePilot (hH : ph_H X x S w b c m h) (hb : b ≤ 999999900) (n0 : nS x0) (hu : u = fun i => if i = 0 then x0 else if i = 1 then 0 else if i = 2 then 0 else 0) (K : ∀ h1, ph_H X x S (mg_st w 8 u) (b + 48) c (m + 1) h1 → Φ (f (nZ (pc_an (w 1) 8 u)) h1)) : Φ (mv_clI (mv_call X (d + 10)) 366 [.ref x, .int (nZ x0)] h g f) := by
  obtain ⟨c1, c2⟩ := ph_chg (d := d) hH hb (k := 8) (by decide) n0 ⟨by decide, by decide⟩ ⟨by decide, by decide⟩ ⟨by decide, by decide⟩ hu
  obtain ⟨r, hr⟩ : ∃ r, r = mc_rf (w 1) 8 u := ⟨_, rfl⟩
  have hrv : r = 0 ∨ r = 10 := by
    rw [hr]
    show mc_rf8 _ _ = 0 ∨ mc_rf8 _ _ = 10
    unfold mc_rf8
    (repeat' split) <;> decide
  rw [← hr] at c1 c2
  unfold pc_an at K
  rw [← hr] at K
  rcases hrv with e0 | e0
  · obtain ⟨h1, e, H1⟩ := c1 e0
    have e : mv_call X (d + 8) 137 [.ref x, .int (nZ 8), .int (nZ x0), .int (nZ 0), .int (nZ 0), .int (nZ 0)] h = some (.inl (some (.int (nZ (mc_an (w 1) 8 u)))), h1) := e
    have e2 : mv_call X (d + 9) 109 [.ref x, .int (nZ x0)] h = some (.inl (some (.int (nZ (mc_an (w 1) 8 u)))), h1) := by
      rw [mc_X8_removePilot, bk_X8_removePilot_0, ph_rcv hH]
      simp only [mv_clI, mv_cl, e]
    have e3 : mv_call X (d + 10) 366 [.ref x, .int (nZ x0)] h = some (.inl (some (.int (nZ (mc_an (w 1) 8 u)))), h1) := by
      rw [mc_L_removePilot, bk_L_removePilot_0, bk_L_removePilot_2, ph_rcv hH]
      simp only [mv_clI, mv_cl, e2]
      exact bk_L_removePilot_5 _ _ _ _ _ _
    have K1 := K h1 (ph_mono (Nat.le_succ _) H1)
    rw [if_pos e0] at K1
    exact ph_ret e3 K1
  · obtain ⟨q, h1, e, H1⟩ := c2 (by rw [e0]; decide)
    rw [e0] at e
    have e : mv_call X (d + 8) 137 [.ref x, .int (nZ 8), .int (nZ x0), .int (nZ 0), .int (nZ 0), .int (nZ 0)] h = some (.inr (2, q), h1) := e
    have e2 : mv_call X (d + 9) 109 [.ref x, .int (nZ x0)] h = some (.inr (2, q), h1) := by
      rw [mc_X8_removePilot, bk_X8_removePilot_0, ph_rcv hH]
      simp only [mv_clI, mv_cl, e]
      rfl
    have e3 : mv_call X (d + 10) 366 [.ref x, .int (nZ x0)] h = some (.inl (some (.int (nZ (-77)))), h1) := by
      rw [mc_L_removePilot, bk_L_removePilot_0, bk_L_removePilot_2, ph_rcv hH]
      simp only [mv_clI, mv_cl, e2]
      exact bk_L_removePilot_7 _ _ _ _ _
    have K1 := K h1 H1
    rw [e0] at K1
    exact ph_ret e3 K1
end WRD
