/-! WHAT IS KEPT BESIDE THE HARBOUR: told by the reference's cells -/
/-- the reference's fields that count -/
def mg_f (k : Nat) : Prop := k = 6 ∨ k = 7 ∨ k = 15 ∨ k = 16 ∨ k = 17 ∨ k = 19 ∨ k = 20 ∨ k = 21
/-- the reference at m holds w (w 0 fields, w 1 numbers, w 3 the snapshot, w 4 the history, w 6 the text, w 8 the line) -/
def mr_is (V : mz_V) (m : Nat) (w : mz_V) : Prop := (V (m + 1) = w 1 ∧ V (m + 3) = w 3 ∧ V (m + 4) = w 4 ∧ V (m + 6) = w 6 ∧ V (m + 8) = w 8) ∧ ∀ k, mg_f k → V m k = w 0 k
def mr_X (V V' : mz_V) (m : Nat) : Prop := ∀ r, r < m ∨ m + 13 ≤ r → V' r = V r
theorem mr_X_rfl (V : mz_V) (m : Nat) : mr_X V V m := fun _ _ => rfl
theorem mr_X_tr {V V' V'' : mz_V} {m : Nat} (h : mr_X V V' m) (h' : mr_X V' V'' m) : mr_X V V'' m := fun r hr => (h' r hr).trans (h r hr)
theorem mr_X_w {V : mz_V} {m r : Nat} {f : Nat → Int} (h1 : m ≤ r) (h2 : r < m + 13) : mr_X V (mz_w V r f) m := fun q hq => mz_w_n _ _ (by omega)
def mr_cpy (f g : Nat → Int) (n : Nat) : Nat → Int := fun j => if j < n then g j else f j
theorem mr_cpy0 (f g : Nat → Int) : mr_cpy f g 0 = f := by
  funext j
  unfold mr_cpy
  rw [if_neg (Nat.not_lt_zero _)]
theorem mr_cpy1 (f g : Nat → Int) (n : Nat) : mr_up (mr_cpy f g n) n (g n) = mr_cpy f g (n + 1) := by
  funext j
  unfold mr_up mr_cpy
  by_cases e : j = n
  · rw [if_pos e, if_pos (by omega), e]
  · rw [if_neg e]
    by_cases e2 : j < n
    · rw [if_pos e2, if_pos (by omega)]
    · rw [if_neg e2, if_neg (by omega)]
theorem mr_cpy_l (f g : Nat → Int) {n j : Nat} (h : j < n) : mr_cpy f g n j = g j := if_pos h
/-- places from p on, n of them, taken from g -/
def mr_put (f g : Nat → Int) (p n : Nat) : Nat → Int := fun j => if p ≤ j ∧ j < p + n then g (j - p) else f j
theorem mr_put0 (f g : Nat → Int) (p : Nat) : mr_put f g p 0 = f := by
  funext j
  unfold mr_put
  rw [if_neg (by omega)]
theorem mr_put1 (f g : Nat → Int) (p n : Nat) : mr_up (mr_put f g p n) (p + n) (g n) = mr_put f g p (n + 1) := by
  funext j
  unfold mr_up mr_put
  by_cases e : j = p + n
  · rw [if_pos e, if_pos (by omega), e, Nat.add_sub_cancel_left]
  · rw [if_neg e]
    by_cases e2 : p ≤ j ∧ j < p + n
    · rw [if_pos e2, if_pos (by omega)]
    · rw [if_neg e2, if_neg (by omega)]
/-- places below n moved down by 158 -/
def mr_sh8 (f : Nat → Int) (n : Nat) : Nat → Int := fun j => if j < n then f (j + 158) else f j
theorem mr_sh80 (f : Nat → Int) : mr_sh8 f 0 = f := by
  funext j
  unfold mr_sh8
  rw [if_neg (Nat.not_lt_zero _)]
theorem mr_sh81 (f : Nat → Int) (n : Nat) : mr_up (mr_sh8 f n) n (f (n + 158)) = mr_sh8 f (n + 1) := by
  funext j
  unfold mr_up mr_sh8
  by_cases e : j = n
  · rw [if_pos e, if_pos (by omega), e]
  · rw [if_neg e]
    by_cases e2 : j < n
    · rw [if_pos e2, if_pos (by omega)]
    · rw [if_neg e2, if_neg (by omega)]
/-- the history with one more -/
def mg_hp (f : Nat → Int) (k : Int) (s : Nat → Int) : Nat → Int := if k = 8 then mr_put (mr_sh8 f 1106) s 1106 158 else mr_put f s (158 * k.toNat) 158
def mg_kp (k : Int) : Int := if k = 8 then 8 else k + 1
theorem mr_I_e {s s' : Nat → Int} (h : ∀ j, j < 158 → s' j = s j) (hI : mr_I s) : mr_I s' := by
  obtain ⟨h1, h2, h3, h4⟩ := hI
  refine ⟨by rw [h 0 (by omega)]; exact h1, by rw [h 5 (by omega)]; exact h2, fun i hi => by rw [h _ (by omega)]; exact h3 i hi, fun b hb => ?_⟩
  obtain ⟨g1, g2, g3, g4, g5, g6⟩ := h4 b hb
  refine ⟨by rw [h _ (by omega)]; exact g1, by rw [h _ (by omega)]; exact g2, by rw [h _ (by omega)]; exact g3, by rw [h _ (by omega)]; exact g4, by rw [h _ (by omega)]; exact g5, fun k hk => ?_⟩
  have := g6 k hk
  unfold mr_bag at this ⊢
  rw [h _ (by omega)]; exact this
section REFG
variable {X : mv_X} {P : mz_P} {V : mz_V} {z : Nat × Nat} {m d : Nat} {w : mz_V}
theorem X9_fails (hM : mr_M P m) {x : Int} : mv_call X (d + 1) 149 [.ref m, .int (nZ x)] (mz_h P V, z) = some (.inl (some (.int (nZ 0))), (mz_h P (mz_w V m (mr_up (V m) 0 x)), z)) := by
  rw [mc_X9_fails, bk_X9_fails_0]
  simp (disch := decide) only [mz_pW hM.o]
theorem X9_remembers (hM : mr_M P m) : mv_call X (d + 1) 151 [.ref m] (mz_h P V, z) = some (.inl none, (mz_h P (mz_w (mz_w V m (mr_up (V m) 0 0)) (m + 2) (mr_cpy (V (m + 2)) (V (m + 1)) 158)), z)) := by
  rw [mc_X9_remembers, bk_X9_remembers_0, mz_pW hM.o (by decide)]
  have key := mz_loop (φ := fun i => mv_run X (mv_call X d) m_X9_remembers 7 [.ref m, .int (nZ i)] [] (mz_h P (mz_w (mz_w V m (mr_up (V m) 0 0)) (m + 2) (mr_cpy (V (m + 2)) (V (m + 1)) i)), z) = some (.inl none, (mz_h P (mz_w (mz_w V m (mr_up (V m) 0 0)) (m + 2) (mr_cpy (V (m + 2)) (V (m + 1)) 158)), z))) 158 ?_ (fun i hi ih => ?_) 0 (Nat.zero_le _)
  · have e : mz_w (mz_w V m (mr_up (V m) 0 0)) (m + 2) (V (m + 2)) = mz_w V m (mr_up (V m) 0 0) := by
      conv => lhs; rw [← mz_w_n V (a := m) (b := m + 2) (mr_up (V m) 0 0) (by omega)]
      exact mz_w_id _ _
    rw [mr_cpy0, e] at key
    exact key
  · rw [bk_X9_remembers_7, if_pos (by exact Int32.le_refl _)]
  · rw [nc1] at ih
    rw [bk_X9_remembers_7, if_neg (by rw [nZ_le ⟨by omega, by omega⟩ ⟨by omega, by omega⟩]; omega)]
    simp (disch := omega) only [mr_gfr hM, mr_gs hM, mr_as hM, mr_pfr hM, Int.toNat_natCast, mz_w_s, mz_w_w, nZ_add, mz_w_n]
    rw [mr_cpy1]
    exact ih
theorem X9_changed (hM : mr_M P m) {k : Nat} (hk : k ≤ 8) (hV : V m 6 = k) {x : Int} :
    ∃ V', mv_call X (d + 1) 152 [.ref m, .int (nZ x)] (mz_h P V, z) = some (.inl (some (.int (nZ x))), (mz_h P V', z)) ∧ V' (m + 4) = mg_hp (V (m + 4)) k (V (m + 2)) ∧ V' m 6 = mg_kp k ∧ (∀ j, j ≠ 6 → V' m j = V m j) ∧ ∀ a, a ≠ m → a ≠ m + 4 → V' a = V a := by
  rw [mc_X9_changed, bk_X9_changed_0, mz_gI hM.o (by decide), hV]
  -- the last loop
  have last : ∀ (W : mz_V) (q : Nat), q < 8 → W m 6 = (q : Int) + 1 → mv_run X (mv_call X d) m_X9_changed 55 [.ref m, .int (nZ x), .int (nZ 0)] [] (mz_h P W, z) = some (.inl (some (.int (nZ x))), (mz_h P (mz_w W (m + 4) (mr_put (W (m + 4)) (W (m + 2)) (158 * q) 158)), z)) := by
    intro W q hq hW
    have key := mz_loop (φ := fun i => mv_run X (mv_call X d) m_X9_changed 55 [.ref m, .int (nZ x), .int (nZ i)] [] (mz_h P (mz_w W (m + 4) (mr_put (W (m + 4)) (W (m + 2)) (158 * q) i)), z) = some (.inl (some (.int (nZ x))), (mz_h P (mz_w W (m + 4) (mr_put (W (m + 4)) (W (m + 2)) (158 * q) 158)), z))) 158 ?_ (fun i hi ih => ?_) 0 (Nat.zero_le _)
    · rw [mr_put0, mz_w_id] at key
      exact key
    · rw [bk_X9_changed_55, if_pos (by exact Int32.le_refl _)]
    · rw [nc1] at ih
      have e6 : mz_w W (m + 4) (mr_put (W (m + 4)) (W (m + 2)) (158 * q) i) m 6 = (q : Int) + 1 := by rw [mz_w_n _ _ (by omega)]; exact hW
      have e7 : (158 * ((q : Int) + 1 - 1) + i).toNat = 158 * q + i := by omega
      rw [bk_X9_changed_55, if_neg (by rw [nZ_le ⟨by omega, by omega⟩ ⟨by omega, by omega⟩]; omega)]
      simp (disch := first | decide | omega) only [mr_ghs hM, mz_gI hM.o, e6, mr_gfr hM, mr_afr hM, Int.toNat_natCast, mz_w_n, nZ_sub, nZ_mul, nZ_add, mr_phs hM, e7, mz_w_s, mz_w_w]
      rw [mr_put1]
      exact ih
  by_cases c : k = 8
  · subst c
    rw [if_pos (by rfl)]
    have key := mz_loop (φ := fun i => mv_run X (mv_call X d) m_X9_changed 11 [.ref m, .int (nZ x), .int (nZ i)] [] (mz_h P (mz_w V (m + 4) (mr_sh8 (V (m + 4)) i)), z) = some (.inl (some (.int (nZ x))), (mz_h P (mz_w V (m + 4) (mr_put (mr_sh8 (V (m + 4)) 1106) (V (m + 2)) 1106 158)), z))) 1106 ?_ (fun i hi ih => ?_) 0 (Nat.zero_le _)
    · rw [mr_sh80, mz_w_id] at key
      refine ⟨_, key, ?_, ?_, fun j hj => ?_, fun a a1 a2 => mz_w_n _ _ a2⟩
      · rw [mz_w_s]
        exact (if_pos rfl).symm
      · rw [mz_w_n _ _ (by omega), hV]; rfl
      · rw [mz_w_n _ _ (by omega)]
    · have := last (mz_w V (m + 4) (mr_sh8 (V (m + 4)) 1106)) 7 (by decide) (by rw [mz_w_n _ _ (by omega), hV]; rfl)
      rw [mz_w_s, mz_w_n _ _ (show m + 2 ≠ m + 4 by omega), mz_w_w] at this
      rw [bk_X9_changed_11, if_pos (by exact Int32.le_refl _)]
      exact this
    · rw [nc1] at ih
      have e3 : ((i : Int) + 158).toNat = i + 158 := by omega
      have e4 : mr_sh8 (V (m + 4)) i (i + 158) = V (m + 4) (i + 158) := if_neg (by omega)
      rw [bk_X9_changed_11, if_neg (by rw [nZ_le ⟨by omega, by omega⟩ ⟨by omega, by omega⟩]; omega)]
      simp (disch := first | decide | omega) only [mr_ghs hM, nZ_add, mr_ahs hM, e3, mz_w_s, e4, mr_phs hM, Int.toNat_natCast, mz_w_w]
      rw [mr_sh81]
      exact ih
  · rw [if_neg (by rw [nZ_inj ⟨by omega, by omega⟩ (by decide)]; omega), mz_gI hM.o (by decide), hV, nZ_add, mz_pW hM.o (by decide)]
    have := last (mz_w V m (mr_up (V m) 6 ((k : Int) + 1))) k (by omega) (by rw [mz_w_s, mr_up_s])
    rw [mz_w_n _ _ (show m + 4 ≠ m by omega), mz_w_n _ _ (show m + 2 ≠ m by omega)] at this
    refine ⟨_, this, ?_, ?_, fun j hj => ?_, fun a a1 a2 => ?_⟩
    · rw [mz_w_s]
      unfold mg_hp
      rw [if_neg (by omega), Int.toNat_natCast]
    · rw [mz_w_n _ _ (by omega), mz_w_s, mr_up_s]
      unfold mg_kp
      rw [if_neg (by omega)]
    · rw [mz_w_n _ _ (by omega), mz_w_s, mr_up_n _ _ hj]
    · rw [mz_w_n _ _ a2, mz_w_n _ _ a1]
/-- where a denial is thrown; what a change tells -/
def mg_pl (k : Nat) : Int := match k with
  | 0 => 2
  | 1 => 1
  | 2 => 3
  | 3 => 2
  | 4 => 3
  | 5 => 2
  | 6 => 1
  | 7 => 2
  | _ => 1
def mg_cd (k : Nat) (r : Int) : Int := if r = 0 then 0 else if r ≤ 5 then mg_pl k else mc_cd k r
def mg_st (w : mz_V) (k : Nat) (x : Nat → Int) : mz_V :=
  if mc_rf (w 1) k x = 0 then mz_u (mz_w (mz_w w 1 (mc_st (w 1) k x)) 4 (mg_hp (w 4) (w 0 6) (w 1))) 0 6 (mg_kp (w 0 6))
  else if mc_rf (w 1) k x ≤ 5 then mz_u (mz_u (mz_u w 0 19 (mc_rf (w 1) k x)) 0 20 (mc_dt (w 1) k x)) 0 21 0 else w
theorem mg_hp_e {f s s' : Nat → Int} {k : Int} (h : ∀ j, j < 158 → s' j = s j) : mg_hp f k s' = mg_hp f k s := by
  funext j
  unfold mg_hp
  split
  · unfold mr_put
    split
    · exact h _ (by omega)
    · rfl
  · unfold mr_put
    split
    · exact h _ (by omega)
    · rfl
/-- a change: the frame is remembered, the command done (r told), then what follows -/
theorem X9_change_e (hM : mr_M P m) (hw : mr_is V m w) {kp : Nat} (hkp : w 0 6 = kp) (hkp8 : kp ≤ 8) {k : Nat} {x : Nat → Int} {V2 : mz_V} {dt : Int}
    (hr : 0 ≤ mc_rf (w 1) k x ∧ (mc_rf (w 1) k x ≤ 5 ∨ 1 ≤ mc_cd k (mc_rf (w 1) k x))) (hdt : mc_rf (w 1) k x ≠ 0 → mc_rf (w 1) k x ≤ 5 → dt = mc_dt (w 1) k x)
    (hE : mr_E (mz_w (mz_w V m (mr_up (V m) 0 0)) (m + 2) (mr_cpy (V (m + 2)) (V (m + 1)) 158)) V2 m (mc_rs k (mc_rf (w 1) k x)) (mc_st (w 1) k x) (mc_an (w 1) k x) dt) (hcd : mc_cd k (mc_rf (w 1) k x) ≤ 2) :
    ∃ V', mv_call X (d + 2) 155 [.ref m, .int (nZ (mc_rs k (mc_rf (w 1) k x))), .int (nZ (mg_pl k))] (mz_h P V2, z) = some (.inl (some (.int (nZ (if mc_rf (w 1) k x = 0 then mc_an (w 1) k x else 0)))), (mz_h P V', z)) ∧ V' m 0 = mg_cd k (mc_rf (w 1) k x) ∧ mr_is V' m (mg_st w k x) ∧ mr_X V V' m := by
  obtain ⟨⟨w1, w3, w4, w6, w8⟩, wf⟩ := hw
  obtain ⟨E0, Ep, En, Eo⟩ := hE
  have Xo : ∀ a, a < m ∨ m + 13 ≤ a → V2 a = V a := fun a ha => by rw [Eo a (by omega) (by omega) (by omega) (by omega), mz_w_n _ _ (by omega), mz_w_n _ _ (by omega)]
  have V3 : V2 (m + 3) = w 3 := by rw [Eo _ (by omega) (by omega) (by omega) (by omega), mz_w_n _ _ (by omega), mz_w_n _ _ (by omega)]; exact w3
  have V4 : V2 (m + 4) = w 4 := by rw [Eo _ (by omega) (by omega) (by omega) (by omega), mz_w_n _ _ (by omega), mz_w_n _ _ (by omega)]; exact w4
  have V6 : V2 (m + 6) = w 6 := by rw [Eo _ (by omega) (by omega) (by omega) (by omega), mz_w_n _ _ (by omega), mz_w_n _ _ (by omega)]; exact w6
  have V8 : V2 (m + 8) = w 8 := by rw [Eo _ (by omega) (by omega) (by omega) (by omega), mz_w_n _ _ (by omega), mz_w_n _ _ (by omega)]; exact w8
  have Vfr : V2 (m + 2) = mr_cpy (V (m + 2)) (w 1) 158 := by rw [Eo _ (by omega) (by omega) (by omega) (by omega), mz_w_s, w1]
  have base : ∀ k, k ≠ 0 → mz_w (mz_w V m (mr_up (V m) 0 0)) (m + 2) (mr_cpy (V (m + 2)) (V (m + 1)) 158) m k = V m k := fun k hk => by rw [mz_w_n _ _ (by omega), mz_w_s, mr_up_n _ _ hk]
  have base0 : mz_w (mz_w V m (mr_up (V m) 0 0)) (m + 2) (mr_cpy (V (m + 2)) (V (m + 1)) 158) m 0 = 0 := by rw [mz_w_n _ _ (by omega), mz_w_s, mr_up_s]
  have base1 : mz_w (mz_w V m (mr_up (V m) 0 0)) (m + 2) (mr_cpy (V (m + 2)) (V (m + 1)) 158) (m + 1) = w 1 := by rw [mz_w_n _ _ (by omega), mz_w_n _ _ (by omega)]; exact w1
  have fn : ∀ k, mg_f k → k ≠ 0 ∧ k ≠ 18 ∧ k ≠ 22 := fun k hk => by unfold mg_f at hk; omega
  rw [mc_X9_ends, bk_X9_ends_0]
  by_cases c0 : mc_rf (w 1) k x = 0
  · have ers : mc_rs k (mc_rf (w 1) k x) = 0 := if_pos c0
    rw [ers] at E0 ⊢
    obtain ⟨e1, e18, ek⟩ := E0 rfl
    have e6 : V2 m 6 = kp := by rw [ek 6 (by decide) (by decide), base 6 (by decide), wf 6 (Or.inl rfl), hkp]
    obtain ⟨V', hc, c4, c6, cj, co⟩ := X9_changed (X := X) (z := z) (d := d) (x := mc_an (w 1) k x) hM hkp8 e6
    have est : mg_st w k x = mz_u (mz_w (mz_w w 1 (mc_st (w 1) k x)) 4 (mg_hp (w 4) (w 0 6) (w 1))) 0 6 (mg_kp (w 0 6)) := if_pos c0
    refine ⟨V', ?_, ?_, ⟨⟨?_, ?_, ?_, ?_, ?_⟩, fun q hq => ?_⟩, fun a ha => ?_⟩
    · rw [if_pos (by rfl), mz_gI hM.o (by decide), e18, if_pos c0]
      simp only [mz_rcv hM.o, mv_clI, mv_cl, hc]
    · rw [cj 0 (by decide), ek 0 (by decide) (by decide), base0]
      unfold mg_cd
      rw [if_pos c0]
    · rw [co _ (by omega) (by omega), e1, est, mz_u_o (by decide), mz_w_n _ _ (by decide), mz_w_s]
    · rw [co _ (by omega) (by omega), V3, est, mz_u_o (by decide), mz_w_n _ _ (by decide), mz_w_n _ _ (by decide)]
    · rw [c4, V4, Vfr, est, mz_u_o (by decide), mz_w_s, hkp]
      exact mg_hp_e fun j hj => mr_cpy_l _ _ hj
    · rw [co _ (by omega) (by omega), V6, est, mz_u_o (by decide), mz_w_n _ _ (by decide), mz_w_n _ _ (by decide)]
    · rw [co _ (by omega) (by omega), V8, est, mz_u_o (by decide), mz_w_n _ _ (by decide), mz_w_n _ _ (by decide)]
    · rw [est]
      by_cases q6 : q = 6
      · subst q6
        rw [c6, mz_u_s, hkp]
      · have := fn q hq
        rw [cj q q6, ek q (by omega) (by omega), base q (by omega), wf q hq, mz_u_k _ _ q6, mz_w_n _ _ (by decide), mz_w_n _ _ (by decide)]
    · rw [co a (by omega) (by omega)]; exact Xo a ha
  · by_cases c5 : mc_rf (w 1) k x ≤ 5
    · have ers : mc_rs k (mc_rf (w 1) k x) = -mc_rf (w 1) k x := by unfold mc_rs; rw [if_neg c0, if_pos c5]
      rw [ers] at En ⊢
      obtain ⟨e1, e19, e20, e21, ek⟩ := En (by omega)
      have est : mg_st w k x = mz_u (mz_u (mz_u w 0 19 (mc_rf (w 1) k x)) 0 20 (mc_dt (w 1) k x)) 0 21 0 := by unfold mg_st; rw [if_neg c0, if_pos c5]
      refine ⟨mz_w V2 m (mr_up (V2 m) 0 (mg_pl k)), ?_, ?_, ⟨⟨?_, ?_, ?_, ?_, ?_⟩, fun q hq => ?_⟩, fun a ha => ?_⟩
      · rw [if_neg (by rw [nZ_eq0 ⟨by omega, by omega⟩]; omega), if_neg (by rw [nZ_0le ⟨by omega, by omega⟩]; omega), if_neg c0]
        simp only [mz_rcv hM.o, mv_clI, mv_cl, X9_fails hM]
      · rw [mz_w_s, mr_up_s]
        unfold mg_cd
        rw [if_neg c0, if_pos c5]
      · rw [mz_w_n _ _ (by omega), e1, base1, est, mz_u_o (by decide), mz_u_o (by decide), mz_u_o (by decide)]
      · rw [mz_w_n _ _ (by omega), V3, est, mz_u_o (by decide), mz_u_o (by decide), mz_u_o (by decide)]
      · rw [mz_w_n _ _ (by omega), V4, est, mz_u_o (by decide), mz_u_o (by decide), mz_u_o (by decide)]
      · rw [mz_w_n _ _ (by omega), V6, est, mz_u_o (by decide), mz_u_o (by decide), mz_u_o (by decide)]
      · rw [mz_w_n _ _ (by omega), V8, est, mz_u_o (by decide), mz_u_o (by decide), mz_u_o (by decide)]
      · have hq0 := fn q hq
        rw [mz_w_s, mr_up_n _ _ hq0.1, est]
        by_cases q21 : q = 21
        · subst q21; rw [e21, mz_u_s]
        · rw [mz_u_k _ _ q21]
          by_cases q20 : q = 20
          · subst q20; rw [e20, mz_u_s]; exact hdt c0 c5
          · rw [mz_u_k _ _ q20]
            by_cases q19 : q = 19
            · subst q19; rw [e19, mz_u_s]; omega
            · rw [mz_u_k _ _ q19, ek q q19 q20 q21, base q hq0.1, wf q hq]
      · rw [mz_w_n _ _ (by omega)]; exact Xo a ha
    · have ers : mc_rs k (mc_rf (w 1) k x) = mc_cd k (mc_rf (w 1) k x) := by unfold mc_rs; rw [if_neg c0, if_neg c5]
      have hcd1 : 1 ≤ mc_cd k (mc_rf (w 1) k x) := by omega
      rw [ers] at Ep ⊢
      have e2 := Ep (by omega)
      have est : mg_st w k x = w := by unfold mg_st; rw [if_neg c0, if_neg c5]
      refine ⟨mz_w V2 m (mr_up (V2 m) 0 (mc_cd k (mc_rf (w 1) k x))), ?_, ?_, ⟨⟨?_, ?_, ?_, ?_, ?_⟩, fun q hq => ?_⟩, fun a ha => ?_⟩
      · rw [if_neg (by rw [nZ_eq0 ⟨by omega, by omega⟩]; omega), if_pos (by rw [nZ_0le ⟨by omega, by omega⟩]; omega), if_neg c0]
        simp only [mz_rcv hM.o, mv_clI, mv_cl, X9_fails hM]
      · rw [mz_w_s, mr_up_s]
        unfold mg_cd
        rw [if_neg c0, if_neg c5]
      · rw [mz_w_n _ _ (by omega), e2, base1, est]
      · rw [mz_w_n _ _ (by omega), V3, est]
      · rw [mz_w_n _ _ (by omega), V4, est]
      · rw [mz_w_n _ _ (by omega), V6, est]
      · rw [mz_w_n _ _ (by omega), V8, est]
      · have hq0 := fn q hq
        rw [mz_w_s, mr_up_n _ _ hq0.1, est, e2, base q hq0.1, wf q hq]
      · rw [mz_w_n _ _ (by omega)]; exact Xo a ha
theorem mc_rf_in (s : Nat → Int) (k : Nat) (x : Nat → Int) : mc_rf s k x = 0 ∨ (1 ≤ mc_rf s k x ∧ mc_rf s k x ≤ 5) ∨ mc_rf s k x = 8 ∨ mc_rf s k x = 9 ∨ mc_rf s k x = 10 := by
  unfold mc_rf
  split <;> (first | unfold mc_rf0 | unfold mc_rf1 | unfold mc_rf2 | unfold mc_rf3 | unfold mc_rf4 | unfold mc_rf5 | unfold mc_rf6 | unfold mc_rf7 | unfold mc_rf8) <;> repeat' split
  all_goals omega
theorem mc_cd_in (k : Nat) (r : Int) : 1 ≤ mc_cd k r ∧ mc_cd k r ≤ 2 := by
  unfold mc_cd
  repeat' split
  all_goals omega
/-- the reference's public changes -/
def mg_no (k : Nat) : Nat := match k with
  | 0 => 187
  | 1 => 188
  | 2 => 189
  | 3 => 190
  | 4 => 191
  | 5 => 192
  | 6 => 195
  | 7 => 193
  | _ => 194
/-- a call's arguments by its kind -/
def mg_ar (k : Nat) (x : Nat → Int) : List Value := match k with
  | 0 => [.int (nZ (x 0)), .int (nZ (x 1)), .int (nZ (x 2)), .int (nZ (x 3))]
  | 1 => [.int (nZ (x 0))]
  | 2 => [.int (nZ (x 0)), .int (nZ (x 1))]
  | 3 => [.int (nZ (x 0)), .int (nZ (x 1))]
  | 4 => [.int (nZ (x 0)), .int (nZ (x 1))]
  | 5 => [.int (nZ (x 0)), .int (nZ (x 1))]
  | 6 => [.int (nZ (x 0))]
  | 7 => [.int (nZ (x 0)), .int (nZ (x 1)), .int (nZ (x 2))]
  | _ => [.int (nZ (x 0))]
theorem X9_change (hM : mr_M P m) (hw : mr_is V m w) (hI : mr_I (w 1)) (hh : w 1 0 ≤ 999999900) (hkp : 0 ≤ w 0 6 ∧ w 0 6 ≤ 8) {k : Nat} (hk : k < 9) {x : Nat → Int} (hx : ∀ i, i < 4 → nS (x i)) :
    ∃ V', mv_call X (d + 10) (mg_no k) (.ref m :: mg_ar k x) (mz_h P V, z) = some (.inl (some (.int (nZ (if mc_rf (w 1) k x = 0 then mc_an (w 1) k x else 0)))), (mz_h P V', z)) ∧ V' m 0 = mg_cd k (mc_rf (w 1) k x) ∧ mr_is V' m (mg_st w k x) ∧ mr_X V V' m := by
  obtain ⟨kp, hkp2⟩ : ∃ kp : Nat, w 0 6 = kp := ⟨(w 0 6).toNat, by omega⟩
  have e1 : mz_w (mz_w V m (mr_up (V m) 0 0)) (m + 2) (mr_cpy (V (m + 2)) (V (m + 1)) 158) (m + 1) = w 1 := by rw [mz_w_n _ _ (by omega), mz_w_n _ _ (by omega)]; exact hw.1.1
  have hI1 : mr_I (mz_w (mz_w V m (mr_up (V m) 0 0)) (m + 2) (mr_cpy (V (m + 2)) (V (m + 1)) 158) (m + 1)) := by rw [e1]; exact hI
  have hrm := X9_remembers (X := X) (V := V) (z := z) (d := d + 8) hM
  have n0 := hx 0 (by decide)
  have n1 := hx 1 (by decide)
  have n2 := hx 2 (by decide)
  have n3 := hx 3 (by decide)
  have hr : 0 ≤ mc_rf (w 1) k x ∧ (mc_rf (w 1) k x ≤ 5 ∨ 1 ≤ mc_cd k (mc_rf (w 1) k x)) := by
    have h1 := mc_rf_in (w 1) k x
    have h2 := mc_cd_in k (mc_rf (w 1) k x)
    omega
  have hcd := (mc_cd_in k (mc_rf (w 1) k x)).2
  rcases mc_k9 hk with rfl | rfl | rfl | rfl | rfl | rfl | rfl | rfl | rfl
  · obtain ⟨V2, hc, hE⟩ := X9_moors (X := X) (z := z) (d := d + 3) hM hI1 n0 n1 n2 n3
    rw [e1] at hc hE
    obtain ⟨V', he, r1, r2, r3⟩ := X9_change_e (X := X) (z := z) (d := d + 7) (k := 0) (x := x) hM hw hkp2 (by omega) hr (fun _ _ => rfl) hE hcd
    refine ⟨V', ?_, r1, r2, r3⟩
    have he : mv_call X (d + 9) 155 [.ref m, .int (nZ (mc_rs 0 (mc_rf0 (w 1) (x 0) (x 1) (x 2) (x 3)))), .int (nZ 2)] (mz_h P V2, z) = some (.inl (some (.int (nZ (if mc_rf (w 1) 0 x = 0 then mc_an (w 1) 0 x else 0)))), (mz_h P V', z)) := he
    show mv_call X (d + 10) 187 [.ref m, .int (nZ (x 0)), .int (nZ (x 1)), .int (nZ (x 2)), .int (nZ (x 3))] (mz_h P V, z) = _
    rw [mc_X9_moor, bk_X9_moor_0]
    simp only [mz_rcv hM.o, mv_clV, mv_clI, mv_cl, hrm, hc, he]
  · obtain ⟨V2, hc, hE⟩ := X9_casts (X := X) (z := z) (d := d + 5) hM hI1 n0
    rw [e1] at hc hE
    obtain ⟨V', he, r1, r2, r3⟩ := X9_change_e (X := X) (z := z) (d := d + 7) (k := 1) (x := x) hM hw hkp2 (by omega) hr (fun _ _ => rfl) hE hcd
    refine ⟨V', ?_, r1, r2, r3⟩
    have he : mv_call X (d + 9) 155 [.ref m, .int (nZ (mc_rs 1 (mc_rf1 (w 1) (x 0)))), .int (nZ 1)] (mz_h P V2, z) = some (.inl (some (.int (nZ (if mc_rf (w 1) 1 x = 0 then mc_an (w 1) 1 x else 0)))), (mz_h P V', z)) := he
    show mv_call X (d + 10) 188 [.ref m, .int (nZ (x 0))] (mz_h P V, z) = _
    rw [mc_X9_castOff, bk_X9_castOff_0]
    simp only [mz_rcv hM.o, mv_clV, mv_clI, mv_cl, hrm, hc, he]
  · obtain ⟨V2, hc, hE⟩ := X9_loads (X := X) (z := z) (d := d + 5) hM hI1 n0 n1
    rw [e1] at hc hE
    obtain ⟨V', he, r1, r2, r3⟩ := X9_change_e (X := X) (z := z) (d := d + 7) (k := 2) (x := x) hM hw hkp2 (by omega) hr (fun _ _ => rfl) hE hcd
    refine ⟨V', ?_, r1, r2, r3⟩
    have he : mv_call X (d + 9) 155 [.ref m, .int (nZ (mc_rs 2 (mc_rf2 (w 1) (x 0) (x 1)))), .int (nZ 3)] (mz_h P V2, z) = some (.inl (some (.int (nZ (if mc_rf (w 1) 2 x = 0 then mc_an (w 1) 2 x else 0)))), (mz_h P V', z)) := he
    show mv_call X (d + 10) 189 [.ref m, .int (nZ (x 0)), .int (nZ (x 1))] (mz_h P V, z) = _
    rw [mc_X9_load, bk_X9_load_0]
    simp only [mz_rcv hM.o, mv_clV, mv_clI, mv_cl, hrm, hc, he]
  · obtain ⟨V2, hc, hE⟩ := X9_drops (X := X) (z := z) (d := d + 5) hM hI1 n0 n1
    rw [e1] at hc hE
    obtain ⟨V', he, r1, r2, r3⟩ := X9_change_e (X := X) (z := z) (d := d + 7) (k := 3) (x := x) hM hw hkp2 (by omega) hr (fun _ _ => rfl) hE hcd
    refine ⟨V', ?_, r1, r2, r3⟩
    have he : mv_call X (d + 9) 155 [.ref m, .int (nZ (mc_rs 3 (mc_rf3 (w 1) (x 0) (x 1)))), .int (nZ 2)] (mz_h P V2, z) = some (.inl (some (.int (nZ (if mc_rf (w 1) 3 x = 0 then mc_an (w 1) 3 x else 0)))), (mz_h P V', z)) := he
    show mv_call X (d + 10) 190 [.ref m, .int (nZ (x 0)), .int (nZ (x 1))] (mz_h P V, z) = _
    rw [mc_X9_drop, bk_X9_drop_0]
    simp only [mz_rcv hM.o, mv_clV, mv_clI, mv_cl, hrm, hc, he]
  · obtain ⟨V2, hc, hE⟩ := X9_rises (X := X) (z := z) (d := d + 3) hM hI1 n0 n1
    rw [e1] at hc hE
    obtain ⟨V', he, r1, r2, r3⟩ := X9_change_e (X := X) (z := z) (d := d + 7) (k := 4) (x := x) hM hw hkp2 (by omega) hr (fun _ _ => rfl) hE hcd
    refine ⟨V', ?_, r1, r2, r3⟩
    have he : mv_call X (d + 9) 155 [.ref m, .int (nZ (mc_rs 4 (mc_rf4 (w 1) (x 0) (x 1)))), .int (nZ 3)] (mz_h P V2, z) = some (.inl (some (.int (nZ (if mc_rf (w 1) 4 x = 0 then mc_an (w 1) 4 x else 0)))), (mz_h P V', z)) := he
    show mv_call X (d + 10) 191 [.ref m, .int (nZ (x 0)), .int (nZ (x 1))] (mz_h P V, z) = _
    rw [mc_X9_rise, bk_X9_rise_0]
    simp only [mz_rcv hM.o, mv_clV, mv_clI, mv_cl, hrm, hc, he]
  · obtain ⟨V2, hc, hE⟩ := X9_blows (X := X) (z := z) (d := d + 5) hM hI1 n0 n1
    rw [e1] at hc hE
    obtain ⟨V', he, r1, r2, r3⟩ := X9_change_e (X := X) (z := z) (d := d + 7) (k := 5) (x := x) hM hw hkp2 (by omega) hr (fun _ _ => rfl) hE hcd
    refine ⟨V', ?_, r1, r2, r3⟩
    have he : mv_call X (d + 9) 155 [.ref m, .int (nZ (mc_rs 5 (mc_rf5 (w 1) (x 0) (x 1)))), .int (nZ 2)] (mz_h P V2, z) = some (.inl (some (.int (nZ (if mc_rf (w 1) 5 x = 0 then mc_an (w 1) 5 x else 0)))), (mz_h P V', z)) := he
    show mv_call X (d + 10) 192 [.ref m, .int (nZ (x 0)), .int (nZ (x 1))] (mz_h P V, z) = _
    rw [mc_X9_setWind, bk_X9_setWind_0]
    simp only [mz_rcv hM.o, mv_clV, mv_clI, mv_cl, hrm, hc, he]
  · obtain ⟨V2, hc, hE⟩ := X9_passes (X := X) (z := z) (d := d) hM hI1 (by rw [e1]; exact hh) n0
    rw [e1] at hE
    obtain ⟨V', he, r1, r2, r3⟩ := X9_change_e (X := X) (z := z) (d := d + 7) (k := 6) (x := x) hM hw hkp2 (by omega) hr (fun _ _ => rfl) hE hcd
    refine ⟨V', ?_, r1, r2, r3⟩
    have he : mv_call X (d + 9) 155 [.ref m, .int (nZ (mc_rs 6 (mc_rf6 (x 0)))), .int (nZ 1)] (mz_h P V2, z) = some (.inl (some (.int (nZ (if mc_rf (w 1) 6 x = 0 then mc_an (w 1) 6 x else 0)))), (mz_h P V', z)) := he
    show mv_call X (d + 10) 195 [.ref m, .int (nZ (x 0))] (mz_h P V, z) = _
    rw [mc_X9_pass, bk_X9_pass_0]
    simp only [mz_rcv hM.o, mv_clV, mv_clI, mv_cl, hrm, hc, he]
  · obtain ⟨V2, hc, hE⟩ := X9_joins (X := X) (z := z) (d := d + 5) hM hI1 n0 n1 n2
    rw [e1] at hc hE
    obtain ⟨V', he, r1, r2, r3⟩ := X9_change_e (X := X) (z := z) (d := d + 7) (k := 7) (x := x) hM hw hkp2 (by omega) hr (fun _ _ => rfl) hE hcd
    refine ⟨V', ?_, r1, r2, r3⟩
    have he : mv_call X (d + 9) 155 [.ref m, .int (nZ (mc_rs 7 (mc_rf7 (w 1) (x 0) (x 1) (x 2)))), .int (nZ 2)] (mz_h P V2, z) = some (.inl (some (.int (nZ (if mc_rf (w 1) 7 x = 0 then mc_an (w 1) 7 x else 0)))), (mz_h P V', z)) := he
    show mv_call X (d + 10) 193 [.ref m, .int (nZ (x 0)), .int (nZ (x 1)), .int (nZ (x 2))] (mz_h P V, z) = _
    rw [mc_X9_addPilot, bk_X9_addPilot_0]
    simp only [mz_rcv hM.o, mv_clV, mv_clI, mv_cl, hrm, hc, he]
  · obtain ⟨V2, hc, hE⟩ := X9_leaves (X := X) (z := z) (d := d + 6) hM hI1 n0
    rw [e1] at hc hE
    obtain ⟨V', he, r1, r2, r3⟩ := X9_change_e (X := X) (z := z) (d := d + 7) (k := 8) (x := x) hM hw hkp2 (by omega) hr (fun _ _ => rfl) hE hcd
    refine ⟨V', ?_, r1, r2, r3⟩
    have he : mv_call X (d + 9) 155 [.ref m, .int (nZ (mc_rs 8 (mc_rf8 (w 1) (x 0)))), .int (nZ 1)] (mz_h P V2, z) = some (.inl (some (.int (nZ (if mc_rf (w 1) 8 x = 0 then mc_an (w 1) 8 x else 0)))), (mz_h P V', z)) := he
    show mv_call X (d + 10) 194 [.ref m, .int (nZ (x 0))] (mz_h P V, z) = _
    rw [mc_X9_removePilot, bk_X9_removePilot_0]
    simp only [mz_rcv hM.o, mv_clV, mv_clI, mv_cl, hrm, hc, he]
end REFG
