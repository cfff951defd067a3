/-! THE LAW'S SCRIPT; what a walk comes to -/
/-- the drawn row: ints at b0, outside -/
def pX_X (X : mv_X) (x b0 : Nat) : Prop := b0 < x ∧ ∃ (L : Nat) (g : Nat → Value), L ≤ 260 ∧ X.1 b0 = some (.inr (.int, L, g)) ∧ ∀ j, j < L → ∃ y : Int32, g j = .int y
/-- a walk ends with v, and the harbour stands -/
def pt (X : mv_X) (x : Nat) (S : Nat → Int) (w : mz_V) (b : Int) (c : Nat × Nat) (M : Nat) (v : Value) (r : Option mv_R) : Prop := ∃ h1, r = some (.inl (some v), h1) ∧ ph_H X x S w b c M h1
/-- .. with a number below n, and nothing has changed -/
def pt_q (n : Int) (h : mv_H) (r : Option mv_R) : Prop := ∃ q : Nat, (q : Int) < n ∧ r = some (.inl (some (.int (nZ q))), h)
theorem nZ_mod {x y : Int} (hx : 0 ≤ x) (hx2 : x < 2147483648) (hy : 0 < y) (hy2 : y < 2147483648) : nZ x - nZ x / nZ y * nZ y = nZ (x % y) := by
  rw [nZ_div hx hx2 hy hy2, nZ_mul, nZ_sub, Int.emod_def, Int.mul_comm y]
theorem nZ_pick (y : Int32) {n : Int} (hn : 1 ≤ n ∧ n ≤ 1000) : ∃ q : Nat, (q : Int) < n ∧ ((y).toUInt32 >>> (((nZ 1)).toUInt32 &&& Int32.toUInt32 31)).toInt32 - ((y).toUInt32 >>> (((nZ 1)).toUInt32 &&& Int32.toUInt32 31)).toInt32 / nZ n * nZ n = nZ q := by
  have e1 : ((nZ 1)).toUInt32 &&& Int32.toUInt32 31 = 1 := by decide
  rw [e1, nZ_u32]
  have hu : (y.toUInt32 >>> 1).toNat < 2147483648 := by
    rw [UInt32.toNat_shiftRight]
    have h1 := y.toUInt32.toNat_lt
    have e2 : (1 : UInt32).toNat % 32 = 1 := by decide
    rw [e2, Nat.shiftRight_eq_div_pow]
    omega
  generalize (y.toUInt32 >>> 1).toNat = u at hu
  rw [nZ_mod (by omega) (by omega) (by omega) (by omega)]
  have h1 := Int.emod_nonneg (u : Int) (by omega : n ≠ 0)
  have h2 := Int.emod_lt_of_pos (u : Int) (by omega : 0 < n)
  exact ⟨((u : Int) % n).toNat, by omega, by rw [Int.toNat_of_nonneg h1]⟩
section SCR
variable {X : mv_X} {x b0 : Nat} {S : Nat → Int} {w : mz_V} {b : Int} {c : Nat × Nat} {m M : Nat} {h h1 : mv_H} {d a k p y : Nat} {as : List Value} {Φ : Option mv_R → Prop} {g : Nat → Nat → mv_H → Option mv_R} {f : Int32 → mv_H → Option mv_R} {fL : Int64 → mv_H → Option mv_R} {call : mv_G} {v : Value}
theorem pt_ret (hH : ph_H X x S w b c m h) (hm : m ≤ M) : pt X x S w b c M v (some (.inl (some v), h)) := ⟨h, rfl, ph_mono hm hH⟩
theorem pt_I {r : Int32} (e : pt X x S w b c M (.int r) (call y as h)) (K : ∀ h1, ph_H X x S w b c M h1 → Φ (f r h1)) : Φ (mv_clI call y as h g f) := by
  obtain ⟨h1, e, H1⟩ := e
  exact ph_ret e (K h1 H1)
theorem pt_L {r : Int64} (e : pt X x S w b c M (.long r) (call y as h)) (K : ∀ h1, ph_H X x S w b c M h1 → Φ (fL r h1)) : Φ (mv_clL call y as h g fL) := by
  obtain ⟨h1, e, H1⟩ := e
  exact ph_retL e (K h1 H1)
theorem LW_cell (hS : pX_X X x b0) (hH : ph_H X x S w b c m h) {j : Int} (hj : 0 ≤ j ∧ j ≤ 2000) : ∃ q : Int32, mv_call X (d + 1) 342 [.ref b0, .int (nZ j)] h = some (.inl (some (.int q)), h) := by
  obtain ⟨P, V, v, n, w1, e, ⟨-, hX, -⟩, -⟩ := hH
  obtain ⟨h0, z⟩ := h
  have e : h0 = mz_h P V := e
  subst e
  obtain ⟨hb, L, gg, hL, hg, hy⟩ := hS
  rw [mc_L_cell, bk_L_cell_0, mx_lO (hX.1 b0 hb) hg]
  by_cases c1 : nZ ((L : Nat) : Int) ≤ nZ j
  · rw [if_pos c1]
    exact ⟨_, rfl⟩
  · rw [if_neg c1]
    rw [nZ_le ⟨by omega, by omega⟩ ⟨by omega, by omega⟩] at c1
    obtain ⟨q, hq⟩ := hy j.toNat (by omega)
    have e1 : (nZ j).toInt = j := nZ_i ⟨by omega, by omega⟩
    have e2 : 0 ≤ j ∧ j < (L : Int) := by omega
    refine ⟨q, ?_⟩
    unfold mv_aI mv_ar
    simp only [mx_cO (hX.1 b0 hb), hg, mv_ak, mv_chk, cond_true, if_pos e2, e1, hq, mv_int]
theorem LP_pick (hS : pX_X X x b0) (hH : ph_H X x S w b c m h) {j n : Int} (hj : 0 ≤ j ∧ j ≤ 2000) (hn : 1 ≤ n ∧ n ≤ 1000) (K : ∀ r : Nat, (r : Int) < n → Φ (f (nZ r) h)) : Φ (mv_clI (mv_call X (d + 2)) 343 [.ref b0, .int (nZ j), .int (nZ n)] h g f) := by
  obtain ⟨q, hq⟩ := LW_cell (d := d) hS hH hj
  obtain ⟨r, hr, er⟩ := nZ_pick q hn
  have e : mv_call X (d + 2) 343 [.ref b0, .int (nZ j), .int (nZ n)] h = some (.inl (some (.int (nZ r))), h) := by
    rw [mc_L_pick, bk_L_pick_0]
    simp only [mv_clI, mv_cl, hq]
    rw [if_neg (by rw [nZ_eq0 ⟨by omega, by omega⟩]; omega), er]
  exact ph_ret e (K r hr)
theorem pt_q_ret {n : Int} {r : Nat} (hr : (r : Int) < n) : pt_q n h (some (.inl (some (.int (nZ r))), h)) := ⟨r, hr, rfl⟩
theorem LP_berth_2 (hH : ph_H X x S w b c m h) (ha : a < 10) (q : Int32) : ∀ k j : Nat, j + k = 10 → pt_q 10 h (mv_run X (mv_call X (d + 4)) m_L_berth 2 [.ref x, .int (nZ a), .int q, .int (nZ j)] [] h)
  | 0, j, hj => by
    rw [bk_L_berth_2, if_pos ((nZ_le ⟨by omega, by omega⟩ ⟨by omega, by omega⟩).mpr (by omega)), bk_L_berth_39]
    exact pt_q_ret (by omega)
  | k + 1, j, hj => by
    rw [bk_L_berth_2, if_neg (by rw [nZ_le ⟨by omega, by omega⟩ ⟨by omega, by omega⟩]; omega)]
    by_cases c1 : q = 0
    · rw [if_pos c1, if_neg (by decide), nZ_add, nZ_mod10 (by omega) (by omega)]
      have e : ((a : Int) + (j : Int)) % 10 = (((a + j) % 10 : Nat) : Int) := by omega
      rw [e]
      refine LP_isMoored hH (by omega) ?_
      by_cases c2 : w 1 (6 + 11 * ((a + j) % 10)) = 1
      · rw [if_pos c2, if_pos rfl, if_neg (by decide)]
        exact pt_q_ret (by omega)
      · rw [if_neg c2, if_neg (by decide), nZ_add, ← nc1]
        exact LP_berth_2 hH ha q k (j + 1) (by omega)
    · rw [if_neg c1, bk_L_berth_39]
      exact pt_q_ret (by omega)
theorem LP_berth (hH : ph_H X x S w b c m h) (ha : a < 10) (q : Int32) (K : ∀ r : Nat, r < 10 → Φ (f (nZ r) h)) : Φ (mv_clI (mv_call X (d + 5)) 381 [.ref x, .int (nZ a), .int q] h g f) := by
  obtain ⟨r, hr, e⟩ := LP_berth_2 (d := d) hH ha q 10 0 rfl
  have e2 : mv_call X (d + 5) 381 [.ref x, .int (nZ a), .int q] h = some (.inl (some (.int (nZ r))), h) := by
    rw [mc_L_berth, bk_L_berth_0]
    exact e
  exact ph_ret e2 (K r (by omega))
/-! the law's sum, a function of the numbers -/
def pu_bag (s : Nat → Int) (a : Nat) : Nat → Nat → Int64 → Int64
  | 0, _, v => v
  | i + 1, k, v => pu_bag s a i (k + 1) (Int64.ofNat 31 * v + (nZ (s (6 + 11 * a + (5 + k)))).toInt64)
def pu_bn (s : Nat → Int) (a : Nat) : Nat := if s (6 + 11 * a) = 1 then (s (6 + 11 * a + 4)).toNat else 0
def pu_one (s : Nat → Int) (a : Nat) (v : Int64) : Int64 := Int64.ofNat 31 * v + Int64.ofNat 1009 * (nZ (if s (6 + 11 * a) = 1 then s (6 + 11 * a + 1) else -75)).toInt64 + Int64.ofNat 101 * (nZ (if s (6 + 11 * a) = 1 then mr_ho s a 0 else -75)).toInt64 + (nZ (if s (6 + 11 * a) = 1 then mr_bal s a 0 else -75)).toInt64 + FP.f2l (FP.fmul (UInt32.ofNat 1148846080) (if s (6 + 11 * a) = 1 then mq_str s a else UInt32.ofNat 3264610304))
def pu_bs (s : Nat → Int) : Nat → Nat → Int64 → Int64
  | 0, _, v => v
  | i + 1, a, v => pu_bs s i (a + 1) (pu_bag s a (pu_bn s a) 0 (pu_one s a v))
def pu_dut (s : Nat → Int) (k : Nat) : Nat → Nat → Int64 → Int64
  | 0, _, v => v
  | i + 1, p, v => pu_dut s k i (p + 1) (Int64.ofNat 2 * v + (nZ (if mq_on s p k = true then 1 else 0)).toInt64)
def pu_wn (s : Nat → Int) : Nat → Nat → Int64 → Int64
  | 0, _, v => v
  | i + 1, k, v => pu_wn s i (k + 1) (pu_dut s k (s 5).toNat 0 (Int64.ofNat 31 * v + (nZ (s (116 + k))).toInt64))
def pu_0 (s : Nat → Int) : Int64 := Int64.ofNat 1009 * (nZ (s 0)).toInt64 + Int64.ofNat 101 * (nZ (s 1)).toInt64 + Int64.ofNat 31 * (nZ (s 2)).toInt64 + Int64.ofNat 7 * (nZ (s 3)).toInt64 + (nZ (s 4)).toInt64
def pu_sum (s : Nat → Int) : Int64 := pu_wn s 24 0 (pu_bs s 10 0 (pu_0 s))
theorem LP_sum_164 (hk : k < 24) (V0 : Int64) : ∀ (i p : Nat) (v1 : Int64) (h : mv_H), ph_H X x S w b c m h → (p : Int) + i = w 1 5 → (∀ j4 : Value, pt X x S w b c M (.long V0) (mv_run X (mv_call X (d + 6)) m_L_sum 142 [.ref x, .long (pu_dut (w 1) k i p v1), .retAddr 0, .int (nZ (k + 1 : Nat)), j4] [] h)) → pt X x S w b c M (.long V0) (mv_run X (mv_call X (d + 6)) m_L_sum 164 [.ref x, .long v1, .retAddr 0, .int (nZ k), .int (nZ p)] [] h)
  | 0, p, v1, h, hH, hp, K => by
    have hI := (ph_I hH).1
    rw [bk_L_sum_164]
    refine LD_pilotCount hH ?_
    rw [if_pos ((nZ_le ⟨by have := hI.pil; omega, by have := hI.pil; omega⟩ ⟨by omega, by have := hI.pil; omega⟩).mpr (by omega)), nZ_add, ← nc1]
    exact K _
  | i + 1, p, v1, h, hH, hp, K => by
    have hI := (ph_I hH).1
    have h5 := hI.pil
    rw [bk_L_sum_164]
    refine LD_pilotCount hH ?_
    rw [if_neg (by rw [nZ_le ⟨by omega, by omega⟩ ⟨by omega, by omega⟩]; omega)]
    refine LP_isOnDuty hH (by omega) hk ?_
    rw [nZ_add, ← nc1]
    exact LP_sum_164 hk V0 i (p + 1) _ h hH (by omega) K
theorem LP_sum_142 : ∀ (i k : Nat) (v1 : Int64) (j4 : Value) (h : mv_H), ph_H X x S w b c m h → m ≤ M → k + i = 24 → pt X x S w b c M (.long (pu_wn (w 1) i k v1)) (mv_run X (mv_call X (d + 6)) m_L_sum 142 [.ref x, .long v1, .retAddr 0, .int (nZ k), j4] [] h)
  | 0, k, v1, j4, h, hH, hm, hk => by
    rw [bk_L_sum_142, if_pos ((nZ_le ⟨by omega, by omega⟩ ⟨by omega, by omega⟩).mpr (by omega))]
    exact pt_ret hH hm
  | i + 1, k, v1, j4, h, hH, hm, hk => by
    rw [bk_L_sum_142, if_neg (by rw [nZ_le ⟨by omega, by omega⟩ ⟨by omega, by omega⟩]; omega)]
    refine LP_wind hH (by omega) ?_
    refine LP_sum_164 (by omega) _ (w 1 5).toNat 0 _ h hH (by have := (ph_I hH).1.pil; omega) fun j => ?_
    exact LP_sum_142 i (k + 1) _ j h hH hm (by omega)
theorem LP_sum_103 (ha : a < 10) (V0 : Int64) : ∀ (i k m : Nat) (v1 : Int64) (h : mv_H), ph_H X x S w b c m h → k + i = pu_bn (w 1) a → (∀ (j4 : Value) (h : mv_H), ph_H X x S w b c (m + i + 1) h → pt X x S w b c M (.long V0) (mv_run X (mv_call X (d + 6)) m_L_sum 48 [.ref x, .long (pu_bag (w 1) a i k v1), .retAddr 0, .int (nZ (a + 1 : Nat)), j4] [] h)) → pt X x S w b c M (.long V0) (mv_run X (mv_call X (d + 6)) m_L_sum 103 [.ref x, .long v1, .retAddr 0, .int (nZ a), .int (nZ k)] [] h)
  | 0, k, m, v1, h, hH, hk, K => by
    have h4 := (ph_I hH).1.bags ha
    rw [bk_L_sum_103]
    refine LP_bagCount hH ha fun h1 H1 => ?_
    have ek : (if w 1 (6 + 11 * a) = 1 then w 1 (6 + 11 * a + 4) else -75) ≤ (k : Int) := by
      unfold pu_bn at hk
      by_cases c1 : w 1 (6 + 11 * a) = 1
      · rw [if_pos c1] at hk ⊢
        omega
      · rw [if_neg c1]
        omega
    have ek2 : (-75 : Int) ≤ (if w 1 (6 + 11 * a) = 1 then w 1 (6 + 11 * a + 4) else -75) := by
      by_cases c1 : w 1 (6 + 11 * a) = 1
      · rw [if_pos c1]; omega
      · rw [if_neg c1]; omega
    have ek3 : k ≤ 6 := by
      unfold pu_bn at hk
      split at hk <;> omega
    rw [if_pos ((nZ_le ⟨by omega, by omega⟩ ⟨by omega, by omega⟩).mpr ek), nZ_add, ← nc1]
    exact K _ h1 H1
  | i + 1, k, m, v1, h, hH, hk, K => by
    have h4 := (ph_I hH).1.bags ha
    have c1 : w 1 (6 + 11 * a) = 1 := by
      refine Classical.byContradiction fun q => ?_
      unfold pu_bn at hk
      rw [if_neg q] at hk
      omega
    have hk2 : (k : Int) + i + 1 = w 1 (6 + 11 * a + 4) := by
      unfold pu_bn at hk
      rw [if_pos c1] at hk
      omega
    rw [bk_L_sum_103]
    refine LP_bagCount hH ha fun h1 H1 => ?_
    rw [if_pos c1, if_neg (by rw [nZ_le ⟨by omega, by omega⟩ ⟨by omega, by omega⟩]; omega)]
    refine LP_bagWeight H1 ha c1 (by omega) ?_
    rw [nZ_add, ← nc1]
    refine LP_sum_103 ha V0 i (k + 1) (m + 1) _ h1 H1 (by omega) fun j h2 H2 => K j h2 (by rw [show m + (i + 1) + 1 = m + 1 + i + 1 by omega]; exact H2)
theorem LP_sum_48 (V0 : Int64) : ∀ (i a m : Nat) (v1 : Int64) (j4 : Value) (h : mv_H), ph_H X x S w b c m h → a + i = 10 → (∀ (j4 : Value) (h : mv_H), ph_H X x S w b c (m + 11 * i) h → pt X x S w b c M (.long V0) (mv_run X (mv_call X (d + 6)) m_L_sum 142 [.ref x, .long (pu_bs (w 1) i a v1), .retAddr 0, .int (nZ 0), j4] [] h)) → pt X x S w b c M (.long V0) (mv_run X (mv_call X (d + 6)) m_L_sum 48 [.ref x, .long v1, .retAddr 0, .int (nZ a), j4] [] h)
  | 0, a, m, v1, j4, h, hH, ha, K => by
    rw [bk_L_sum_48, if_pos ((nZ_le ⟨by omega, by omega⟩ ⟨by omega, by omega⟩).mpr (by omega))]
    exact K j4 h hH
  | i + 1, a, m, v1, j4, h, hH, ha, K => by
    have hI := (ph_I hH).1
    have hN := ph_N hH
    have h4 := hI.bags (show a < 10 by omega)
    rw [bk_L_sum_48, if_neg (by rw [nZ_le ⟨by omega, by omega⟩ ⟨by omega, by omega⟩]; omega)]
    refine LP_lift hH (by omega) fun h1 H1 => ?_
    refine LP_height H1 (by omega) fun h2 H2 => ?_
    refine LP_ballast H2 (by omega) fun h3 H3 => ?_
    refine LP_strain H3 (by omega) fun h4 H4 => ?_
    have hf : FP.fmul (UInt32.ofNat 1148846080) (if w 1 (6 + 11 * a) = 1 then mq_str (w 1) a else UInt32.ofNat 3264610304) &&& 0x7fffffff ≤ 0x7f800000 := by
      by_cases c1 : w 1 (6 + 11 * a) = 1
      · rw [if_pos c1]
        have q1 := (hN.2.1 a (by omega) c1).2.2.1
        have q2 := (hI.2.2.2 a (by omega)).2.2.2.1
        have q3 : 0 ≤ mr_ho (w 1) a 0 ∧ mr_ho (w 1) a 0 ≤ 40 := ⟨mr_ho0 hI (by omega) 0, mr_ho1 hI (by omega) 0⟩
        exact (pf_mul q3 ⟨q1, q2.2⟩).1
      · rw [if_neg c1]
        exact pf_75
    rw [decide_eq_true hf]
    show pt X x S w b c M (.long V0) (mv_run X (mv_call X (d + 6)) m_L_sum 103 [.ref x, .long (pu_one (w 1) a v1), .retAddr 0, .int (nZ a), .int (nZ 0)] [] h4)
    refine LP_sum_103 (by omega) V0 (pu_bn (w 1) a) 0 (m + 1 + 1 + 1 + 1) _ h4 H4 (by omega) fun j h5 H5 => ?_
    refine LP_sum_48 V0 i (a + 1) (m + 11) _ j h5 (ph_mono ?_ H5) (by omega) fun j h6 H6 => K j h6 (by rw [show m + 11 * (i + 1) = m + 11 + 11 * i by omega]; exact H6)
    unfold pu_bn
    split <;> omega
theorem LP_sum (hH : ph_H X x S w b c m h) (K : ∀ h1, ph_H X x S w b c (m + 110) h1 → Φ (fL (pu_sum (w 1)) h1)) : Φ (mv_clL (mv_call X (d + 7)) 383 [.ref x] h g fL) := by
  refine pt_L (M := m + 110) ?_ K
  rw [mc_L_sum, bk_L_sum_0]
  refine LD_hour hH ?_
  refine LD_bursts hH ?_
  refine LD_loaded hH ?_
  refine LD_dropped hH ?_
  refine LD_lost hH ?_
  show pt X x S w b c (m + 110) (.long (pu_sum (w 1))) (mv_run X (mv_call X (d + 6)) m_L_sum 48 [.ref x, .long (pu_0 (w 1)), .retAddr 0, .int (nZ ((0 : Nat) : Int)), .retAddr 0] [] h)
  refine LP_sum_48 _ 10 0 m _ _ h hH (by omega) fun j h1 H1 => ?_
  exact LP_sum_142 24 0 _ j h1 H1 (Nat.le_refl _) (by omega)
end SCR
