/-! THE LAW'S SUMS AND ITS isKept -/
theorem pu_bag_e {s s' : Nat → Int} (h : ∀ j, j < 158 → s' j = s j) {a : Nat} (ha : a < 10) : ∀ (i k : Nat) (v : Int64), k + i ≤ 6 → pu_bag s' a i k v = pu_bag s a i k v
  | 0, _, _, _ => rfl
  | i + 1, k, v, hk => by
    show pu_bag s' a i (k + 1) (Int64.ofNat 31 * v + (nZ (s' (6 + 11 * a + (5 + k)))).toInt64) = pu_bag s a i (k + 1) (Int64.ofNat 31 * v + (nZ (s (6 + 11 * a + (5 + k)))).toInt64)
    rw [h _ (by omega)]
    exact pu_bag_e h ha i (k + 1) _ (by omega)
theorem pu_one_e {s s' : Nat → Int} (hI : mr_I s) (h : ∀ j, j < 158 → s' j = s j) {a : Nat} (ha : a < 10) (v : Int64) : pu_one s' a v = pu_one s a v := by
  have h4 := hI.bags ha
  have e1 : mr_bal s' a 0 = mr_bal s a 0 := pn_bal_c 0 (h _ (by omega)) fun k hk => h _ (by omega)
  have e2 : mr_ho s' a 0 = mr_ho s a 0 := pn_ho_e (h _ (by omega)) (h _ (by omega)) e1
  unfold pu_one mq_str
  rw [e1, e2, h (6 + 11 * a) (by omega), h (6 + 11 * a + 1) (by omega), h (6 + 11 * a + 3) (by omega)]
theorem pu_bs_e {s s' : Nat → Int} (hI : mr_I s) (h : ∀ j, j < 158 → s' j = s j) : ∀ (i a : Nat) (v : Int64), a + i = 10 → pu_bs s' i a v = pu_bs s i a v
  | 0, _, _, _ => rfl
  | i + 1, a, v, ha => by
    have h4 := hI.bags (show a < 10 by omega)
    show pu_bs s' i (a + 1) (pu_bag s' a (pu_bn s' a) 0 (pu_one s' a v)) = pu_bs s i (a + 1) (pu_bag s a (pu_bn s a) 0 (pu_one s a v))
    have e : pu_bn s' a = pu_bn s a := by
      unfold pu_bn
      rw [h _ (by omega), h _ (by omega)]
    have e2 : pu_bn s a ≤ 6 := by
      unfold pu_bn
      split <;> omega
    rw [e, pu_one_e hI h (by omega), pu_bag_e h (by omega) _ _ _ (by omega)]
    exact pu_bs_e hI h i (a + 1) _ (by omega)
theorem pu_dut_e {s s' : Nat → Int} (h : ∀ j, j < 158 → s' j = s j) (k : Nat) : ∀ (i p : Nat) (v : Int64), p + i ≤ 6 → pu_dut s' k i p v = pu_dut s k i p v
  | 0, _, _, _ => rfl
  | i + 1, p, v, hp => by
    show pu_dut s' k i (p + 1) (Int64.ofNat 2 * v + (nZ (if mq_on s' p k = true then 1 else 0)).toInt64) = pu_dut s k i (p + 1) (Int64.ofNat 2 * v + (nZ (if mq_on s p k = true then 1 else 0)).toInt64)
    have e : mq_on s' p (k : Int) = mq_on s p (k : Int) := by
      unfold mq_on
      rw [h _ (by omega), h _ (by omega)]
    rw [e]
    exact pu_dut_e h k i (p + 1) _ (by omega)
theorem pu_wn_e {s s' : Nat → Int} (hI : mr_I s) (h : ∀ j, j < 158 → s' j = s j) : ∀ (i k : Nat) (v : Int64), k + i = 24 → pu_wn s' i k v = pu_wn s i k v
  | 0, _, _, _ => rfl
  | i + 1, k, v, hk => by
    have h5 := hI.pil
    show pu_wn s' i (k + 1) (pu_dut s' k (s' 5).toNat 0 (Int64.ofNat 31 * v + (nZ (s' (116 + k))).toInt64)) = pu_wn s i (k + 1) (pu_dut s k (s 5).toNat 0 (Int64.ofNat 31 * v + (nZ (s (116 + k))).toInt64))
    rw [h 5 (by omega), h (116 + k) (by omega), pu_dut_e h k _ _ _ (by omega)]
    exact pu_wn_e hI h i (k + 1) _ (by omega)
theorem pu_sum_e {s s' : Nat → Int} (hI : mr_I s) (h : ∀ j, j < 158 → s' j = s j) : pu_sum s' = pu_sum s := by
  have e : pu_0 s' = pu_0 s := by
    unfold pu_0
    rw [h 0 (by omega), h 1 (by omega), h 2 (by omega), h 3 (by omega), h 4 (by omega)]
  unfold pu_sum
  rw [e, pu_bs_e hI h 10 0 _ rfl, pu_wn_e hI h 24 0 _ rfl]
/-- the row of sums and the history -/
def pl_K (w : mz_V) (S : Nat → Int) (made : Nat) : Prop := w 0 6 = (if made ≤ 8 then (made : Int) else 8) ∧ S made = (pu_sum (w 1)).toInt ∧ ∀ i : Nat, (i : Int) < w 0 6 → ∃ t : Nat → Int, mr_I t ∧ (∀ j, j < 158 → mg_at (w 4) i j = t j) ∧ S (made - (w 0 6).toNat + i) = (pu_sum t).toInt
theorem pl_K_no {w w2 : mz_V} {S : Nat → Int} {made : Nat} (hn : ph_no w w2) (h : pl_K w S made) : pl_K w2 S made := by
  obtain ⟨n1, n2, n3⟩ := hn
  obtain ⟨h1, h2, h3⟩ := h
  exact ⟨by rw [n3]; exact h1, by rw [n1]; exact h2, fun i hi => by rw [n2, n3]; rw [n3] at hi; exact h3 i hi⟩
theorem pl_K_ch {w w2 : mz_V} {S : Nat → Int} {made : Nat} (hI : mr_I (w 1)) (hc : ph_ch w w2) (h : pl_K w S made) : pl_K w2 (mr_up S (made + 1) (pu_sum (w2 1)).toInt) (made + 1) := by
  obtain ⟨c1, c2⟩ := hc
  obtain ⟨h1, h2, h3⟩ := h
  obtain ⟨kp, hkp⟩ : ∃ kp : Nat, w 0 6 = kp := ⟨if made ≤ 8 then made else 8, by rw [h1]; split <;> rfl⟩
  have hk8 : kp ≤ 8 ∧ kp ≤ made ∧ (made ≤ 8 → kp = made) ∧ (8 < made → kp = 8) := by
    rw [h1] at hkp
    split at hkp <;> omega
  rw [hkp] at c1 c2 h3
  have e6 : w2 0 6 = if kp = 8 then 8 else (kp : Int) + 1 := by
    rw [c2]
    unfold mg_kp
    by_cases c : kp = 8
    · rw [if_pos c, if_pos (by omega)]
    · rw [if_neg c, if_neg (by omega)]
  refine ⟨?_, mr_up_s _ _ _, fun i hi => ?_⟩
  · rw [e6]
    split <;> split <;> omega
  · have ek : mg_kp (kp : Int) = w2 0 6 := c2.symm
    have hat : ∀ j, j < 158 → mg_at (w2 4) i j = if i + 1 = (w2 0 6).toNat then w 1 j else if kp = 8 then mg_at (w 4) (i + 1) j else mg_at (w 4) i j := fun j hj => by
      have q := mg_at_hp (w 4) (w 1) hk8.1 (i := i) (by rw [ek]; exact hi) hj
      rw [ek] at q
      rw [c1]
      exact q
    by_cases c : i + 1 = (w2 0 6).toNat
    · refine ⟨w 1, hI, fun j hj => by rw [hat j hj, if_pos c], ?_⟩
      rw [show made + 1 - (w2 0 6).toNat + i = made by
        rw [e6] at c ⊢
        split at c <;> omega, mr_up_n _ _ (by omega)]
      exact h2
    · by_cases c8 : kp = 8
      · rw [if_pos c8] at e6
        obtain ⟨t, t1, t2, t3⟩ := h3 (i + 1) (by omega)
        refine ⟨t, t1, fun j hj => by rw [hat j hj, if_neg c, if_pos c8]; exact t2 j hj, ?_⟩
        rw [mr_up_n _ _ (by omega), show made + 1 - (w2 0 6).toNat + i = made - (kp : Int).toNat + (i + 1) by omega]
        exact t3
      · rw [if_neg c8] at e6
        obtain ⟨t, t1, t2, t3⟩ := h3 i (by omega)
        refine ⟨t, t1, fun j hj => by rw [hat j hj, if_neg c, if_neg c8]; exact t2 j hj, ?_⟩
        rw [mr_up_n _ _ (by omega), show made + 1 - (w2 0 6).toNat + i = made - (kp : Int).toNat + i by omega]
        exact t3
section KEP
variable {X : mv_X} {x : Nat} {S : Nat → Int} {w : mz_V} {b B : Int} {c : Nat × Nat} {m M : Nat} {h : mv_H} {d made : Nat} {Φ : Option mv_R → Prop} {g : Nat → Nat → mv_H → Option mv_R} {f : Int32 → mv_H → Option mv_R} {fL : Int64 → Option mv_R} {fH : mv_H → Option mv_R}
theorem mz_asL {P : mz_P} {V : mz_V} {z : Nat × Nat} {o n j : Nat} {f : mv_H → Option mv_R} {u : Int64} (h : P.1 o = some (.inr (.long, n))) (hj : j < n) (hn : n ≤ 65536) : mv_as (mz_h P V, z) 3 o (nZ j) (.long u) f = f (mz_h P (mz_u V o j u.toInt), z) := by
  unfold mv_as
  have e1 : (nZ (j : Int)).toInt = j := nZ_i ⟨by omega, by omega⟩
  have e2 : 0 ≤ (j : Int) ∧ (j : Int) < (n : Int) := by omega
  simp only [mz_own h, mz_c, mv_ak, mv_chk, cond_true, e1, if_pos e2, Int.toNat_natCast]
  congr 2
  funext b
  by_cases eb : b = o
  · subst eb
    rw [mv_up_s, mz_own h, mz_c]
    congr 4
    funext q
    by_cases e4 : q = j
    · subst e4
      rw [mv_up_s, mz_u_s]
      show Value.long u = Value.long (Int64.ofInt u.toInt)
      rw [Int64.ofInt_toInt]
    · rw [mv_up_n _ _ e4, mz_u_k V _ e4]
  · rw [mv_up_n _ _ eb]
    unfold mz_h
    cases P.1 b with
    | none => rfl
    | some t =>
      simp only [Option.map_some]
      cases t with
      | inl c2 => simp only [mz_c, mz_u_a V _ eb]
      | inr q => simp only [mz_c, mz_u_a V _ eb]
theorem mz_aL {P : mz_P} {V : mz_V} {z : Nat × Nat} {o n j : Nat} {f : Int64 → Option mv_R} (h : P.1 o = some (.inr (.long, n))) (hj : j < n) (hn : n ≤ 65536) : mv_aL X (mz_h P V, z) o (nZ j) f = f (Int64.ofInt (V o j)) := by
  unfold mv_aL mv_ar
  rw [mz_cell h]
  have e1 : (nZ (j : Int)).toInt = j := nZ_i ⟨by omega, by omega⟩
  have e2 : 0 ≤ (j : Int) ∧ (j : Int) < (n : Int) := by omega
  simp only [mz_c, mv_ak, mv_chk, cond_true, e1, if_pos e2, Int.toNat_natCast]
  rfl
theorem LH_read (H : ph_H X x S w b c m h) {j : Nat} (hj : j < 70) (K : Φ (fL (Int64.ofInt (S j)))) : Φ (mv_aL X h (x + 376) (nZ j) fL) := by
  obtain ⟨P, V, v, n, w1, e, ⟨h0, hX, z1, hv, h16, hs, hS⟩, hE, c1⟩ := H
  obtain ⟨h1, z⟩ := h
  have e : h1 = mz_h P V := e
  subst e
  rw [mz_aL hs hj (by decide), hS]
  exact K
theorem LH_store (H : ph_H X x S w b c m h) {j : Nat} (hj : j < 70) {u : Int64} (K : ∀ h1, ph_H X x (mr_up S j u.toInt) w b c m h1 → Φ (fH h1)) : Φ (mv_as h 3 (x + 376) (nZ j) (.long u) fH) := by
  obtain ⟨P, V, v, n, w1, e, ⟨⟨hP, hW, hJ⟩, hX, z1, hv, h16, hs, hS⟩, hE, c1⟩ := H
  obtain ⟨h1, z⟩ := h
  have e : h1 = mz_h P V := e
  subst e
  rw [mz_asL hs hj (by decide)]
  refine K _ ⟨P, mz_u V (x + 376) j u.toInt, v, n, w1, rfl, ⟨⟨hP, mX_is_g hJ.1 (by omega) (fun r r1 r2 => mz_u_o (by omega)) (mz_u_o (by omega)) hW, hJ⟩, hX, z1, hv, h16, hs, ?_⟩, hE, c1⟩
  funext q
  by_cases e4 : q = j
  · subst e4
    rw [mz_u_s, mr_up_s]
  · rw [mz_u_k _ _ e4, mr_up_n _ _ e4, hS]
theorem lg_eq {t : Nat → Int} {l : Int} (h : l = (pu_sum t).toInt) : lg_cmp (pu_sum t) (Int64.ofInt l) = 0 := by
  rw [h, Int64.ofInt_toInt]
  exact (lg_cmp_eq _ _).mpr rfl
/-- the law says yes, within its room -/
def pk_T (c : Nat × Nat) (M : Nat) (o : Option mv_R) : Prop := ∃ h1 : mv_H, o = some (.inl (some (.int (nZ 1))), h1) ∧ h1.2.1 ≤ c.1 + M ∧ h1.2.2 ≤ c.2 + 6 * M
theorem pk_ret (H : ph_H X x S w b c m h) (hm : m ≤ M) : pk_T c M (some (.inl (some (.int (nZ 1))), h)) := by
  obtain ⟨P, V, v, n, w1, e, hP, hE, c1, c2⟩ := H
  exact ⟨h, rfl, by omega, by omega⟩
theorem mg_un_0 (w : mz_V) : mg_un w 0 6 = w 0 6 - 1 ∧ mg_un w 0 7 = w 0 7 ∧ mg_un w 3 = w 3 ∧ mg_un w 4 = w 4 ∧ ∀ j, j < 158 → mg_un w 1 j = mg_at (w 4) ((w 0 6).toNat - 1) j := by
  unfold mg_un
  refine ⟨mz_u_s _ _ _ _, ?_, ?_, ?_, fun j hj => ?_⟩
  · rw [mz_u_k _ _ (by decide), mz_w_n _ _ (by decide)]
  · rw [mz_u_o (by decide), mz_w_n _ _ (by decide)]
  · rw [mz_u_o (by decide), mz_w_n _ _ (by decide)]
  · rw [mz_u_o (by decide), mz_w_s]
    exact if_pos hj
theorem mg_rs_0 (w : mz_V) : mg_rs w 0 6 = 0 ∧ ∀ j, j < 158 → mg_rs w 1 j = w 3 j := by
  unfold mg_rs
  refine ⟨mz_u_s _ _ _ _, fun j hj => ?_⟩
  rw [mz_u_o (by decide), mz_w_s]
  exact if_pos hj
theorem mg_sv_0 (w : mz_V) : mg_sv w 0 6 = w 0 6 ∧ mg_sv w 0 7 = 1 ∧ mg_sv w 4 = w 4 ∧ ∀ j, j < 158 → mg_sv w 3 j = w 1 j := by
  unfold mg_sv
  refine ⟨?_, mz_u_s _ _ _ _, ?_, fun j hj => ?_⟩
  · rw [mz_u_k _ _ (by decide), mz_w_n _ _ (by decide)]
  · rw [mz_u_o (by decide), mz_w_n _ _ (by decide)]
  · rw [mz_u_o (by decide), mz_w_s]
    exact if_pos hj
/-- behind the last undo -/
theorem IK_end {s0 : Nat → Int} (H : ph_H X x S w b c m h) (hI0 : mr_I s0) (h6 : w 0 6 = 0) (h7 : w 0 7 = 1) (h3 : ∀ j, j < 158 → w 3 j = s0 j) (hS : S made = (pu_sum s0).toInt) (hm : made < 70) (hM : m + 120 ≤ M) {v5 : Int32} : pk_T c M (mv_run X (mv_call X (d + 7)) m_L_isKept 29 [.ref x, .ref (x + 376), .int (nZ made), .int (nZ (mq_cnt s0)), .int (nZ 0), .int v5] [] h) := by
  obtain ⟨r6, r1⟩ := mg_rs_0 w
  rw [bk_L_isKept_29, if_pos (by decide)]
  refine LP_undo_n H h6 fun h1 H1 => ?_
  rw [if_pos rfl]
  refine LP_restoreSnapshot (d := d + 2) H1 (by rw [h7]; decide) fun h2 H2 => ?_
  rw [if_pos (congrArg nZ (mr_cnt_e h3))]
  refine LP_sum H2 fun h3' H3 => ?_
  have e1 : pu_sum (mg_rs w 1) = pu_sum s0 := pu_sum_e hI0 fun j hj => (r1 j hj).trans (h3 j hj)
  rw [e1]
  refine LH_read H3 hm ?_
  rw [if_pos (lg_eq hS)]
  refine LP_undo_n H3 r6 fun h4 H4 => ?_
  rw [if_pos rfl, bk_L_isKept_108, nZ_ok6 (by decide) (by decide)]
  exact pk_ret H4 (by omega)
theorem IK_29 {s0 : Nat → Int} {base : Nat} (hI0 : mr_I s0) (hS : S made = (pu_sum s0).toInt) (hm : made < 70) : ∀ (k m : Nat) (w : mz_V) (h : mv_H), ph_H X x S w b c m h → w 0 6 = (k : Int) → w 0 7 = 1 → (∀ j, j < 158 → w 3 j = s0 j) → (∀ i : Nat, i < k → ∃ t : Nat → Int, mr_I t ∧ (∀ j, j < 158 → mg_at (w 4) i j = t j) ∧ S (base + i) = (pu_sum t).toInt) → base + k ≤ 60 → m + 110 * k + 120 ≤ M → pk_T c M (mv_run X (mv_call X (d + 7)) m_L_isKept 29 [.ref x, .ref (x + 376), .int (nZ made), .int (nZ (mq_cnt s0)), .int (nZ k), .int (nZ ((base : Int) + k - 1))] [] h)
  | 0, m, w, h, H, h6, h7, h3, hh, hb, hM => IK_end H hI0 h6 h7 h3 hS hm (by omega)
  | k + 1, m, w, h, H, h6, h7, h3, hh, hb, hM => by
    obtain ⟨u6, u7, u3, u4, u1⟩ := mg_un_0 w
    obtain ⟨t, t1, t2, t3⟩ := hh k (by omega)
    rw [bk_L_isKept_29, if_neg (by rw [nZ_le0 ⟨by omega, by omega⟩]; omega)]
    refine LP_undo_y H (by omega) fun h1 H1 => ?_
    rw [nZ_add, if_pos (congrArg nZ (by omega : w 0 6 - 1 = ((k + 1 : Nat) : Int) + -1))]
    refine LP_sum H1 fun h2 H2 => ?_
    have e1 : pu_sum (mg_un w 1) = pu_sum t := pu_sum_e t1 fun j hj => by
      rw [u1 j hj, h6, show ((k + 1 : Nat) : Int).toNat - 1 = k by omega]
      exact t2 j hj
    rw [e1, show (base : Int) + ((k + 1 : Nat) : Int) - 1 = ((base + k : Nat) : Int) by omega]
    refine LH_read H2 (by omega) ?_
    rw [if_pos (lg_eq t3), nZ_add, show ((k + 1 : Nat) : Int) + -1 = (k : Int) by omega, show ((base + k : Nat) : Int) + -1 = (base : Int) + k - 1 by omega]
    exact IK_29 hI0 hS hm k (m + 110) (mg_un w) h2 H2 (by omega) (by rw [u7]; exact h7) (by rw [u3]; exact h3) (fun i hi => by rw [u4]; exact hh i (by omega)) (by omega) (by omega)
theorem LP_isKept (H : ph_H X x S w b c m h) (hK : pl_K w S made) (hm : made ≤ 60) (hM : m + 1200 ≤ M) (K : ∀ h1 : mv_H, h1.2.1 ≤ c.1 + M → h1.2.2 ≤ c.2 + 6 * M → Φ (f (nZ 1) h1)) : Φ (mv_clI (mv_call X (d + 8)) 386 [.ref x, .ref (x + 376), .int (nZ made)] h g f) := by
  obtain ⟨k1, k2, k3⟩ := hK
  obtain ⟨s6, s7, s4, s3⟩ := mg_sv_0 w
  obtain ⟨kp, hkp⟩ : ∃ kp : Nat, w 0 6 = kp := ⟨if made ≤ 8 then made else 8, by rw [k1]; split <;> rfl⟩
  have hk8 : kp ≤ 8 ∧ kp ≤ made := by
    rw [k1] at hkp
    split at hkp <;> omega
  have hmin : (if (made : Int) < 8 then (made : Int) else 8) = (kp : Int) := by
    rw [k1] at hkp
    split at hkp <;> split <;> omega
  have hT : pk_T c M (mv_call X (d + 8) 386 [.ref x, .ref (x + 376), .int (nZ made)] h) := by
    rw [mc_L_isKept, bk_L_isKept_0]
    refine LD_saveSnapshot (d := d + 3) H fun h1 H1 => ?_
    refine ph_ret (J9_min (show nS 8 by decide) (show nS (made : Int) from ⟨by omega, by omega⟩)) ?_
    rw [hmin]
    refine LD_undoCount H1 ?_
    rw [s6, hkp, if_pos rfl, nZ_sub, show (made : Int) - 1 = ((made - kp : Nat) : Int) + kp - 1 by omega]
    refine IK_29 (s0 := w 1) (base := made - kp) (ph_I H).1 k2 (by omega) kp m (mg_sv w) h1 H1 (by omega) s7 s3 (fun i hi => ?_) (by omega) (by omega)
    rw [s4]
    obtain ⟨t, t1, t2, t3⟩ := k3 i (by omega)
    rw [hkp] at t3
    exact ⟨t, t1, t2, t3⟩
  obtain ⟨h1, e, c1, c2⟩ := hT
  exact ph_ret e (K h1 c1 c2)
end KEP
