/-! THE LINE'S BUILDER -/
theorem sh0r (a : Int32) : a >>> (nZ 0 &&& 31) = a := by
  rw [show nZ 0 &&& 31 = 0 by decide]
  exact Int32.shiftRight_zero
theorem sh0l (a : Int32) : a <<< (nZ 0 &&& 31) = a := by
  rw [show nZ 0 &&& 31 = 0 by decide]
  exact Int32.shiftLeft_zero
theorem sb_by_t : ∀ y : Fin 128, (nZ ((y : Nat) : Int)).toInt8.toInt32 = nZ ((y : Nat) : Int) ∧ nZ ((y : Nat) : Int) &&& nZ 255 = nZ ((y : Nat) : Int) := by decide +kernel
theorem sb_by {y : Int} (h : 0 ≤ y ∧ y ≤ 127) : (nZ y).toInt8.toInt32 = nZ y ∧ nZ y &&& nZ 255 = nZ y := by
  have t := sb_by_t ⟨y.toNat, by omega⟩
  have e : ((y.toNat : Nat) : Int) = y := by omega
  simp only [e] at t
  exact t
theorem mz_H_c {P P' : mz_P} {a : Nat} (h1 : ∀ r, a ≤ r → r < a + 31 → P'.1 r = P.1 r) (h2 : ∀ r, a ≤ r → r < a + 31 → P'.2 r = P.2 r) (h : mz_H P a) : mz_H P' a := by
  unfold mz_H mz_B mz_Pl at h ⊢
  obtain ⟨a1, a2, a3, a4, a5, a6, a7, a8, a9, a10, a11⟩ := h
  refine ⟨by rw [h1 _ (by omega) (by omega)]; exact a1, by rw [h2 _ (by omega) (by omega)]; exact a2, by rw [h1 _ (by omega) (by omega)]; exact a3, fun i hi => ?_, by rw [h2 _ (by omega) (by omega)]; exact a5, by rw [h1 _ (by omega) (by omega)]; exact a6, by rw [h2 _ (by omega) (by omega)]; exact a7, by rw [h1 _ (by omega) (by omega)]; exact a8, fun j hj => ?_, by rw [h2 _ (by omega) (by omega)]; exact a10, by rw [h1 _ (by omega) (by omega)]; exact a11⟩
  · rw [h2 _ (by omega) (by omega), h1 _ (by omega) (by omega), h2 _ (by omega) (by omega), h1 _ (by omega) (by omega)]; exact a4 i hi
  · rw [h2 _ (by omega) (by omega), h1 _ (by omega) (by omega)]; exact a9 j hj
theorem mz_Cm_c {P P' : mz_P} {a : Nat} (h1 : ∀ r, a ≤ r → r < a + 2 → P'.1 r = P.1 r) (h2 : ∀ r, a ≤ r → r < a + 2 → P'.2 r = P.2 r) (h : mz_Cm P a) : mz_Cm P' a := by
  unfold mz_Cm at h ⊢
  rw [h1 _ (by omega) (by omega), h2 _ (by omega) (by omega), h1 _ (by omega) (by omega)]
  exact h
theorem mX_P_c {P P' : mz_P} {x v n v' n' : Nat} (h1 : ∀ r, x ≤ r → r < x + 368 ∨ (x + 369 ≤ r ∧ r < x + 376) → P'.1 r = P.1 r) (h2 : ∀ r, x ≤ r → r < x + 376 → r ≠ x + 367 → P'.2 r = P.2 r) (b1 : P'.2 (x + 367) 0 = some v') (b2 : P'.1 v' = some (.inr (.byte, n'))) (b3 : 16 ≤ n' ∧ n' ≤ 200) (b4 : v' = x + 368 ∨ x + 376 ≤ v') (h : mX_P P x v n) : mX_P P' x v' n' := by
  unfold mX_P at h ⊢
  obtain ⟨⟨a1, a2, a3, a4, a5, a6, a7, a8, a9, a10⟩, ⟨c1, c2, c3⟩, ⟨e1, e2, e3, e4⟩, f1, ⟨g1, g2, g3, g4, g5, g6⟩, ⟨i1, i2, i3, i4, i5, i6⟩, ⟨j1, j2, j3, j4, j5⟩, k1, k2, k3, k4, k5, k6, k7⟩ := h
  rw [h1 x (by omega) (by omega), h2 x (by omega) (by omega) (by omega)]
  refine ⟨⟨a1, a2, a3, a4, a5, a6, a7, a8, a9, a10⟩, ⟨mz_H_c (fun r ra rb => h1 r (by omega) (by omega)) (fun r ra rb => h2 r (by omega) (by omega) (by omega)) c1, mz_H_c (fun r ra rb => h1 r (by omega) (by omega)) (fun r ra rb => h2 r (by omega) (by omega) (by omega)) c2, mz_H_c (fun r ra rb => h1 r (by omega) (by omega)) (fun r ra rb => h2 r (by omega) (by omega) (by omega)) c3⟩, ⟨?_, ?_, ?_, fun i hi => ⟨?_, mz_H_c (fun r ra rb => h1 r (by omega) (by omega)) (fun r ra rb => h2 r (by omega) (by omega) (by omega)) (e4 i hi).2⟩⟩, mz_Cm_c (fun r ra rb => h1 r (by omega) (by omega)) (fun r ra rb => h2 r (by omega) (by omega) (by omega)) f1, ⟨?_, ?_, ?_, ?_, ?_, fun i hi => ⟨?_, mz_Cm_c (fun r ra rb => h1 r (by omega) (by omega)) (fun r ra rb => h2 r (by omega) (by omega) (by omega)) (g6 i hi).2⟩⟩, ⟨?_, b1, b2, b3.1, b3.2, b4⟩, ⟨?_, ?_, ?_, ?_, ?_⟩, ?_, ?_, ?_, ?_, ?_, ?_, ?_⟩
  · rw [h1 _ (by omega) (by omega)]; exact e1
  · rw [h2 _ (by omega) (by omega) (by omega)]; exact e2
  · rw [h1 _ (by omega) (by omega)]; exact e3
  · rw [h2 _ (by omega) (by omega) (by omega)]; exact (e4 i hi).1
  · rw [h1 _ (by omega) (by omega)]; exact g1
  · rw [h2 _ (by omega) (by omega) (by omega)]; exact g2
  · rw [h1 _ (by omega) (by omega)]; exact g3
  · rw [h2 _ (by omega) (by omega) (by omega)]; exact g4
  · rw [h1 _ (by omega) (by omega)]; exact g5
  · rw [h2 _ (by omega) (by omega) (by omega)]; exact (g6 i hi).1
  · rw [h1 _ (by omega) (by omega)]; exact i1
  · rw [h1 _ (by omega) (by omega)]; exact j1
  · rw [h2 _ (by omega) (by omega) (by omega)]; exact j2
  · rw [h1 _ (by omega) (by omega)]; exact j3
  · rw [h2 _ (by omega) (by omega) (by omega)]; exact j4
  · rw [h1 _ (by omega) (by omega)]; exact j5
  · rw [h1 _ (by omega) (by omega)]; exact k1
  · rw [h2 _ (by omega) (by omega) (by omega)]; exact k2
  · rw [h1 _ (by omega) (by omega)]; exact k3
  · rw [h2 _ (by omega) (by omega) (by omega)]; exact k4
  · rw [h1 _ (by omega) (by omega)]; exact k5
  · rw [h2 _ (by omega) (by omega) (by omega)]; exact k6
  · rw [h1 _ (by omega) (by omega)]; exact k7
/-- what stands outside: statics, digits -/
def mx_W (X : mv_X) (P : mz_P) (x0 : Nat) : Prop := (∀ r, r < x0 → P.1 r = none) ∧ X.2.2 0 = .int (nZ 1) ∧ (∃ (t N : Nat) (g : Nat → Value), t < x0 ∧ X.2.2 1 = .ref t ∧ X.1 t = some (.inr (.byte, N, g)) ∧ 100 ≤ N ∧ ∀ j : Nat, j < 100 → g j = .int (nZ (48 + (j : Int) % 10))) ∧
  (∃ (t N : Nat) (g : Nat → Value), t < x0 ∧ X.2.2 2 = .ref t ∧ X.1 t = some (.inr (.byte, N, g)) ∧ 100 ≤ N ∧ ∀ j : Nat, j < 100 → g j = .int (nZ (48 + (j : Int) / 10))) ∧ mv_nr (X.2.2 3) = true
/-- the builder holds L bytes of f -/
def sb_I (P : mz_P) (V : mz_V) (z : Nat × Nat) (x v n L : Nat) (f : Nat → Int) : Prop := mX_P P x v n ∧ (x + 376 ≤ z.1 ∧ v < z.1) ∧ V (x + 367) 1 = 0 ∧ V (x + 367) 3 = L ∧ (∀ i, i < L → V v i = f i) ∧ L ≤ n
def sb_F (P : mz_P) (V : mz_V) (z : Nat × Nat) (P' : mz_P) (V' : mz_V) (z' : Nat × Nat) (x v v' c : Nat) : Prop := (∀ r, r < z.1 → P'.1 r = P.1 r) ∧ (∀ r, r < z.1 → r ≠ x + 367 → P'.2 r = P.2 r) ∧ (∀ r, r < z.1 → r ≠ x + 367 → r ≠ v → V' r = V r) ∧ (z.1 ≤ z'.1 ∧ z'.1 ≤ z.1 + c) ∧ (z.2 ≤ z'.2 ∧ z'.2 ≤ z.2 + 70 * c) ∧ (v' = v ∨ z.1 ≤ v')
theorem sb_F_rfl {P : mz_P} {V : mz_V} {z : Nat × Nat} {x v : Nat} : sb_F P V z P V z x v v 0 := ⟨fun _ _ => rfl, fun _ _ _ => rfl, fun _ _ _ _ => rfl, ⟨Nat.le_refl _, Nat.le_refl _⟩, ⟨Nat.le_refl _, Nat.le_refl _⟩, Or.inl rfl⟩
theorem sb_F_tr {P P1 P2 : mz_P} {V V1 V2 : mz_V} {z z1 z2 : Nat × Nat} {x v v1 v2 c1 c2 : Nat} (h : sb_F P V z P1 V1 z1 x v v1 c1) (h' : sb_F P1 V1 z1 P2 V2 z2 x v1 v2 c2) : sb_F P V z P2 V2 z2 x v v2 (c1 + c2) := by
  obtain ⟨a1, a2, a3, a4, a5, a6⟩ := h
  obtain ⟨b1, b2, b3, b4, b5, b6⟩ := h'
  exact ⟨fun r hr => (b1 r (by omega)).trans (a1 r hr), fun r hr h => (b2 r (by omega) h).trans (a2 r hr h), fun r hr h hv => (b3 r (by omega) h (by omega)).trans (a3 r hr h hv), by omega, by omega, by omega⟩
theorem mx_W_F {X : mv_X} {P P' : mz_P} {V V' : mz_V} {z z' : Nat × Nat} {x v v' c x0 : Nat} (hF : sb_F P V z P' V' z' x v v' c) (h : x0 ≤ z.1) (hW : mx_W X P x0) : mx_W X P' x0 := ⟨fun r hr => (hF.1 r (by omega)).trans (hW.1 r hr), hW.2⟩
section SB
variable {X : mv_X} {P : mz_P} {V : mz_V} {z : Nat × Nat} {x v n d L x0 : Nat} {f : Nat → Int}
theorem mx_aO {F : Int32 → Option mv_R} {t N : Nat} {g : Nat → Value} {j y : Int} (hP : P.1 t = none) (hX : X.1 t = some (.inr (.byte, N, g))) (h0 : 0 ≤ j) (hj : j < N) (hN : j ≤ 65535) (hg : g j.toNat = .int (nZ y)) : mv_aI X (mz_h P V, z) 8 t (nZ j) F = F (nZ y) := by
  have e : (nZ j).toInt = j := nZ_i ⟨by omega, by omega⟩
  unfold mv_aI mv_ar mv_cell
  have e0 : mz_h P V t = none := by unfold mz_h; rw [hP]; rfl
  simp only [e0, hX, mv_ak, mv_chk, cond_true]
  rw [if_pos (by omega), e, hg]
  rfl
theorem sb_P (h : sb_I P V z x v n L f) : P.1 (x + 367) = some (.inl 1) ∧ P.2 (x + 367) 0 = some v ∧ P.1 v = some (.inr (.byte, n)) ∧ 16 ≤ n ∧ n ≤ 200 ∧ (v = x + 368 ∨ x + 376 ≤ v) := h.1.2.2.2.2.2.1
theorem J5_latin (hW : mx_W X P x0) (h : P.1 (x + 367) = some (.inl 1)) (h0 : V (x + 367) 1 = 0) : mv_call X (d + 1) 261 [.ref (x + 367)] (mz_h P V, z) = some (.inl (some (.int (nZ 1))), (mz_h P V, z)) := by
  rw [mc_J5_isLatin1_aae02, bk_J5_isLatin1_aae02_0, hW.2.1]
  simp only [mv_int]
  rw [if_neg (by decide), mz_gI h (by decide), h0, if_pos (by rfl)]
/-- room for c bytes -/
theorem J5_ensure (h : sb_I P V z x v n L f) {c : Nat} (hc : c ≤ 34) : ∃ (P' : mz_P) (V' : mz_V) (z' : Nat × Nat) (v' n' : Nat), mv_call X (d + 4) 255 [.ref (x + 367), .int (nZ c)] (mz_h P V, z) = some (.inl none, (mz_h P' V', z')) ∧ sb_I P' V' z' x v' n' L f ∧ c ≤ n' ∧ sb_F P V z P' V' z' x v v' 1 := by
  obtain ⟨p1, p2, p3, p4, p5, p6⟩ := sb_P h
  obtain ⟨i1, i2, i3, i4, i5, i6⟩ := h
  rw [mc_J5_ensureCapacityInternal_d00df, bk_J5_ensureCapacityInternal_d00df_0, mz_gR p1 (by decide) p2, mz_len p3, mz_gI p1 (by decide), i3, sh0r, nZ_sub]
  by_cases e : c ≤ n
  · rw [if_pos ((nZ_le0 ⟨by omega, by omega⟩).mpr (by omega))]
    exact ⟨P, V, z, v, n, rfl, ⟨i1, i2, i3, i4, i5, i6⟩, e, fun _ _ => rfl, fun _ _ _ => rfl, fun _ _ _ _ => rfl, by omega, by omega, Or.inl rfl⟩
  · rw [if_neg (fun q => by rw [nZ_le0 ⟨by omega, by omega⟩] at q; omega), mz_gR p1 (by decide) p2, mz_rcv p1]
    have e256 : mv_call X (d + 3) 256 [.ref (x + 367), .int (nZ c)] (mz_h P V, z) = some (.inl (some (.int (nZ (2 * n + 2 : Nat)))), (mz_h P V, z)) := by
      have e283 : mv_call X (d + 2) 283 [.int (nZ n), .int (nZ ((c : Int) - n)), .int (nZ ((n : Int) + 2))] (mz_h P V, z) = some (.inl (some (.int (nZ (2 * n + 2 : Nat)))), (mz_h P V, z)) := by
        rw [mc_J8_newLength_cabcc, bk_J8_newLength_cabcc_0]
        simp only [mv_clI, mv_cl, J9_max (show nS ((c : Int) - n) from ⟨by omega, by omega⟩) (show nS ((n : Int) + 2) from ⟨by omega, by omega⟩), nZ_add]
        rw [show (if (c : Int) - n < n + 2 then ((n : Int) + 2) else (c : Int) - n) = n + 2 by split <;> omega, show (n : Int) + (n + 2) = (2 * n + 2 : Nat) by omega, if_neg (by rw [nZ_le ⟨by omega, by omega⟩ (by decide)]; omega), if_neg (by rw [nZ_lt (by decide) ⟨by omega, by omega⟩]; omega)]
      rw [mc_J5_newCapacity_0f7a4, bk_J5_newCapacity_0f7a4_0, mz_gR p1 (by decide) p2, mz_len p3, mz_gI p1 (by decide), mz_gI p1 (by decide), i3, sh0l, sh0l, nZ_sub, nZ_add]
      simp only [mv_clI, mv_cl, e283]
      rw [if_neg (by rw [nZ_inj ⟨by omega, by omega⟩ (by decide)]; omega), mz_gI p1 (by decide), i3, sh0r]
    simp only [mv_clI, mv_cl, e256]
    rw [mz_gI p1 (by decide), i3, sh0l]
    have ev : (mz_g P z.1 (.inr (.byte, 2 * n + 2))).1 v = some (.inr (.byte, n)) := by rw [mz_g1 (by omega)]; exact p3
    have e282 : mv_call X (d + 3) 282 [.ref v, .int (nZ (2 * n + 2 : Nat))] (mz_h P V, z) = some (.inl (some (.ref z.1)), (mz_h (mz_g P z.1 (.inr (.byte, 2 * n + 2))) (mz_cp (mz_w V z.1 fun _ => 0) v 0 z.1 0 n), (z.1 + 1, z.2 + (2 * n + 2)))) := by
      rw [mc_J7_copyOf_9075b, bk_J7_copyOf_9075b_0, mz_len p3, if_neg (by rw [nZ_inj ⟨by omega, by omega⟩ ⟨by omega, by omega⟩]; omega), mz_newa (t := .byte) (v := .int 0) (n := 2 * n + 2) (by omega) rfl, mz_len ev]
      simp only [mv_clI, mv_cl, J9_min (show nS (n : Int) from ⟨by omega, by omega⟩) (show nS ((2 * n + 2 : Nat) : Int) from ⟨by omega, by omega⟩)]
      rw [if_neg (show ¬ ((2 * n + 2 : Nat) : Int) < n by omega), mz_cpy ev mz_gs (by decide) (s := 0) (d := 0) (m := n) (by decide) (by decide) (nZ_i ⟨by omega, by omega⟩) (by omega) (by omega)]
    simp only [mv_clR, mv_cl, e282]
    have pq : (mz_g P z.1 (.inr (.byte, 2 * n + 2))).1 (x + 367) = some (.inl 1) := by rw [mz_g1 (by omega)]; exact p1
    rw [mz_pr pq (by decide)]
    have go : ∀ r, r < z.1 → mz_cp (mz_w V z.1 fun _ => 0) v 0 z.1 0 n r = V r := fun r hr => by
      funext j
      unfold mz_cp
      rw [if_neg (fun q => by omega), mz_w_n _ _ (by omega)]
    refine ⟨_, _, _, z.1, 2 * n + 2, rfl, ⟨mX_P_c (fun r r1 r2 => mz_g1 (by omega)) (fun r r1 r2 r3 => ?_) mz_ks mz_gs (by omega) (by omega) i1, ⟨by show x + 376 ≤ z.1 + 1; omega, by show z.1 < z.1 + 1; omega⟩, by rw [go _ (by omega)]; exact i3, by rw [go _ (by omega)]; exact i4, fun i hi => ?_, by omega⟩, by omega, fun r hr => mz_g1 (by omega), fun r hr h => ?_, fun r hr _ _ => go r hr, ⟨by show z.1 ≤ z.1 + 1; omega, Nat.le_refl _⟩, ⟨by show z.2 ≤ z.2 + _; omega, by show z.2 + (2 * n + 2) ≤ z.2 + 70 * 1; omega⟩, Or.inr (Nat.le_refl _)⟩
    · funext j
      rw [mz_ka (by omega), mz_g2 (by omega)]
    · show (if z.1 = z.1 ∧ 0 ≤ i ∧ i < 0 + n then mz_w V z.1 (fun _ => 0) v (0 + (i - 0)) else _) = f i
      rw [if_pos ⟨rfl, by omega, by omega⟩, mz_w_n _ _ (by omega), show 0 + (i - 0) = i by omega]
      exact i5 i hi
    · funext j
      rw [mz_ka h, mz_g2 (by omega)]
theorem J1_canEncode {y : Int} (hy : 0 ≤ y ∧ y ≤ 127) {hp : mv_H} : mv_call X (d + 1) 280 [.int (nZ y)] hp = some (.inl (some (.int (nZ 1))), hp) := by
  rw [mc_J1_canEncode_fc78d, bk_J1_canEncode_fc78d_0, if_neg (by rw [nZ_lt (by decide) ⟨by omega, by omega⟩]; omega)]
/-- one character -/
theorem J4_char (hW : mx_W X P x0) (hx : x0 ≤ x) (h : sb_I P V z x v n L f) (hL : L + 1 ≤ 34) {y : Int} (hy : 0 ≤ y ∧ y ≤ 127) : ∃ (P' : mz_P) (V' : mz_V) (z' : Nat × Nat) (v' n' : Nat), mv_call X (d + 6) 274 [.ref (x + 367), .int (nZ y)] (mz_h P V, z) = some (.inl (some (.ref (x + 367))), (mz_h P' V', z')) ∧ sb_I P' V' z' x v' n' (L + 1) (mr_up f L y) ∧ sb_F P V z P' V' z' x v v' 1 := by
  obtain ⟨P1, V1, z1, v1, n1, e1, s1, c1, F1⟩ := J5_ensure (X := X) (d := d) h (c := L + 1) hL
  have hW1 := mx_W_F F1 (by have := h.2.1.1; omega) hW
  obtain ⟨p1, p2, p3, p4, p5, p6⟩ := sb_P h
  obtain ⟨q1, q2, q3, q4, q5, q6⟩ := sb_P s1
  obtain ⟨i1, i2, i3, i4, i5, i6⟩ := s1
  rw [nc1] at e1
  have go : ∀ r, r ≠ x + 367 → r ≠ v1 → mz_u (mz_u V1 (x + 367) 3 (L + 1)) v1 L y r = V1 r := fun r h1 h2 => by rw [mz_u_o h2, mz_u_o h1]
  have hv1 : x + 367 ≠ v1 := by omega
  refine ⟨P1, mz_u (mz_u V1 (x + 367) 3 (L + 1)) v1 L y, z1, v1, n1, ?_, ⟨i1, i2, ?_, ?_, fun i hi => ?_, c1⟩, F1.1, F1.2.1, fun r hr h1 h2 => ?_, F1.2.2.2⟩
  · have e259 : mv_call X (d + 5) 259 [.ref (x + 367), .int (nZ y)] (mz_h P V, z) = some (.inl (some (.ref (x + 367))), (mz_h P1 (mz_u (mz_u V1 (x + 367) 3 (L + 1)) v1 L y), z1)) := by
      rw [mc_J5_append_3fe6f, bk_J5_append_3fe6f_0, mz_gI p1 (by decide), h.2.2.2.1, nZ_add, mz_rcv p1]
      simp only [mv_clV, mv_cl, e1]
      rw [mz_rcv q1]
      simp only [mv_clI, mv_cl, J5_latin hW1 q1 i3]
      rw [if_neg (by decide)]
      simp only [J1_canEncode hy]
      rw [if_neg (by decide), mz_gR q1 (by decide) q2, mz_gI q1 (by decide), i4, nZ_add, mz_pf q1 (by decide), (sb_by hy).1, (sb_by hy).1, mz_as q3 (by decide) (nZ_i ⟨by omega, by omega⟩) (by omega)]
    rw [mc_J4_append_cf468, bk_J4_append_cf468_0, mz_rcv p1]
    simp only [mv_clR, mv_cl, e259]
  · rw [mz_u_o hv1, mz_u_k _ _ (by decide)]; exact i3
  · rw [mz_u_o hv1, mz_u_s, nc1]
  · by_cases e : i = L
    · subst e; rw [mz_u_s, mr_up_s]
    · rw [mz_u_k _ _ e, mz_u_o (fun q => hv1 q.symm), mr_up_n _ _ e]; exact i5 i (by omega)
  · rw [go r h1 (by have := F1.2.2.2.2.2; omega)]
    exact F1.2.2.1 r hr h1 h2
end SB
