/-! TEXTS THAT THE LAW MAKES: a builder anywhere, its text, what is read of it -/
theorem mz_own_w {P : mz_P} {V : mz_V} {a : Nat} (t : Nat ⊕ (FieldType × Nat)) (C : mv_C) (F : Nat → Int) (h : mz_c (mz_g P a t) (mz_w V a F) a t = C) : mv_up (mz_h P V) a (some C) = mz_h (mz_g P a t) (mz_w V a F) := by
  funext b
  by_cases e : b = a
  · subst e
    rw [mv_up_s, mz_own (mz_gs (P := P)), h]
  · rw [mv_up_n _ _ e]
    unfold mz_h
    rw [mz_g1 e]
    cases P.1 b with
    | none => rfl
    | some t =>
      simp only [Option.map_some]
      cases t with
      | inl c2 => simp only [mz_c, mz_g2 (P := P) e, mz_w_n V (a := a) F e]
      | inr q => simp only [mz_c, mz_g2 (P := P) e, mz_w_n V (a := a) F e]
/-- contents behind a copy from outside -/
def mz_cq (V : mz_V) (a d m : Nat) (y : Nat → Int) : mz_V := fun b j => if b = a ∧ d ≤ j ∧ j < d + m then y (j - d) else V b j
/-- a text that the law made, between y1 and y2 -/
def tx_W (P : mz_P) (V : mz_V) (t q y1 y2 : Nat) : Prop := ∃ bv, P.1 t = some (.inl 0) ∧ P.2 t 0 = some bv ∧ V t 1 = 0 ∧ P.1 bv = some (.inr (.byte, q)) ∧ (∀ j, j < q → 0 ≤ V bv j ∧ V bv j ≤ 127) ∧ (y1 ≤ t ∧ t < y2) ∧ (y1 ≤ bv ∧ bv < y2)
theorem tx_W_f {P P' : mz_P} {V V' : mz_V} {t q y1 y2 : Nat} (h1 : ∀ r, y1 ≤ r → r < y2 → P'.1 r = P.1 r) (h2 : ∀ r, y1 ≤ r → r < y2 → P'.2 r = P.2 r) (h3 : ∀ r, y1 ≤ r → r < y2 → V' r = V r) (h : tx_W P V t q y1 y2) : tx_W P' V' t q y1 y2 := by
  obtain ⟨bv, a1, a2, a3, a4, a5, a6, a7⟩ := h
  exact ⟨bv, by rw [h1 _ a6.1 a6.2]; exact a1, by rw [h2 _ a6.1 a6.2]; exact a2, by rw [h3 _ a6.1 a6.2]; exact a3, by rw [h1 _ a7.1 a7.2]; exact a4, fun j hj => by rw [h3 _ a7.1 a7.2]; exact a5 j hj, a6, a7⟩
/-- what is asked of a text that is appended -/
def tx_C (X : mv_X) (P : mz_P) (V : mz_V) (z : Nat × Nat) (t q a1 : Nat) : Prop := (∀ (as : List Value) (f : Option mv_R), mv_rcv X (mz_h P V, z) (.ref t :: as) 0 f = f) ∧ (∀ d, mv_call X (d + 1) 270 [.ref t] (mz_h P V, z) = some (.inl (some (.int (nZ 0))), (mz_h P V, z))) ∧ (∀ d, mv_call X (d + 2) 268 [.ref t] (mz_h P V, z) = some (.inl (some (.int (nZ q))), (mz_h P V, z))) ∧
  ∀ (d p n1 : Nat), P.1 a1 = some (.inr (.byte, n1)) → p + q ≤ n1 → n1 ≤ 200 → ∃ V' : mz_V, mv_call X (d + 2) 335 [.ref t, .ref a1, .int (nZ p), .int (nZ 0)] (mz_h P V, z) = some (.inl none, (mz_h P V', z)) ∧ (∀ b, b ≠ a1 → V' b = V b) ∧ (∀ j, ¬ (p ≤ j ∧ j < p + q) → V' a1 j = V a1 j) ∧ ∀ j, p ≤ j → j < p + q → 0 ≤ V' a1 j ∧ V' a1 j ≤ 127
/-- a builder with L signs -/
def bu_I (P : mz_P) (V : mz_V) (z : Nat × Nat) (y0 a v n L : Nat) : Prop := P.1 a = some (.inl 1) ∧ P.2 a 0 = some v ∧ P.1 v = some (.inr (.byte, n)) ∧ (16 ≤ n ∧ n ≤ 200) ∧ (y0 ≤ a ∧ a < z.1) ∧ (y0 ≤ v ∧ v < z.1) ∧ V a 1 = 0 ∧ V a 3 = L ∧ (∀ i, i < L → 0 ≤ V v i ∧ V v i ≤ 127) ∧ L ≤ n
def bu_F (P : mz_P) (V : mz_V) (z : Nat × Nat) (P' : mz_P) (V' : mz_V) (z' : Nat × Nat) (a v v' e : Nat) : Prop := (∀ r, r < z.1 → P'.1 r = P.1 r) ∧ (∀ r, r < z.1 → r ≠ a → P'.2 r = P.2 r) ∧ (∀ r, r < z.1 → r ≠ a → r ≠ v → V' r = V r) ∧ (z.1 ≤ z'.1 ∧ z'.1 ≤ z.1 + e) ∧ z'.2 ≤ z.2 + 6 * e ∧ (v' = v ∨ z.1 ≤ v')
/-- nothing below y has changed -/
def bf_K (y : Nat) (P : mz_P) (V : mz_V) (z : Nat × Nat) (P' : mz_P) (V' : mz_V) (z' : Nat × Nat) (e : Nat) : Prop := (∀ r, r < y → P'.1 r = P.1 r ∧ P'.2 r = P.2 r ∧ V' r = V r) ∧ (z.1 ≤ z'.1 ∧ z'.1 ≤ z.1 + e) ∧ z'.2 ≤ z.2 + 6 * e
theorem bf_tr {y y' : Nat} {P P1 P2 : mz_P} {V V1 V2 : mz_V} {z z1 z2 : Nat × Nat} {e e' : Nat} (hy : y ≤ y') (h : bf_K y P V z P1 V1 z1 e) (h' : bf_K y' P1 V1 z1 P2 V2 z2 e') : bf_K y P V z P2 V2 z2 (e + e') := by
  obtain ⟨a1, a2, a3⟩ := h
  obtain ⟨b1, b2, b3⟩ := h'
  refine ⟨fun r hr => ?_, by omega, by omega⟩
  obtain ⟨q1, q2, q3⟩ := a1 r hr
  obtain ⟨r1, r2, r3⟩ := b1 r (by omega)
  exact ⟨r1.trans q1, r2.trans q2, r3.trans q3⟩
theorem bf_of {P P' : mz_P} {V V' : mz_V} {z z' : Nat × Nat} {y0 a v v' e : Nat} (h : bu_F P V z P' V' z' a v v' e) (ha : y0 ≤ a ∧ a < z.1) (hv : y0 ≤ v) : bf_K y0 P V z P' V' z' e := by
  obtain ⟨f1, f2, f3, f4, f5, f6⟩ := h
  exact ⟨fun r hr => ⟨f1 r (by omega), f2 r (by omega) (by omega), f3 r (by omega) (by omega) (by omega)⟩, f4, f5⟩
theorem bu_I_f {P P' : mz_P} {V V' : mz_V} {z z' : Nat × Nat} {y0 a v n L e y : Nat} (hf : bf_K y P V z P' V' z' e) (hy : a < y ∧ v < y) (h : bu_I P V z y0 a v n L) : bu_I P' V' z' y0 a v n L := by
  obtain ⟨i1, i2, i3, i4, i5, i6, i7, i8, i9, i10⟩ := h
  obtain ⟨f1, f2, f3⟩ := hf
  obtain ⟨q1, q2, q3⟩ := f1 a hy.1
  obtain ⟨r1, r2, r3⟩ := f1 v hy.2
  exact ⟨by rw [q1]; exact i1, by rw [q2]; exact i2, by rw [r1]; exact i3, i4, by omega, by omega, by rw [q3]; exact i7, by rw [q3]; exact i8, fun i hi => by rw [r3]; exact i9 i hi, i10⟩
theorem mx_W_l {X : mv_X} {P P' : mz_P} {x0 : Nat} (h : ∀ r, r < x0 → P'.1 r = P.1 r) (hW : mx_W X P x0) : mx_W X P' x0 := ⟨fun r hr => (h r hr).trans (hW.1 r hr), hW.2⟩
section TXT
variable {X : mv_X} {P : mz_P} {V : mz_V} {z : Nat × Nat} {x0 d t q k a1 n1 p a v n L y0 y1 y2 : Nat} {l : List Int}
theorem mz_cln {f : Nat → mv_H → Option mv_R} (h : P.1 a = some (.inr (.byte, n))) : mv_cln (mz_h P V, z) a f = f z.1 (mz_h (mz_g P z.1 (.inr (.byte, n))) (mz_w V z.1 (V a)), (z.1 + 1, z.2 + n)) := by
  unfold mv_cln
  simp only [mz_own h, mz_c]
  unfold mv_new
  show f z.1 (mv_up (mz_h P V) z.1 _, _) = _
  rw [mz_own_w (.inr (.byte, n)) _ (V a) ?_]
  unfold mz_c
  simp only [mz_w_s]
  rfl
theorem mz_isB {f : Option mv_R} (h : P.1 a = some (.inr (.byte, n))) : mv_isB (mz_h P V, z) a f = f := by
  unfold mv_isB
  simp only [mz_own h, mz_c]
theorem mx_cpO {f : mv_H → Option mv_R} {a0 a1 n0 n1 dd m : Nat} {sp dp nn : Int32} {g : Nat → Value} {y : Nat → Int} (h0 : P.1 a0 = none) (hX : X.1 a0 = some (.inr (.byte, n0, g))) (h1 : P.1 a1 = some (.inr (.byte, n1))) (hs : sp.toInt = 0) (hd : dp.toInt = dd) (hn : nn.toInt = m) (hs2 : m ≤ n0) (hd2 : dd + m ≤ n1) (hg : ∀ i, i < m → g i = .int (nZ (y i)) ∧ 0 ≤ y i ∧ y i ≤ 127) : mv_cpy X (mz_h P V, z) a0 sp a1 dp nn f = f (mz_h P (mz_cq V a1 dd m y), z) := by
  unfold mv_cpy
  have e1 : sp.toInt.toNat = 0 := by omega
  have e2 : dp.toInt.toNat = dd := by omega
  have e3 : nn.toInt.toNat = m := by omega
  have e4 : 0 ≤ sp.toInt ∧ 0 ≤ dp.toInt ∧ 0 ≤ nn.toInt ∧ sp.toInt + nn.toInt ≤ (n0 : Int) ∧ dp.toInt + nn.toInt ≤ (n1 : Int) := by omega
  have em : (-128 : Int32) = nZ (-128) := by decide
  have en : (127 : Int32) = nZ 127 := by decide
  have e5 : ((List.range m).all fun i => fits .byte (g (0 + i))) = true := by
    rw [List.all_eq_true]
    intro i hi
    obtain ⟨g1, g2⟩ := hg i (List.mem_range.mp hi)
    rw [Nat.zero_add, g1]
    have e0 : fits .byte (.int (nZ (y i))) = (decide ((-128 : Int32) ≤ nZ (y i)) && decide (nZ (y i) ≤ (127 : Int32))) := rfl
    rw [e0, em, en, decide_eq_true ((nZ_le ⟨by omega, by omega⟩ ⟨by omega, by omega⟩).mpr (by omega)), decide_eq_true ((nZ_le ⟨by omega, by omega⟩ ⟨by omega, by omega⟩).mpr (by omega))]
    rfl
  simp only [mx_cO h0, hX, mz_own h1, mz_c, mv_prim, mv_chk, cond_true, if_pos e4, e1, e2, e3, e5, if_true, Bool.or_true]
  congr 2
  funext b
  by_cases eb : b = a1
  · subst eb
    rw [mv_up_s, mz_own h1, mz_c]
    congr 4
    funext i
    unfold mv_cpf mz_cq
    by_cases e5 : dd ≤ i ∧ i < dd + m
    · rw [if_pos e5, if_pos ⟨rfl, e5⟩, Nat.zero_add, (hg (i - dd) (by omega)).1]
      rfl
    · rw [if_neg e5, if_neg fun q => e5 q.2]
  · rw [mv_up_n _ _ eb]
    unfold mz_h
    cases P.1 b with
    | none => rfl
    | some t =>
      have e6 : ∀ j, mz_cq V a1 dd m y b j = V b j := fun j => if_neg fun q => eb q.1
      simp only [Option.map_some]
      cases t with
      | inl c2 => simp only [mz_c, e6]
      | inr q => simp only [mz_c, e6]
theorem tx_C_O (hW : mx_W X P x0) (hS : mx_S X x0 k l) : tx_C X P V z (X.2.1 k) l.length a1 := by
  have hL : ∀ d, mv_call X (d + 2) 268 [.ref (X.2.1 k)] (mz_h P V, z) = some (.inl (some (.int (nZ l.length))), (mz_h P V, z)) := fun d => J0_len hW hS
  obtain ⟨vv, NN, fs, g, h1, h2, h3, h4, h5, h6, ⟨hN1, hN2⟩, h7, h8⟩ := hS
  have e270 : ∀ d, mv_call X (d + 1) 270 [.ref (X.2.1 k)] (mz_h P V, z) = some (.inl (some (.int (nZ 0))), (mz_h P V, z)) := fun d => by
    rw [mc_J0_coder_7d493, bk_J0_coder_7d493_0, hW.2.1]
    simp only [mv_int]
    rw [if_neg (by decide), mx_gIO (hW.1 _ h1) h3 h5, mv_chk_t (by decide)]
  refine ⟨fun as f => mx_rO (hW.1 _ h1) h3, e270, hL, fun d p n1 ha hp hn => ?_⟩
  refine ⟨mz_cq V a1 p l.length (fun i => (l[i]?).getD 0), ?_, fun b hb => ?_, fun j hj => if_neg fun q => hj q.2, fun j j1 j2 => ?_⟩
  · rw [mc_J0_getBytes_840e7, bk_J0_getBytes_840e7_0, mx_rO (hW.1 _ h1) h3]
    simp only [mv_clI, mv_cl, e270]
    rw [if_pos trivial, mx_gRO (hW.1 _ h1) h3 h4, mx_gRO (hW.1 _ h1) h3 h4, mx_lO (hW.1 _ h2) h6, sh0l, hN2, mx_cpO (hW.1 _ h2) h6 ha (y := fun i => (l[i]?).getD 0) (by decide) (nZ_i ⟨by omega, by omega⟩) (nZ_i ⟨by omega, by omega⟩) hN1 hp fun i hi => ?_]
    have e := List.getElem?_eq_getElem hi
    have t1 := h8 i _ e
    rw [e]
    exact t1
  · funext j
    exact if_neg fun q => hb q.1
  · have e : mz_cq V a1 p l.length (fun i => (l[i]?).getD 0) a1 j = (l[j - p]?).getD 0 := if_pos ⟨rfl, j1, j2⟩
    rw [e]
    have e2 := List.getElem?_eq_getElem (show j - p < l.length by omega)
    rw [e2]
    exact (h8 _ _ e2).2
theorem tx_C_W (hW : mx_W X P x0) (h : tx_W P V t q y1 y2) (hq : q ≤ 100) (ha : a1 < y1 ∨ y2 ≤ a1) : tx_C X P V z t q a1 := by
  obtain ⟨bv, b1, b2, b3, b4, b5, b6, b7⟩ := h
  have e270 : ∀ d, mv_call X (d + 1) 270 [.ref t] (mz_h P V, z) = some (.inl (some (.int (nZ 0))), (mz_h P V, z)) := fun d => by
    rw [mc_J0_coder_7d493, bk_J0_coder_7d493_0, hW.2.1]
    simp only [mv_int]
    rw [if_neg (by decide), mz_gI b1 (by decide), b3, mv_chk_t (by decide)]
  refine ⟨fun as f => mz_rcv b1, e270, fun d => ?_, fun d p n1 h1 hp hn => ?_⟩
  · rw [mc_J0_length_8abf5, bk_J0_length_8abf5_0, mz_gR b1 (by decide) b2, mz_len b4, mz_rcv b1]
    simp only [mv_clI, mv_cl, e270, sh0r]
  · refine ⟨mz_cp V bv 0 a1 p q, ?_, fun b hb => ?_, fun j hj => if_neg fun q => hj q.2, fun j j1 j2 => ?_⟩
    · rw [mc_J0_getBytes_840e7, bk_J0_getBytes_840e7_0, mz_rcv b1]
      simp only [mv_clI, mv_cl, e270]
      rw [if_pos trivial, mz_gR b1 (by decide) b2, mz_gR b1 (by decide) b2, mz_len b4, sh0l, mz_cpy b4 h1 (by decide) (s := 0) (d := p) (m := q) (by decide) (nZ_i ⟨by omega, by omega⟩) (nZ_i ⟨by omega, by omega⟩) (by omega) hp]
    · funext j
      exact if_neg fun q => hb q.1
    · have e : mz_cp V bv 0 a1 p q a1 j = V bv (0 + (j - p)) := if_pos ⟨rfl, j1, j2⟩
      rw [e]
      exact b5 _ (by omega)
/-- one sign of a text that the law made -/
theorem tx_chr (hW : mx_W X P x0) (h : tx_W P V t q y1 y2) (hq : q ≤ 100) {j : Nat} (hj : j < q) : ∃ y : Int, (0 ≤ y ∧ y ≤ 127) ∧ mv_call X (d + 4) 269 [.ref t, .int (nZ j)] (mz_h P V, z) = some (.inl (some (.int (nZ y))), (mz_h P V, z)) := by
  obtain ⟨bv, b1, b2, b3, b4, b5, b6, b7⟩ := h
  obtain ⟨y, ey⟩ : ∃ y, y = V bv j := ⟨_, rfl⟩
  have hy := b5 j hj
  rw [← ey] at hy
  refine ⟨y, hy, ?_⟩
  have e271 : mv_call X (d + 3) 271 [.ref t] (mz_h P V, z) = some (.inl (some (.int (nZ 1))), (mz_h P V, z)) := by
    rw [mc_J0_isLatin1_aae02, bk_J0_isLatin1_aae02_0, hW.2.1]
    simp only [mv_int]
    rw [if_neg (by decide), mz_gI b1 (by decide), b3, if_pos (by rfl)]
  have e284 : mv_call X (d + 1) 284 [.int (nZ j), .int (nZ q), X.2.2 3] (mz_h P V, z) = some (.inl (some (.int (nZ j))), (mz_h P V, z)) := by
    rw [mc_J3_checkIndex_8e157, bk_J3_checkIndex_8e157_0, if_neg (by rw [nZ_lt0 ⟨by omega, by omega⟩]; omega), if_pos ((nZ_lt ⟨by omega, by omega⟩ ⟨by omega, by omega⟩).mpr (by omega))]
  have e272 : mv_call X (d + 2) 272 [.int (nZ j), .int (nZ q)] (mz_h P V, z) = some (.inl none, (mz_h P V, z)) := by
    rw [mc_J0_checkIndex_df160, bk_J0_checkIndex_df160_0, mv_chk_t hW.2.2.2.2]
    simp only [mv_clI, mv_cl, e284]
  have e279 : mv_call X (d + 3) 279 [.ref bv, .int (nZ j)] (mz_h P V, z) = some (.inl (some (.int (nZ y))), (mz_h P V, z)) := by
    rw [mc_J1_charAt_3b067, bk_J1_charAt_3b067_0, mz_len b4]
    simp only [mv_clV, mv_cl, e272]
    rw [mz_aI b4 (by decide) (nZ_i ⟨by omega, by omega⟩) hj, ← ey, (sb_by hy).2, (mq_char (show 0 ≤ y ∧ y ≤ 65535 by omega)).2.2, mv_chk_t (mq_char (show 0 ≤ y ∧ y ≤ 65535 by omega)).2.1]
  rw [mc_J0_charAt_5068e, bk_J0_charAt_5068e_0, mz_rcv b1]
  simp only [mv_clI, mv_cl, e271]
  rw [if_neg (by decide), mz_gR b1 (by decide) b2]
  simp only [e279]
  rw [mv_chk_t (mq_char (show 0 ≤ y ∧ y ≤ 65535 by omega)).2.1]
theorem B_latin (hW : mx_W X P x0) (h : P.1 a = some (.inl 1)) (h0 : V a 1 = 0) : mv_call X (d + 1) 261 [.ref a] (mz_h P V, z) = some (.inl (some (.int (nZ 1))), (mz_h P V, z)) := by
  rw [mc_J5_isLatin1_aae02, bk_J5_isLatin1_aae02_0, hW.2.1]
  simp only [mv_int]
  rw [if_neg (by decide), mz_gI h (by decide), h0, if_pos (by rfl)]
theorem B_ensure (h : bu_I P V z y0 a v n L) {c : Nat} (hc : c ≤ 34) : ∃ (P' : mz_P) (V' : mz_V) (z' : Nat × Nat) (v' n' : Nat), mv_call X (d + 4) 255 [.ref a, .int (nZ c)] (mz_h P V, z) = some (.inl none, (mz_h P' V', z')) ∧ bu_I P' V' z' y0 a v' n' L ∧ c ≤ n' ∧ bu_F P V z P' V' z' a v v' 12 := by
  obtain ⟨p1, p2, p3, p4, p5, p6, i3, i4, i5, i6⟩ := h
  have hav : a ≠ v := fun q => by rw [q, p3] at p1; cases p1
  rw [mc_J5_ensureCapacityInternal_d00df, bk_J5_ensureCapacityInternal_d00df_0, mz_gR p1 (by decide) p2, mz_len p3, mz_gI p1 (by decide), i3, sh0r, nZ_sub]
  by_cases e : c ≤ n
  · rw [if_pos ((nZ_le0 ⟨by omega, by omega⟩).mpr (by omega))]
    exact ⟨P, V, z, v, n, rfl, ⟨p1, p2, p3, p4, p5, p6, i3, i4, i5, i6⟩, e, fun _ _ => rfl, fun _ _ _ => rfl, fun _ _ _ _ => rfl, by omega, by omega, Or.inl rfl⟩
  · rw [if_neg (fun q => by rw [nZ_le0 ⟨by omega, by omega⟩] at q; omega), mz_gR p1 (by decide) p2, mz_rcv p1]
    have e256 : mv_call X (d + 3) 256 [.ref a, .int (nZ c)] (mz_h P V, z) = some (.inl (some (.int (nZ (2 * n + 2 : Nat)))), (mz_h P V, z)) := by
      have e283 : mv_call X (d + 2) 283 [.int (nZ n), .int (nZ ((c : Int) - n)), .int (nZ ((n : Int) + 2))] (mz_h P V, z) = some (.inl (some (.int (nZ (2 * n + 2 : Nat)))), (mz_h P V, z)) := by
        rw [mc_J8_newLength_cabcc, bk_J8_newLength_cabcc_0]
        simp only [mv_clI, mv_cl, J9_max (show nS ((c : Int) - n) from ⟨by omega, by omega⟩) (show nS ((n : Int) + 2) from ⟨by omega, by omega⟩), nZ_add]
        rw [show (if (c : Int) - n < n + 2 then ((n : Int) + 2) else (c : Int) - n) = n + 2 by split <;> omega, show (n : Int) + (n + 2) = (2 * n + 2 : Nat) by omega, if_neg (by rw [nZ_le ⟨by omega, by omega⟩ (by decide)]; omega), if_neg (by rw [nZ_lt (by decide) ⟨by omega, by omega⟩]; omega)]
      rw [mc_J5_newCapacity_0f7a4, bk_J5_newCapacity_0f7a4_0, mz_gR p1 (by decide) p2, mz_len p3, mz_gI p1 (by decide), mz_gI p1 (by decide), i3, sh0l, sh0l, nZ_sub, nZ_add]
      simp only [mv_clI, mv_cl, e283]
      rw [if_neg (by rw [nZ_inj ⟨by omega, by omega⟩ (by decide)]; omega), mz_gI p1 (by decide), i3, sh0r]
    simp only [mv_clI, mv_cl, e256]
    rw [mz_gI p1 (by decide), i3, sh0l]
    have ev : (mz_g P z.1 (.inr (.byte, 2 * n + 2))).1 v = some (.inr (.byte, n)) := by rw [mz_g1 (by omega)]; exact p3
    have e282 : mv_call X (d + 3) 282 [.ref v, .int (nZ (2 * n + 2 : Nat))] (mz_h P V, z) = some (.inl (some (.ref z.1)), (mz_h (mz_g P z.1 (.inr (.byte, 2 * n + 2))) (mz_cp (mz_w V z.1 fun _ => 0) v 0 z.1 0 n), (z.1 + 1, z.2 + (2 * n + 2)))) := by
      rw [mc_J7_copyOf_9075b, bk_J7_copyOf_9075b_0, mz_len p3, if_neg (by rw [nZ_inj ⟨by omega, by omega⟩ ⟨by omega, by omega⟩]; omega), mz_newa (t := .byte) (v := .int 0) (n := 2 * n + 2) (by omega) rfl, mz_len ev]
      simp only [mv_clI, mv_cl, J9_min (show nS (n : Int) from ⟨by omega, by omega⟩) (show nS ((2 * n + 2 : Nat) : Int) from ⟨by omega, by omega⟩)]
      rw [if_neg (show ¬ ((2 * n + 2 : Nat) : Int) < n by omega), mz_cpy ev mz_gs (by decide) (s := 0) (d := 0) (m := n) (by decide) (by decide) (nZ_i ⟨by omega, by omega⟩) (by omega) (by omega)]
    simp only [mv_clR, mv_cl, e282]
    have pq : (mz_g P z.1 (.inr (.byte, 2 * n + 2))).1 a = some (.inl 1) := by rw [mz_g1 (by omega)]; exact p1
    rw [mz_pr pq (by decide)]
    have go : ∀ r, r < z.1 → mz_cp (mz_w V z.1 fun _ => 0) v 0 z.1 0 n r = V r := fun r hr => by
      funext j
      unfold mz_cp
      rw [if_neg (fun q => by omega), mz_w_n _ _ (by omega)]
    refine ⟨_, _, _, z.1, 2 * n + 2, rfl, ⟨pq, mz_ks, mz_gs, by omega, ⟨p5.1, by show a < z.1 + 1; omega⟩, ⟨by omega, by show z.1 < z.1 + 1; omega⟩, by rw [go _ p5.2]; exact i3, by rw [go _ p5.2]; exact i4, fun i hi => ?_, by omega⟩, by omega, fun r hr => mz_g1 (by omega), fun r hr h => ?_, fun r hr _ _ => go r hr, ⟨by show z.1 ≤ z.1 + 1; omega, by show z.1 + 1 ≤ z.1 + 12; omega⟩, by show z.2 + (2 * n + 2) ≤ z.2 + 6 * 12; omega, Or.inr (Nat.le_refl _)⟩
    · have e7 : mz_cp (mz_w V z.1 fun _ => 0) v 0 z.1 0 n z.1 i = mz_w V z.1 (fun _ => 0) v (0 + (i - 0)) := if_pos ⟨rfl, by omega, by omega⟩
      rw [e7, mz_w_n _ _ (by omega), show 0 + (i - 0) = i by omega]
      exact i5 i hi
    · funext j
      rw [mz_ka h, mz_g2 (by omega)]
/-- a text behind it -/
theorem B_text (hW : mx_W X P x0) (hx : x0 ≤ y0) (h : bu_I P V z y0 a v n L) (ht : (∃ k l, t = X.2.1 k ∧ mx_S X x0 k l ∧ l.length = q) ∨ (tx_W P V t q y1 z.1 ∧ v < y1 ∧ a < y1)) (hL : L + q ≤ 34) : ∃ (P' : mz_P) (V' : mz_V) (z' : Nat × Nat) (v' n' : Nat), mv_call X (d + 6) 337 [.ref a, .ref t] (mz_h P V, z) = some (.inl (some (.ref a)), (mz_h P' V', z')) ∧ bu_I P' V' z' y0 a v' n' (L + q) ∧ bu_F P V z P' V' z' a v v' 12 := by
  obtain ⟨P1, V1, z1, v1, n1, e1, s1, c1, F1⟩ := B_ensure (X := X) (d := d) h (c := L + q) hL
  have hza := h.2.2.2.2.1
  have hzv := h.2.2.2.2.2.1
  have hW1 : mx_W X P1 x0 := mx_W_l (fun r hr => F1.1 r (by omega)) hW
  have t0 : tx_C X P V z t q v := by
    rcases ht with ⟨k, l, r1, r2, r3⟩ | ⟨r1, r2, r3⟩
    · rw [r1, ← r3]; exact tx_C_O hW r2
    · exact tx_C_W hW r1 (by omega) (Or.inl r2)
  have t1 : tx_C X P1 V1 z1 t q v1 := by
    rcases ht with ⟨k, l, r1, r2, r3⟩ | ⟨r1, r2, r3⟩
    · rw [r1, ← r3]; exact tx_C_O hW1 r2
    · exact tx_C_W hW1 (tx_W_f (fun r _ r5 => F1.1 r r5) (fun r r4 r5 => F1.2.1 r r5 (by omega)) (fun r r4 r5 => F1.2.2.1 r r5 (by omega) (by omega)) r1) (by omega) (by rcases F1.2.2.2.2.2 with e | e <;> omega)
  obtain ⟨p1, p2, p3, p4, p5, p6, i3, i4, i5, i6⟩ := h
  obtain ⟨q1, q2, q3, q4, q5, q6, j3, j4, j5, j6⟩ := s1
  have hav : a ≠ v1 := fun w => by rw [w, q3] at q1; cases q1
  obtain ⟨V2, e335, k1, k2, k3⟩ := t1.2.2.2 (d + 1) L n1 q3 c1 q4.2
  refine ⟨P1, mz_u V2 a 3 (L + q : Nat), z1, v1, n1, ?_, ⟨q1, q2, q3, q4, q5, q6, ?_, mz_u_s _ _ _ _, fun i hi => ?_, c1⟩, F1.1, F1.2.1, fun r hr h1 h2 => ?_, F1.2.2.2⟩
  · have e332 : mv_call X (d + 3) 332 [.ref a, .ref t] (mz_h P1 V1, z1) = some (.inl none, (mz_h P1 V1, z1)) := by
      rw [mc_J5_inflateIfNeededFor_a7421, bk_J5_inflateIfNeededFor_a7421_0, hW.2.1]
      simp only [mv_int]
      rw [if_neg (by decide), mz_gI q1 (by decide), j3, t1.1]
      simp only [mv_clI, mv_cl, t1.2.1]
      rw [if_pos trivial]
    have e333 : mv_call X (d + 4) 333 [.ref a, .int (nZ L), .ref t] (mz_h P1 V1, z1) = some (.inl none, (mz_h P1 V2, z1)) := by
      rw [mc_J5_putStringAt_47b60, bk_J5_putStringAt_47b60_0, mz_rcv q1]
      simp only [mv_clV, mv_cl, e332]
      rw [mz_gR q1 (by decide) q2, mz_gI q1 (by decide), j3, t1.1]
      simp only [e335]
    have e330 : mv_call X (d + 5) 330 [.ref a, .ref t] (mz_h P V, z) = some (.inl (some (.ref a)), (mz_h P1 (mz_u V2 a 3 (L + q : Nat)), z1)) := by
      rw [mc_J5_append_cf1ce, bk_J5_append_cf1ce_0, t0.1]
      simp only [mv_clI, mv_cl, t0.2.2.1]
      rw [mz_gI p1 (by decide), i4, nZ_add, mz_rcv p1, show (L : Int) + (q : Int) = ((L + q : Nat) : Int) by omega]
      simp only [mv_clV, mv_cl, e1]
      rw [mz_gI q1 (by decide), j4, mz_rcv q1]
      simp only [e333]
      rw [mz_gI q1 (by decide), k1 a hav, j4, nZ_add, mz_pf q1 (by decide), show (L : Int) + (q : Int) = ((L + q : Nat) : Int) by omega]
    rw [mc_J4_append_15ec4, bk_J4_append_15ec4_0, mz_rcv p1]
    simp only [mv_clR, mv_cl, e330]
  · rw [mz_u_k _ _ (by decide), k1 a hav]; exact j3
  · rw [mz_u_o (fun w => hav w.symm)]
    by_cases e : i < L
    · rw [k2 i (by omega)]; exact j5 i e
    · exact k3 i (by omega) hi
  · rw [mz_u_o h1, k1 r (by rcases F1.2.2.2.2.2 with e | e <;> omega)]
    exact F1.2.2.1 r hr h1 h2
/-- a number behind it -/
theorem B_num (hW : mx_W X P x0) (hx : x0 ≤ y0) (h : bu_I P V z y0 a v n L) {y : Int} (hL : L + 2 ≤ 34) (hy : 0 ≤ y ∧ y ≤ 99) : ∃ (P' : mz_P) (V' : mz_V) (z' : Nat × Nat) (v' n' L' : Nat), L' ≤ L + 2 ∧ mv_call X (d + 6) 275 [.ref a, .int (nZ y)] (mz_h P V, z) = some (.inl (some (.ref a)), (mz_h P' V', z')) ∧ bu_I P' V' z' y0 a v' n' L' ∧ bu_F P V z P' V' z' a v v' 12 := by
  obtain ⟨N, eN⟩ : ∃ N : Nat, N = if y ≤ 9 then L + 1 else L + 2 := ⟨_, rfl⟩
  have eN1 : L + 1 ≤ N ∧ N ≤ L + 2 := by rw [eN]; split <;> omega
  have eN2 : (L : Int) + (if y ≤ 9 then 1 else 2) = N := by
    rw [eN]; split <;> omega
  obtain ⟨P1, V1, z1, v1, n1, e1, s1, c1, F1⟩ := B_ensure (X := X) (d := d) h (c := N) (by omega)
  have hza := h.2.2.2.2.1
  have hW1 : mx_W X P1 x0 := mx_W_l (fun r hr => F1.1 r (by omega)) hW
  obtain ⟨p1, p2, p3, p4, p5, p6, i3, i4, i5, i6⟩ := h
  obtain ⟨q1, q2, q3, q4, q5, q6, j3, j4, j5, j6⟩ := s1
  have hav : a ≠ v1 := fun w => by rw [w, q3] at q1; cases q1
  obtain ⟨r, er⟩ := J6_get (X := X) (V := V1) (z := z1) (d := d + 3) hW1 q3 q4.2 hy (N := N) c1 (by rw [eN]; split <;> omega)
  obtain ⟨V2, hV2⟩ : ∃ V2, V2 = (if y ≤ 9 then mz_u V1 v1 (N - 1) (48 + y) else mz_u (mz_u V1 v1 (N - 1) (48 + y % 10)) v1 (N - 2) (48 + y / 10)) := ⟨_, rfl⟩
  rw [← hV2] at er
  have go : ∀ r, r ≠ v1 → V2 r = V1 r := fun r hr => by
    rw [hV2]
    split
    · rw [mz_u_o hr]
    · rw [mz_u_o hr, mz_u_o hr]
  refine ⟨P1, mz_u V2 a 3 N, z1, v1, n1, N, eN1.2, ?_, ⟨q1, q2, q3, q4, q5, q6, ?_, mz_u_s _ _ _ _, fun i hi => ?_, c1⟩, F1.1, F1.2.1, fun r hr h1 h2 => ?_, F1.2.2.2⟩
  · have e260 : mv_call X (d + 5) 260 [.ref a, .int (nZ y)] (mz_h P V, z) = some (.inl (some (.ref a)), (mz_h P1 (mz_u V2 a 3 N), z1)) := by
      rw [mc_J5_append_c97b9, bk_J5_append_c97b9_0, mz_gI p1 (by decide), i4]
      simp only [mv_clI, mv_cl, J6_size hy, nZ_add, eN2]
      rw [mz_rcv p1]
      simp only [mv_clV, mv_cl, e1]
      rw [mz_rcv q1]
      simp only [B_latin hW1 q1 j3]
      rw [if_neg (by decide), mz_gR q1 (by decide) q2]
      simp only [er]
      rw [mz_pf q1 (by decide)]
    rw [mc_J4_append_bf812, bk_J4_append_bf812_0, mz_rcv p1]
    simp only [mv_clR, mv_cl, e260]
  · rw [mz_u_k _ _ (by decide), go _ hav]; exact j3
  · rw [mz_u_o (fun w => hav w.symm), hV2]
    by_cases c : y ≤ 9
    · rw [if_pos c] at eN ⊢
      by_cases e : i = N - 1
      · rw [e, mz_u_s]; omega
      · rw [mz_u_k _ _ e]; exact j5 i (by omega)
    · rw [if_neg c] at eN ⊢
      by_cases e : i = N - 2
      · rw [e, mz_u_s]; omega
      · rw [mz_u_k _ _ e]
        by_cases e2 : i = N - 1
        · rw [e2, mz_u_s]; omega
        · rw [mz_u_k _ _ e2]; exact j5 i (by omega)
  · rw [mz_u_o h1, go r (by rcases F1.2.2.2.2.2 with e | e <;> omega)]
    exact F1.2.2.1 r hr h1 h2
/-- its text -/
theorem B_str (hW : mx_W X P x0) (hx : x0 ≤ z.1) (h : bu_I P V z y0 a v n L) (hL : L ≤ 34) : ∃ (P' : mz_P) (V' : mz_V) (z' : Nat × Nat), mv_call X (d + 8) 338 [.ref a] (mz_h P V, z) = some (.inl (some (.ref z.1)), (mz_h P' V', z')) ∧ tx_W P' V' z.1 L z.1 z'.1 ∧ bf_K z.1 P V z P' V' z' 8 := by
  obtain ⟨p1, p2, p3, p4, p5, p6, i3, i4, i5, i6⟩ := h
  obtain ⟨P1, hP1⟩ : ∃ P1, P1 = mz_g P z.1 (.inl 0) := ⟨_, rfl⟩
  obtain ⟨V1, hV1⟩ : ∃ V1, V1 = mz_w V z.1 fun _ => 0 := ⟨_, rfl⟩
  obtain ⟨V2, hV2⟩ : ∃ V2, V2 = mz_u V1 z.1 1 0 := ⟨_, rfl⟩
  have g1 : ∀ r, r < z.1 → P1.1 r = P.1 r := fun r hr => by rw [hP1, mz_g1 (by omega)]
  have g2 : ∀ r, r < z.1 → P1.2 r = P.2 r := fun r hr => by rw [hP1, mz_g2 (by omega)]
  have g3 : ∀ r, r < z.1 → V1 r = V r := fun r hr => by rw [hV1, mz_w_n _ _ (by omega)]
  have g4 : ∀ r, r < z.1 → V2 r = V r := fun r hr => by rw [hV2, mz_u_o (by omega), g3 r hr]
  have hs : P1.1 z.1 = some (.inl 0) := by rw [hP1, mz_gs]
  have hW1 : mx_W X P1 x0 := mx_W_l (fun r hr => g1 r (by omega)) hW
  have q1 : P1.1 a = some (.inl 1) := by rw [g1 a p5.2]; exact p1
  have q2 : P1.2 a 0 = some v := by rw [g2 a p5.2]; exact p2
  have q3 : P1.1 v = some (.inr (.byte, n)) := by rw [g1 v p6.2]; exact p3
  have e340 : ∃ (P3 : mz_P) (V3 : mz_V), mv_call X (d + 5) 340 [.ref v, .int (nZ 0), .int (nZ L)] (mz_h P1 V2, (z.1 + 1, z.2 + 4)) = some (.inl (some (.ref (z.1 + 1))), (mz_h P3 V3, (z.1 + 1 + 1, z.2 + 4 + L))) ∧ P3.1 (z.1 + 1) = some (.inr (.byte, L)) ∧ (∀ j, j < L → V3 (z.1 + 1) j = V v j) ∧ ∀ r, r < z.1 + 1 → P3.1 r = P1.1 r ∧ P3.2 r = P1.2 r ∧ V3 r = V2 r := by
    rw [mc_J7_copyOfRange_39247, bk_J7_copyOfRange_39247_0, if_pos (by decide), mz_len q3]
    by_cases e : L = n
    · subst e
      rw [if_pos rfl, mz_cln q3, mz_isB mz_gs]
      exact ⟨_, _, rfl, mz_gs, fun j hj => by rw [mz_w_s, g4 v p6.2], fun r hr => ⟨mz_g1 (by omega), mz_g2 (by omega), mz_w_n _ _ (by omega)⟩⟩
    · rw [if_neg (by rw [nZ_inj ⟨by omega, by omega⟩ ⟨by omega, by omega⟩]; omega)]
      have e339 : mv_call X (d + 3) 339 [.int (nZ 0), .int (nZ L)] (mz_h P1 V2, (z.1 + 1, z.2 + 4)) = some (.inl none, (mz_h P1 V2, (z.1 + 1, z.2 + 4))) := by
        rw [mc_J7_checkLength_df160, bk_J7_checkLength_df160_0, if_pos ((nZ_le ⟨by omega, by omega⟩ ⟨by omega, by omega⟩).mpr (by omega))]
      have ev : (mz_g P1 (z.1 + 1) (.inr (.byte, L))).1 v = some (.inr (.byte, n)) := by rw [mz_g1 (by omega)]; exact q3
      have e341 : mv_call X (d + 4) 341 [.ref v, .int (nZ 0), .int (nZ L)] (mz_h P1 V2, (z.1 + 1, z.2 + 4)) = some (.inl (some (.ref (z.1 + 1))), (mz_h (mz_g P1 (z.1 + 1) (.inr (.byte, L))) (mz_cp (mz_w V2 (z.1 + 1) fun _ => 0) v 0 (z.1 + 1) 0 L), (z.1 + 1 + 1, z.2 + 4 + L))) := by
        rw [mc_J7_copyOfRangeByte_39247, bk_J7_copyOfRangeByte_39247_0]
        simp only [mv_clV, mv_cl, e339]
        rw [nZ_sub, show (L : Int) - 0 = ((L : Nat) : Int) by omega, mz_newa (t := .byte) (v := .int 0) (n := L) (by omega) rfl, mz_len ev, nZ_sub, show (n : Int) - 0 = (n : Int) by omega]
        simp only [mv_clI, mv_cl, J9_min (show nS (n : Int) from ⟨by omega, by omega⟩) (show nS (L : Int) from ⟨by omega, by omega⟩)]
        rw [if_pos (show (L : Int) < n by omega), mz_cpy ev mz_gs (by decide) (s := 0) (d := 0) (m := L) (by decide) (by decide) (nZ_i ⟨by omega, by omega⟩) (by omega) (by omega)]
      simp only [mv_clR, mv_cl, e341]
      refine ⟨_, _, rfl, mz_gs, fun j hj => ?_, fun r hr => ⟨mz_g1 (by omega), mz_g2 (by omega), ?_⟩⟩
      · have e7 : mz_cp (mz_w V2 (z.1 + 1) fun _ => 0) v 0 (z.1 + 1) 0 L (z.1 + 1) j = mz_w V2 (z.1 + 1) (fun _ => 0) v (0 + (j - 0)) := if_pos ⟨rfl, by omega, by omega⟩
        rw [e7, mz_w_n _ _ (by omega), show 0 + (j - 0) = j by omega, g4 v p6.2]
      · funext j
        unfold mz_cp
        rw [if_neg (fun q => by omega), mz_w_n _ _ (by omega)]
  obtain ⟨P3, V3, e340, k1, k2, k3⟩ := e340
  have e331 : mv_call X (d + 5) 331 [.ref a] (mz_h P1 V1, (z.1 + 1, z.2 + 4)) = some (.inl (some (.ref v)), (mz_h P1 V1, (z.1 + 1, z.2 + 4))) := by
    rw [mc_J5_getValue_6d5f1, bk_J5_getValue_6d5f1_0, mz_gR q1 (by decide) q2]
  have e278 : mv_call X (d + 5) 278 [.ref a] (mz_h P1 V1, (z.1 + 1, z.2 + 4)) = some (.inl (some (.int (nZ L))), (mz_h P1 V1, (z.1 + 1, z.2 + 4))) := by
    have e254 : mv_call X (d + 4) 254 [.ref a] (mz_h P1 V1, (z.1 + 1, z.2 + 4)) = some (.inl (some (.int (nZ L))), (mz_h P1 V1, (z.1 + 1, z.2 + 4))) := by
      rw [mc_J5_length_8abf5, bk_J5_length_8abf5_0, mz_gI q1 (by decide), g3 a p5.2, i4]
    rw [mc_J4_length_8abf5, bk_J4_length_8abf5_0, mz_rcv q1]
    simp only [mv_clI, mv_cl, e254]
  have k4 := k3 z.1 (by omega)
  have e336 : mv_call X (d + 6) 336 [.ref z.1, .ref a, .null] (mz_h P1 V1, (z.1 + 1, z.2 + 4)) = some (.inl none, (mz_h (mz_k P3 z.1 0 (z.1 + 1)) V3, (z.1 + 1 + 1, z.2 + 4 + L))) := by
    rw [mc_J0_init_db425, bk_J0_init_db425_0, mz_rcv q1]
    simp only [mv_clR, mv_cl, e331]
    rw [mz_rcv q1]
    simp only [mv_clI, mv_cl, e278]
    rw [mz_rcv q1]
    simp only [B_latin hW1 q1 (show V1 a 1 = 0 by rw [g3 a p5.2]; exact i3)]
    rw [if_neg (by decide), mv_chk_t (by decide), mz_pf hs (by decide), ← hV2]
    simp only [e340]
    rw [mz_pr (show P3.1 z.1 = some (.inl 0) by rw [k4.1]; exact hs) (by decide)]
  refine ⟨mz_k P3 z.1 0 (z.1 + 1), V3, (z.1 + 1 + 1, z.2 + 4 + L), ?_, ⟨z.1 + 1, by rw [mz_k1, k4.1]; exact hs, mz_ks, by rw [k4.2.2, hV2, mz_u_s], by rw [mz_k1]; exact k1, fun j hj => by rw [k2 j hj]; exact i5 j hj, ⟨Nat.le_refl _, by show z.1 < z.1 + 1 + 1; omega⟩, ⟨by omega, by show z.1 + 1 < z.1 + 1 + 1; omega⟩⟩, fun r hr => ?_, ⟨by show z.1 ≤ z.1 + 1 + 1; omega, by show z.1 + 1 + 1 ≤ z.1 + 8; omega⟩, by show z.2 + 4 + L ≤ z.2 + 6 * 8; omega⟩
  · rw [mc_J4_toString_0e30d, bk_J4_toString_0e30d_0, mz_new (by rfl), ← hP1, ← hV1]
    have e334 : mv_call X (d + 7) 334 [.ref z.1, .ref a] (mz_h P1 V1, (z.1 + 1, z.2 + 4)) = some (.inl none, (mz_h (mz_k P3 z.1 0 (z.1 + 1)) V3, (z.1 + 1 + 1, z.2 + 4 + L))) := by
      rw [mc_J0_init_81219, bk_J0_init_81219_0]
      simp only [mv_clV, mv_cl, e336]
    simp only [mv_clV, mv_cl, e334]
  · obtain ⟨r1, r2, r3⟩ := k3 r (by omega)
    refine ⟨by rw [mz_k1, r1, g1 r hr], ?_, by rw [r3, g4 r hr]⟩
    funext j
    rw [mz_ka (by omega), r2, g2 r hr]
/-- a new one -/
theorem B_new (hW : mx_W X P x0) (h : P.1 a = some (.inl 1)) (h3 : V a 3 = 0) (ha : y0 ≤ a ∧ a < z.1) : ∃ (P' : mz_P) (V' : mz_V), mv_call X (d + 2) 273 [.ref a] (mz_h P V, z) = some (.inl none, (mz_h P' V', (z.1 + 1, z.2 + 16))) ∧ bu_I P' V' (z.1 + 1, z.2 + 16) y0 a z.1 16 0 ∧ ∀ r, r < z.1 → r ≠ a → P'.1 r = P.1 r ∧ P'.2 r = P.2 r ∧ V' r = V r := by
  have e253 : mv_call X (d + 1) 253 [.ref a, .int (nZ 16)] (mz_h P V, z) = some (.inl none, (mz_h (mz_k (mz_g P z.1 (.inr (.byte, 16))) a 0 z.1) (mz_u (mz_w V z.1 fun _ => 0) a 1 0), (z.1 + 1, z.2 + 16))) := by
    have q1 : (mz_g P z.1 (.inr (.byte, 16))).1 a = some (.inl 1) := by rw [mz_g1 (by omega)]; exact h
    rw [mc_J5_init_d00df, bk_J5_init_d00df_0, hW.2.1]
    simp only [mv_int]
    rw [if_neg (by decide), show (16 : Int) = ((16 : Nat) : Int) from rfl, mz_newa (t := .byte) (v := .int 0) (n := 16) (by omega) rfl, mz_pr q1 (by decide), mv_chk_t (by decide), mz_pf (show (mz_k (mz_g P z.1 (.inr (.byte, 16))) a 0 z.1).1 a = some (.inl 1) from q1) (by decide)]
  refine ⟨mz_k (mz_g P z.1 (.inr (.byte, 16))) a 0 z.1, mz_u (mz_w V z.1 fun _ => 0) a 1 0, ?_, ⟨by rw [mz_k1, mz_g1 (by omega)]; exact h, mz_ks, by rw [mz_k1, mz_gs], by omega, ⟨ha.1, by show a < z.1 + 1; omega⟩, ⟨by omega, by show z.1 < z.1 + 1; omega⟩, mz_u_s _ _ _ _, ?_, fun i hi => absurd hi (Nat.not_lt_zero _), by omega⟩, fun r hr hra => ⟨by rw [mz_k1, mz_g1 (by omega)], ?_, by rw [mz_u_o hra, mz_w_n _ _ (by omega)]⟩⟩
  · rw [mc_J4_init_da8c8, bk_J4_init_da8c8_0]
    simp only [mv_clV, mv_cl, e253]
  · rw [mz_u_k _ _ (by decide), mz_w_n _ _ (by omega), h3]
    rfl
  · funext j
    rw [mz_ka hra, mz_g2 (by omega)]
end TXT
