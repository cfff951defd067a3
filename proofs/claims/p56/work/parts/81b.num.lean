/-! THE LINE'S BUILDER: numbers; the line told -/
def ln_c (q : Nat × (Nat → Int)) (y : Int) : Nat × (Nat → Int) := (q.1 + 1, mr_up q.2 q.1 y)
def ln_n (q : Nat × (Nat → Int)) (y : Int) : Nat × (Nat → Int) := if y ≤ 9 then ln_c q (48 + y) else ln_c (ln_c q (48 + y / 10)) (48 + y % 10)
theorem nZ_ofn {x : Int} : nZ (-x) = nZ (0 - x) := by rw [show -x = 0 - x by omega]
section NUM
variable {X : mv_X} {P : mz_P} {V : mz_V} {z : Nat × Nat} {x v n d L x0 : Nat} {f : Nat → Int} {y : Int}
theorem J6_size (hy : 0 ≤ y ∧ y ≤ 99) {hp : mv_H} : mv_call X (d + 1) 263 [.int (nZ y)] hp = some (.inl (some (.int (nZ (if y ≤ 9 then 1 else 2)))), hp) := by
  rw [mc_J6_stringSize_0f7a4, bk_J6_stringSize_0f7a4_0, if_neg (by rw [nZ_lt0 ⟨by omega, by omega⟩]; omega), nZ_neg, bk_J6_stringSize_0f7a4_16, if_neg (by decide)]
  by_cases c : y ≤ 9
  · rw [if_neg (by rw [nZ_le ⟨by omega, by omega⟩ (by decide)]; omega), nZ_add, if_pos c]
    rfl
  · rw [if_pos (by rw [nZ_le ⟨by omega, by omega⟩ (by decide)]; omega), nZ_mul, nZ_add, bk_J6_stringSize_0f7a4_16, if_neg (by decide), if_neg (by rw [nZ_le ⟨by omega, by omega⟩ (by decide)]; omega), nZ_add, if_neg c]
    rfl
/-- the digits, the last first -/
theorem J6_get (hW : mx_W X P x0) (hv : P.1 v = some (.inr (.byte, n))) (hn : n ≤ 200) (hy : 0 ≤ y ∧ y ≤ 99) {N : Nat} (hN : N ≤ n) (h2 : 2 ≤ N ∨ (y ≤ 9 ∧ 1 ≤ N)) : ∃ r : Int, mv_call X (d + 1) 262 [.int (nZ y), .int (nZ N), .ref v] (mz_h P V, z) = some (.inl (some (.int (nZ r))), (mz_h P (if y ≤ 9 then mz_u V v (N - 1) (48 + y) else mz_u (mz_u V v (N - 1) (48 + y % 10)) v (N - 2) (48 + y / 10)), z)) := by
  obtain ⟨w0, w1, ⟨t1, N1, g1, a1, a2, a3, aN, a4⟩, ⟨t2, N2, g2, b1, b2, b3, bN, b4⟩, -⟩ := hW
  have o1 : ∀ (V : mz_V) (F : Int32 → Option mv_R), mv_aI X (mz_h P V, z) 8 t1 (nZ y) F = F (nZ (48 + y % 10)) := fun V F => by
    refine mx_aO (w0 t1 a1) a3 hy.1 (by omega) (by omega) ?_
    rw [a4 y.toNat (by omega), show ((y.toNat : Nat) : Int) = y by omega]
  have o2 : ∀ (V : mz_V) (F : Int32 → Option mv_R), mv_aI X (mz_h P V, z) 8 t2 (nZ y) F = F (nZ (48 + y / 10)) := fun V F => by
    refine mx_aO (w0 t2 b1) b3 hy.1 (by omega) (by omega) ?_
    rw [b4 y.toNat (by omega), show ((y.toNat : Nat) : Int) = y by omega]
  rw [mc_J6_getChars_ba4f3, bk_J6_getChars_ba4f3_0, if_pos ((nZ_0le ⟨by omega, by omega⟩).mpr hy.1), if_pos (by rfl), nZ_neg, bk_J6_getChars_ba4f3_22, if_pos (by rw [nZ_lt (by decide) ⟨by omega, by omega⟩]; omega), a2]
  simp only [mv_ref]
  rw [nZ_neg, show - -y = y by omega, o1, (sb_by (show 0 ≤ 48 + y % 10 ∧ 48 + y % 10 ≤ 127 by omega)).1, nZ_add, show (N : Int) + -1 = ((N - 1 : Nat) : Int) by omega, mz_as hv (by decide) (nZ_i ⟨by omega, by omega⟩) (by omega)]
  by_cases c : y ≤ 9
  · rw [if_pos (by rw [nZ_le (by decide) ⟨by omega, by omega⟩]; omega), if_pos (by rfl), if_pos c, show y % 10 = y by omega]
    exact ⟨_, rfl⟩
  · rw [if_neg (by rw [nZ_le (by decide) ⟨by omega, by omega⟩]; omega), b2]
    simp only []
    rw [o2, (sb_by (show 0 ≤ 48 + y / 10 ∧ 48 + y / 10 ≤ 127 by omega)).1, nZ_add, show ((N - 1 : Nat) : Int) + -1 = ((N - 2 : Nat) : Int) by omega, mz_as hv (by decide) (nZ_i ⟨by omega, by omega⟩) (by omega), if_pos (by rfl), if_neg c]
    exact ⟨_, rfl⟩
/-- one number -/
theorem J4_num (hW : mx_W X P x0) (hx : x0 ≤ x) (h : sb_I P V z x v n L f) (hL : L + 2 ≤ 34) (hy : 0 ≤ y ∧ y ≤ 99) : ∃ (P' : mz_P) (V' : mz_V) (z' : Nat × Nat) (v' n' : Nat), mv_call X (d + 6) 275 [.ref (x + 367), .int (nZ y)] (mz_h P V, z) = some (.inl (some (.ref (x + 367))), (mz_h P' V', z')) ∧ sb_I P' V' z' x v' n' (ln_n (L, f) y).1 (ln_n (L, f) y).2 ∧ sb_F P V z P' V' z' x v v' 1 := by
  obtain ⟨N, hN⟩ : ∃ N : Nat, N = (ln_n (L, f) y).1 := ⟨_, rfl⟩
  have eN : N = if y ≤ 9 then L + 1 else L + 2 := by
    rw [hN]; unfold ln_n
    split <;> rfl
  have eN2 : (L : Int) + (if y ≤ 9 then 1 else 2) = N := by
    rw [eN]; split <;> omega
  obtain ⟨P1, V1, z1, v1, n1, e1, s1, c1, F1⟩ := J5_ensure (X := X) (d := d) h (c := N) (by rw [eN]; split <;> omega)
  have hW1 := mx_W_F F1 (by have := h.2.1.1; omega) hW
  obtain ⟨p1, p2, p3, p4, p5, p6⟩ := sb_P h
  obtain ⟨q1, q2, q3, q4, q5, q6⟩ := sb_P s1
  obtain ⟨i1, i2, i3, i4, i5, i6⟩ := s1
  have hv1 : x + 367 ≠ v1 := by omega
  obtain ⟨r, er⟩ := J6_get (X := X) (V := V1) (z := z1) (d := d + 3) hW1 q3 q5 hy (N := N) c1 (by rw [eN]; split <;> omega)
  obtain ⟨V2, hV2⟩ : ∃ V2, V2 = (if y ≤ 9 then mz_u V1 v1 (N - 1) (48 + y) else mz_u (mz_u V1 v1 (N - 1) (48 + y % 10)) v1 (N - 2) (48 + y / 10)) := ⟨_, rfl⟩
  rw [← hV2] at er
  have go : ∀ r, r ≠ v1 → V2 r = V1 r := fun r hr => by
    rw [hV2]
    split
    · rw [mz_u_o hr]
    · rw [mz_u_o hr, mz_u_o hr]
  refine ⟨P1, mz_u V2 (x + 367) 3 N, z1, v1, n1, ?_, ⟨i1, i2, ?_, ?_, fun i hi => ?_, by omega⟩, F1.1, F1.2.1, fun r hr h1 h2 => ?_, F1.2.2.2⟩
  · have e260 : mv_call X (d + 5) 260 [.ref (x + 367), .int (nZ y)] (mz_h P V, z) = some (.inl (some (.ref (x + 367))), (mz_h P1 (mz_u V2 (x + 367) 3 N), z1)) := by
      rw [mc_J5_append_c97b9, bk_J5_append_c97b9_0, mz_gI p1 (by decide), h.2.2.2.1]
      simp only [mv_clI, mv_cl, J6_size hy, nZ_add, eN2]
      rw [mz_rcv p1]
      simp only [mv_clV, mv_cl, e1]
      rw [mz_rcv q1]
      simp only [J5_latin hW1 q1 i3]
      rw [if_neg (by decide), mz_gR q1 (by decide) q2]
      simp only [er]
      rw [mz_pf q1 (by decide)]
    rw [mc_J4_append_bf812, bk_J4_append_bf812_0, mz_rcv p1]
    simp only [mv_clR, mv_cl, e260]
  · rw [mz_u_k _ _ (by decide), go _ hv1]; exact i3
  · rw [mz_u_s, hN]
  · rw [mz_u_o (fun q => hv1 q.symm), hV2]
    have old : ∀ i, i < L → V1 v1 i = f i := i5
    rw [← hN, eN] at hi
    unfold ln_n
    by_cases c : y ≤ 9
    · rw [if_pos c, if_pos c]
      rw [if_pos c] at hi eN
      show _ = mr_up f L (48 + y) i
      by_cases e : i = L
      · subst e; rw [show N - 1 = i by omega, mz_u_s, mr_up_s]
      · rw [mz_u_k _ _ (by omega), mr_up_n _ _ e]; exact old i (by omega)
    · rw [if_neg c, if_neg c]
      rw [if_neg c] at hi eN
      show _ = mr_up (mr_up f L (48 + y / 10)) (L + 1) (48 + y % 10) i
      by_cases e : i = L + 1
      · subst e; rw [mz_u_k _ _ (by omega), show N - 1 = L + 1 by omega, mz_u_s, mr_up_s]
      · rw [mr_up_n _ _ e]
        by_cases e2 : i = L
        · subst e2; rw [show N - 2 = i by omega, mz_u_s, mr_up_s]
        · rw [mz_u_k _ _ (by omega), mz_u_k _ _ (by omega), mr_up_n _ _ e2]; exact old i (by omega)
  · rw [mz_u_o h1, go r (by have := F1.2.2.2.2.2; omega)]
    exact F1.2.2.1 r hr h1 h2
/-- emptied -/
theorem J4_empty (h : sb_I P V z x v n L f) : ∃ V' : mz_V, mv_call X (d + 6) 277 [.ref (x + 367), .int (nZ 0)] (mz_h P V, z) = some (.inl none, (mz_h P V', z)) ∧ sb_I P V' z x v n 0 f ∧ sb_F P V z P V' z x v v 0 := by
  obtain ⟨p1, p2, p3, p4, p5, p6⟩ := sb_P h
  obtain ⟨i1, i2, i3, i4, i5, i6⟩ := h
  have e255 : mv_call X (d + 4) 255 [.ref (x + 367), .int (nZ 0)] (mz_h P V, z) = some (.inl none, (mz_h P V, z)) := by
    rw [mc_J5_ensureCapacityInternal_d00df, bk_J5_ensureCapacityInternal_d00df_0, mz_gR p1 (by decide) p2, mz_len p3, mz_gI p1 (by decide), i3, sh0r, nZ_sub, if_pos ((nZ_le0 ⟨by omega, by omega⟩).mpr (by omega))]
  have e257 : ∃ V' : mz_V, mv_call X (d + 5) 257 [.ref (x + 367), .int (nZ 0)] (mz_h P V, z) = some (.inl none, (mz_h P V', z)) ∧ V' (x + 367) 1 = 0 ∧ V' (x + 367) 3 = 0 ∧ ∀ r, r ≠ x + 367 → V' r = V r := by
    rw [mc_J5_setLength_d00df, bk_J5_setLength_d00df_0, if_pos (by decide), mz_rcv p1]
    simp only [mv_clV, mv_cl, e255]
    rw [mz_gI p1 (by decide), i4, if_pos (by rw [nZ_le (by decide) ⟨by omega, by omega⟩]; omega), mz_gI p1 (by decide), i4]
    by_cases c : nZ L ≤ nZ 0
    · rw [if_pos c, mz_pf p1 (by decide)]
      exact ⟨_, rfl, by rw [mz_u_k _ _ (by decide)]; exact i3, mz_u_s _ _ _ _, fun r hr => mz_u_o hr⟩
    · rw [if_neg c, mv_chk_t (by decide), mz_pf p1 (by decide), mz_pf p1 (by decide)]
      exact ⟨_, rfl, by rw [mz_u_k _ _ (by decide), mz_u_k _ _ (by decide)]; exact i3, mz_u_s _ _ _ _, fun r hr => by rw [mz_u_o hr, mz_u_o hr]⟩
  obtain ⟨V', w1, w2, w3, w4⟩ := e257
  refine ⟨V', ?_, ⟨i1, i2, w2, w3, fun i hi => absurd hi (Nat.not_lt_zero _), by omega⟩, fun _ _ => rfl, fun _ _ _ => rfl, fun r hr h1 h2 => w4 r h1, ⟨Nat.le_refl _, Nat.le_refl _⟩, ⟨Nat.le_refl _, Nat.le_refl _⟩, Or.inl rfl⟩
  rw [mc_J4_setLength_d00df, bk_J4_setLength_d00df_0, mz_rcv p1]
  simp only [mv_clV, mv_cl, w1]
theorem J4_length (hP : mX_P P x v n) (h3 : V (x + 367) 3 = (L : Int)) : mv_call X (d + 2) 278 [.ref (x + 367)] (mz_h P V, z) = some (.inl (some (.int (nZ L))), (mz_h P V, z)) := by
  have p1 := hP.2.2.2.2.2.1.1
  have e254 : mv_call X (d + 1) 254 [.ref (x + 367)] (mz_h P V, z) = some (.inl (some (.int (nZ L))), (mz_h P V, z)) := by
    rw [mc_J5_length_8abf5, bk_J5_length_8abf5_0, mz_gI p1 (by decide), h3]
  rw [mc_J4_length_8abf5, bk_J4_length_8abf5_0, mz_rcv p1]
  simp only [mv_clI, mv_cl, e254]
end NUM
