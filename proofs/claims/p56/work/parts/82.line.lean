/-! A BALLOON WRITTEN -/
def ln_bags (s : Nat → Int) (a : Nat) : Nat → Nat → Nat × (Nat → Int) → Nat × (Nat → Int)
  | _, 0, q => q
  | i, k + 1, q => ln_bags s a (i + 1) k (ln_n (ln_c q 43) (s (6 + 11 * a + (5 + i))))
def ln_h (s : Nat → Int) (f : Nat → Int) (a : Nat) : Nat × (Nat → Int) := ln_n (ln_c (ln_n (ln_c (ln_n (0, f) a) 58) (mr_ho s a 0)) 47) (s (6 + 11 * a + 2))
def ln_w (s : Nat → Int) (f : Nat → Int) (a : Nat) : Nat × (Nat → Int) := ln_bags s a 0 (s (6 + 11 * a + 4)).toNat (if s (6 + 11 * a + 3) < mr_ho s a 0 then ln_c (ln_h s f a) 33 else ln_h s f a)
def mg_wl (w : mz_V) (a : Nat) : mz_V := mz_u (mz_w w 8 (ln_w (w 1) (w 8) a).2) 0 16 (ln_w (w 1) (w 8) a).1
theorem ln_n_1 (q : Nat × (Nat → Int)) (y : Int) : q.1 + 1 ≤ (ln_n q y).1 ∧ (ln_n q y).1 ≤ q.1 + 2 := by
  unfold ln_n ln_c
  split
  · show q.1 + 1 ≤ q.1 + 1 ∧ q.1 + 1 ≤ q.1 + 2
    omega
  · show q.1 + 1 ≤ q.1 + 1 + 1 ∧ q.1 + 1 + 1 ≤ q.1 + 2
    omega
theorem ln_bags_1 (s : Nat → Int) (a : Nat) : ∀ k i q, q.1 ≤ (ln_bags s a i k q).1 ∧ (ln_bags s a i k q).1 ≤ q.1 + 3 * k
  | 0, _, q => ⟨Nat.le_refl _, Nat.le_refl _⟩
  | k + 1, i, q => by
    have h := ln_bags_1 s a k (i + 1) (ln_n (ln_c q 43) (s (6 + 11 * a + (5 + i))))
    have h2 := ln_n_1 (ln_c q 43) (s (6 + 11 * a + (5 + i)))
    have h3 : (ln_c q 43).1 = q.1 + 1 := rfl
    show q.1 ≤ (ln_bags s a (i + 1) k (ln_n (ln_c q 43) (s (6 + 11 * a + (5 + i))))).1 ∧ (ln_bags s a (i + 1) k (ln_n (ln_c q 43) (s (6 + 11 * a + (5 + i))))).1 ≤ q.1 + 3 * (k + 1)
    omega
theorem ln_h_1 (s f : Nat → Int) (a : Nat) : (ln_h s f a).1 ≤ 8 := by
  unfold ln_h
  have h1 := ln_n_1 (0, f) a
  have h2 := ln_n_1 (ln_c (ln_n (0, f) a) 58) (mr_ho s a 0)
  have h3 := ln_n_1 (ln_c (ln_n (ln_c (ln_n (0, f) a) 58) (mr_ho s a 0)) 47) (s (6 + 11 * a + 2))
  have e : ∀ q y, (ln_c q y).1 = q.1 + 1 := fun _ _ => rfl
  rw [e] at h2 h3
  have e0 : ((0 : Nat), f).1 = 0 := rfl
  rw [e0] at h1
  omega
def ln_ok (q : Nat × (Nat → Int)) : Prop := ∀ i, i < q.1 → 0 ≤ q.2 i ∧ q.2 i ≤ 127
theorem ln_c_ok {q : Nat × (Nat → Int)} {y : Int} (h : ln_ok q) (hy : 0 ≤ y ∧ y ≤ 127) : ln_ok (ln_c q y) := fun i hi => by
  have hi : i < q.1 + 1 := hi
  show 0 ≤ mr_up q.2 q.1 y i ∧ mr_up q.2 q.1 y i ≤ 127
  by_cases e : i = q.1
  · rw [e, mr_up_s]; exact hy
  · rw [mr_up_n _ _ e]; exact h i (by omega)
theorem ln_n_ok {q : Nat × (Nat → Int)} {y : Int} (h : ln_ok q) (hy : 0 ≤ y ∧ y ≤ 99) : ln_ok (ln_n q y) := by
  unfold ln_n
  split
  · exact ln_c_ok h (by omega)
  · exact ln_c_ok (ln_c_ok h (by omega)) (by omega)
theorem ln_bags_ok {s : Nat → Int} (hI : mr_I s) {a : Nat} (ha : a < 10) : ∀ k i q, i + k ≤ 6 → ln_ok q → ln_ok (ln_bags s a i k q)
  | 0, _, q, _, h => h
  | k + 1, i, q, hk, h => ln_bags_ok hI ha k (i + 1) _ (by omega) (ln_n_ok (ln_c_ok h (by omega)) (by have := hI.bag ha (show i < 6 by omega); omega))
theorem ln_w_ok {s : Nat → Int} (hI : mr_I s) {a : Nat} (ha : a < 10) (f : Nat → Int) : ln_ok (ln_w s f a) ∧ (ln_w s f a).1 ≤ 27 := by
  have h5 := hI.bags ha
  have g0 := mr_ho0 hI ha 0
  have g1 := mr_ho1 hI ha 0
  have g2 := hI.string ha
  have hh : ln_ok (ln_h s f a) := ln_n_ok (ln_c_ok (ln_n_ok (ln_c_ok (ln_n_ok (fun i hi => absurd hi (Nat.not_lt_zero _)) (by omega)) (by omega)) (by omega)) (by omega)) (by omega)
  have h1 := ln_h_1 s f a
  have h2 := ln_bags_1 s a (s (6 + 11 * a + 4)).toNat 0 (if s (6 + 11 * a + 3) < mr_ho s a 0 then ln_c (ln_h s f a) 33 else ln_h s f a)
  refine ⟨ln_bags_ok hI ha _ _ _ (by omega) ?_, ?_⟩
  · split
    · exact ln_c_ok hh (by omega)
    · exact hh
  · have h3 : (if s (6 + 11 * a + 3) < mr_ho s a 0 then ln_c (ln_h s f a) 33 else ln_h s f a).1 ≤ 9 := by
      split
      · show (ln_h s f a).1 + 1 ≤ 9; omega
      · omega
    unfold ln_w
    omega
theorem mg_wl_J {w : mz_V} {b : Int} (hJ : mg_J w b) {a : Nat} (ha : a < 10) : mg_J (mg_wl w a) b := by
  obtain ⟨hI, hK⟩ := hJ
  obtain ⟨l1, l2⟩ := ln_w_ok hI.1.1 ha (w 8)
  have eu : ∀ q, q ≠ 16 → mg_wl w a 0 q = w 0 q := fun q hq => by unfold mg_wl; rw [mz_u_k _ _ hq, mz_w_n _ _ (by decide)]
  have er : ∀ r, r ≠ 0 → r ≠ 8 → mg_wl w a r = w r := fun r h0 h1 => by unfold mg_wl; rw [mz_u_o h0, mz_w_n _ _ h1]
  have e16 : mg_wl w a 0 16 = (ln_w (w 1) (w 8) a).1 := by unfold mg_wl; rw [mz_u_s]
  have e8 : mg_wl w a 8 = (ln_w (w 1) (w 8) a).2 := by unfold mg_wl; rw [mz_u_o (by decide), mz_w_s]
  refine ⟨?_, fun q => by rw [eu 21 (by decide)]; rw [eu 19 (by decide)] at q; exact hK q⟩
  unfold mg_I at hI ⊢
  obtain ⟨a1, a3, a4, a5, a6, a7, a8, a9, a10, a11⟩ := hI
  rw [er 1 (by decide) (by decide), er 3 (by decide) (by decide), er 4 (by decide) (by decide), er 6 (by decide) (by decide), eu 6 (by decide), eu 7 (by decide), eu 15 (by decide), eu 17 (by decide), eu 19 (by decide), eu 20 (by decide), eu 21 (by decide), e16, e8]
  exact ⟨a1, a3, a4, a5, a6, a7, a8, by omega, fun i hi => l1 i (by omega), a11⟩
/-- so far q is written, from the start at P V z v on -/
def sb_S (P0 : mz_P) (V0 : mz_V) (z0 : Nat × Nat) (v0 x : Nat) (q : Nat × (Nat → Int)) (c : Nat) (P : mz_P) (V : mz_V) (z : Nat × Nat) (v n : Nat) : Prop := sb_I P V z x v n q.1 q.2 ∧ sb_F P0 V0 z0 P V z x v0 v c
theorem sb_F_le {P P1 : mz_P} {V V1 : mz_V} {z z1 : Nat × Nat} {x v v1 c1 c2 : Nat} (hc : c1 ≤ c2) (h : sb_F P V z P1 V1 z1 x v v1 c1) : sb_F P V z P1 V1 z1 x v v1 c2 := by
  obtain ⟨a1, a2, a3, a4, a5, a6⟩ := h
  exact ⟨a1, a2, a3, by omega, by omega, a6⟩
section LINE
variable {X : mv_X} {P0 P : mz_P} {V0 V : mz_V} {z0 z : Nat × Nat} {x v0 v n0 n d c x0 m : Nat} {q : Nat × (Nat → Int)} {y b : Int} {s : Nat → Int} {w : mz_V}
theorem sb_char (hx : x0 ≤ x) (hz : x + 376 ≤ z0.1) (hW : mx_W X P0 x0) (h : sb_S P0 V0 z0 v0 x q c P V z v n) (hL : q.1 + 1 ≤ 34) (hy : 0 ≤ y ∧ y ≤ 127) : ∃ (P' : mz_P) (V' : mz_V) (z' : Nat × Nat) (v' n' : Nat), mv_call X (d + 6) 274 [.ref (x + 367), .int (nZ y)] (mz_h P V, z) = some (.inl (some (.ref (x + 367))), (mz_h P' V', z')) ∧ sb_S P0 V0 z0 v0 x (ln_c q y) (c + 1) P' V' z' v' n' := by
  obtain ⟨P', V', z', v', n', e, h1, h2⟩ := J4_char (X := X) (d := d) (mx_W_F h.2 (by omega) hW) hx h.1 hL hy
  exact ⟨P', V', z', v', n', e, h1, sb_F_tr h.2 h2⟩
theorem sb_num (hx : x0 ≤ x) (hz : x + 376 ≤ z0.1) (hW : mx_W X P0 x0) (h : sb_S P0 V0 z0 v0 x q c P V z v n) (hL : q.1 + 2 ≤ 34) (hy : 0 ≤ y ∧ y ≤ 99) : ∃ (P' : mz_P) (V' : mz_V) (z' : Nat × Nat) (v' n' : Nat), mv_call X (d + 6) 275 [.ref (x + 367), .int (nZ y)] (mz_h P V, z) = some (.inl (some (.ref (x + 367))), (mz_h P' V', z')) ∧ sb_S P0 V0 z0 v0 x (ln_n q y) (c + 1) P' V' z' v' n' := by
  obtain ⟨P', V', z', v', n', e, h1, h2⟩ := J4_num (X := X) (d := d) (mx_W_F h.2 (by omega) hW) hx h.1 hL hy
  exact ⟨P', V', z', v', n', e, h1, sb_F_tr h.2 h2⟩
theorem sb_R (hz : x + 376 ≤ z0.1) (hv : v0 = x + 368 ∨ x + 376 ≤ v0) (hI : mr_I s) (hR : mh_R V0 (x + 1) s) (h : sb_S P0 V0 z0 v0 x q c P V z v n) : mh_R V (x + 1) s := mh_R_f hI.pil.2 (fun r ra rb => h.2.2.2.1 r (by omega) (by omega) (by omega)) hR
theorem Q8_bags (hx : x0 ≤ x) (hz : x + 376 ≤ z0.1) (hv : v0 = x + 368 ∨ x + 376 ≤ v0) (hW : mx_W X P0 x0) (hI : mr_I s) (hR : mh_R V0 (x + 1) s) {a : Nat} (ha : a < 10) (hh : s (6 + 11 * a) = 1) : ∀ (k i : Nat), (i : Int) + k = s (6 + 11 * a + 4) → ∀ (q : Nat × (Nat → Int)) (c : Nat) (P : mz_P) (V : mz_V) (z : Nat × Nat) (v n : Nat), sb_S P0 V0 z0 v0 x q c P V z v n → q.1 + 3 * k ≤ 34 →
    ∃ (P' : mz_P) (V' : mz_V) (z' : Nat × Nat) (v' n' : Nat), mv_run X (mv_call X (d + 6)) m_X8_writeBalloon 66 [.ref x, .int (nZ a), .ref (x + 1 + 5 + 2 * a), .int (nZ i)] [] (mz_h P V, z) = some (.inl (some (.int (nZ (ln_bags s a i k q).1))), (mz_h P' V', z')) ∧ sb_S P0 V0 z0 v0 x (ln_bags s a i k q) (c + 2 * k) P' V' z' v' n' := by
  have h5 := hI.bags ha
  intro k
  induction k with
  | zero =>
    intro i hi q c P V z v n h hL
    have hP := h.1.1
    have hR2 := sb_R hz hv hI hR h
    obtain ⟨p1, p2, p3, p4, p5⟩ := (hR2.1 a ha).2.2.1 hh
    refine ⟨P, V, z, v, n, ?_, h⟩
    rw [bk_X8_writeBalloon_66, mz_gI (hP.h0.b ha).1 (by decide), p4, if_pos (by rw [nZ_le ⟨by omega, by omega⟩ ⟨by omega, by omega⟩]; omega), mx_g7 hP, mz_rcv hP.2.2.2.2.2.1.1]
    simp only [mv_clI, mv_cl, J4_length (d := d + 4) hP h.1.2.2.2.1]
    rfl
  | succ k ih =>
    intro i hi q c P V z v n h hL
    have hP := h.1.1
    have hR2 := sb_R hz hv hI hR h
    obtain ⟨p1, p2, p3, p4, p5⟩ := (hR2.1 a ha).2.2.1 hh
    obtain ⟨P1, V1, z1, v1, n1, e1, s1⟩ := sb_char (X := X) (d := d) hx hz hW h (by omega) (show 0 ≤ (43 : Int) ∧ (43 : Int) ≤ 127 by decide)
    have hP1 := s1.1.1
    have hR3 := sb_R hz hv hI hR s1
    obtain ⟨r1, r2, r3, r4, r5⟩ := (hR3.1 a ha).2.2.1 hh
    have hbag := hI.bag ha (show i < 6 by omega)
    have l1 : (ln_c q 43).1 = q.1 + 1 := rfl
    obtain ⟨P2, V2, z2, v2, n2, e2, s2⟩ := sb_num (X := X) (d := d) hx hz hW s1 (by omega) (show 0 ≤ s (6 + 11 * a + (5 + i)) ∧ s (6 + 11 * a + (5 + i)) ≤ 99 by omega)
    have l2 := ln_n_1 (ln_c q 43) (s (6 + 11 * a + (5 + i)))
    obtain ⟨P3, V3, z3, v3, n3, e3, s3⟩ := ih (i + 1) (by omega) _ _ P2 V2 z2 v2 n2 s2 (by omega)
    rw [nc1] at e3
    refine ⟨P3, V3, z3, v3, n3, ?_, ?_⟩
    · rw [bk_X8_writeBalloon_66, mz_gI (hP.h0.b ha).1 (by decide), p4, if_neg (by rw [nZ_le ⟨by omega, by omega⟩ ⟨by omega, by omega⟩]; omega), mx_g7 hP, mz_rcv hP.2.2.2.2.2.1.1]
      simp only [mv_clR, mv_cl, e1]
      rw [mz_gR (hP1.h0.b ha).1 (by decide) (hP1.h0.b ha).2.1, mz_aJ (hP1.h0.b ha).2.2 (by omega) (by omega) (by decide), Int.toNat_natCast, r5 i (by omega), mz_rcv hP1.2.2.2.2.2.1.1]
      simp only [e2, nZ_add]
      exact e3
    · have : c + 1 + 1 + 2 * k = c + 2 * (k + 1) := by omega
      rw [← this]
      exact s3
end LINE
