/-! THE CLASS'S OBJECT at x (376 cells; the line's bytes at v): its shape, its numbers told by the reference's cells -/
def mX_P (P : mz_P) (x v n : Nat) : Prop :=
  (P.1 x = some (.inl 12) ∧ P.2 x 0 = some (x + 1) ∧ P.2 x 1 = some (x + 32) ∧ P.2 x 2 = some (x + 63) ∧ P.2 x 4 = some (x + 94) ∧ P.2 x 5 = some (x + 344) ∧ P.2 x 6 = some (x + 346) ∧ P.2 x 7 = some (x + 367) ∧ P.2 x 8 = some (x + 369) ∧ P.2 x 9 = some (x + 372)) ∧
  (mz_H P (x + 1) ∧ mz_H P (x + 32) ∧ mz_H P (x + 63)) ∧
  (P.1 (x + 94) = some (.inl 8) ∧ P.2 (x + 94) 0 = some (x + 95) ∧ P.1 (x + 95) = some (.inr (.object (mv_cn 7), 8)) ∧ ∀ i, i < 8 → P.2 (x + 95) i = some (x + 96 + 31 * i) ∧ mz_H P (x + 96 + 31 * i)) ∧
  mz_Cm P (x + 344) ∧
  (P.1 (x + 346) = some (.inl 10) ∧ P.2 (x + 346) 0 = some (x + 347) ∧ P.1 (x + 347) = some (.inr (.char, 60)) ∧ P.2 (x + 346) 2 = some (x + 348) ∧ P.1 (x + 348) = some (.inr (.object (mv_cn 5), 9)) ∧ ∀ i, i < 9 → P.2 (x + 348) i = some (x + 349 + 2 * i) ∧ mz_Cm P (x + 349 + 2 * i)) ∧
  (P.1 (x + 367) = some (.inl 1) ∧ P.2 (x + 367) 0 = some v ∧ P.1 v = some (.inr (.byte, n)) ∧ 16 ≤ n ∧ n ≤ 200 ∧ (v = x + 368 ∨ x + 376 ≤ v)) ∧
  (P.1 (x + 369) = some (.inl 11) ∧ P.2 (x + 369) 0 = some (x + 370) ∧ P.1 (x + 370) = some (.inr (.int, 10)) ∧ P.2 (x + 369) 1 = some (x + 371) ∧ P.1 (x + 371) = some (.inr (.int, 10))) ∧
  P.1 (x + 372) = some (.inl 6) ∧ P.2 (x + 372) 0 = some (x + 373) ∧ P.1 (x + 373) = some (.inr (.int, 10)) ∧ P.2 (x + 372) 1 = some (x + 374) ∧ P.1 (x + 374) = some (.inr (.int, 10)) ∧ P.2 (x + 372) 2 = some (x + 375) ∧ P.1 (x + 375) = some (.inr (.int, 64))
def mg_at (f : Nat → Int) (i : Nat) : Nat → Int := fun k => f (158 * i + k)
/-- the history: the next slot nx, kp of them -/
def mX_h (V : mz_V) (x : Nat) (w : mz_V) : Prop := ∃ nx : Nat, nx < 8 ∧ V (x + 94) 1 = nx ∧ V (x + 94) 2 = w 0 6 ∧ ∀ i : Nat, (i : Int) < w 0 6 → mh_R V (x + 96 + 31 * ((nx + 8 - (w 0 6).toNat + i) % 8)) (mg_at (w 4) i)
def mX_s (V : mz_V) (x : Nat) (w : mz_V) : Prop := V x 3 = w 0 7 ∧ (w 0 7 = 1 → mh_R V (x + 63) (w 3))
def mX_t (V : mz_V) (x : Nat) (w : mz_V) : Prop := V (x + 346) 1 = w 0 15 ∧ ∀ i : Nat, (i : Int) < w 0 15 → V (x + 347) i = w 6 i
def mX_l (V : mz_V) (x v : Nat) (w : mz_V) : Prop := V (x + 367) 1 = 0 ∧ V (x + 367) 3 = w 0 16 ∧ ∀ i : Nat, (i : Int) < w 0 16 → V v i = w 8 i
def mX_d (V : mz_V) (x : Nat) (w : mz_V) : Prop := V x 10 = w 0 17 ∧ V x 11 = (if w 0 19 = 0 then -1 else w 0 19) ∧ V x 12 = w 0 20 ∧ V x 13 = (if w 0 21 = 0 then -1 else w 0 21)
def mX_is (V : mz_V) (x v : Nat) (w : mz_V) : Prop := mh_R V (x + 1) (w 1) ∧ mX_s V x w ∧ mX_h V x w ∧ mX_t V x w ∧ mX_l V x v w ∧ mX_d V x w
/-- what holds of the reference's cells; hours as far as b -/
def mg_I (w : mz_V) (b : Int) : Prop := (mr_I (w 1) ∧ w 1 0 ≤ b) ∧ (0 ≤ w 0 6 ∧ w 0 6 ≤ 8) ∧ (∀ i : Nat, (i : Int) < w 0 6 → mr_I (mg_at (w 4) i) ∧ w 4 (158 * i) ≤ b) ∧ (w 0 7 = 0 ∨ w 0 7 = 1) ∧ (w 0 7 = 1 → mr_I (w 3) ∧ w 3 0 ≤ b) ∧
  (0 ≤ w 0 15 ∧ w 0 15 ≤ 60) ∧ (∀ i : Nat, (i : Int) < w 0 15 → 0 ≤ w 6 i ∧ w 6 i ≤ 65535) ∧ (0 ≤ w 0 16 ∧ w 0 16 ≤ 40) ∧ (∀ i : Nat, (i : Int) < w 0 16 → 0 ≤ w 8 i ∧ w 8 i ≤ 127) ∧ (-1 ≤ w 0 17 ∧ w 0 17 ≤ 60) ∧ (0 ≤ w 0 19 ∧ w 0 19 ≤ 6) ∧ nS (w 0 20) ∧ 0 ≤ w 0 21 ∧ w 0 21 ≤ 7
/-- nothing beside the object changed -/
def mX_X (V V' : mz_V) (x v : Nat) : Prop := ∀ r, r < x ∨ x + 376 ≤ r → r ≠ v → V' r = V r
theorem mX_X_rfl (V : mz_V) (x v : Nat) : mX_X V V x v := fun _ _ _ => rfl
theorem mX_X_tr {V V' V'' : mz_V} {x v : Nat} (h : mX_X V V' x v) (h' : mX_X V' V'' x v) : mX_X V V'' x v := fun r hr hv => (h' r hr hv).trans (h r hr hv)
theorem mX_X_h {V V' : mz_V} {x v a : Nat} (h : mh_X V V' a) (h1 : x ≤ a) (h2 : a + 31 ≤ x + 376) : mX_X V V' x v := fun r hr _ => h r (by omega)
/-- a harbour whose rows stand -/
theorem mh_R_f {V V' : mz_V} {a : Nat} {s : Nat → Int} (hp : s 5 ≤ 6) (h : ∀ r, a ≤ r → r < a + 31 → V' r = V r) (hR : mh_R V a s) : mh_R V' a s :=
  mh_R_p hp (fun i _ j _ => by rw [h _ (by omega) (by omega)]) (fun i _ j _ => by rw [h _ (by omega) (by omega)]) (fun i _ => by rw [h _ (by omega) (by omega)]) (fun j _ k _ => by rw [h _ (by omega) (by omega)]) (fun k _ _ => by rw [h _ (by omega) (by omega)]) hR
/-- numbers beyond 158 don't count -/
theorem mh_R_e {V : mz_V} {a : Nat} {s s' : Nat → Int} (hp : s 5 ≤ 6) (h : ∀ j, j < 158 → s' j = s j) (hR : mh_R V a s) : mh_R V a s' := by
  obtain ⟨g1, g2, g3, g4, g5⟩ := hR
  refine ⟨fun i hi => mb_R_c rfl rfl (fun k hk => h _ (by omega)) (g1 i hi), ?_, fun i hi => by rw [h _ (by omega)]; exact g3 i hi, g4, fun j hj => ?_⟩
  · unfold mh_C at g2 ⊢
    rw [h 0 (by omega), h 1 (by omega), h 2 (by omega), h 3 (by omega), h 4 (by omega), h 5 (by omega)]
    exact g2
  · rw [h 5 (by omega)] at hj
    rw [h _ (by omega), h _ (by omega), h _ (by omega)]
    exact g5 j hj
section LAY
variable {X : mv_X} {P : mz_P} {V : mz_V} {z : Nat × Nat} {x v n d : Nat} {w : mz_V} {b : Int}
theorem mX_P.o (h : mX_P P x v n) : P.1 x = some (.inl 12) := h.1.1
theorem mX_P.h0 (h : mX_P P x v n) : mz_H P (x + 1) := h.2.1.1
theorem mX_P.h1 (h : mX_P P x v n) : mz_H P (x + 32) := h.2.1.2.1
theorem mX_P.h2 (h : mX_P P x v n) : mz_H P (x + 63) := h.2.1.2.2
theorem mX_P.cm (h : mX_P P x v n) : mz_Cm P (x + 344) := h.2.2.2.1
theorem mx_g0 {f : Nat → Option mv_R} (h : mX_P P x v n) : mv_gR X (mz_h P V, z) x 12 0 f = f (x + 1) := mz_gR h.o (by decide) h.1.2.1
theorem mx_g1 {f : Nat → Option mv_R} (h : mX_P P x v n) : mv_gR X (mz_h P V, z) x 12 1 f = f (x + 32) := mz_gR h.o (by decide) h.1.2.2.1
theorem mx_g2 {f : Nat → Option mv_R} (h : mX_P P x v n) : mv_gR X (mz_h P V, z) x 12 2 f = f (x + 63) := mz_gR h.o (by decide) h.1.2.2.2.1
theorem mx_g4 {f : Nat → Option mv_R} (h : mX_P P x v n) : mv_gR X (mz_h P V, z) x 12 4 f = f (x + 94) := mz_gR h.o (by decide) h.1.2.2.2.2.1
theorem mx_g5 {f : Nat → Option mv_R} (h : mX_P P x v n) : mv_gR X (mz_h P V, z) x 12 5 f = f (x + 344) := mz_gR h.o (by decide) h.1.2.2.2.2.2.1
theorem mx_g6 {f : Nat → Option mv_R} (h : mX_P P x v n) : mv_gR X (mz_h P V, z) x 12 6 f = f (x + 346) := mz_gR h.o (by decide) h.1.2.2.2.2.2.2.1
theorem mx_g7 {f : Nat → Option mv_R} (h : mX_P P x v n) : mv_gR X (mz_h P V, z) x 12 7 f = f (x + 367) := mz_gR h.o (by decide) h.1.2.2.2.2.2.2.2.1
theorem mx_g8 {f : Nat → Option mv_R} (h : mX_P P x v n) : mv_gR X (mz_h P V, z) x 12 8 f = f (x + 369) := mz_gR h.o (by decide) h.1.2.2.2.2.2.2.2.2.1
theorem mx_g9 {f : Nat → Option mv_R} (h : mX_P P x v n) : mv_gR X (mz_h P V, z) x 12 9 f = f (x + 372) := mz_gR h.o (by decide) h.1.2.2.2.2.2.2.2.2.2
theorem mX_P.ho (h : mX_P P x v n) : P.1 (x + 94) = some (.inl 8) := h.2.2.1.1
theorem mX_P.hs (h : mX_P P x v n) {i : Nat} (hi : i < 8) : mz_H P (x + 96 + 31 * i) := (h.2.2.1.2.2.2 i hi).2
theorem mx_hs {f : Nat → Option mv_R} (h : mX_P P x v n) {i : Nat} (hi : i < 8) : (mv_gR X (mz_h P V, z) (x + 94) 8 0 fun r => mv_aR X (mz_h P V, z) r (nZ i) f) = f (x + 96 + 31 * i) := by
  rw [mz_gR h.ho (by decide) h.2.2.1.2.1, mz_aR h.2.2.1.2.2.1 (j := i) (nZ_i ⟨by omega, by omega⟩) hi (h.2.2.1.2.2.2 i hi).1]
theorem mx_hsa {f : Nat → Option mv_R} (h : mX_P P x v n) {i : Nat} (hi : i < 8) : mv_aR X (mz_h P V, z) (x + 95) (nZ i) f = f (x + 96 + 31 * i) := mz_aR h.2.2.1.2.2.1 (j := i) (nZ_i ⟨by omega, by omega⟩) hi (h.2.2.1.2.2.2 i hi).1
theorem mx_hsg {f : Nat → Option mv_R} (h : mX_P P x v n) : mv_gR X (mz_h P V, z) (x + 94) 8 0 f = f (x + 95) := mz_gR h.ho (by decide) h.2.2.1.2.1
theorem mX_P.to (h : mX_P P x v n) : P.1 (x + 346) = some (.inl 10) := h.2.2.2.2.1.1
theorem nZ_mod8 {y : Int} (hy : 0 ≤ y) (hy2 : y < 2147483648) : nZ y - nZ y / nZ 8 * nZ 8 = nZ (y % 8) := by
  rw [nZ_div hy hy2 (by decide) (by decide), nZ_mul, nZ_sub]
  congr 1
  omega
theorem mg_kp_min {kp : Nat} (h : kp ≤ 8) : mg_kp kp = if (8 : Int) < (kp : Int) + 1 then 8 else (kp : Int) + 1 := by
  unfold mg_kp
  repeat' split
  all_goals omega
theorem Y4_remember (hP : mX_P P x v n) {nx kp : Nat} (hnx : nx < 8) (h1 : V (x + 94) 1 = nx) (h2 : V (x + 94) 2 = kp) (hkp : kp ≤ 8) {s : Nat → Int} (hI : mr_I s) (hR : mh_R V (x + 1) s) :
    ∃ V', mv_call X (d + 4) 62 [.ref (x + 94), .ref (x + 1)] (mz_h P V, z) = some (.inl none, (mz_h P V', z)) ∧ mh_R V' (x + 96 + 31 * nx) s ∧ V' (x + 94) 1 = ((nx + 1) % 8 : Nat) ∧ V' (x + 94) 2 = mg_kp kp ∧
      ∀ r, r ≠ x + 94 → (r < x + 96 + 31 * nx ∨ x + 96 + 31 * nx + 31 ≤ r) → V' r = V r := by
  obtain ⟨V1, e1, r1, x1⟩ := Y3_copyFrom (X := X) (z := z) (d := d) (hP.hs hnx) hP.h0 (by omega) hI hR
  have g1 : V1 (x + 94) = V (x + 94) := x1 _ (by omega)
  refine ⟨mz_u (mz_u V1 (x + 94) 1 ((nx + 1) % 8 : Nat)) (x + 94) 2 (mg_kp kp), ?_, mh_R_f hI.pil.2 (fun r ha hb => by rw [mz_u_o (by omega), mz_u_o (by omega)]) r1, ?_, ?_, fun r hr h => ?_⟩
  · have e8 := mg_kp_min hkp
    rw [mc_X4_remember, bk_X4_remember_0, mx_hsg hP, mz_gI hP.ho (by decide), h1, mx_hsa hP hnx, mz_rcv (hP.hs hnx).1]
    simp only [mv_clV, mv_clI, mv_cl, e1]
    rw [mz_gI hP.ho (by decide), g1, h1, if_neg (by decide), nZ_add, nZ_mod8 (by omega) (by omega), mz_pf hP.ho (by decide), mz_gI hP.ho (by decide), mz_u_k _ _ (by decide), g1, h2, nZ_add]
    simp only [J9_min (show nS ((kp : Int) + 1) from ⟨by omega, by omega⟩) (show nS 8 by decide)]
    rw [mz_pf hP.ho (by decide), ← e8, show (((nx + 1) % 8 : Nat) : Int) = ((nx : Int) + 1) % 8 by omega]
  · rw [mz_u_k _ _ (by decide), mz_u_s]
  · rw [mz_u_s]
  · rw [mz_u_o hr, mz_u_o hr, x1 r (by omega)]
theorem mg_at_hp (f s : Nat → Int) {kp i : Nat} (hkp : kp ≤ 8) (hi : (i : Int) < mg_kp kp) {k : Nat} (hk : k < 158) : mg_at (mg_hp f kp s) i k = if i + 1 = (mg_kp kp).toNat then s k else if kp = 8 then mg_at f (i + 1) k else mg_at f i k := by
  unfold mg_at mg_hp mg_kp at *
  by_cases c : (kp : Int) = 8
  · rw [if_pos c] at hi ⊢
    rw [if_pos c]
    by_cases c2 : i + 1 = (8 : Int).toNat
    · rw [if_pos c2]
      unfold mr_put
      have : i = 7 := by omega
      subst this
      rw [if_pos (by omega)]
      exact congrArg s (by omega)
    · rw [if_neg c2, if_pos (by omega)]
      have : i < 7 := by omega
      unfold mr_put mr_sh8
      rw [if_neg (by omega), if_pos (by omega)]
      exact congrArg f (by omega)
  · rw [if_neg c] at hi ⊢
    rw [if_neg c]
    by_cases c2 : i + 1 = ((kp : Int) + 1).toNat
    · rw [if_pos c2]
      have : i = kp := by omega
      subst this
      unfold mr_put
      rw [if_pos (by omega)]
      exact congrArg s (by omega)
    · rw [if_neg c2, if_neg (by omega)]
      unfold mr_put
      rw [if_neg (by omega)]
/-- the history behind one more -/
theorem mX_h_push {V' : mz_V} (hI : mg_I w b) (hh : mX_h V x w) {nx : Nat} (hnx : nx < 8) (h1 : V (x + 94) 1 = nx) {w' : mz_V} (e6 : w' 0 6 = mg_kp (w 0 6)) (e4 : w' 4 = mg_hp (w 4) (w 0 6) (w 1))
    (hR : mh_R V' (x + 96 + 31 * nx) (w 1)) (g1 : V' (x + 94) 1 = ((nx + 1) % 8 : Nat)) (g2 : V' (x + 94) 2 = mg_kp (w 0 6)) (go : ∀ r, x + 96 ≤ r → r < x + 344 → (r < x + 96 + 31 * nx ∨ x + 96 + 31 * nx + 31 ≤ r) → V' r = V r) : mX_h V' x w' := by
  obtain ⟨nx', hnx', q1, q2, q3⟩ := hh
  have : nx' = nx := by omega
  subst this
  obtain ⟨kp, hkp⟩ : ∃ kp : Nat, w 0 6 = kp := ⟨(w 0 6).toNat, by have := hI.2.1; omega⟩
  have hk8 : kp ≤ 8 := by have := hI.2.1; omega
  have hp := hI.1.1.pil.2
  have hkv : mg_kp (w 0 6) = if kp = 8 then 8 else (kp : Int) + 1 := by
    rw [hkp]; unfold mg_kp; repeat' split
    all_goals omega
  refine ⟨(nx' + 1) % 8, Nat.mod_lt _ (by decide), g1, by rw [g2, e6], fun i hi => ?_⟩
  rw [e6] at hi ⊢
  rw [e4]
  have hat := fun k hk => mg_at_hp (w 4) (w 1) (i := i) hk8 (by rw [← hkp]; exact hi) (k := k) hk
  rw [← hkp] at hat
  by_cases c : i + 1 = (mg_kp (w 0 6)).toNat
  · have es : (((nx' + 1) % 8 + 8 - (mg_kp (w 0 6)).toNat + i) % 8) = nx' := by
      rw [hkv] at c hi ⊢
      split at c <;> omega
    rw [es]
    exact mh_R_e hp (fun k hk => by rw [hat k hk, if_pos c]) hR
  · by_cases c8 : kp = 8
    · have es : (((nx' + 1) % 8 + 8 - (mg_kp (w 0 6)).toNat + i) % 8) = (nx' + 8 - (w 0 6).toNat + (i + 1)) % 8 := by
        rw [hkv] at c hi ⊢
        rw [if_pos c8] at c hi ⊢
        omega
      have hi7 : ((i + 1 : Nat) : Int) < w 0 6 := by
        rw [hkv, if_pos c8] at c hi
        omega
      rw [es]
      have hm : (nx' + 8 - (w 0 6).toNat + (i + 1)) % 8 < 8 := Nat.mod_lt _ (by decide)
      have hne : (nx' + 8 - (w 0 6).toNat + (i + 1)) % 8 ≠ nx' := by omega
      have hI2 := (hI.2.2.1 (i + 1) hi7).1
      refine mh_R_e hI2.pil.2 (fun k hk => by rw [hat k hk, if_neg c, if_pos c8]) (mh_R_f hI2.pil.2 (fun r ha hb => go r (by omega) (by omega) (by omega)) (q3 (i + 1) hi7))
    · have es : (((nx' + 1) % 8 + 8 - (mg_kp (w 0 6)).toNat + i) % 8) = (nx' + 8 - (w 0 6).toNat + i) % 8 := by
        rw [hkv] at c hi ⊢
        rw [if_neg c8] at c hi ⊢
        omega
      have hi7 : (i : Int) < w 0 6 := by
        rw [hkv, if_neg c8] at c hi
        omega
      rw [es]
      have hm : (nx' + 8 - (w 0 6).toNat + i) % 8 < 8 := Nat.mod_lt _ (by decide)
      have hne : (nx' + 8 - (w 0 6).toNat + i) % 8 ≠ nx' := by omega
      have hI2 := (hI.2.2.1 i hi7).1
      refine mh_R_e hI2.pil.2 (fun k hk => by rw [hat k hk, if_neg c, if_neg c8]) (mh_R_f hI2.pil.2 (fun r ha hb => go r (by omega) (by omega) (by omega)) (q3 i hi7))
/-- the history of the same slots -/
theorem mX_h_same {V' : mz_V} (hI : mg_I w b) (hh : mX_h V x w) {w' : mz_V} (e6 : w' 0 6 = w 0 6) (e4 : w' 4 = w 4) (g : ∀ r, x + 94 ≤ r → r < x + 344 → V' r = V r) : mX_h V' x w' := by
  obtain ⟨nx, hnx, q1, q2, q3⟩ := hh
  have hk := hI.2.1
  refine ⟨nx, hnx, by rw [g _ (by omega) (by omega)]; exact q1, by rw [g _ (by omega) (by omega), e6]; exact q2, fun i hi => ?_⟩
  rw [e6] at hi ⊢
  rw [e4]
  have hm : (nx + 8 - (w 0 6).toNat + i) % 8 < 8 := Nat.mod_lt _ (by decide)
  exact mh_R_f (hI.2.2.1 i hi).1.pil.2 (fun r ha hb => g r (by omega) (by omega)) (q3 i hi)
theorem mX_t_same {V' w' : mz_V} (hh : mX_t V x w) (e15 : w' 0 15 = w 0 15) (e6 : w' 6 = w 6) (g1 : V' (x + 346) 1 = V (x + 346) 1) (g2 : V' (x + 347) = V (x + 347)) : mX_t V' x w' := by
  unfold mX_t
  rw [e15, e6, g1, g2]
  exact hh
theorem mX_l_same {V' w' : mz_V} (hh : mX_l V x v w) (e16 : w' 0 16 = w 0 16) (e8 : w' 8 = w 8) (g1 : V' (x + 367) = V (x + 367)) (g2 : V' v = V v) : mX_l V' x v w' := by
  unfold mX_l
  rw [e16, e8, g1, g2]
  exact hh
theorem mX_s_same {V' w' : mz_V} (hI : mg_I w b) (hh : mX_s V x w) (e7 : w' 0 7 = w 0 7) (e3 : w' 3 = w 3) (g1 : V' x 3 = V x 3) (g2 : ∀ r, x + 63 ≤ r → r < x + 94 → V' r = V r) : mX_s V' x w' := by
  unfold mX_s
  rw [e7, e3, g1]
  exact ⟨hh.1, fun q => mh_R_f (hI.2.2.2.2.1 q).1.pil.2 (fun r ha hb => g2 r ha (by omega)) (hh.2 q)⟩
theorem mX_d_same {V' w' : mz_V} (hh : mX_d V x w) (e17 : w' 0 17 = w 0 17) (e19 : w' 0 19 = w 0 19) (e20 : w' 0 20 = w 0 20) (e21 : w' 0 21 = w 0 21) (g1 : V' x 10 = V x 10) (g2 : V' x 11 = V x 11) (g3 : V' x 12 = V x 12) (g4 : V' x 13 = V x 13) : mX_d V' x w' := by
  unfold mX_d
  rw [e17, e19, e20, e21, g1, g2, g3, g4]
  exact hh
theorem Y8_keepDenial (hP : mX_P P x v n) {a c e : Int} : mv_call X (d + 1) 139 [.ref x, .int (nZ a), .int (nZ c), .int (nZ e)] (mz_h P V, z) = some (.inl none, (mz_h P (mz_u (mz_u (mz_u V x 11 a) x 12 c) x 13 e), z)) := by
  rw [mc_X8_keepDenial, bk_X8_keepDenial_0]
  simp (disch := decide) only [mz_pf hP.o]
/-- an exception's number -/
def mg_ex (r : Int) : Nat := if r = 8 then 0 else if r = 9 then 1 else if r = 10 then 2 else 3
theorem mX_d_den {V' : mz_V} (hI : mg_I w b) {r dt : Int} (hr : 1 ≤ r) (g1 : V' x 10 = w 0 17) (g2 : V' x 11 = r) (g3 : V' x 12 = dt) (g4 : V' x 13 = -1) : mX_d V' x (mz_u (mz_u (mz_u w 0 19 r) 0 20 dt) 0 21 0) := by
  refine ⟨?_, ?_, ?_, ?_⟩
  · rw [g1, mz_u_k _ _ (by decide), mz_u_k _ _ (by decide), mz_u_k _ _ (by decide)]
  · rw [g2, mz_u_k _ _ (by decide), mz_u_k _ _ (by decide), mz_u_s, if_neg (by omega)]
  · rw [g3, mz_u_k _ _ (by decide), mz_u_s]
  · rw [g4, mz_u_s]; rfl
theorem Y8_change (hP : mX_P P x v n) (hW : mX_is V x v w) (hI : mg_I w b) (hb : b ≤ 999999900) {k : Nat} (hk : k < 9) {x0 x1 x2 x3 : Int} (n0 : nS x0) (n1 : nS x1) (n2 : nS x2) (n3 : nS x3) {y : Nat → Int} (hy : y = fun i => if i = 0 then x0 else if i = 1 then x1 else if i = 2 then x2 else x3) :
    ∃ V', mv_call X (d + 8) 137 [.ref x, .int (nZ k), .int (nZ x0), .int (nZ x1), .int (nZ x2), .int (nZ x3)] (mz_h P V, z) =
      (if mc_rf (w 1) k y = 0 then some (.inl (some (.int (nZ (mc_an (w 1) k y)))), (mz_h P V', z)) else some (.inr (mg_ex (mc_rf (w 1) k y), z.1), (mz_h P V', (z.1 + 1, z.2 + 6)))) ∧ mX_is V' x v (mg_st w k y) ∧ mX_X V V' x v := by
  obtain ⟨W1, W2, W3, W4, W5, W6⟩ := hW
  have hv := hP.2.2.2.2.2.1.2.2.2.2.2
  have hI1 := hI.1.1
  have hp := hI1.pil.2
  obtain ⟨V1, s1, s2, s3⟩ := Y1_set (X := X) (z := z) (V := V) (d := d + 5) (k := k) hP.cm n0 n1 n2 n3
  rw [← hy] at s2
  have hR1 : mh_R V1 (x + 1) (w 1) := mh_R_f hp (fun r ha hb => s3 r (by omega) (by omega)) W1
  have hX1 : mX_X V V1 x v := fun r hr _ => s3 r (by omega) (by omega)
  have hrf := Y3_refusalOf (X := X) (z := z) (d := d + 3) hP.h0 hP.cm hI1 hR1 s2 hk
  rw [mc_X8_change, bk_X8_change_0, mx_g5 hP, mz_rcv hP.cm.1]
  simp only [mv_clV, mv_clI, mv_cl, s1]
  rw [mx_g0 hP, mx_g5 hP, mz_rcv hP.h0.1]
  simp only [hrf]
  have hin := mc_rf_in (w 1) k y
  have W1x : V1 x = V x := s3 x (by omega) (by omega)
  by_cases c0 : mc_rf (w 1) k y = 0
  · rw [if_pos (by rw [c0]; rfl)]
    simp only [if_pos c0]
    rw [mx_g4 hP, mx_g0 hP, mz_rcv hP.ho]
    obtain ⟨nx, hnx, q1, q2, q3⟩ := W3
    obtain ⟨kp, hkp⟩ : ∃ kp : Nat, w 0 6 = kp := ⟨(w 0 6).toNat, by have := hI.2.1; omega⟩
    have hk8 : kp ≤ 8 := by have := hI.2.1; omega
    obtain ⟨V2, m1, m2, m3, m4, m5⟩ := Y4_remember (X := X) (z := z) (d := d + 3) hP hnx (by rw [s3 _ (by omega) (by omega)]; exact q1) (by rw [s3 _ (by omega) (by omega), q2]; exact hkp) hk8 hI1 hR1
    simp only [m1]
    have hR2 : mh_R V2 (x + 1) (w 1) := mh_R_f hp (fun r ha hb => m5 r (by omega) (by omega)) hR1
    have hc2 : mc_is V2 (x + 344) k y := by
      unfold mc_is
      rw [m5 (x + 344) (by omega) (by omega), m5 (x + 344 + 1) (by omega) (by omega)]
      exact s2
    obtain ⟨V3, c1, c2, c3⟩ := Y3_carryOut (X := X) (z := z) (d := d) hP.h0 hP.cm hI1 hR2 hc2 hk (by have := hI.1.2; omega) c0
    rw [mx_g0 hP, mx_g5 hP, mz_rcv hP.h0.1]
    simp only [c1]
    have est : mg_st w k y = mz_u (mz_w (mz_w w 1 (mc_st (w 1) k y)) 4 (mg_hp (w 4) (w 0 6) (w 1))) 0 6 (mg_kp (w 0 6)) := if_pos c0
    have eo : ∀ q, q ≠ 6 → mg_st w k y 0 q = w 0 q := fun q hq => by rw [est, mz_u_k _ _ hq, mz_w_n _ _ (by decide), mz_w_n _ _ (by decide)]
    have er : ∀ r, r ≠ 0 → r ≠ 1 → r ≠ 4 → mg_st w k y r = w r := fun r r0 r1 r4 => by rw [est, mz_u_o r0, mz_w_n _ _ r4, mz_w_n _ _ r1]
    have go : ∀ r, (r < x + 1 ∨ x + 32 ≤ r) → r ≠ x + 94 → (r < x + 96 + 31 * nx ∨ x + 96 + 31 * nx + 31 ≤ r) → r ≠ x + 344 → r ≠ x + 344 + 1 → V3 r = V r := fun r r1 r2 r3 r4 r5 => by rw [c3 r (by omega), m5 r r2 r3, s3 r r4 r5]
    refine ⟨V3, rfl, ⟨?_, mX_s_same hI W2 (eo 7 (by decide)) (er 3 (by decide) (by decide) (by decide)) (by rw [go x (by omega) (by omega) (by omega) (by omega) (by omega)]) (fun r r1 r2 => go r (by omega) (by omega) (by omega) (by omega) (by omega)), ?_,
      mX_t_same W4 (eo 15 (by decide)) (er 6 (by decide) (by decide) (by decide)) (by rw [go (x + 346) (by omega) (by omega) (by omega) (by omega) (by omega)]) (go (x + 347) (by omega) (by omega) (by omega) (by omega) (by omega)),
      mX_l_same W5 (eo 16 (by decide)) (er 8 (by decide) (by decide) (by decide)) (go (x + 367) (by omega) (by omega) (by omega) (by omega) (by omega)) (go v (by omega) (by omega) (by omega) (by omega) (by omega)),
      mX_d_same W6 (eo 17 (by decide)) (eo 19 (by decide)) (eo 20 (by decide)) (eo 21 (by decide)) (by rw [go x (by omega) (by omega) (by omega) (by omega) (by omega)]) (by rw [go x (by omega) (by omega) (by omega) (by omega) (by omega)]) (by rw [go x (by omega) (by omega) (by omega) (by omega) (by omega)]) (by rw [go x (by omega) (by omega) (by omega) (by omega) (by omega)])⟩, fun r hr hrv => go r (by omega) (by omega) (by omega) (by omega) (by omega)⟩
    · have : mg_st w k y 1 = mc_st (w 1) k y := by rw [est, mz_u_o (by decide), mz_w_n _ _ (by decide), mz_w_s]
      rw [this]
      exact c2
    · refine mX_h_push (V := V1) hI ⟨nx, hnx, by rw [s3 _ (by omega) (by omega)]; exact q1, by rw [s3 _ (by omega) (by omega)]; exact q2, fun i hi => ?_⟩ hnx (by rw [s3 _ (by omega) (by omega)]; exact q1) (by rw [est, mz_u_s]) (by rw [est, mz_u_o (by decide), mz_w_s]) (mh_R_f hp (fun r ha hb => c3 r (by omega)) m2) (by rw [c3 _ (by omega)]; exact m3) (by rw [c3 _ (by omega), hkp]; exact m4) (fun r r1 r2 r3 => by rw [c3 r (by omega), m5 r (by omega) r3])
      have hm : (nx + 8 - (w 0 6).toNat + i) % 8 < 8 := Nat.mod_lt _ (by decide)
      exact mh_R_f (hI.2.2.1 i hi).1.pil.2 (fun r ha hb => s3 r (by omega) (by omega)) (q3 i hi)
  · rw [if_neg (by rw [nZ_eq0 ⟨by omega, by omega⟩]; exact c0)]
    simp only [if_neg c0]
    rw [mz_rcv hP.o]
    have refX : ∀ e : Nat, mc_rf (w 1) k y ≥ 8 → mg_ex (mc_rf (w 1) k y) = e → mv_call X (d + 7) 138 [.ref x, .int (nZ (mc_rf (w 1) k y))] (mz_h P V1, z) = some (.inr (e, z.1), (mz_h P V1, (z.1 + 1, z.2 + 6))) := by
      intro e h8 he
      subst he
      rw [mc_X8_refuse, bk_X8_refuse_0]
      have : mc_rf (w 1) k y = 8 ∨ mc_rf (w 1) k y = 9 ∨ mc_rf (w 1) k y = 10 := by omega
      rcases this with q | q | q
      · rw [q, if_pos rfl]; rfl
      · rw [q, if_neg (by decide), if_pos rfl]; rfl
      · rw [q, if_neg (by decide), if_neg (by decide), if_pos rfl]; rfl
    by_cases c5 : mc_rf (w 1) k y ≤ 5
    · have est : mg_st w k y = mz_u (mz_u (mz_u w 0 19 (mc_rf (w 1) k y)) 0 20 (mc_dt (w 1) k y)) 0 21 0 := by unfold mg_st; rw [if_neg c0, if_pos c5]
      have hdt := Y3_detailOf (X := X) (z := z) (d := d + 3) hP.h0 hP.cm hI1 hR1 s2 hk (by omega) c5
      have hex : mg_ex (mc_rf (w 1) k y) = 3 := by unfold mg_ex; rw [if_neg (by omega), if_neg (by omega), if_neg (by omega)]
      have href : mv_call X (d + 7) 138 [.ref x, .int (nZ (mc_rf (w 1) k y))] (mz_h P V1, z) = some (.inr (3, z.1), (mz_h P (mz_u (mz_u (mz_u V1 x 11 (mc_rf (w 1) k y)) x 12 (mc_dt (w 1) k y)) x 13 (-1)), (z.1 + 1, z.2 + 6))) := by
        rw [mc_X8_refuse, bk_X8_refuse_0, if_neg (by rw [nZ_inj ⟨by omega, by omega⟩ (by decide)]; omega), if_neg (by rw [nZ_inj ⟨by omega, by omega⟩ (by decide)]; omega), if_neg (by rw [nZ_inj ⟨by omega, by omega⟩ (by decide)]; omega), mx_g0 hP, mx_g5 hP, mz_rcv hP.h0.1]
        simp only [mv_clI, mv_clV, mv_cl, hdt, mz_rcv hP.o, Y8_keepDenial hP]
        rfl
      simp only [href]
      rw [hex, est]
      have go : ∀ r, r ≠ x → r ≠ x + 344 → r ≠ x + 344 + 1 → (mz_u (mz_u (mz_u V1 x 11 (mc_rf (w 1) k y)) x 12 (mc_dt (w 1) k y)) x 13 (-1)) r = V r := fun r r1 r2 r3 => by rw [mz_u_o r1, mz_u_o r1, mz_u_o r1, s3 r r2 r3]
      have gx : ∀ q, q ≠ 11 → q ≠ 12 → q ≠ 13 → (mz_u (mz_u (mz_u V1 x 11 (mc_rf (w 1) k y)) x 12 (mc_dt (w 1) k y)) x 13 (-1)) x q = V x q := fun q q1 q2 q3 => by rw [mz_u_k _ _ q3, mz_u_k _ _ q2, mz_u_k _ _ q1, W1x]
      have eo : ∀ q, q ≠ 19 → q ≠ 20 → q ≠ 21 → (mz_u (mz_u (mz_u w 0 19 (mc_rf (w 1) k y)) 0 20 (mc_dt (w 1) k y)) 0 21 0) 0 q = w 0 q := fun q q1 q2 q3 => by rw [mz_u_k _ _ q3, mz_u_k _ _ q2, mz_u_k _ _ q1]
      have er : ∀ r, r ≠ 0 → (mz_u (mz_u (mz_u w 0 19 (mc_rf (w 1) k y)) 0 20 (mc_dt (w 1) k y)) 0 21 0) r = w r := fun r hr => by rw [mz_u_o hr, mz_u_o hr, mz_u_o hr]
      refine ⟨_, rfl, ⟨?_, mX_s_same hI W2 (eo 7 (by decide) (by decide) (by decide)) (er 3 (by decide)) (gx 3 (by decide) (by decide) (by decide)) (fun r r1 r2 => go r (by omega) (by omega) (by omega)), mX_h_same hI W3 (eo 6 (by decide) (by decide) (by decide)) (er 4 (by decide)) (fun r r1 r2 => go r (by omega) (by omega) (by omega)),
        mX_t_same W4 (eo 15 (by decide) (by decide) (by decide)) (er 6 (by decide)) (by rw [go (x + 346) (by omega) (by omega) (by omega)]) (go (x + 347) (by omega) (by omega) (by omega)), mX_l_same W5 (eo 16 (by decide) (by decide) (by decide)) (er 8 (by decide)) (go (x + 367) (by omega) (by omega) (by omega)) (go v (by omega) (by omega) (by omega)),
        mX_d_den hI (by omega) ?_ ?_ ?_ ?_⟩, fun r hr hrv => go r (by omega) (by omega) (by omega)⟩
      · rw [er 1 (by decide)]
        exact mh_R_f hp (fun r ha hb => go r (by omega) (by omega) (by omega)) W1
      · rw [gx 10 (by decide) (by decide) (by decide)]; exact W6.1
      · rw [mz_u_k _ _ (by decide), mz_u_k _ _ (by decide), mz_u_s]
      · rw [mz_u_k _ _ (by decide), mz_u_s]
      · rw [mz_u_s]
    · have est : mg_st w k y = w := by unfold mg_st; rw [if_neg c0, if_neg c5]
      simp only [refX _ (by omega) rfl]
      rw [est]
      refine ⟨V1, rfl, ⟨hR1, mX_s_same hI W2 rfl rfl (by rw [W1x]) (fun r r1 r2 => s3 r (by omega) (by omega)), mX_h_same hI W3 rfl rfl (fun r r1 r2 => s3 r (by omega) (by omega)), mX_t_same W4 rfl rfl (by rw [s3 _ (by omega) (by omega)]) (s3 _ (by omega) (by omega)), mX_l_same W5 rfl rfl (s3 _ (by omega) (by omega)) (s3 _ (by omega) (by omega)), mX_d_same W6 rfl rfl rfl rfl (by rw [W1x]) (by rw [W1x]) (by rw [W1x]) (by rw [W1x])⟩, hX1⟩
end LAY
