/-! OPERATIONS THAT KEEP OR BRING BACK -/
theorem mq_pI_of {V : mz_V} {a : Nat} {s : Nat → Int} (hI : mr_I s) (h : mh_R V a s) : mq_pI s := fun p hp => by
  have h5 := hI.pil
  obtain ⟨q0, q1, q2⟩ := h.2.2.2.2 p hp
  have := h.2.2.2.1 p (by omega)
  unfold mp_I at this
  rw [q0, q1, q2] at this
  exact ⟨this.1, this.2.1, this.2.2.1, this.2.2.2⟩
/-- row 1 with other numbers beyond 158 -/
theorem mX_is_e {V : mz_V} {x v : Nat} {w : mz_V} {s' : Nat → Int} (hp : w 1 5 ≤ 6) (h : ∀ j, j < 158 → s' j = w 1 j) (hW : mX_is V x v w) : mX_is V x v (mz_w w 1 s') := by
  obtain ⟨h1, h2, h3, h4, h5, h6⟩ := hW
  refine ⟨by rw [mz_w_s]; exact mh_R_e hp h h1, ?_, ?_, ?_, ?_, ?_⟩
  · unfold mX_s; rw [mz_w_n _ _ (by decide), mz_w_n _ _ (by decide)]; exact h2
  · unfold mX_h; rw [mz_w_n _ _ (by decide), mz_w_n _ _ (by decide)]; exact h3
  · unfold mX_t; rw [mz_w_n _ _ (by decide), mz_w_n _ _ (by decide)]; exact h4
  · unfold mX_l; rw [mz_w_n _ _ (by decide), mz_w_n _ _ (by decide)]; exact h5
  · unfold mX_d; rw [mz_w_n _ _ (by decide)]; exact h6
theorem mg_I_e {w : mz_V} {b : Int} {s' : Nat → Int} (h : ∀ j, j < 158 → s' j = w 1 j) (hI : mg_I w b) : mg_I (mz_w w 1 s') b := by
  unfold mg_I at hI ⊢
  rw [mz_w_s, mz_w_n _ _ (show (0 : Nat) ≠ 1 by decide), mz_w_n _ _ (show (4 : Nat) ≠ 1 by decide), mz_w_n _ _ (show (3 : Nat) ≠ 1 by decide), mz_w_n _ _ (show (6 : Nat) ≠ 1 by decide), mz_w_n _ _ (show (8 : Nat) ≠ 1 by decide)]
  exact ⟨⟨mr_I_e h hI.1.1, by rw [h 0 (by decide)]; exact hI.1.2⟩, hI.2⟩
/-- the trial harbour is no part of what is told -/
theorem mX_is_c {V V' : mz_V} {x v : Nat} {w : mz_V} {b : Int} (hI : mg_I w b) (hv : v = x + 368 ∨ x + 376 ≤ v) (h : ∀ r, (r < x + 32 ∨ x + 63 ≤ r) → V' r = V r) (hW : mX_is V x v w) : mX_is V' x v w := by
  obtain ⟨h1, h2, h3, h4, h5, h6⟩ := hW
  have hx := h x (by omega)
  exact ⟨mh_R_f hI.1.1.pil.2 (fun r ra rb => h r (by omega)) h1, mX_s_same hI h2 rfl rfl (by rw [hx]) (fun r ra rb => h r (by omega)), mX_h_same hI h3 rfl rfl (fun r ra rb => h r (by omega)), mX_t_same h4 rfl rfl (by rw [h _ (by omega)]) (h _ (by omega)), mX_l_same h5 rfl rfl (h _ (by omega)) (h _ (by omega)), mX_d_same h6 rfl rfl rfl rfl (by rw [hx]) (by rw [hx]) (by rw [hx]) (by rw [hx])⟩
section OPS
variable {X : mv_X} {P : mz_P} {V : mz_V} {z : Nat × Nat} {x v n d m : Nat} {w : mz_V} {b : Int}
theorem mX_P.hv (h : mX_P P x v n) : v = x + 368 ∨ x + 376 ≤ v := h.2.2.2.2.2.1.2.2.2.2.2
theorem Q8_burstsAhead (hP : mX_P P x v n) (hW : mX_is V x v w) (hI : mg_I w b) (hb : b ≤ 999999900) : ∃ V', mv_call X (d + 7) 116 [.ref x] (mz_h P V, z) = some (.inl (some (.int (nZ (mr_hr (w 1)).2))), (mz_h P V', z)) ∧ mX_is V' x v w ∧ mX_X V V' x v := by
  obtain ⟨V1, e1, r1, x1⟩ := Y3_copyFrom (X := X) (z := z) (d := d + 3) (V := V) hP.h1 hP.h0 (by omega) hI.1.1 hW.1
  obtain ⟨V2, e2, r2, x2⟩ := Y3_passHours (X := X) (z := z) (d := d) (V := V1) hP.h1 hI.1.1 r1 (n := 1) (by decide) (by have := hI.1.2; omega)
  refine ⟨V2, ?_, mX_is_c hI hP.hv (fun r hr => by rw [x2 r (by omega), x1 r (by omega)]) hW, fun r hr _ => by rw [x2 r (by omega), x1 r (by omega)]⟩
  have e3 : (mr_pas (w 1) 1).2 = (mr_hr (w 1)).2 := by
    show 0 + (mr_hr (w 1)).2 = _
    omega
  rw [e3] at e2
  have e2 : mv_call X (d + 6) 57 [.ref (x + 32), .int (nZ 1)] (mz_h P V1, z) = some (.inl (some (.int (nZ (mr_hr (w 1)).2))), (mz_h P V2, z)) := e2
  rw [mc_X8_burstsAhead, bk_X8_burstsAhead_0, mx_g1 hP, mx_g0 hP, mz_rcv hP.h1.1]
  simp only [mv_clV, mv_clI, mv_cl, e1, mx_g1 hP, mz_rcv hP.h1.1, e2]
/-! faults, denials -/
theorem Y8_reqDen (hP : mX_P P x v n) (hW : mX_is V x v w) (hI : mg_I w b) : mv_call X (d + 1) 142 [.ref x] (mz_h P V, z) = if w 0 19 = 0 then some (.inr (1, z.1), (mz_h P V, (z.1 + 1, z.2 + 6))) else some (.inl none, (mz_h P V, z)) := by
  have h19 := hI.2.2.2.2.2.2.2.2.2.2.1
  rw [mc_X8_requireDenial, bk_X8_requireDenial_0, mz_gI hP.o (by decide), hW.2.2.2.2.2.2.1]
  by_cases c : w 0 19 = 0
  · rw [if_pos c, if_pos (by rfl), if_pos c]
    rfl
  · rw [if_neg c, if_neg (by rw [nZ_inj ⟨by omega, by omega⟩ (by decide)]; omega), if_neg c]
theorem Q8_denial (hP : mX_P P x v n) (hW : mX_is V x v w) (hI : mg_I w b) : mv_call X (d + 2) 130 [.ref x] (mz_h P V, z) = mq_r P V z (if w 0 19 = 0 then 1 else 0) (w 0 19) 1 := by
  rw [mc_X8_denial, bk_X8_denial_0, mz_rcv hP.o]
  simp only [mv_clV, mv_cl, Y8_reqDen hP hW hI]
  by_cases c : w 0 19 = 0
  · rw [mq_r1 (by rw [if_pos c]; decide), if_pos c]
    rfl
  · rw [mq_r0 (by rw [if_neg c]), if_neg c]
    simp only []
    rw [mz_gI hP.o (by decide), hW.2.2.2.2.2.2.1, if_neg c]
theorem Q8_denialDetail (hP : mX_P P x v n) (hW : mX_is V x v w) (hI : mg_I w b) : mv_call X (d + 2) 131 [.ref x] (mz_h P V, z) = mq_r P V z (if w 0 19 = 0 then 1 else 0) (w 0 20) 1 := by
  rw [mc_X8_denialDetail, bk_X8_denialDetail_0, mz_rcv hP.o]
  simp only [mv_clV, mv_cl, Y8_reqDen hP hW hI]
  by_cases c : w 0 19 = 0
  · rw [mq_r1 (by rw [if_pos c]; decide), if_pos c]
    rfl
  · rw [mq_r0 (by rw [if_neg c]), if_neg c]
    simp only []
    rw [mz_gI hP.o (by decide), hW.2.2.2.2.2.2.2.1]
theorem Q8_undoCount (hP : mX_P P x v n) (hW : mX_is V x v w) : mv_call X (d + 1) 134 [.ref x] (mz_h P V, z) = some (.inl (some (.int (nZ (w 0 6)))), (mz_h P V, z)) := by
  obtain ⟨nx, -, -, h2, -⟩ := hW.2.2.1
  rw [mc_X8_undoCount, bk_X8_undoCount_0, mx_g4 hP, mz_gI hP.ho (by decide), h2]
/-! undo -/
def mg_un (w : mz_V) : mz_V := mz_u (mz_w w 1 (mr_cpy (w 1) (mg_at (w 4) ((w 0 6).toNat - 1)) 158)) 0 6 (w 0 6 - 1)
theorem Q8_undo (hP : mX_P P x v n) (hW : mX_is V x v w) (hI : mg_I w b) : ∃ V', mv_call X (d + 6) 133 [.ref x] (mz_h P V, z) = mq_r P V' z (if w 0 6 = 0 then 1 else 0) (w 0 6 - 1) 4 ∧ mX_is V' x v (if w 0 6 = 0 then w else mg_un w) ∧ mX_X V V' x v := by
  have hv := hP.hv
  obtain ⟨W1, W2, ⟨nx, hnx, q1, q2, q3⟩, W4, W5, W6⟩ := hW
  have hk := hI.2.1
  rw [mc_X8_undo, bk_X8_undo_0, mx_g4 hP, mz_gI hP.ho (by decide), q2]
  by_cases c : w 0 6 = 0
  · refine ⟨V, ?_, by rw [if_pos c]; exact ⟨W1, W2, ⟨nx, hnx, q1, q2, q3⟩, W4, W5, W6⟩, mX_X_rfl V x v⟩
    rw [mq_r1 (by rw [if_pos c]; decide), if_pos (by rw [c]; rfl)]
    rfl
  · obtain ⟨kp, hkp⟩ : ∃ kp : Nat, w 0 6 = (kp : Int) + 1 := ⟨(w 0 6).toNat - 1, by omega⟩
    have hk1 : (w 0 6).toNat - 1 = kp := by omega
    have hslot := q3 kp (by omega)
    have es : (nx + 8 - (w 0 6).toNat + kp) % 8 = (nx + 7) % 8 := by omega
    rw [es] at hslot
    have hm : (nx + 7) % 8 < 8 := Nat.mod_lt _ (by decide)
    have hIk := (hI.2.2.1 kp (by omega)).1
    have hslot2 : mh_R (mz_u (mz_u V (x + 94) 1 ((nx + 7) % 8 : Nat)) (x + 94) 2 kp) (x + 96 + 31 * ((nx + 7) % 8)) (mg_at (w 4) kp) := mh_R_f hIk.pil.2 (fun r ra rb => by rw [mz_u_o (by omega), mz_u_o (by omega)]) hslot
    obtain ⟨V', e1, r1, x1⟩ := Y3_copyFrom (X := X) (z := z) (d := d + 1) hP.h0 (hP.hs hm) (by omega) hIk hslot2
    have go : ∀ r, r ≠ x + 94 → (r < x + 1 ∨ x + 32 ≤ r) → V' r = V r := fun r r1 r2 => by rw [x1 r (by omega), mz_u_o r1, mz_u_o r1]
    have gx := go x (by omega) (by omega)
    have e94 : V' (x + 94) = mz_u (mz_u V (x + 94) 1 ((nx + 7) % 8 : Nat)) (x + 94) 2 kp (x + 94) := x1 _ (by omega)
    have eu : ∀ q, q ≠ 6 → mg_un w 0 q = w 0 q := fun q hq => by unfold mg_un; rw [mz_u_k _ _ hq, mz_w_n _ _ (by decide)]
    have er : ∀ r, r ≠ 0 → r ≠ 1 → mg_un w r = w r := fun r h0 h1 => by unfold mg_un; rw [mz_u_o h0, mz_w_n _ _ h1]
    have e6 : mg_un w 0 6 = kp := by unfold mg_un; rw [mz_u_s]; omega
    have e1' : mg_un w 1 = mr_cpy (w 1) (mg_at (w 4) kp) 158 := by unfold mg_un; rw [mz_u_o (by decide), mz_w_s, hk1]
    refine ⟨V', ?_, ?_, fun r hr hrv => go r (by omega) (by omega)⟩
    · rw [mq_r0 (by rw [if_neg c]), if_neg (by rw [nZ_eq0 ⟨by omega, by omega⟩]; exact c), mx_g4 hP, mx_g0 hP, mz_rcv hP.ho]
      have hbb : mv_call X (d + 5) 63 [.ref (x + 94), .ref (x + 1)] (mz_h P V, z) = some (.inl none, (mz_h P V', z)) := by
        rw [mc_X4_bringBack, bk_X4_bringBack_0, mz_gI hP.ho (by decide), q2, if_neg (by rw [nZ_le0 ⟨by omega, by omega⟩]; omega), mz_gI hP.ho (by decide), q1, if_neg (by decide), nZ_add, nZ_sub, nZ_mod8 (by omega) (by omega), mz_pf hP.ho (by decide), mz_gI hP.ho (by decide), mz_u_k _ _ (by decide), q2, nZ_sub, mz_pf hP.ho (by decide)]
        rw [show w 0 6 - 1 = (kp : Int) by omega, show ((nx : Int) + 8 - 1) % 8 = (((nx + 7) % 8 : Nat) : Int) by omega]
        rw [mx_hsg hP, mz_gI hP.ho (by decide), mz_u_k _ _ (by decide), mz_u_s, mx_hsa hP hm, mz_rcv hP.h0.1]
        simp only [mv_clV, mv_cl, e1]
      simp only [mv_clV, mv_cl, hbb]
      rw [mx_g4 hP, mz_gI hP.ho (by decide), e94, mz_u_s, show w 0 6 - 1 = (kp : Int) by omega]
    · rw [if_neg c]
      refine ⟨?_, mX_s_same hI W2 (eu 7 (by decide)) (er 3 (by decide) (by decide)) (by rw [gx]) (fun r ra rb => go r (by omega) (by omega)), ⟨(nx + 7) % 8, hm, ?_, ?_, fun i hi => ?_⟩, mX_t_same W4 (eu 15 (by decide)) (er 6 (by decide) (by decide)) (by rw [go _ (by omega) (by omega)]) (go _ (by omega) (by omega)), mX_l_same W5 (eu 16 (by decide)) (er 8 (by decide) (by decide)) (go _ (by omega) (by omega)) (go _ (by omega) (by omega)), mX_d_same W6 (eu 17 (by decide)) (eu 19 (by decide)) (eu 20 (by decide)) (eu 21 (by decide)) (by rw [gx]) (by rw [gx]) (by rw [gx]) (by rw [gx])⟩
      · rw [e1']
        exact mh_R_e hIk.pil.2 (fun j hj => mr_cpy_l _ _ hj) r1
      · rw [e94, mz_u_k _ _ (by decide), mz_u_s]
      · rw [e94, mz_u_s, e6]
      · rw [e6] at hi ⊢
        rw [er 4 (by decide) (by decide)]
        have hi2 : (i : Int) < w 0 6 := by omega
        have es2 : ((nx + 7) % 8 + 8 - (kp : Int).toNat + i) % 8 = (nx + 8 - (w 0 6).toNat + i) % 8 := by omega
        have hm2 : (nx + 8 - (w 0 6).toNat + i) % 8 < 8 := Nat.mod_lt _ (by decide)
        rw [es2]
        exact mh_R_f (hI.2.2.1 i hi2).1.pil.2 (fun r ra rb => go r (by omega) (by omega)) (q3 i hi2)
theorem mr_is_un {V' : mz_V} (hw : mr_is V m w) (hI : mg_I w b) (h : w 0 6 ≠ 0) (h1 : V' (m + 1) = mr_cpy (w 1) (mg_at (w 4) ((w 0 6).toNat - 1)) 158) (h6 : V' m 6 = w 0 6 - 1) (hk : ∀ k, k ≠ 0 → k ≠ 6 → V' m k = V m k) (ho : ∀ r, r ≠ m → r ≠ m + 1 → V' r = V r) : mr_is V' m (mg_un w) := by
  obtain ⟨⟨w1, w3, w4, w6, w8⟩, wf⟩ := hw
  refine ⟨⟨?_, ?_, ?_, ?_, ?_⟩, fun k hkk => ?_⟩
  · rw [h1]; unfold mg_un; rw [mz_u_o (by decide), mz_w_s]
  · rw [ho _ (by omega) (by omega), w3]; unfold mg_un; rw [mz_u_o (by decide), mz_w_n _ _ (by decide)]
  · rw [ho _ (by omega) (by omega), w4]; unfold mg_un; rw [mz_u_o (by decide), mz_w_n _ _ (by decide)]
  · rw [ho _ (by omega) (by omega), w6]; unfold mg_un; rw [mz_u_o (by decide), mz_w_n _ _ (by decide)]
  · rw [ho _ (by omega) (by omega), w8]; unfold mg_un; rw [mz_u_o (by decide), mz_w_n _ _ (by decide)]
  · unfold mg_un
    by_cases c : k = 6
    · subst c; rw [mz_u_s]; exact h6
    · rw [mz_u_k _ _ c, mz_w_n _ _ (by decide), hk k (by unfold mg_f at hkk; omega) c]
      exact wf k hkk
end OPS
