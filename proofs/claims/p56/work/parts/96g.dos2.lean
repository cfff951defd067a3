/-! THE LAW'S does: its kinds -/
section DOES2
variable {X : mv_X} {x b0 : Nat} {S : Nat → Int} {w : mz_V} {b B : Int} {c : Nat × Nat} {m M : Nat} {h : mv_H} {d a kind wish L q y0 y1 v n : Nat} {Φ : Option mv_R → Prop} {g : Nat → Nat → mv_H → Option mv_R} {f : Int32 → mv_H → Option mv_R} {P : mz_P} {V : mz_V} {z : Nat × Nat} {k : Int} {s1 s2 s4 s5 s8 : Int32} {u t : Nat} {x0 x1 x2 x3 : Int}
theorem jc_2 (h : a < y1 ∧ v < y1) (hy : y0 ≤ y1) : jc (fun m P V z => ph_Q X x S w b c y0 m P V z ∧ bu_I P V z y0 a v n L) y1 := fun m P V z P' V' z' e hJ hf => ⟨jc_m ph_Q_f hy _ _ _ _ _ _ _ _ hJ.1 hf, bu_I_f hf h hJ.2⟩
theorem ph_Q_y (hQ : ph_Q X x S w b c y0 m P V z) : y0 ≤ z.1 := by
  obtain ⟨_, _, _, _, _, q1, _⟩ := hQ
  exact q1
theorem zm {y : Int} (t : Nat) (ht : t < 2000) (hy : 0 < y) (hy2 : y < 2000) : nZ (t : Int) - nZ (t : Int) / nZ y * nZ y = nZ ((t : Int) % y) := nZ_mod (by omega) (by omega) hy (by omega)
theorem ID_66 (hH : ph_H X x S w b c m h) (hb : b ≤ 999999900) (ha : a < 10) (hk : kind < 8) (ht : t < 1000) (hu : u < 1000) (n1 : nS x1) (n2 : nS x2) (hm : m + 1 ≤ M) : pd_R X x S w b B c M kind a wish (mv_run X (mv_call X (d + 11)) m_L_does 66 [.ref b0, .int s1, .int s2, .ref x, .int s4, .int s5, .int (nZ t), .int (nZ u), .int s8] [.int (nZ x2), .int (nZ x1), .int (nZ a), .ref x] h) := by
  rw [bk_L_does_66, if_neg (by decide), nZ_add, show (t : Int) + (u : Int) = ((t + u : Nat) : Int) by omega, zm (t + u) (by omega) (by decide) (by decide), nZ_add]
  have n3 : nS (1 + ((t + u : Nat) : Int) % 60) := ⟨by omega, by omega⟩
  refine LP_moor (d := d + 1) hH hb (pq_S ha) n1 n2 n3 rfl fun h1 H1 => ?_
  exact pd_ret (Or.inl ⟨by omega, 0, _, Or.inl ⟨hk, rfl, rfl⟩, pd_u (pq_S ha) n1 n2 n3, rfl, ph_mono hm H1⟩)
theorem ID_109 (hH : ph_H X x S w b c m h) (hb : b ≤ 999999900) (ha : a < 10) (hk : 8 ≤ kind ∧ kind < 20) (n1 : nS x1) (h1 : 1 ≤ x1) (hm : m + 1 ≤ M) {s6 s7 : Int32} : pd_R X x S w b B c M kind a wish (mv_run X (mv_call X (d + 11)) m_L_does 109 [.ref b0, .int s1, .int s2, .ref x, .int s4, .int s5, .int s6, .int s7, .int s8] [.int (nZ x1), .int (nZ a), .ref x] h) := by
  rw [bk_L_does_109]
  refine LP_load (d := d + 1) hH hb (pq_S ha) n1 rfl fun h2 H1 => ?_
  exact pd_ret (Or.inl ⟨by omega, 2, _, Or.inr (Or.inl ⟨hk.1, hk.2, rfl, rfl, h1⟩), pd_u (pq_S ha) n1 (by decide) (by decide), rfl, ph_mono hm H1⟩)
theorem ID_209 (hH : ph_H X x S w b c m h) (hb : b ≤ 999999900) (hk : 28 ≤ kind ∧ kind < 32) (n0 : nS x0) (n1 : nS x1) (hm : m + 1 ≤ M) {s6 s7 : Int32} : pd_R X x S w b B c M kind a wish (mv_run X (mv_call X (d + 11)) m_L_does 209 [.ref b0, .int s1, .int s2, .ref x, .int s4, .int s5, .int s6, .int s7, .int s8] [.int (nZ x1), .int (nZ x0), .ref x] h) := by
  rw [bk_L_does_209]
  refine LP_setWind (d := d + 1) hH hb n0 n1 rfl fun h2 H1 => ?_
  exact pd_ret (Or.inl ⟨by omega, 5, _, Or.inr (Or.inr (Or.inr (Or.inr (Or.inr (Or.inl ⟨hk.1, hk.2, rfl⟩))))), pd_u n0 n1 (by decide) (by decide), rfl, ph_mono hm H1⟩)
theorem ID_188 (hH : ph_H X x S w b c m h) (hb : b ≤ 999999900) (hk : 28 ≤ kind ∧ kind < 32) (n0 : nS x0) (ht : t < 1000) (hm : m + 1 ≤ M) {s7 : Int32} : pd_R X x S w b B c M kind a wish (mv_run X (mv_call X (d + 11)) m_L_does 188 [.ref b0, .int s1, .int s2, .ref x, .int s4, .int s5, .int (nZ t), .int s7, .int s8] [.int (nZ x0), .ref x] h) := by
  rw [bk_L_does_188, if_neg (by decide), zm t (by omega) (by decide) (by decide)]
  by_cases c1 : (t : Int) % 31 = 0
  · rw [if_pos (z0_y c1)]
    exact ID_209 hH hb hk n0 (by decide) hm
  · rw [if_neg (z0_n ⟨by omega, by omega⟩ c1), if_neg (by decide), zm t (by omega) (by decide) (by decide), nZ_sub]
    exact ID_209 hH hb hk n0 ⟨by omega, by omega⟩ hm
theorem ID_262 (hH : ph_H X x S w b c m h) (hb : b ≤ 999999900) (hk : 32 ≤ kind ∧ kind < 36) (n0 : nS x0) (n1 : nS x1) (ht : t < 1000) (hu : u < 1000) (hm : m + 1 ≤ M) : pd_R X x S w b B c M kind a wish (mv_run X (mv_call X (d + 11)) m_L_does 262 [.ref b0, .int s1, .int s2, .ref x, .int s4, .int s5, .int (nZ t), .int (nZ u), .int s8] [.int (nZ x1), .int (nZ x0), .ref x] h) := by
  rw [bk_L_does_262, if_neg (by decide), nZ_add, show (t : Int) + (u : Int) = ((t + u : Nat) : Int) by omega, zm (t + u) (by omega) (by decide) (by decide)]
  have n2 : nS (((t + u : Nat) : Int) % 24) := ⟨by omega, by omega⟩
  refine LP_addPilot (d := d + 1) hH hb n0 n1 n2 rfl fun h1 H1 => ?_
  exact pd_ret (Or.inl ⟨by omega, 7, _, Or.inr (Or.inr (Or.inr (Or.inr (Or.inr (Or.inr (Or.inl ⟨hk.1, hk.2, rfl⟩)))))), pd_u n0 n1 n2 (by decide), rfl, ph_mono hm H1⟩)
theorem ID_240 (hH : ph_H X x S w b c m h) (hb : b ≤ 999999900) (hk : 32 ≤ kind ∧ kind < 36) (n0 : nS x0) (ht : t < 1000) (hu : u < 1000) (hm : m + 1 ≤ M) : pd_R X x S w b B c M kind a wish (mv_run X (mv_call X (d + 11)) m_L_does 240 [.ref b0, .int s1, .int s2, .ref x, .int s4, .int s5, .int (nZ t), .int (nZ u), .int s8] [.int (nZ x0), .ref x] h) := by
  have q9 := (ph_I hH).1.hour
  rw [bk_L_does_240, if_neg (by decide), zm t (by omega) (by decide) (by decide)]
  by_cases c1 : (t : Int) % 2 = 0
  · rw [if_pos (z0_y c1)]
    refine LD_hour hH ?_
    rw [if_neg (by decide), nZ_mod24 (by omega) (by omega)]
    exact ID_262 hH hb hk n0 ⟨by omega, by omega⟩ ht hu hm
  · rw [if_neg (z0_n ⟨by omega, by omega⟩ c1), if_neg (by decide), zm u (by omega) (by decide) (by decide)]
    exact ID_262 hH hb hk n0 ⟨by omega, by omega⟩ ht hu hm
theorem ID_304 (hH : ph_H X x S w b c m h) (hb : b ≤ 999999900) (hk : kind = 36) (n0 : nS x0) (hm : m + 1 ≤ M) {s6 s7 : Int32} : pd_R X x S w b B c M kind a wish (mv_run X (mv_call X (d + 11)) m_L_does 304 [.ref b0, .int s1, .int s2, .ref x, .int s4, .int s5, .int s6, .int s7, .int s8] [.int (nZ x0), .ref x] h) := by
  rw [bk_L_does_304]
  refine LP_removePilot (d := d + 1) hH hb n0 rfl fun h2 H1 => ?_
  exact pd_ret (Or.inl ⟨by omega, 8, _, Or.inr (Or.inr (Or.inr (Or.inr (Or.inr (Or.inr (Or.inr (Or.inl ⟨hk, rfl⟩))))))), pd_u n0 (by decide) (by decide) (by decide), rfl, ph_mono hm H1⟩)
theorem ID_333 (hH : ph_H X x S w b c m h) (hb : b ≤ 999999900) (hk : 37 ≤ kind ∧ kind < 44) (h0 : 1 ≤ x0 ∧ x0 ≤ 20) (hm : m + 1 ≤ M) {s6 s7 : Int32} : pd_R X x S w b B c M kind a wish (mv_run X (mv_call X (d + 11)) m_L_does 333 [.ref b0, .int s1, .int s2, .ref x, .int s4, .int s5, .int s6, .int s7, .int s8] [.int (nZ x0), .ref x] h) := by
  have n0 : nS x0 := ⟨by omega, by omega⟩
  rw [bk_L_does_333]
  refine LP_pass (d := d + 1) hH hb n0 rfl fun h2 H1 => ?_
  exact pd_ret (Or.inl ⟨by omega, 6, _, Or.inr (Or.inr (Or.inr (Or.inr (Or.inr (Or.inr (Or.inr (Or.inr ⟨hk.1, hk.2, rfl, h0.1, h0.2⟩))))))), pd_u n0 (by decide) (by decide) (by decide), rfl, ph_mono hm H1⟩)
theorem ID_0 (hS : pX_X X x b0) (hT : tx_H X x) (hS9 : ∀ k, k < 9 → mx_S X x (21 + k) (fm_l k)) (hH : ph_H X x S w b c m h) (hk : 0 ≤ k ∧ k ≤ 1000) (hkd : kind < 46) (ha : a < 10) (hw : 1 ≤ wish ∧ wish ≤ 40) (hb : b ≤ 999999000) (hJ : pn_J (w 1) B) : pd_R X x S w b B c (m + 220) kind a wish (mv_run X (mv_call X (d + 11)) m_L_does 0 [.ref b0, .int (nZ k), .int (nZ kind), .ref x, .int (nZ a), .int (nZ wish), .retAddr 0, .retAddr 0, .retAddr 0] [] h) := by
  have hI := (ph_I hH).1
  have q5 := hI.pil
  have q9 := hI.hour
  have kS : nS (kind : Int) := ⟨by omega, by omega⟩
  rw [bk_L_does_0, nZ_add, nZ_add]
  refine LP_pick (d := d + 9) hS hH (by omega) (by omega) fun t ht => ?_
  refine LP_pick (d := d + 9) hS hH (by omega) (by omega) fun u hu => ?_
  refine LD_pilotCount hH ?_
  by_cases k8 : kind < 8
  · rw [if_neg (zl_n (by decide) kS (by omega)), if_neg (by decide), if_neg (by decide), zm t (by omega) (by decide) (by decide), zm u (by omega) (by decide) (by decide), nZ_add]
    by_cases c1 : (t : Int) % 31 = 0
    · rw [if_pos (z0_y c1)]
      exact ID_66 hH (by omega) ha k8 (by omega) (by omega) ⟨by omega, by omega⟩ (by decide) (by omega)
    · rw [if_neg (z0_n ⟨by omega, by omega⟩ c1), if_neg (by decide), zm t (by omega) (by decide) (by decide), nZ_add]
      exact ID_66 hH (by omega) ha k8 (by omega) (by omega) ⟨by omega, by omega⟩ ⟨by omega, by omega⟩ (by omega)
  rw [if_pos (zl_y (by decide) kS (by omega))]
  by_cases k20 : kind < 20
  · rw [if_neg (zl_n (by decide) kS (by omega)), if_neg (by decide), zm t (by omega) (by decide) (by decide)]
    by_cases c1 : (t : Int) % 29 = 0
    · rw [if_pos (z0_y c1)]
      exact ID_109 hH (by omega) ha ⟨by omega, k20⟩ (by decide) (by decide) (by omega)
    · rw [if_neg (z0_n ⟨by omega, by omega⟩ c1), if_neg (by decide), zm u (by omega) (by decide) (by decide), nZ_add]
      exact ID_109 hH (by omega) ha ⟨by omega, k20⟩ ⟨by omega, by omega⟩ (by omega) (by omega)
  rw [if_pos (zl_y (by decide) kS (by omega))]
  by_cases k21 : kind = 20
  · rw [if_pos (by rw [k21]; rfl)]
    refine LP_castOff (d := d + 1) hH (by omega) (pq_S ha) rfl fun h1 H1 => ?_
    exact pd_ret (Or.inl ⟨by omega, 1, _, Or.inr (Or.inr (Or.inl ⟨k21, rfl, rfl⟩)), pd_u (pq_S ha) (by decide) (by decide) (by decide), rfl, ph_mono (by omega) H1⟩)
  rw [if_neg (ze_n kS (by decide) (by omega))]
  by_cases k23 : kind < 23
  · rw [if_neg (zl_n (by decide) kS (by omega)), if_neg (by decide), zm u (by omega) (by decide) (by decide)]
    have n1 : nS ((u : Int) % 7) := ⟨by omega, by omega⟩
    refine LP_drop (d := d + 1) hH (by omega) (pq_S ha) n1 rfl fun h1 H1 => ?_
    exact pd_ret (Or.inl ⟨by omega, 3, _, Or.inr (Or.inr (Or.inr (Or.inl ⟨by omega, k23, rfl, rfl, by show 0 ≤ (u : Int) % 7; omega⟩))), pd_u (pq_S ha) n1 (by decide) (by decide), rfl, ph_mono (by omega) H1⟩)
  rw [if_pos (zl_y (by decide) kS (by omega))]
  by_cases k28 : kind < 28
  · rw [if_neg (zl_n (by decide) kS (by omega))]
    have n1 : nS ((wish : Nat) : Int) := ⟨by omega, by omega⟩
    refine LP_rise (d := d + 1) hH (by omega) (pq_S ha) n1 rfl fun h1 H1 => ?_
    exact pd_ret (Or.inl ⟨by omega, 4, _, Or.inr (Or.inr (Or.inr (Or.inr (Or.inl ⟨by omega, k28, rfl, rfl, rfl⟩)))), pd_u (pq_S ha) n1 (by decide) (by decide), rfl, ph_mono (by omega) H1⟩)
  rw [if_pos (zl_y (by decide) kS (by omega))]
  by_cases k32 : kind < 32
  · rw [if_neg (zl_n (by decide) kS (by omega)), if_neg (by decide), zm t (by omega) (by decide) (by decide)]
    by_cases c1 : (t : Int) % 3 = 0
    · rw [if_pos (z0_y c1)]
      refine LD_hour hH ?_
      rw [if_neg (by decide), nZ_mod24 (by omega) (by omega)]
      exact ID_188 hH (by omega) ⟨by omega, k32⟩ ⟨by omega, by omega⟩ (by omega) (by omega)
    · rw [if_neg (z0_n ⟨by omega, by omega⟩ c1), if_neg (by decide), zm u (by omega) (by decide) (by decide)]
      exact ID_188 hH (by omega) ⟨by omega, k32⟩ ⟨by omega, by omega⟩ (by omega) (by omega)
  rw [if_pos (zl_y (by decide) kS (by omega))]
  by_cases k36 : kind < 36
  · rw [if_neg (zl_n (by decide) kS (by omega)), if_neg (by decide), zm t (by omega) (by decide) (by decide)]
    by_cases c1 : (t : Int) % 29 = 0
    · rw [if_pos (z0_y c1)]
      exact ID_240 hH (by omega) ⟨by omega, k36⟩ (by decide) (by omega) (by omega) (by omega)
    · rw [if_neg (z0_n ⟨by omega, by omega⟩ c1), if_neg (by decide), zm u (by omega) (by decide) (by decide), nZ_add]
      exact ID_240 hH (by omega) ⟨by omega, k36⟩ ⟨by omega, by omega⟩ (by omega) (by omega) (by omega)
  rw [if_pos (zl_y (by decide) kS (by omega))]
  by_cases k37 : kind = 36
  · rw [if_pos (by rw [k37]; rfl), if_neg (by decide), zm t (by omega) (by decide) (by decide)]
    have n5 : nS (w 1 5) := ⟨by omega, by omega⟩
    by_cases c1 : (t : Int) % 19 = 0
    · rw [if_pos (z0_y c1), bk_L_does_294]
      exact ID_304 hH (by omega) k37 n5 (by omega)
    · rw [if_neg (z0_n ⟨by omega, by omega⟩ c1)]
      by_cases c2 : w 1 5 = 0
      · rw [if_pos (z0_y c2), bk_L_does_294]
        exact ID_304 hH (by omega) k37 n5 (by omega)
      · rw [if_neg (z0_n n5 c2), if_neg (z0_n n5 c2), nZ_mod (x := (u : Int)) (y := w 1 5) (by omega) (by omega) (by omega) (by omega)]
        have r1 := Int.emod_nonneg (u : Int) c2
        have r2 := Int.emod_lt_of_pos (u : Int) (show 0 < w 1 5 by omega)
        exact ID_304 hH (by omega) k37 ⟨by omega, by omega⟩ (by omega)
  rw [if_neg (ze_n kS (by decide) (by omega))]
  by_cases k44 : kind < 44
  · rw [if_neg (zl_n (by decide) kS (by omega)), if_neg (by decide), zm t (by omega) (by decide) (by decide)]
    by_cases c1 : (t : Int) % 5 = 0
    · rw [if_pos (z0_y c1), if_neg (by decide), zm u (by omega) (by decide) (by decide), nZ_add]
      exact ID_333 hH (by omega) ⟨by omega, k44⟩ ⟨by omega, by omega⟩ (by omega)
    · rw [if_neg (z0_n ⟨by omega, by omega⟩ c1)]
      exact ID_333 hH (by omega) ⟨by omega, k44⟩ ⟨by decide, by decide⟩ (by omega)
  rw [if_pos (zl_y (by decide) kS (by omega))]
  have k44 : 44 ≤ kind := by omega
  obtain ⟨t43, t44, t45, t46, t47, t48, t49⟩ := hT
  obtain ⟨P, V, z, rfl, hQ⟩ := ph_Q_in hH
  obtain ⟨hW, hx⟩ := ph_Q_W hQ
  refine LC_new (d := d + 9) (J := ph_Q X x S w b c z.1) hQ ph_Q_f hW (by omega) fun P1 V1 z1 v1 Q1 W1 B1 => ?_
  refine LC_text (d := d + 5) (q := 5) (y1 := 0) (J := ph_Q X x S w b c z.1) Q1 ph_Q_f W1 (by omega) B1 (Or.inl ⟨43, _, rfl, t43, rfl⟩) (by omega) fun P2 V2 z2 v2 n2 Q2 W2 B2 => ?_
  refine LC_num (d := d + 5) (J := ph_Q X x S w b c z.1) Q2 ph_Q_f W2 (by omega) B2 (⟨by omega, by omega⟩ : 0 ≤ (a : Int) ∧ (a : Int) ≤ 99) (by omega) fun P3 V3 z3 v3 n3 L3 hL3 Q3 W3 B3 => ?_
  refine LC_text (d := d + 5) (q := 1) (y1 := 0) (J := ph_Q X x S w b c z.1) Q3 ph_Q_f W3 (by omega) B3 (Or.inl ⟨44, _, rfl, t44, rfl⟩) (by omega) fun P4 V4 z4 v4 n4 Q4 W4 B4 => ?_
  rw [if_neg (by decide), zm u (by omega) (by decide) (by decide), nZ_add]
  refine LC_num (d := d + 5) (J := ph_Q X x S w b c z.1) Q4 ph_Q_f W4 (by omega) B4 (⟨by omega, by omega⟩ : 0 ≤ 1 + (u : Int) % 20 ∧ 1 + (u : Int) % 20 ≤ 99) (by omega) fun P5 V5 z5 v5 n5 L5 hL5 Q5 W5 B5 => ?_
  have y5 := ph_Q_y Q5
  have a5 := B5.2.2.2.2.1
  have b5 := B5.2.2.2.2.2.1
  have J2 : jc (fun m P V z' => ph_Q X x S w b c z.1 m P V z' ∧ bu_I P V z' z.1 z.1 v5 n5 L5) z5.1 := jc_2 ⟨a5.2, b5.2⟩ y5
  rw [if_neg (by decide), zm t (by omega) (by decide) (by decide)]
  by_cases c0 : (t : Int) % 4 = 0
  · rw [if_pos (z0_y c0)]
    exact ID_469 (q := 7) (y1 := 0) Q5 B5 hS9 hb hJ k44 (Or.inl ⟨45, _, rfl, t45, rfl⟩) (by omega) (by omega)
  rw [if_neg (z0_n ⟨by omega, by omega⟩ c0), if_neg (by decide)]
  by_cases c1 : (t : Int) % 4 = 1
  · rw [if_pos (by rw [c1])]
    refine LC_new (d := d + 9) (J := fun m P V z' => ph_Q X x S w b c z.1 m P V z' ∧ bu_I P V z' z.1 z.1 v5 n5 L5) ⟨Q5, B5⟩ J2 W5 (by omega) fun P6 V6 z6 v6 Q6 W6 B6 => ?_
    refine LC_text (d := d + 5) (q := 6) (y1 := 0) (J := fun m P V z' => ph_Q X x S w b c z.1 m P V z' ∧ bu_I P V z' z.1 z.1 v5 n5 L5) Q6 J2 W6 (by omega) B6 (Or.inl ⟨46, _, rfl, t46, rfl⟩) (by omega) fun P7 V7 z7 v7 n7 Q7 W7 B7 => ?_
    refine LC_num (d := d + 5) (J := fun m P V z' => ph_Q X x S w b c z.1 m P V z' ∧ bu_I P V z' z.1 z.1 v5 n5 L5) Q7 J2 W7 (by omega) B7 (⟨by omega, by omega⟩ : 0 ≤ (a : Int) ∧ (a : Int) ≤ 99) (by omega) fun P8 V8 z8 v8 n8 L8 hL8 Q8 W8 B8 => ?_
    refine LC_text (d := d + 5) (q := 2) (y1 := 0) (J := fun m P V z' => ph_Q X x S w b c z.1 m P V z' ∧ bu_I P V z' z.1 z.1 v5 n5 L5) Q8 J2 W8 (by omega) B8 (Or.inl ⟨47, _, rfl, t47, rfl⟩) (by omega) fun P9 V9 z9 v9 n9 Q9 W9 B9 => ?_
    have a9 := B9.2.2.2.2.1
    refine LC_str (d := d + 3) (J := fun m P V z' => ph_Q X x S w b c z.1 m P V z' ∧ bu_I P V z' z.1 z.1 v5 n5 L5) Q9 (jc_m J2 (by omega)) W9 (by omega) B9 (by omega) fun PA VA zA QA WA TA => ?_
    exact ID_469 (q := L8 + 2) (y1 := z9.1) QA.1 QA.2 hS9 hb hJ k44 (Or.inr ⟨TA, by omega, by omega⟩) (by omega) (by omega)
  rw [if_neg (ze_n ⟨by omega, by omega⟩ (by decide) c1), if_neg (by decide)]
  by_cases c2 : (t : Int) % 4 = 2
  · rw [if_pos (by rw [c2])]
    refine LC_new (d := d + 9) (J := fun m P V z' => ph_Q X x S w b c z.1 m P V z' ∧ bu_I P V z' z.1 z.1 v5 n5 L5) ⟨Q5, B5⟩ J2 W5 (by omega) fun P6 V6 z6 v6 Q6 W6 B6 => ?_
    refine LC_text (d := d + 5) (q := 6) (y1 := 0) (J := fun m P V z' => ph_Q X x S w b c z.1 m P V z' ∧ bu_I P V z' z.1 z.1 v5 n5 L5) Q6 J2 W6 (by omega) B6 (Or.inl ⟨48, _, rfl, t48, rfl⟩) (by omega) fun P7 V7 z7 v7 n7 Q7 W7 B7 => ?_
    refine LC_num (d := d + 5) (J := fun m P V z' => ph_Q X x S w b c z.1 m P V z' ∧ bu_I P V z' z.1 z.1 v5 n5 L5) Q7 J2 W7 (by omega) B7 (⟨by omega, by omega⟩ : 0 ≤ (a : Int) ∧ (a : Int) ≤ 99) (by omega) fun P8 V8 z8 v8 n8 L8 hL8 Q8 W8 B8 => ?_
    refine LC_text (d := d + 5) (q := 1) (y1 := 0) (J := fun m P V z' => ph_Q X x S w b c z.1 m P V z' ∧ bu_I P V z' z.1 z.1 v5 n5 L5) Q8 J2 W8 (by omega) B8 (Or.inl ⟨44, _, rfl, t44, rfl⟩) (by omega) fun P9 V9 z9 v9 n9 Q9 W9 B9 => ?_
    refine LC_num (d := d + 5) (J := fun m P V z' => ph_Q X x S w b c z.1 m P V z' ∧ bu_I P V z' z.1 z.1 v5 n5 L5) Q9 J2 W9 (by omega) B9 (⟨by omega, by omega⟩ : 0 ≤ (wish : Int) ∧ (wish : Int) ≤ 99) (by omega) fun PB VB zB vB nB LB hLB QB WB BB => ?_
    have aB := BB.2.2.2.2.1
    refine LC_str (d := d + 3) (J := fun m P V z' => ph_Q X x S w b c z.1 m P V z' ∧ bu_I P V z' z.1 z.1 v5 n5 L5) QB (jc_m J2 (by omega)) WB (by omega) BB (by omega) fun PA VA zA QA WA TA => ?_
    exact ID_469 (q := LB) (y1 := zB.1) QA.1 QA.2 hS9 hb hJ k44 (Or.inr ⟨TA, by omega, by omega⟩) (by omega) (by omega)
  rw [if_neg (ze_n ⟨by omega, by omega⟩ (by decide) c2)]
  exact ID_469 (q := 1) (y1 := 0) Q5 B5 hS9 hb hJ k44 (Or.inl ⟨49, _, rfl, t49, rfl⟩) (by omega) (by omega)
theorem LP_does (hS : pX_X X x b0) (hT : tx_H X x) (hS9 : ∀ k, k < 9 → mx_S X x (21 + k) (fm_l k)) (hH : ph_H X x S w b c m h) (hk : 0 ≤ k ∧ k ≤ 1000) (hkd : kind < 46) (ha : a < 10) (hw : 1 ≤ wish ∧ wish ≤ 40) (hb : b ≤ 999999000) (hJ : pn_J (w 1) B) (K : ∀ (r : Int32) (h1 : mv_H), pd_D X x S w b B c (m + 220) kind a wish r h1 → Φ (f r h1)) : Φ (mv_clI (mv_call X (d + 12)) 382 [.ref b0, .int (nZ k), .int (nZ kind), .ref x, .int (nZ a), .int (nZ wish)] h g f) := by
  obtain ⟨r, h1, e, H1⟩ := ID_0 (d := d) hS hT hS9 hH hk hkd ha hw hb hJ
  have e2 : mv_call X (d + 12) 382 [.ref b0, .int (nZ k), .int (nZ kind), .ref x, .int (nZ a), .int (nZ wish)] h = some (.inl (some (.int r)), h1) := by
    rw [mc_L_does]
    exact e
  exact ph_ret e2 (K r h1 H1)
end DOES2
