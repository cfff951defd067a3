/-! CONSTRUCTORS: harbour, text, history, the class, the reference -/
section CTOR2
variable {X : mv_X} {d : Nat}
theorem nw_CH : nw_C X (d + 2) 25 7 30 198 nw_GH := by
  intro P V z a ha hz hV
  obtain ⟨q, s⟩ := z
  have hz : q = a + 1 := hz.symm
  subst hz
  show ∃ (P' : mz_P) (V' : mz_V), mv_call X (d + 2) 25 [.ref a] (mz_h P V, (a + 1, s)) = some (.inl none, (mz_h P' V', (a + 31, s + 198))) ∧ nw_E P V (a + 1) P' V' a ∧ nw_GH P' V' a
  obtain ⟨P1, V1, ⟨⟨b1, b2, b3⟩, b4, b5, b6, b7⟩, f1⟩ := nw_aq (P := P) (V := V) (a := a) (c := 7) (k := 0) (q := a + 1) (s := s) (q' := a + 2) (s' := s + 10) (t := .object (mv_cn 4)) (v := .null) 10 (y := 10) rfl (by decide) rfl rfl rfl ha (by omega) (by decide)
  have ha1 := (b1 a (by omega)).trans ha
  obtain ⟨P2, V2, ⟨⟨c1, c2, c3⟩, c4, c5, c6, c7⟩, f2⟩ := nw_aq (P := P1) (V := V1) (a := a) (c := 7) (k := 1) (q := a + 2) (s := s + 10) (q' := a + 3) (s' := s + 34) (t := .int) (v := .int 0) 24 (y := 24) rfl (by decide) rfl rfl rfl ha1 (by omega) (by decide)
  have ha2 := (c1 a (by omega)).trans ha1
  obtain ⟨P3, V3, ⟨⟨d1, d2, d3⟩, d4, d5, d6, d7⟩, f3⟩ := nw_aq (P := P2) (V := V2) (a := a) (c := 7) (k := 2) (q := a + 3) (s := s + 34) (q' := a + 4) (s' := s + 40) (t := .object (mv_cn 9)) (v := .null) 6 (y := 6) rfl (by decide) rfl rfl rfl ha2 (by omega) (by decide)
  have ha3 := (d1 a (by omega)).trans ha2
  obtain ⟨V4, hV4⟩ : ∃ V4, V4 = mz_w V3 a (mr_up (mr_up (mr_up (mr_up (mr_up (mr_up (V3 a) 3 0) 4 0) 5 0) 6 0) 7 0) 8 0) := ⟨_, rfl⟩
  obtain ⟨P5, V5, ⟨⟨e1, e2, e3⟩, e4, e5, e6, e7⟩, f5⟩ := nw_aq (P := P3) (V := V4) (a := a) (c := 7) (k := 9) (q := a + 4) (s := s + 40) (q' := a + 5) (s' := s + 50) (t := .int) (v := .int 0) 10 (y := 10) rfl (by decide) rfl rfl rfl ha3 (by omega) (by decide)
  have ha5 := (e1 a (by omega)).trans ha3
  obtain ⟨V6, hV6⟩ : ∃ V6, V6 = mz_w V5 a (mr_up (mr_up (V5 a) 10 0) 11 0) := ⟨_, rfl⟩
  have x0 : P5.2 a 0 = some (a + 1) := (e7 0 (by decide)).trans ((d7 0 (by decide)).trans ((c7 0 (by decide)).trans b6))
  have x1 : P5.2 a 1 = some (a + 2) := (e7 1 (by decide)).trans ((d7 1 (by decide)).trans c6)
  have x2 : P5.2 a 2 = some (a + 3) := (e7 2 (by decide)).trans d6
  have y1 : P5.1 (a + 1) = some (.inr (.object (mv_cn 4), 10)) := (e1 _ (by omega)).trans ((d1 _ (by omega)).trans ((c1 _ (by omega)).trans b4))
  have y2 : P5.1 (a + 2) = some (.inr (.int, 24)) := (e1 _ (by omega)).trans ((d1 _ (by omega)).trans c4)
  have y3 : P5.1 (a + 3) = some (.inr (.object (mv_cn 9), 6)) := (e1 _ (by omega)).trans d4
  have v2 : V6 (a + 2) = fun _ => 0 := by rw [hV6, mz_w_n _ _ (by omega), e3 _ (by omega), hV4, mz_w_n _ _ (by omega), d3 _ (by omega)]; exact c5
  have va : V5 a = mr_up (mr_up (mr_up (mr_up (mr_up (mr_up (V3 a) 3 0) 4 0) 5 0) 6 0) 7 0) 8 0 := by rw [e3 a (by omega), hV4, mz_w_s]
  have v6 : V6 a = mr_up (mr_up (mr_up (mr_up (mr_up (mr_up (mr_up (mr_up (V3 a) 3 0) 4 0) 5 0) 6 0) 7 0) 8 0) 10 0) 11 0 := by rw [hV6, mz_w_s, va]
  obtain ⟨P7, V7, g1, ⟨g2, g3, g4⟩, g5, g6⟩ := nw_loop (X := X) (d := d + 1) (n := 10) (a0 := a) (ci := 7) (fi := 0) (c := 4) (sl := 7) (no := 0) (ar := a + 1) (cc := 1) (ss := 6) (q := 2) (u := 13) (F := fun v h => mv_run X (mv_call X (d + 1)) m_X3_init 80 [.ref a, .int v] [] h) (E := fun h => mv_run X (mv_call X (d + 1)) m_X3_init 107 [.ref a, .int (nZ 0)] [] h) (G := nw_GB) (y := 10) rfl (by decide) rfl rfl (fun v h => bk_X3_init_80 X (mv_call X (d + 1)) h a v) (by decide) nw_CB nw_SB (by decide) 10 0 rfl P5 V6 (a + 5, s + 50) ha5 x0 y1 (by show a < a + 5; omega) (by show a + 1 < a + 5; omega) (by omega)
  have g1 : mv_run X (mv_call X (d + 1)) m_X3_init 80 [.ref a, .int (nZ 0)] [] (mz_h P5 V6, (a + 5, s + 50)) = mv_run X (mv_call X (d + 1)) m_X3_init 107 [.ref a, .int (nZ 0)] [] (mz_h P7 V7, (a + 25, s + 180)) := g1
  have g2 : ∀ r, r < a + 5 → P7.1 r = P5.1 r := g2
  have g3 : ∀ r, r < a + 5 → r ≠ a + 1 → P7.2 r = P5.2 r := g3
  have g4 : ∀ r, r < a + 5 → V7 r = V6 r := g4
  have g6 : ∀ j, j < 10 → P7.2 (a + 1) (0 + j) = some (a + 5 + 2 * j) ∧ nw_GB P7 V7 (a + 5 + 2 * j) := g6
  have ha7 := (g2 a (by omega)).trans ha5
  obtain ⟨P8, V8, h1, ⟨h2, h3, h4⟩, h5, h6⟩ := nw_loop (X := X) (d := d + 1) (n := 6) (a0 := a) (ci := 7) (fi := 2) (c := 9) (sl := 3) (no := 64) (ar := a + 3) (cc := 0) (ss := 0) (q := 1) (u := 3) (F := fun v h => mv_run X (mv_call X (d + 1)) m_X3_init 107 [.ref a, .int v] [] h) (E := fun h => some (.inl none, h)) (G := nw_GP) (y := 6) rfl (by decide) rfl rfl (fun v h => bk_X3_init_107 X (mv_call X (d + 1)) h a v) (by decide) nw_CP nw_SP (by decide) 6 0 rfl P7 V7 (a + 25, s + 180) ha7 (by rw [g3 a (by omega) (by omega)]; exact x2) ((g2 _ (by omega)).trans y3) (by show a < a + 25; omega) (by show a + 3 < a + 25; omega) (by omega)
  have h1 : mv_run X (mv_call X (d + 1)) m_X3_init 107 [.ref a, .int (nZ 0)] [] (mz_h P7 V7, (a + 25, s + 180)) = some (.inl none, (mz_h P8 V8, (a + 31, s + 198))) := h1
  have h2 : ∀ r, r < a + 25 → P8.1 r = P7.1 r := h2
  have h3 : ∀ r, r < a + 25 → r ≠ a + 3 → P8.2 r = P7.2 r := h3
  have h4 : ∀ r, r < a + 25 → V8 r = V7 r := h4
  have h6 : ∀ j, j < 6 → P8.2 (a + 3) (0 + j) = some (a + 25 + 1 * j) ∧ nw_GP P8 V8 (a + 25 + 1 * j) := h6
  have bal : ∀ j, j < 10 → nw_GB P8 V8 (a + 5 + 2 * j) := fun j hj => nw_SB _ _ _ _ _ (fun r r1 r2 => ⟨h2 r (by omega), h3 r (by omega) (by omega), h4 r (by omega)⟩) (g6 j hj).2
  have pil : ∀ j, j < 6 → P8.2 (a + 3) j = some (a + 25 + j) ∧ nw_GP P8 V8 (a + 25 + j) := fun j hj => by
    have := h6 j hj
    rw [Nat.zero_add, Nat.one_mul] at this
    exact this
  refine ⟨P8, V8, ?_, ⟨fun r hr => ?_, fun r hr hra => ⟨?_, ?_⟩⟩, ⟨?_, ?_, ?_, fun i hi => ⟨?_, (bal i hi).1⟩, ?_, ?_, ?_, ?_, fun j hj => ⟨(pil j hj).1, (pil j hj).2.1⟩, ?_, ?_⟩, ⟨fun i hi => ?_, ?_, ?_⟩⟩
  · rw [mc_X3_init, bk_X3_init_0, f1, f2, f3, mz_pW ha3 (by decide), mz_pW ha3 (by decide), mz_w_s, mz_w_w, mz_pW ha3 (by decide), mz_w_s, mz_w_w, mz_pW ha3 (by decide), mz_w_s, mz_w_w, mz_pW ha3 (by decide), mz_w_s, mz_w_w, mz_pW ha3 (by decide), mz_w_s, mz_w_w, ← hV4, f5, mz_pW ha5 (by decide), mz_pW ha5 (by decide), mz_w_s, mz_w_w, ← hV6, g1, h1]
  · exact (h2 r (by omega)).trans ((g2 r (by omega)).trans ((e1 r (by omega)).trans ((d1 r (by omega)).trans ((c1 r (by omega)).trans (b1 r hr)))))
  · exact (h3 r (by omega) (by omega)).trans ((g3 r (by omega) (by omega)).trans ((e2 r (by omega) hra).trans ((d2 r (by omega) hra).trans ((c2 r (by omega) hra).trans (b2 r hr hra)))))
  · rw [h4 r (by omega), g4 r (by omega), hV6, mz_w_n _ _ hra, e3 r (by omega), hV4, mz_w_n _ _ hra, d3 r (by omega), c3 r (by omega), b3 r hr]
  · exact (h2 a (by omega)).trans ha7
  · rw [h3 a (by omega) (by omega), g3 a (by omega) (by omega)]; exact x0
  · exact (h2 _ (by omega)).trans ((g2 _ (by omega)).trans y1)
  · rw [h3 _ (by omega) (by omega)]
    have := (g6 i hi).1
    rw [Nat.zero_add] at this
    exact this
  · rw [h3 a (by omega) (by omega), g3 a (by omega) (by omega)]; exact x1
  · exact (h2 _ (by omega)).trans ((g2 _ (by omega)).trans y2)
  · rw [h3 a (by omega) (by omega), g3 a (by omega) (by omega)]; exact x2
  · exact (h2 _ (by omega)).trans ((g2 _ (by omega)).trans y3)
  · rw [h3 a (by omega) (by omega), g3 a (by omega) (by omega)]; exact e6
  · exact (h2 _ (by omega)).trans ((g2 _ (by omega)).trans e4)
  · obtain ⟨-, w0, w1, w2, w3, w4, w5, w6⟩ := bal i hi
    refine ⟨⟨Or.inl w0, ?_, ?_, ?_, ?_, ?_, ?_, ?_, ?_, fun k hk => ?_, fun k hk => ?_, fun k hk => ?_, ?_⟩, w0, fun h => absurd (show (0 : Int) = 1 from h) (by decide), fun _ _ _ => rfl⟩
    · rw [w1]; decide
    · rw [w1]; decide
    · rw [w2]; decide
    · rw [w2]; decide
    · rw [w3]; decide
    · rw [w3]; decide
    · rw [w5]; decide
    · rw [w5]; decide
    · rw [w6]; exact Int.le_refl 0
    · rw [w6]; exact (show (0 : Int) ≤ 20 by decide)
    · rw [w5] at hk; omega
    · rw [w4, w5]; rfl
  · have e : ∀ k, V8 a k = mr_up (mr_up (mr_up (mr_up (mr_up (mr_up (mr_up (mr_up (V3 a) 3 0) 4 0) 5 0) 6 0) 7 0) 8 0) 10 0) 11 0 k := fun k => by rw [h4 a (by omega), g4 a (by omega), v6]
    exact ⟨by rw [e]; rfl, by rw [e]; rfl, by rw [e]; rfl, by rw [e]; rfl, by rw [e]; rfl, by rw [e]; rfl⟩
  · refine ⟨fun i hi => ?_, fun j hj => ?_, fun j hj => ?_⟩
    · rw [h4 _ (by omega), g4 _ (by omega), v2]
    · obtain ⟨-, w0, w1, w2⟩ := (pil j hj).2
      unfold mp_I
      rw [w0, w1, w2]
      decide
    · have hj : (j : Int) < 0 := hj
      omega
theorem nw_CT : nw_C X (d + 2) 68 10 20 132 nw_GT := by
  intro P V z a ha hz hV
  obtain ⟨q, s⟩ := z
  have hz : q = a + 1 := hz.symm
  subst hz
  show ∃ (P' : mz_P) (V' : mz_V), mv_call X (d + 2) 68 [.ref a] (mz_h P V, (a + 1, s)) = some (.inl none, (mz_h P' V', (a + 21, s + 132))) ∧ nw_E P V (a + 1) P' V' a ∧ nw_GT P' V' a
  obtain ⟨P1, V1, ⟨⟨b1, b2, b3⟩, b4, b5, b6, b7⟩, f1⟩ := nw_aq (P := P) (V := V) (a := a) (c := 10) (k := 0) (q := a + 1) (s := s) (q' := a + 2) (s' := s + 60) (t := .char) (v := .int 0) 60 (y := 60) rfl (by decide) rfl rfl rfl ha (by omega) (by decide)
  have ha1 := (b1 a (by omega)).trans ha
  obtain ⟨V2, hV2⟩ : ∃ V2, V2 = mz_w V1 a (mr_up (V1 a) 1 0) := ⟨_, rfl⟩
  obtain ⟨P3, V3, ⟨⟨c1, c2, c3⟩, c4, c5, c6, c7⟩, f3⟩ := nw_aq (P := P1) (V := V2) (a := a) (c := 10) (k := 2) (q := a + 2) (s := s + 60) (q' := a + 3) (s' := s + 69) (t := .object (mv_cn 5)) (v := .null) 9 (y := 9) rfl (by decide) rfl rfl rfl ha1 (by omega) (by decide)
  have ha3 := (c1 a (by omega)).trans ha1
  obtain ⟨V4, hV4⟩ : ∃ V4, V4 = mz_w V3 a (mr_up (mr_up (V3 a) 3 0) 4 0) := ⟨_, rfl⟩
  obtain ⟨P7, V7, g1, ⟨g2, g3, g4⟩, g5, g6⟩ := nw_loop (X := X) (d := d + 1) (n := 9) (a0 := a) (ci := 10) (fi := 2) (c := 5) (sl := 3) (no := 16) (ar := a + 2) (cc := 1) (ss := 4) (q := 2) (u := 7) (F := fun v h => mv_run X (mv_call X (d + 1)) m_X6_init 38 [.ref a, .int v] [] h) (E := fun h => some (.inl none, h)) (G := nw_GC) (y := 9) rfl (by decide) rfl rfl (fun v h => bk_X6_init_38 X (mv_call X (d + 1)) h a v) (by decide) nw_CC nw_SC (by decide) 9 0 rfl P3 V4 (a + 3, s + 69) ha3 c6 c4 (by show a < a + 3; omega) (by show a + 2 < a + 3; omega) (by omega)
  have g1 : mv_run X (mv_call X (d + 1)) m_X6_init 38 [.ref a, .int (nZ 0)] [] (mz_h P3 V4, (a + 3, s + 69)) = some (.inl none, (mz_h P7 V7, (a + 21, s + 132))) := g1
  have g2 : ∀ r, r < a + 3 → P7.1 r = P3.1 r := g2
  have g3 : ∀ r, r < a + 3 → r ≠ a + 2 → P7.2 r = P3.2 r := g3
  have g4 : ∀ r, r < a + 3 → V7 r = V4 r := g4
  have g6 : ∀ j, j < 9 → P7.2 (a + 2) (0 + j) = some (a + 3 + 2 * j) ∧ nw_GC P7 V7 (a + 3 + 2 * j) := g6
  refine ⟨P7, V7, ?_, ⟨fun r hr => ?_, fun r hr hra => ⟨?_, ?_⟩⟩, ⟨?_, ?_, ?_, ?_, ?_, fun i hi => ?_⟩, ?_⟩
  · rw [mc_X6_init, bk_X6_init_0, f1, mz_pW ha1 (by decide), ← hV2, f3, mz_pW ha3 (by decide), mz_pW ha3 (by decide), mz_w_s, mz_w_w, ← hV4, g1]
  · exact (g2 r (by omega)).trans ((c1 r (by omega)).trans (b1 r hr))
  · exact (g3 r (by omega) (by omega)).trans ((c2 r (by omega) hra).trans (b2 r hr hra))
  · rw [g4 r (by omega), hV4, mz_w_n _ _ hra, c3 r (by omega), hV2, mz_w_n _ _ hra, b3 r hr]
  · exact (g2 a (by omega)).trans ha3
  · rw [g3 a (by omega) (by omega)]; exact (c7 0 (by decide)).trans b6
  · exact (g2 _ (by omega)).trans ((c1 _ (by omega)).trans b4)
  · rw [g3 a (by omega) (by omega)]; exact c6
  · exact (g2 _ (by omega)).trans c4
  · have := g6 i hi
    rw [Nat.zero_add] at this
    exact this
  · rw [g4 a (by omega), hV4, mz_w_s, mr_up_n _ _ (by decide), mr_up_n _ _ (by decide), c3 a (by omega), hV2, mz_w_s, mr_up_s]
theorem nw_CX : nw_C X (d + 3) 61 8 249 1688 nw_GX := by
  intro P V z a ha hz hV
  obtain ⟨q, s⟩ := z
  have hz : q = a + 1 := hz.symm
  subst hz
  show ∃ (P' : mz_P) (V' : mz_V), mv_call X (d + 3) 61 [.ref a] (mz_h P V, (a + 1, s)) = some (.inl none, (mz_h P' V', (a + 250, s + 1688))) ∧ nw_E P V (a + 1) P' V' a ∧ nw_GX P' V' a
  obtain ⟨P1, V1, ⟨⟨b1, b2, b3⟩, b4, b5, b6, b7⟩, f1⟩ := nw_aq (P := P) (V := V) (a := a) (c := 8) (k := 0) (q := a + 1) (s := s) (q' := a + 2) (s' := s + 8) (t := .object (mv_cn 7)) (v := .null) 8 (y := 8) rfl (by decide) rfl rfl rfl ha (by omega) (by decide)
  have ha1 := (b1 a (by omega)).trans ha
  obtain ⟨V2, hV2⟩ : ∃ V2, V2 = mz_w V1 a (mr_up (mr_up (V1 a) 1 0) 2 0) := ⟨_, rfl⟩
  obtain ⟨P7, V7, g1, ⟨g2, g3, g4⟩, g5, g6⟩ := nw_loop (X := X) (d := d + 2) (n := 8) (a0 := a) (ci := 8) (fi := 0) (c := 7) (sl := 12) (no := 25) (ar := a + 1) (cc := 30) (ss := 198) (q := 31) (u := 210) (F := fun v h => mv_run X (mv_call X (d + 2)) m_X4_init 25 [.ref a, .int v] [] h) (E := fun h => some (.inl none, h)) (G := nw_GH) (y := 8) rfl (by decide) rfl rfl (fun v h => bk_X4_init_25 X (mv_call X (d + 2)) h a v) (by decide) nw_CH nw_SH (by decide) 8 0 rfl P1 V2 (a + 2, s + 8) ha1 b6 b4 (by show a < a + 2; omega) (by show a + 1 < a + 2; omega) (by omega)
  have g1 : mv_run X (mv_call X (d + 2)) m_X4_init 25 [.ref a, .int (nZ 0)] [] (mz_h P1 V2, (a + 2, s + 8)) = some (.inl none, (mz_h P7 V7, (a + 250, s + 1688))) := g1
  have g2 : ∀ r, r < a + 2 → P7.1 r = P1.1 r := g2
  have g3 : ∀ r, r < a + 2 → r ≠ a + 1 → P7.2 r = P1.2 r := g3
  have g4 : ∀ r, r < a + 2 → V7 r = V2 r := g4
  have g6 : ∀ j, j < 8 → P7.2 (a + 1) (0 + j) = some (a + 2 + 31 * j) ∧ nw_GH P7 V7 (a + 2 + 31 * j) := g6
  refine ⟨P7, V7, ?_, ⟨fun r hr => ?_, fun r hr hra => ⟨?_, ?_⟩⟩, ⟨?_, ?_, ?_, fun i hi => ?_⟩, ?_, ?_⟩
  · rw [mc_X4_init, bk_X4_init_0, f1, mz_pW ha1 (by decide), mz_pW ha1 (by decide), mz_w_s, mz_w_w, ← hV2, g1]
  · exact (g2 r (by omega)).trans (b1 r hr)
  · exact (g3 r (by omega) (by omega)).trans (b2 r hr hra)
  · rw [g4 r (by omega), hV2, mz_w_n _ _ hra, b3 r hr]
  · exact (g2 a (by omega)).trans ha1
  · rw [g3 a (by omega) (by omega)]; exact b6
  · exact (g2 _ (by omega)).trans b4
  · have := g6 i hi
    rw [Nat.zero_add] at this
    exact ⟨this.1, this.2.1⟩
  · rw [g4 a (by omega), hV2, mz_w_s, mr_up_n _ _ (by decide), mr_up_s]
  · rw [g4 a (by omega), hV2, mz_w_s, mr_up_s]
end CTOR2
