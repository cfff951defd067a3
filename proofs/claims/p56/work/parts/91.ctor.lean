/-! CONSTRUCTORS: the class's parts -/
theorem nw_aq {P : mz_P} {V : mz_V} {a c k q s q' s' : Nat} {t : FieldType} {v : Value} (n : Nat) {y : Int} (hy : y = n) (hn : n ≤ 65536) (hv : mz_av t none 0 = v) (hq : q' = q + 1) (hs : s' = s + n) (ha : P.1 a = some (.inl c)) (hz : a < q) (hk : mz_fr c k = true) :
    ∃ (P' : mz_P) (V' : mz_V), nw_A P V q P' V' a k t n ∧ ∀ f : mv_H → Option mv_R, (mv_newa (mz_h P V, (q, s)) t v (nZ y) fun r1 h1 => mv_pf h1 a c k (.ref r1) f) = f (mz_h P' V', (q', s')) := by
  subst hq hs
  exact nw_ap (z := (q, s)) n hy hn hv ha hz hk
theorem nw_oq {X : mv_X} {P : mz_P} {V : mz_V} {d a ca k c sl no cc ss q s q' s' : Nat} {G : mz_P → mz_V → Nat → Prop} (hC : nw_C X d no c cc ss G) (hS : nw_S G cc) (hd : ((mv_df c).mapIdx fun _ v => mz_fv v none 0) = mv_df c) (hq : q' = q + 1 + cc) (hs : s' = s + sl + ss) (ha : P.1 a = some (.inl ca)) (hz : a < q) (hk : mz_fr ca k = true) :
    ∃ (P' : mz_P) (V' : mz_V), nw_O P V q P' V' a k c G ∧ ∀ f : mv_H → Option mv_R, (mv_new (mz_h P V, (q, s)) (.inl (c, mv_df c)) sl fun r1 h1 => mv_clV (mv_call X d) no [.ref r1] h1 mv_raise fun h2 => mv_pf h2 a ca k (.ref r1) f) = f (mz_h P' V', (q', s')) := by
  subst hq hs
  exact nw_op (z := (q, s)) hC hS hd ha hz hk
/-- a balloon -/
def nw_GB (P : mz_P) (V : mz_V) (b : Nat) : Prop := mz_B P b ∧ V b 0 = 0 ∧ V b 1 = 1 ∧ V b 2 = 1 ∧ V b 3 = 1 ∧ V b 4 = 0 ∧ V b 5 = 0 ∧ V (b + 1) = fun _ => 0
def nw_GP (P : mz_P) (V : mz_V) (b : Nat) : Prop := mz_Pl P b ∧ V b 0 = 1 ∧ V b 1 = 0 ∧ V b 2 = 0
def nw_GC (P : mz_P) (_ : mz_V) (b : Nat) : Prop := mz_Cm P b
def nw_GH (P : mz_P) (V : mz_V) (b : Nat) : Prop := mz_H P b ∧ mh_R V b fun _ => 0
def nw_GX (P : mz_P) (V : mz_V) (b : Nat) : Prop := (P.1 b = some (.inl 8) ∧ P.2 b 0 = some (b + 1) ∧ P.1 (b + 1) = some (.inr (.object (mv_cn 7), 8)) ∧ ∀ i, i < 8 → P.2 (b + 1) i = some (b + 2 + 31 * i) ∧ mz_H P (b + 2 + 31 * i)) ∧ V b 1 = 0 ∧ V b 2 = 0
def nw_GT (P : mz_P) (V : mz_V) (b : Nat) : Prop := (P.1 b = some (.inl 10) ∧ P.2 b 0 = some (b + 1) ∧ P.1 (b + 1) = some (.inr (.char, 60)) ∧ P.2 b 2 = some (b + 2) ∧ P.1 (b + 2) = some (.inr (.object (mv_cn 5), 9)) ∧ ∀ i, i < 9 → P.2 (b + 2) i = some (b + 3 + 2 * i) ∧ mz_Cm P (b + 3 + 2 * i)) ∧ V b 1 = 0
def nw_GS (P : mz_P) (V : mz_V) (b : Nat) : Prop := (P.1 b = some (.inl 1) ∧ P.2 b 0 = some (b + 1) ∧ P.1 (b + 1) = some (.inr (.byte, 16))) ∧ V b 1 = 0 ∧ V b 3 = 0
def nw_GO (P : mz_P) (_ : mz_V) (b : Nat) : Prop := P.1 b = some (.inl 11) ∧ P.2 b 0 = some (b + 1) ∧ P.1 (b + 1) = some (.inr (.int, 10)) ∧ P.2 b 1 = some (b + 2) ∧ P.1 (b + 2) = some (.inr (.int, 10))
def nw_GW (P : mz_P) (_ : mz_V) (b : Nat) : Prop := P.1 b = some (.inl 6) ∧ P.2 b 0 = some (b + 1) ∧ P.1 (b + 1) = some (.inr (.int, 10)) ∧ P.2 b 1 = some (b + 2) ∧ P.1 (b + 2) = some (.inr (.int, 10)) ∧ P.2 b 2 = some (b + 3) ∧ P.1 (b + 3) = some (.inr (.int, 64))
theorem nw_SB : nw_S nw_GB 1 := by
  intro P V P' V' a h g
  obtain ⟨h1, h2, h3⟩ := h a (Nat.le_refl _) (by omega)
  obtain ⟨k1, k2, k3⟩ := h (a + 1) (by omega) (by omega)
  unfold nw_GB mz_B at g ⊢
  rw [h1, h2, h3, k1, k3]
  exact g
theorem nw_SP : nw_S nw_GP 0 := by
  intro P V P' V' a h g
  obtain ⟨h1, h2, h3⟩ := h a (Nat.le_refl _) (by omega)
  unfold nw_GP mz_Pl at g ⊢
  rw [h1, h3]
  exact g
theorem nw_SC : nw_S nw_GC 1 := by
  intro P V P' V' a h g
  obtain ⟨h1, h2, h3⟩ := h a (Nat.le_refl _) (by omega)
  obtain ⟨k1, k2, k3⟩ := h (a + 1) (by omega) (by omega)
  unfold nw_GC mz_Cm at g ⊢
  rw [h1, h2, k1]
  exact g
theorem nw_SH : nw_S nw_GH 30 := by
  intro P V P' V' a h g
  exact ⟨mz_H_c (fun r r1 r2 => (h r r1 (by omega)).1) (fun r r1 r2 => (h r r1 (by omega)).2.1) g.1, mh_R_f (by decide) (fun r r1 r2 => (h r r1 (by omega)).2.2) g.2⟩
theorem nw_SX : nw_S nw_GX 249 := by
  intro P V P' V' a h g
  obtain ⟨h1, h2, h3⟩ := h a (Nat.le_refl _) (by omega)
  obtain ⟨k1, k2, k3⟩ := h (a + 1) (by omega) (by omega)
  obtain ⟨⟨g1, g2, g3, g4⟩, g5⟩ := g
  unfold nw_GX
  rw [h1, h2, h3, k1, k2]
  exact ⟨⟨g1, g2, g3, fun i hi => ⟨(g4 i hi).1, mz_H_c (fun r r1 r2 => (h r (by omega) (by omega)).1) (fun r r1 r2 => (h r (by omega) (by omega)).2.1) (g4 i hi).2⟩⟩, g5⟩
theorem nw_ST : nw_S nw_GT 20 := by
  intro P V P' V' a h g
  obtain ⟨h1, h2, h3⟩ := h a (Nat.le_refl _) (by omega)
  obtain ⟨k1, k2, k3⟩ := h (a + 1) (by omega) (by omega)
  obtain ⟨l1, l2, l3⟩ := h (a + 2) (by omega) (by omega)
  obtain ⟨⟨g1, g2, g3, g4, g5, g6⟩, g7⟩ := g
  unfold nw_GT
  rw [h1, h2, h3, k1, l1, l2]
  exact ⟨⟨g1, g2, g3, g4, g5, fun i hi => ⟨(g6 i hi).1, mz_Cm_c (fun r r1 r2 => (h r (by omega) (by omega)).1) (fun r r1 r2 => (h r (by omega) (by omega)).2.1) (g6 i hi).2⟩⟩, g7⟩
theorem nw_SS : nw_S nw_GS 1 := by
  intro P V P' V' a h g
  obtain ⟨h1, h2, h3⟩ := h a (Nat.le_refl _) (by omega)
  obtain ⟨k1, k2, k3⟩ := h (a + 1) (by omega) (by omega)
  unfold nw_GS at g ⊢
  rw [h1, h2, h3, k1]
  exact g
theorem nw_SO : nw_S nw_GO 2 := by
  intro P V P' V' a h g
  obtain ⟨h1, h2, h3⟩ := h a (Nat.le_refl _) (by omega)
  obtain ⟨k1, k2, k3⟩ := h (a + 1) (by omega) (by omega)
  obtain ⟨l1, l2, l3⟩ := h (a + 2) (by omega) (by omega)
  unfold nw_GO at g ⊢
  rw [h1, h2, k1, l1]
  exact g
theorem nw_SW : nw_S nw_GW 3 := by
  intro P V P' V' a h g
  obtain ⟨h1, h2, h3⟩ := h a (Nat.le_refl _) (by omega)
  obtain ⟨k1, k2, k3⟩ := h (a + 1) (by omega) (by omega)
  obtain ⟨l1, l2, l3⟩ := h (a + 2) (by omega) (by omega)
  obtain ⟨m1, m2, m3⟩ := h (a + 3) (by omega) (by omega)
  unfold nw_GW at g ⊢
  rw [h1, h2, k1, l1, m1]
  exact g
section CTOR
variable {X : mv_X} {d : Nat}
theorem nw_CB : nw_C X (d + 1) 0 4 1 6 nw_GB := by
  intro P V z a ha hz hV
  obtain ⟨q, s⟩ := z
  have hz : q = a + 1 := hz.symm
  subst hz
  show ∃ (P' : mz_P) (V' : mz_V), mv_call X (d + 1) 0 [.ref a] (mz_h P V, (a + 1, s)) = some (.inl none, (mz_h P' V', (a + 2, s + 6))) ∧ nw_E P V (a + 1) P' V' a ∧ nw_GB P' V' a
  obtain ⟨V1, hV1⟩ : ∃ V1, V1 = mz_w V a (mr_up (mr_up (mr_up (mr_up (mr_up (mr_up (V a) 0 0) 1 1) 2 1) 3 1) 4 0) 5 0) := ⟨_, rfl⟩
  obtain ⟨P', V', ⟨⟨b1, b2, b3⟩, b4, b5, b6, b7⟩, hf⟩ := nw_aq (P := P) (V := V1) (a := a) (c := 4) (k := 6) (q := a + 1) (s := s) (q' := a + 2) (s' := s + 6) (t := .int) (v := .int 0) 6 (y := 6) rfl (by decide) rfl rfl rfl ha (by omega) (by decide)
  have e : ∀ k, V' a k = mr_up (mr_up (mr_up (mr_up (mr_up (mr_up (V a) 0 0) 1 1) 2 1) 3 1) 4 0) 5 0 k := fun k => by rw [b3 a (by omega), hV1, mz_w_s]
  refine ⟨P', V', ?_, ⟨b1, fun r hr hra => ⟨b2 r hr hra, by rw [b3 r hr, hV1, mz_w_n _ _ hra]⟩⟩, ⟨(b1 a (by omega)).trans ha, b6, b4⟩, by rw [e]; rfl, by rw [e]; rfl, by rw [e]; rfl, by rw [e]; rfl, by rw [e]; rfl, by rw [e]; rfl, b5⟩
  rw [mc_X0_init, bk_X0_init_0, mv_chk_t (by decide), mz_pW ha (by decide), mz_pW ha (by decide), mz_w_s, mz_w_w, mz_pW ha (by decide), mz_w_s, mz_w_w, mz_pW ha (by decide), mz_w_s, mz_w_w, mz_pW ha (by decide), mz_w_s, mz_w_w, mz_pW ha (by decide), mz_w_s, mz_w_w, ← hV1, hf]
theorem nw_CP : nw_C X (d + 1) 64 9 0 0 nw_GP := by
  intro P V z a ha hz hV
  have haz : a < z.1 := by omega
  refine ⟨P, mz_w V a (mr_up (mr_up (mr_up (V a) 0 1) 1 0) 2 0), ?_, ⟨fun _ _ => rfl, fun r hr hra => ⟨rfl, mz_w_n _ _ hra⟩⟩, ha, by rw [mz_w_s]; rfl, by rw [mz_w_s]; rfl, by rw [mz_w_s]; rfl⟩
  rw [mc_X5_init, bk_X5_init_0, mz_pW ha (by decide), mz_pW ha (by decide), mz_w_s, mz_w_w, mz_pW ha (by decide), mz_w_s, mz_w_w]
  rfl
theorem nw_CC : nw_C X (d + 1) 16 5 1 4 nw_GC := by
  intro P V z a ha hz hV
  obtain ⟨q, s⟩ := z
  have hz : q = a + 1 := hz.symm
  subst hz
  show ∃ (P' : mz_P) (V' : mz_V), mv_call X (d + 1) 16 [.ref a] (mz_h P V, (a + 1, s)) = some (.inl none, (mz_h P' V', (a + 2, s + 4))) ∧ nw_E P V (a + 1) P' V' a ∧ nw_GC P' V' a
  obtain ⟨V1, hV1⟩ : ∃ V1, V1 = mz_w V a (mr_up (mr_up (V a) 0 0) 1 0) := ⟨_, rfl⟩
  obtain ⟨P', V', ⟨⟨b1, b2, b3⟩, b4, b5, b6, b7⟩, hf⟩ := nw_aq (P := P) (V := V1) (a := a) (c := 5) (k := 2) (q := a + 1) (s := s) (q' := a + 2) (s' := s + 4) (t := .int) (v := .int 0) 4 (y := 4) rfl (by decide) rfl rfl rfl ha (by omega) (by decide)
  refine ⟨P', V', ?_, ⟨b1, fun r hr hra => ⟨b2 r hr hra, by rw [b3 r hr, hV1, mz_w_n _ _ hra]⟩⟩, (b1 a (by omega)).trans ha, b6, b4⟩
  rw [mc_X1_init, bk_X1_init_0, mz_pW ha (by decide), mz_pW ha (by decide), mz_w_s, mz_w_w, ← hV1, hf]
theorem nw_CO : nw_C X (d + 1) 77 11 2 20 nw_GO := by
  intro P V z a ha hz hV
  obtain ⟨q, s⟩ := z
  have hz : q = a + 1 := hz.symm
  subst hz
  show ∃ (P' : mz_P) (V' : mz_V), mv_call X (d + 1) 77 [.ref a] (mz_h P V, (a + 1, s)) = some (.inl none, (mz_h P' V', (a + 3, s + 20))) ∧ nw_E P V (a + 1) P' V' a ∧ nw_GO P' V' a
  obtain ⟨P1, V1, ⟨⟨b1, b2, b3⟩, b4, b5, b6, b7⟩, hf⟩ := nw_aq (P := P) (V := V) (a := a) (c := 11) (k := 0) (q := a + 1) (s := s) (q' := a + 2) (s' := s + 10) (t := .int) (v := .int 0) 10 (y := 10) rfl (by decide) rfl rfl rfl ha (by omega) (by decide)
  have ha1 := (b1 a (by omega)).trans ha
  obtain ⟨P2, V2, ⟨⟨c1, c2, c3⟩, c4, c5, c6, c7⟩, hg⟩ := nw_aq (P := P1) (V := V1) (a := a) (c := 11) (k := 1) (q := a + 2) (s := s + 10) (q' := a + 3) (s' := s + 20) (t := .int) (v := .int 0) 10 (y := 10) rfl (by decide) rfl rfl rfl ha1 (by omega) (by decide)
  refine ⟨P2, V2, ?_, ⟨fun r hr => (c1 r (by omega)).trans (b1 r hr), fun r hr hra => ⟨(c2 r (by omega) hra).trans (b2 r hr hra), (c3 r (by omega)).trans (b3 r hr)⟩⟩, (c1 a (by omega)).trans ha1, (c7 0 (by decide)).trans b6, (c1 _ (by omega)).trans b4, c6, c4⟩
  rw [mc_X7_init, bk_X7_init_0, hf, hg]
theorem nw_CW : nw_C X (d + 1) 20 6 3 84 nw_GW := by
  intro P V z a ha hz hV
  obtain ⟨q, s⟩ := z
  have hz : q = a + 1 := hz.symm
  subst hz
  show ∃ (P' : mz_P) (V' : mz_V), mv_call X (d + 1) 20 [.ref a] (mz_h P V, (a + 1, s)) = some (.inl none, (mz_h P' V', (a + 4, s + 84))) ∧ nw_E P V (a + 1) P' V' a ∧ nw_GW P' V' a
  obtain ⟨P1, V1, ⟨⟨b1, b2, b3⟩, b4, b5, b6, b7⟩, hf⟩ := nw_aq (P := P) (V := V) (a := a) (c := 6) (k := 0) (q := a + 1) (s := s) (q' := a + 2) (s' := s + 10) (t := .int) (v := .int 0) 10 (y := 10) rfl (by decide) rfl rfl rfl ha (by omega) (by decide)
  have ha1 := (b1 a (by omega)).trans ha
  obtain ⟨P2, V2, ⟨⟨c1, c2, c3⟩, c4, c5, c6, c7⟩, hg⟩ := nw_aq (P := P1) (V := V1) (a := a) (c := 6) (k := 1) (q := a + 2) (s := s + 10) (q' := a + 3) (s' := s + 20) (t := .int) (v := .int 0) 10 (y := 10) rfl (by decide) rfl rfl rfl ha1 (by omega) (by decide)
  have ha2 := (c1 a (by omega)).trans ha1
  obtain ⟨P3, V3, ⟨⟨d1, d2, d3⟩, d4, d5, d6, d7⟩, hh⟩ := nw_aq (P := P2) (V := V2) (a := a) (c := 6) (k := 2) (q := a + 3) (s := s + 20) (q' := a + 4) (s' := s + 84) (t := .int) (v := .int 0) 64 (y := 64) rfl (by decide) rfl rfl rfl ha2 (by omega) (by decide)
  refine ⟨P3, V3, ?_, ⟨fun r hr => (d1 r (by omega)).trans ((c1 r (by omega)).trans (b1 r hr)), fun r hr hra => ⟨(d2 r (by omega) hra).trans ((c2 r (by omega) hra).trans (b2 r hr hra)), (d3 r (by omega)).trans ((c3 r (by omega)).trans (b3 r hr))⟩⟩, (d1 a (by omega)).trans ha2, (d7 0 (by decide)).trans ((c7 0 (by decide)).trans b6), (d1 _ (by omega)).trans ((c1 _ (by omega)).trans b4), (d7 1 (by decide)).trans c6, (d1 _ (by omega)).trans c4, d6, d4⟩
  rw [mc_X2_init, bk_X2_init_0, hf, hg, hh]
theorem nw_CS (hX : X.2.2 0 = .int (nZ 1)) : nw_C X (d + 2) 273 1 1 16 nw_GS := by
  intro P V z a ha hz hV
  obtain ⟨q, s⟩ := z
  have hz : q = a + 1 := hz.symm
  subst hz
  show ∃ (P' : mz_P) (V' : mz_V), mv_call X (d + 2) 273 [.ref a] (mz_h P V, (a + 1, s)) = some (.inl none, (mz_h P' V', (a + 2, s + 16))) ∧ nw_E P V (a + 1) P' V' a ∧ nw_GS P' V' a
  obtain ⟨P1, V1, ⟨⟨b1, b2, b3⟩, b4, b5, b6, b7⟩, hf⟩ := nw_aq (P := P) (V := V) (a := a) (c := 1) (k := 0) (q := a + 1) (s := s) (q' := a + 2) (s' := s + 16) (t := .byte) (v := .int 0) 16 (y := 16) rfl (by decide) rfl rfl rfl ha (by omega) (by decide)
  have ha1 := (b1 a (by omega)).trans ha
  refine ⟨P1, mz_w V1 a (mr_up (V1 a) 1 0), ?_, ⟨b1, fun r hr hra => ⟨b2 r hr hra, by rw [mz_w_n _ _ hra, b3 r hr]⟩⟩, ⟨ha1, b6, b4⟩, by rw [mz_w_s]; rfl, by rw [mz_w_s, mr_up_n _ _ (by decide), b3 a (by omega), hV]⟩
  have e : mv_call X (d + 1) 253 [.ref a, .int (nZ 16)] (mz_h P V, (a + 1, s)) = some (.inl none, (mz_h P1 (mz_w V1 a (mr_up (V1 a) 1 0)), (a + 2, s + 16))) := by
    rw [mc_J5_init_d00df, bk_J5_init_d00df_0, hX]
    simp only [mv_int]
    rw [if_neg (by decide), hf, mv_chk_t (by decide), mz_pW ha1 (by decide)]
  rw [mc_J4_init_da8c8, bk_J4_init_da8c8_0]
  simp only [mv_clV, mv_cl, e]
end CTOR
