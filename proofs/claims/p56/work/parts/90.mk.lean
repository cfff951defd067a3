/-! OBJECTS MADE: arrays into fields, objects into fields, rows of objects -/
theorem nw_na {P : mz_P} {V : mz_V} {z : Nat × Nat} {f : Nat → mv_H → Option mv_R} {t : FieldType} {v : Value} (n : Nat) {y : Int} (hy : y = n) (hn : n ≤ 65536) (hv : mz_av t none 0 = v) : mv_newa (mz_h P V, z) t v (nZ y) f = f z.1 (mz_h (mz_g P z.1 (.inr (t, n))) (mz_w V z.1 fun _ => 0), (z.1 + 1, z.2 + n)) := by
  subst hy
  exact mz_newa hn hv
/-- old cells stand but for references in row a -/
def nw_F (P : mz_P) (V : mz_V) (k : Nat) (P' : mz_P) (V' : mz_V) (a : Nat) : Prop := (∀ r, r < k → P'.1 r = P.1 r) ∧ (∀ r, r < k → r ≠ a → P'.2 r = P.2 r) ∧ ∀ r, r < k → V' r = V r
theorem nw_F_tr {P P1 P2 : mz_P} {V V1 V2 : mz_V} {k k1 a : Nat} (h : nw_F P V k P1 V1 a) (h' : nw_F P1 V1 k1 P2 V2 a) (hk : k ≤ k1) : nw_F P V k P2 V2 a :=
  ⟨fun r hr => (h'.1 r (by omega)).trans (h.1 r hr), fun r hr ha => (h'.2.1 r (by omega) ha).trans (h.2.1 r hr ha), fun r hr => (h'.2.2 r (by omega)).trans (h.2.2 r hr)⟩
/-- old cells stand but for row a -/
def nw_E (P : mz_P) (V : mz_V) (k : Nat) (P' : mz_P) (V' : mz_V) (a : Nat) : Prop := (∀ r, r < k → P'.1 r = P.1 r) ∧ ∀ r, r < k → r ≠ a → P'.2 r = P.2 r ∧ V' r = V r
/-- an array into a field -/
def nw_A (P : mz_P) (V : mz_V) (q : Nat) (P' : mz_P) (V' : mz_V) (a k : Nat) (t : FieldType) (n : Nat) : Prop := nw_F P V q P' V' a ∧ P'.1 q = some (.inr (t, n)) ∧ V' q = (fun _ => 0) ∧ P'.2 a k = some q ∧ ∀ j, j ≠ k → P'.2 a j = P.2 a j
theorem nw_ap {P : mz_P} {V : mz_V} {z : Nat × Nat} {a c k : Nat} {t : FieldType} {v : Value} (n : Nat) {y : Int} (hy : y = n) (hn : n ≤ 65536) (hv : mz_av t none 0 = v) (ha : P.1 a = some (.inl c)) (hz : a < z.1) (hk : mz_fr c k = true) :
    ∃ (P' : mz_P) (V' : mz_V), nw_A P V z.1 P' V' a k t n ∧ ∀ f : mv_H → Option mv_R, (mv_newa (mz_h P V, z) t v (nZ y) fun r1 h1 => mv_pf h1 a c k (.ref r1) f) = f (mz_h P' V', (z.1 + 1, z.2 + n)) := by
  refine ⟨mz_k (mz_g P z.1 (.inr (t, n))) a k z.1, mz_w V z.1 fun _ => 0, ⟨⟨fun r hr => ?_, fun r hr hra => ?_, fun r hr => ?_⟩, ?_, ?_, ?_, fun j hj => ?_⟩, fun f => ?_⟩
  · exact mz_g1 (by omega)
  · funext j
    rw [mz_ka hra, mz_g2 (by omega)]
  · exact mz_w_n _ _ (by omega)
  · exact mz_gs
  · exact mz_w_s _ _ _
  · exact mz_ks
  · rw [mz_kk hj, mz_g2 (by omega)]
  · rw [nw_na n hy hn hv, mz_pr (show (mz_g P z.1 (.inr (t, n))).1 a = some (.inl c) from (mz_g1 (by omega)).trans ha) hk]
/-- what a constructor makes -/
def nw_C (X : mv_X) (d no c cc ss : Nat) (G : mz_P → mz_V → Nat → Prop) : Prop := ∀ (P : mz_P) (V : mz_V) (z : Nat × Nat) (a : Nat), P.1 a = some (.inl c) → a + 1 = z.1 → V a = (fun _ => 0) → ∃ (P' : mz_P) (V' : mz_V), mv_call X d no [.ref a] (mz_h P V, z) = some (.inl none, (mz_h P' V', (z.1 + cc, z.2 + ss))) ∧ nw_E P V z.1 P' V' a ∧ G P' V' a
/-- what is told of an object rests on its cells -/
def nw_S (G : mz_P → mz_V → Nat → Prop) (cc : Nat) : Prop := ∀ (P : mz_P) (V : mz_V) (P' : mz_P) (V' : mz_V) (a : Nat), (∀ r, a ≤ r → r ≤ a + cc → P'.1 r = P.1 r ∧ P'.2 r = P.2 r ∧ V' r = V r) → G P V a → G P' V' a
/-- an object into a field -/
def nw_O (P : mz_P) (V : mz_V) (q : Nat) (P' : mz_P) (V' : mz_V) (a k c : Nat) (G : mz_P → mz_V → Nat → Prop) : Prop := nw_F P V q P' V' a ∧ P'.1 q = some (.inl c) ∧ G P' V' q ∧ P'.2 a k = some q ∧ ∀ j, j ≠ k → P'.2 a j = P.2 a j
theorem nw_op {X : mv_X} {P : mz_P} {V : mz_V} {z : Nat × Nat} {d a ca k c sl no cc ss : Nat} {G : mz_P → mz_V → Nat → Prop} (hC : nw_C X d no c cc ss G) (hS : nw_S G cc) (hd : ((mv_df c).mapIdx fun _ v => mz_fv v none 0) = mv_df c) (ha : P.1 a = some (.inl ca)) (hz : a < z.1) (hk : mz_fr ca k = true) :
    ∃ (P' : mz_P) (V' : mz_V), nw_O P V z.1 P' V' a k c G ∧ ∀ f : mv_H → Option mv_R, (mv_new (mz_h P V, z) (.inl (c, mv_df c)) sl fun r1 h1 => mv_clV (mv_call X d) no [.ref r1] h1 mv_raise fun h2 => mv_pf h2 a ca k (.ref r1) f) = f (mz_h P' V', (z.1 + 1 + cc, z.2 + sl + ss)) := by
  obtain ⟨P1, V1, e1, ⟨f1, f2⟩, g1⟩ := hC (mz_g P z.1 (.inl c)) (mz_w V z.1 fun _ => 0) (z.1 + 1, z.2 + sl) z.1 mz_gs rfl (mz_w_s _ _ _)
  have hp1 : ∀ r, r < z.1 → P1.1 r = P.1 r := fun r hr => (f1 r (show r < z.1 + 1 by omega)).trans (mz_g1 (by omega))
  have hpz : P1.1 z.1 = some (.inl c) := (f1 z.1 (show z.1 < z.1 + 1 by omega)).trans mz_gs
  have hp2 : ∀ r, r < z.1 → P1.2 r = P.2 r := fun r hr => (f2 r (show r < z.1 + 1 by omega) (by omega)).1.trans (mz_g2 (by omega))
  have hv : ∀ r, r < z.1 → V1 r = V r := fun r hr => (f2 r (show r < z.1 + 1 by omega) (by omega)).2.trans (mz_w_n _ _ (by omega))
  refine ⟨mz_k P1 a k z.1, V1, ⟨⟨fun r hr => hp1 r hr, fun r hr hra => ?_, hv⟩, hpz, ?_, mz_ks, fun j hj => ?_⟩, fun f => ?_⟩
  · funext j
    rw [mz_ka hra, hp2 r hr]
  · refine hS P1 V1 _ _ _ (fun r h1 h2 => ⟨rfl, ?_, rfl⟩) g1
    funext j
    rw [mz_ka (by omega)]
  · rw [mz_kk hj, hp2 a hz]
  · rw [mz_new hd]
    simp only [mv_clV, mv_cl, e1]
    rw [mz_pr ((hp1 a hz).trans ha) hk]
/-- a row of objects -/
theorem nw_loop {X : mv_X} {d n a0 ci fi c sl no ar cc ss q u : Nat} {F : Int32 → mv_H → Option mv_R} {E : mv_H → Option mv_R} {G : mz_P → mz_V → Nat → Prop} {y : Int} (hy : y = n) (hn : n ≤ 1000) (hq : q = cc + 1) (hu : u = sl + ss)
    (hF : ∀ (v : Int32) (h : mv_H), F v h = if nZ y ≤ v then E h else mv_gR X h a0 ci fi fun r1 => mv_new h (.inl (c, mv_df c)) sl fun r2 h1 => mv_clV (mv_call X d) no [.ref r2] h1 mv_raise fun h2 => mv_aa h2 r1 v r2 fun h3 => F (v + nZ 1) h3)
    (hfr : mz_fr ci fi = true) (hC : nw_C X d no c cc ss G) (hS : nw_S G cc) (hd : ((mv_df c).mapIdx fun _ v => mz_fv v none 0) = mv_df c) :
    ∀ k i : Nat, i + k = n → ∀ (P : mz_P) (V : mz_V) (z : Nat × Nat), P.1 a0 = some (.inl ci) → P.2 a0 fi = some ar → P.1 ar = some (.inr (.object (mv_cn c), n)) → a0 < z.1 → ar < z.1 → a0 ≠ ar →
    ∃ (P' : mz_P) (V' : mz_V), F (nZ i) (mz_h P V, z) = E (mz_h P' V', (z.1 + q * k, z.2 + u * k)) ∧ nw_F P V z.1 P' V' ar ∧ (∀ j, j < i → P'.2 ar j = P.2 ar j) ∧ ∀ j, j < k → P'.2 ar (i + j) = some (z.1 + q * j) ∧ G P' V' (z.1 + q * j) := by
  subst hy
  intro k
  induction k with
  | zero =>
    intro i hi P V z h1 h2 h3 h4 h5 h6
    refine ⟨P, V, ?_, ⟨fun _ _ => rfl, fun _ _ _ => rfl, fun _ _ => rfl⟩, fun _ _ => rfl, fun j hj => absurd hj (Nat.not_lt_zero _)⟩
    rw [hF, if_pos ((nZ_le ⟨by omega, by omega⟩ ⟨by omega, by omega⟩).mpr (by omega)), Nat.mul_zero, Nat.mul_zero]
    rfl
  | succ k ih =>
    intro i hi P V z h1 h2 h3 h4 h5 h6
    obtain ⟨P1, V1, e1, ⟨f1, f2⟩, g1⟩ := hC (mz_g P z.1 (.inl c)) (mz_w V z.1 fun _ => 0) (z.1 + 1, z.2 + sl) z.1 mz_gs rfl (mz_w_s _ _ _)
    have hp1 : ∀ r, r < z.1 → P1.1 r = P.1 r := fun r hr => (f1 r (show r < z.1 + 1 by omega)).trans (mz_g1 (by omega))
    have hpz : P1.1 z.1 = some (.inl c) := (f1 z.1 (show z.1 < z.1 + 1 by omega)).trans mz_gs
    have hp2 : ∀ r, r < z.1 → P1.2 r = P.2 r := fun r hr => (f2 r (show r < z.1 + 1 by omega) (by omega)).1.trans (mz_g2 (by omega))
    have hv : ∀ r, r < z.1 → V1 r = V r := fun r hr => (f2 r (show r < z.1 + 1 by omega) (by omega)).2.trans (mz_w_n _ _ (by omega))
    obtain ⟨P', V', ee, ⟨w1, w2, w3⟩, w4, w5⟩ := ih (i + 1) (by omega) (mz_k P1 ar i z.1) V1 (z.1 + 1 + cc, z.2 + sl + ss) ((hp1 a0 h4).trans h1) (by rw [mz_ka h6, hp2 a0 h4]; exact h2) ((hp1 ar h5).trans h3) (by show a0 < z.1 + 1 + cc; omega) (by show ar < z.1 + 1 + cc; omega) h6
    have hqk : q * (k + 1) = q * k + q := Nat.mul_succ q k
    have huk : u * (k + 1) = u * k + u := Nat.mul_succ u k
    refine ⟨P', V', ?_, ⟨fun r hr => (w1 r (show r < z.1 + 1 + cc by omega)).trans (hp1 r hr), fun r hr hra => ?_, fun r hr => (w3 r (show r < z.1 + 1 + cc by omega)).trans (hv r hr)⟩, fun j hj => ?_, fun j hj => ?_⟩
    · rw [hF, if_neg (by rw [nZ_le ⟨by omega, by omega⟩ ⟨by omega, by omega⟩]; omega), mz_gR h1 hfr h2, mz_new hd]
      simp only [mv_clV, mv_cl, e1]
      rw [mz_ar ((hp1 ar h5).trans h3) hpz (by omega) (by omega), nZ_add, ← nc1, ee]
      show E (mz_h P' V', (z.1 + 1 + cc + q * k, z.2 + sl + ss + u * k)) = _
      rw [show z.1 + 1 + cc + q * k = z.1 + q * (k + 1) by omega, show z.2 + sl + ss + u * k = z.2 + u * (k + 1) by omega]
    · rw [w2 r (show r < z.1 + 1 + cc by omega) hra]
      funext j
      rw [mz_ka hra, hp2 r hr]
    · rw [w4 j (by omega), mz_kk (by omega), hp2 ar h5]
    · cases j with
      | zero =>
        rw [Nat.mul_zero]
        refine ⟨?_, ?_⟩
        · show P'.2 ar (i + 0) = some z.1
          rw [Nat.add_zero, w4 i (by omega)]
          exact mz_ks
        · show G P' V' z.1
          refine hS P1 V1 _ _ _ (fun r r1 r2 => ⟨w1 r (show r < z.1 + 1 + cc by omega), ?_, w3 r (show r < z.1 + 1 + cc by omega)⟩) g1
          rw [w2 r (show r < z.1 + 1 + cc by omega) (by omega)]
          funext j
          exact mz_ka (by omega)
      | succ j =>
        have h := w5 j (by omega)
        have hqj : q * (j + 1) = q * j + q := Nat.mul_succ q j
        have e1 : i + (j + 1) = i + 1 + j := by omega
        have e2 : z.1 + q * (j + 1) = z.1 + 1 + cc + q * j := by omega
        rw [e1, e2]
        exact h
