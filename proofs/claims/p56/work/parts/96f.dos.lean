/-! THE LAW'S does -/
theorem zl_y {x y : Int} (hx : nS x) (hy : nS y) (h : x ≤ y) : nZ x ≤ nZ y := (nZ_le hx hy).mpr h
theorem zl_n {x y : Int} (hx : nS x) (hy : nS y) (h : y < x) : ¬ nZ x ≤ nZ y := by rw [nZ_le hx hy]; omega
theorem zt_y {x y : Int} (hx : nS x) (hy : nS y) (h : x < y) : nZ x < nZ y := (nZ_lt hx hy).mpr h
theorem zt_n {x y : Int} (hx : nS x) (hy : nS y) (h : y ≤ x) : ¬ nZ x < nZ y := by rw [nZ_lt hx hy]; omega
theorem ze_n {x y : Int} (hx : nS x) (hy : nS y) (h : x ≠ y) : ¬ nZ x = nZ y := by rw [nZ_inj hx hy]; exact h
theorem z0_n {x : Int} (hx : nS x) (h : x ≠ 0) : ¬ nZ x = 0 := by rw [nZ_eq0 hx]; exact h
theorem z0_y {x : Int} (h : x = 0) : nZ x = 0 := by rw [h]; rfl
/-- the law's own texts, outside -/
abbrev tx_H (X : mv_X) (x : Nat) : Prop := mx_S X x 43 [108, 111, 97, 100, 32] ∧ mx_S X x 44 [32] ∧ mx_S X x 45 [59, 119, 97, 105, 116, 32, 49] ∧ mx_S X x 46 [59, 100, 114, 111, 112, 32] ∧ mx_S X x 47 [32, 48] ∧ mx_S X x 48 [59, 114, 105, 115, 101, 32] ∧ mx_S X x 49 [59]
/-- which command a kind is -/
def pd_o (kind a wish j : Nat) (u : Nat → Int) : Prop := (kind < 8 ∧ j = 0 ∧ u 0 = a) ∨ (8 ≤ kind ∧ kind < 20 ∧ j = 2 ∧ u 0 = a ∧ 1 ≤ u 1) ∨ (kind = 20 ∧ j = 1 ∧ u 0 = a) ∨ (21 ≤ kind ∧ kind < 23 ∧ j = 3 ∧ u 0 = a ∧ 0 ≤ u 1) ∨ (23 ≤ kind ∧ kind < 28 ∧ j = 4 ∧ u 0 = a ∧ u 1 = wish) ∨ (28 ≤ kind ∧ kind < 32 ∧ j = 5) ∨ (32 ≤ kind ∧ kind < 36 ∧ j = 7) ∨ (kind = 36 ∧ j = 8) ∨ (37 ≤ kind ∧ kind < 44 ∧ j = 6 ∧ 1 ≤ u 0 ∧ u 0 ≤ 20)
/-- what does told -/
def pd_D (X : mv_X) (x : Nat) (S : Nat → Int) (w : mz_V) (b B : Int) (c : Nat × Nat) (M kind a wish : Nat) (r : Int32) (h1 : mv_H) : Prop := (kind < 44 ∧ ∃ (j : Nat) (u : Nat → Int), pd_o kind a wish j u ∧ (∀ i, i < 4 → nS (u i)) ∧ r = nZ (pc_an (w 1) j u) ∧ ph_H X x S (mg_st w j u) (b + 48) c M h1) ∨ (44 ≤ kind ∧ pu_X X x S w b B c M r h1)
def pd_R (X : mv_X) (x : Nat) (S : Nat → Int) (w : mz_V) (b B : Int) (c : Nat × Nat) (M kind a wish : Nat) (o : Option mv_R) : Prop := ∃ r h1, o = some (.inl (some (.int r)), h1) ∧ pd_D X x S w b B c M kind a wish r h1
theorem pd_u {x0 x1 x2 x3 : Int} (n0 : nS x0) (n1 : nS x1) (n2 : nS x2) (n3 : nS x3) : ∀ i, i < 4 → nS ((fun i => if i = 0 then x0 else if i = 1 then x1 else if i = 2 then x2 else x3) i) := fun i hi => by
  show nS (if i = 0 then x0 else if i = 1 then x1 else if i = 2 then x2 else x3)
  split
  · exact n0
  · split
    · exact n1
    · split
      · exact n2
      · exact n3
section DOES
variable {X : mv_X} {x b0 : Nat} {S : Nat → Int} {w : mz_V} {b B : Int} {c : Nat × Nat} {m M : Nat} {h : mv_H} {d a kind wish L q y0 y1 v n : Nat} {Φ : Option mv_R → Prop} {g : Nat → Nat → mv_H → Option mv_R} {f : Int32 → mv_H → Option mv_R} {P : mz_P} {V : mz_V} {z : Nat × Nat} {k : Int} {v6 v7 v8 : Int32}
theorem pd_ret {r : Int32} {h1 : mv_H} (h : pd_D X x S w b B c M kind a wish r h1) : pd_R X x S w b B c M kind a wish (some (.inl (some (.int r)), h1)) := ⟨r, h1, rfl, h⟩
/-- the whole text is there -/
theorem ID_469 (hQ : ph_Q X x S w b c y0 m P V z) (hB : bu_I P V z y0 a v n L) (hS9 : ∀ k, k < 9 → mx_S X x (21 + k) (fm_l k)) (hb : b ≤ 999999000) (hJ : pn_J (w 1) B) (hk : 44 ≤ kind) {t a1 : Nat} (ht : (∃ k l, t = X.2.1 k ∧ mx_S X x k l ∧ l.length = q) ∨ (tx_W P V t q y1 z.1 ∧ v < y1 ∧ a < y1)) (hL : L + q ≤ 34) (hm : m + 60 ≤ M) {v1 v2 v4 v5 : Int32} {wish : Nat} : pd_R X x S w b B c M kind a1 wish (mv_run X (mv_call X (d + 11)) m_L_does 469 [.ref b0, .int v1, .int v2, .ref x, .int v4, .int v5, .int v6, .int v7, .int v8] [.ref t, .ref a, .ref x] (mz_h P V, z)) := by
  obtain ⟨hW, hx⟩ := ph_Q_W hQ
  rw [bk_L_does_469]
  refine LC_text (d := d + 5) (J := ph_Q X x S w b c y0) hQ ph_Q_f hW (by omega) hB ht hL fun P1 V1 z1 v1 n1 hQ1 hW1 hB1 => ?_
  have hy : y0 ≤ z1.1 := by
    obtain ⟨_, _, _, _, _, q1, _⟩ := hQ1
    exact q1
  refine LC_str (d := d + 3) (J := ph_Q X x S w b c y0) hQ1 (jc_m ph_Q_f hy) hW1 (by omega) hB1 hL fun P2 V2 z2 hQ2 hW2 hT => ?_
  have hT2 : tx_W P2 V2 z1.1 (L + q) y0 z2.1 := by
    obtain ⟨bv, a1, a2, a3, a4, a5, a6, a7⟩ := hT
    exact ⟨bv, a1, a2, a3, a4, a5, ⟨by omega, a6.2⟩, ⟨by omega, a7.2⟩⟩
  refine LP_runs (d := d) hQ2 hS9 hb hJ hL hT2 fun r h1 H1 => ?_
  refine pd_ret (Or.inr ⟨hk, ?_⟩)
  obtain ⟨w2, H2, ho⟩ := H1
  exact ⟨w2, ph_mono (by omega) H2, ho⟩
end DOES
