/-! THE LAW'S runs: the harbour below a bound, what the law makes above it -/
def ph_Q (X : mv_X) (x : Nat) (S : Nat → Int) (w : mz_V) (b : Int) (c : Nat × Nat) (y0 m : Nat) (P : mz_P) (V : mz_V) (z : Nat × Nat) : Prop := ∃ (v n : Nat) (w1 : mz_V), ph_P X x S w1 b P V (y0, 0) v n ∧ ph_E w w1 ∧ y0 ≤ z.1 ∧ z.1 ≤ c.1 + m ∧ z.2 ≤ c.2 + 6 * m
abbrev jc (J : Nat → mz_P → mz_V → Nat × Nat → Prop) (y : Nat) : Prop := ∀ (m : Nat) (P : mz_P) (V : mz_V) (z : Nat × Nat) (P' : mz_P) (V' : mz_V) (z' : Nat × Nat) (e : Nat), J m P V z → bf_K y P V z P' V' z' e → J (m + e) P' V' z'
theorem jc_m {J : Nat → mz_P → mz_V → Nat × Nat → Prop} {y y' : Nat} (h : jc J y) (hy : y ≤ y') : jc J y' := fun m P V z P' V' z' e hJ hf => h m P V z P' V' z' e hJ ⟨fun r hr => hf.1 r (by omega), hf.2⟩
section RUNS
variable {X : mv_X} {x b0 : Nat} {S : Nat → Int} {w : mz_V} {b B : Int} {c : Nat × Nat} {m M : Nat} {h : mv_H} {d a k p y t q y0 y1 v n L x0 : Nat} {Φ : Option mv_R → Prop} {g : Nat → Nat → mv_H → Option mv_R} {f : Int32 → mv_H → Option mv_R} {fR : Nat → mv_H → Option mv_R} {P : mz_P} {V : mz_V} {z : Nat × Nat} {J : Nat → mz_P → mz_V → Nat × Nat → Prop} {l : List Int}
theorem ph_Q_in (hH : ph_H X x S w b c m h) : ∃ (P : mz_P) (V : mz_V) (z : Nat × Nat), h = (mz_h P V, z) ∧ ph_Q X x S w b c z.1 m P V z := by
  obtain ⟨P, V, v, n, w1, e, hP, hE, c1, c2⟩ := hH
  obtain ⟨h1, z⟩ := h
  have e : h1 = mz_h P V := e
  subst e
  exact ⟨P, V, z, rfl, v, n, w1, hP, hE, Nat.le_refl _, c1, c2⟩
theorem ph_Q_out (hQ : ph_Q X x S w b c y0 m P V z) : ph_H X x S w b c m (mz_h P V, z) := by
  obtain ⟨v, n, w1, ⟨h1, hX, ⟨z1, z2⟩, r⟩, hE, y1, c1, c2⟩ := hQ
  have z1 : x + 377 ≤ y0 := z1
  have z2 : v < y0 := z2
  exact ⟨P, V, v, n, w1, rfl, ⟨h1, hX, ⟨by show x + 377 ≤ z.1; omega, by show v < z.1; omega⟩, r⟩, hE, c1, c2⟩
theorem ph_Q_W (hQ : ph_Q X x S w b c y0 m P V z) : mx_W X P x ∧ x + 377 ≤ y0 := by
  obtain ⟨v, n, w1, ⟨h1, hX, ⟨z1, z2⟩, r⟩, hE, y1, c1, c2⟩ := hQ
  exact ⟨hX, z1⟩
theorem ph_Q_f : jc (ph_Q X x S w b c y0) y0 := by
  intro m P V z P' V' z' e hQ hf
  obtain ⟨v, n, w1, ⟨⟨hP, hW, hJ⟩, hX, ⟨z1, z2⟩, hv, h16, hs, hS⟩, hE, y1, c1, c2⟩ := hQ
  have z1 : x + 377 ≤ y0 := z1
  have z2 : v < y0 := z2
  obtain ⟨f1, f2, f3⟩ := hf
  obtain ⟨b1, b2, b3, b4, b5, b6⟩ := hP.2.2.2.2.2.1
  refine ⟨v, n, w1, ⟨⟨mX_P_c (fun r r1 r2 => (f1 r (by omega)).1) (fun r r1 r2 r3 => (f1 r (by omega)).2.1) (by rw [(f1 _ (by omega)).2.1]; exact b2) (by rw [(f1 _ z2).1]; exact b3) ⟨b4, b5⟩ (by omega) hP, mX_is_g hJ.1 (by omega) (fun r r1 r2 => (f1 r (by omega)).2.2) (f1 v z2).2.2 hW, hJ⟩, mx_W_l (fun r hr => (f1 r (by omega)).1) hX, ⟨z1, z2⟩, hv, h16, by rw [(f1 _ (by omega)).1]; exact hs, by rw [(f1 _ (by omega)).2.2]; exact hS⟩, hE, by omega, by omega, by omega⟩
/-- a new builder -/
theorem LC_new {f : Nat → mv_H → Option mv_R} (hJ : J m P V z) (hc : jc J z.1) (hW : mx_W X P x0) (hx : x0 ≤ z.1) (K : ∀ (P' : mz_P) (V' : mz_V) (z' : Nat × Nat) (v' : Nat), J (m + 4) P' V' z' → mx_W X P' x0 → bu_I P' V' z' z.1 z.1 v' 16 0 → Φ (f z.1 (mz_h P' V', z'))) : Φ (mv_new (mz_h P V, z) (.inl (1, mv_df 1)) 4 fun r h => mv_clV (mv_call X (d + 2)) 273 [.ref r] h mv_raise fun h' => f r h') := by
  rw [mz_new (by rfl)]
  have hW1 : mx_W X (mz_g P z.1 (.inl 1)) x0 := mx_W_l (fun r hr => mz_g1 (by omega)) hW
  obtain ⟨P', V', e, hB, hf⟩ := B_new (X := X) (P := mz_g P z.1 (.inl 1)) (V := mz_w V z.1 fun _ => 0) (z := (z.1 + 1, z.2 + 4)) (d := d) (a := z.1) (y0 := z.1) hW1 mz_gs (by rw [mz_w_s]) ⟨Nat.le_refl _, by show z.1 < z.1 + 1; omega⟩
  simp only [mv_clV, mv_cl, e]
  have hf : ∀ r, r < z.1 → P'.1 r = P.1 r ∧ P'.2 r = P.2 r ∧ V' r = V r := fun r hr => by
    obtain ⟨r1, r2, r3⟩ := hf r (by show r < z.1 + 1; omega) (by omega)
    exact ⟨by rw [r1, mz_g1 (by omega)], by rw [r2, mz_g2 (by omega)], by rw [r3, mz_w_n _ _ (by omega)]⟩
  exact K P' V' _ _ (hc m P V z P' V' _ 4 hJ ⟨hf, ⟨by show z.1 ≤ z.1 + 1 + 1; omega, by show z.1 + 1 + 1 ≤ z.1 + 4; omega⟩, by show z.2 + 4 + 16 ≤ z.2 + 6 * 4; omega⟩) (mx_W_l (fun r hr => (hf r (by omega)).1) hW) hB
theorem LC_text {t : Nat} (hJ : J m P V z) (hc : jc J y0) (hW : mx_W X P x0) (hx : x0 ≤ y0) (hB : bu_I P V z y0 a v n L) (ht : (∃ k l, t = X.2.1 k ∧ mx_S X x0 k l ∧ l.length = q) ∨ (tx_W P V t q y1 z.1 ∧ v < y1 ∧ a < y1)) (hL : L + q ≤ 34) (K : ∀ (P' : mz_P) (V' : mz_V) (z' : Nat × Nat) (v' n' : Nat), J (m + 12) P' V' z' → mx_W X P' x0 → bu_I P' V' z' y0 a v' n' (L + q) → Φ (fR a (mz_h P' V', z'))) : Φ (mv_rcv X (mz_h P V, z) [.ref a, .ref t] 1 (mv_clR (mv_call X (d + 6)) 337 [.ref a, .ref t] (mz_h P V, z) g fR)) := by
  obtain ⟨P', V', z', v', n', e, hB', hF⟩ := B_text (d := d) hW hx hB ht hL
  have hf := bf_of hF hB.2.2.2.2.1 hB.2.2.2.2.2.1.1
  rw [mz_rcv hB.1]
  simp only [mv_clR, mv_cl, e]
  exact K P' V' z' v' n' (hc m P V z P' V' z' 12 hJ hf) (mx_W_l (fun r hr => (hf.1 r (by omega)).1) hW) hB'
theorem LC_num {u : Int} (hJ : J m P V z) (hc : jc J y0) (hW : mx_W X P x0) (hx : x0 ≤ y0) (hB : bu_I P V z y0 a v n L) (hu : 0 ≤ u ∧ u ≤ 99) (hL : L + 2 ≤ 34) (K : ∀ (P' : mz_P) (V' : mz_V) (z' : Nat × Nat) (v' n' L' : Nat), L' ≤ L + 2 → J (m + 12) P' V' z' → mx_W X P' x0 → bu_I P' V' z' y0 a v' n' L' → Φ (fR a (mz_h P' V', z'))) : Φ (mv_rcv X (mz_h P V, z) [.ref a, .int (nZ u)] 1 (mv_clR (mv_call X (d + 6)) 275 [.ref a, .int (nZ u)] (mz_h P V, z) g fR)) := by
  obtain ⟨P', V', z', v', n', L', hL', e, hB', hF⟩ := B_num (d := d) hW hx hB hL hu
  have hf := bf_of hF hB.2.2.2.2.1 hB.2.2.2.2.2.1.1
  rw [mz_rcv hB.1]
  simp only [mv_clR, mv_cl, e]
  exact K P' V' z' v' n' L' hL' (hc m P V z P' V' z' 12 hJ hf) (mx_W_l (fun r hr => (hf.1 r (by omega)).1) hW) hB'
theorem LC_str (hJ : J m P V z) (hc : jc J z.1) (hW : mx_W X P x0) (hx : x0 ≤ z.1) (hB : bu_I P V z y0 a v n L) (hL : L ≤ 34) (K : ∀ (P' : mz_P) (V' : mz_V) (z' : Nat × Nat), J (m + 8) P' V' z' → mx_W X P' x0 → tx_W P' V' z.1 L z.1 z'.1 → Φ (fR z.1 (mz_h P' V', z'))) : Φ (mv_rcv X (mz_h P V, z) [.ref a] 1 (mv_clR (mv_call X (d + 8)) 338 [.ref a] (mz_h P V, z) g fR)) := by
  obtain ⟨P', V', z', e, hT, hf⟩ := B_str (d := d) hW hx hB hL
  rw [mz_rcv hB.1]
  simp only [mv_clR, mv_cl, e]
  exact K P' V' z' (hc m P V z P' V' z' 8 hJ hf) (mx_W_l (fun r hr => (hf.1 r (by omega)).1) hW) hT
/-- one sign is fed, the text stands -/
theorem ph_Q_feed {u : Int} (hQ : ph_Q X x S w b c y0 m P V z) (hu : 0 ≤ u ∧ u ≤ 65535) : ∃ (r : Int32) (V' : mz_V) (z' : Nat × Nat), mv_call X (d + 3) 372 [.ref x, .int (nZ u)] (mz_h P V, z) = some (.inl (some (.int r)), (mz_h P V', z')) ∧ ph_Q X x S w b c y0 (m + 1) P V' z' ∧ ∀ r, y0 ≤ r → V' r = V r := by
  have hr := ph_Q_out hQ
  obtain ⟨v, n, w1, ⟨⟨hP, hW, hJ⟩, hX, ⟨z1, z2⟩, hv, h16, hs, hS⟩, hE, y1, c1, c2⟩ := hQ
  have z1 : x + 377 ≤ y0 := z1
  have z2 : v < y0 := z2
  obtain ⟨V', e', hW', hX'⟩ := Q8_feed (X := X) (z := z) (d := d) hP hW hJ.1 hu
  have h376 := (hX' (x + 376) (by omega) (by omega)).trans hS
  have hk : ∀ r, y0 ≤ r → V' r = V r := fun r hr => hX' r (by omega) (by omega)
  by_cases c60 : w1 0 15 = 60
  · rw [if_pos c60, mq_r1 (by decide)] at e'
    rw [if_pos c60] at hW'
    have e2 : mv_call X (d + 3) 372 [.ref x, .int (nZ u)] (mz_h P V, z) = some (.inl (some (.int (nZ (-79)))), (mz_h P V', (z.1 + 1, z.2 + 6))) := by
      rw [mc_L_feed, bk_L_feed_0, bk_L_feed_2, ph_rcv hr]
      simp only [mv_clI, mv_cl, e']
      exact bk_L_feed_7 _ _ _ _ _
    exact ⟨_, V', _, e2, ⟨v, n, w1, ⟨⟨hP, hW', hJ⟩, hX, ⟨z1, z2⟩, hv, h16, hs, h376⟩, hE, by show y0 ≤ z.1 + 1; omega, by show z.1 + 1 ≤ c.1 + (m + 1); omega, by show z.2 + 6 ≤ c.2 + 6 * (m + 1); omega⟩, hk⟩
  · rw [if_neg c60, mq_r0 rfl] at e'
    rw [if_neg c60] at hW'
    have e2 : mv_call X (d + 3) 372 [.ref x, .int (nZ u)] (mz_h P V, z) = some (.inl (some (.int (nZ (w1 0 15 + 1)))), (mz_h P V', z)) := by
      rw [mc_L_feed, bk_L_feed_0, bk_L_feed_2, ph_rcv hr]
      simp only [mv_clI, mv_cl, e']
      exact bk_L_feed_5 _ _ _ _ _ _
    have ek : ∀ j, j ≠ 15 → mg_fd w1 u 0 j = w1 0 j := fun j hj => by
      unfold mg_fd
      rw [mz_u_k _ _ hj, mz_w_n _ _ (by decide)]
    have er : ∀ r, r ≠ 0 → r ≠ 6 → mg_fd w1 u r = w1 r := fun r h0 h6 => by
      unfold mg_fd
      rw [mz_u_o h0, mz_w_n _ _ h6]
    obtain ⟨g1, g2, g3, g4, g5, g6, g7⟩ := hE
    exact ⟨_, V', _, e2, ⟨v, n, mg_fd w1 u, ⟨⟨hP, hW', mg_fd_J hJ c60 hu⟩, hX, ⟨z1, z2⟩, hv, by rw [ek 16 (by decide)]; exact h16, hs, h376⟩, ⟨(er 1 (by decide) (by decide)).trans g1, (er 3 (by decide) (by decide)).trans g2, (er 4 (by decide) (by decide)).trans g3, (ek 6 (by decide)).trans g4, (ek 7 (by decide)).trans g5, (ek 19 (by decide)).trans g6, (ek 20 (by decide)).trans g7⟩, y1, by omega, by omega⟩, hk⟩
/-- what executing told -/
def pu_X (X : mv_X) (x : Nat) (S : Nat → Int) (w : mz_V) (b B : Int) (c : Nat × Nat) (M : Nat) (r : Int32) (h1 : mv_H) : Prop := ∃ w2 : mz_V, ph_H X x S w2 (b + 432) c M h1 ∧ ((∃ n : Nat, n ≤ 9 ∧ r = nZ n ∧ ph_ch w w2 ∧ pn_J (w2 1) (B + 4320)) ∨ ((r = nZ (-78) ∨ r = nZ (-76)) ∧ ph_no w w2))
def pu_XR (X : mv_X) (x : Nat) (S : Nat → Int) (w : mz_V) (b B : Int) (c : Nat × Nat) (M : Nat) (o : Option mv_R) : Prop := ∃ r h1, o = some (.inl (some (.int r)), h1) ∧ pu_X X x S w b B c M r h1
theorem LR_2 (hS9 : ∀ k, k < 9 → mx_S X x (21 + k) (fm_l k)) (hb : b ≤ 999999000) (hJn : pn_J (w 1) B) (hq : q ≤ 34) {y2 : Nat} : ∀ (i j m : Nat) (V : mz_V) (z : Nat × Nat) (j3 : Value), ph_Q X x S w b c y0 m P V z → tx_W P V t q y0 y2 → j + i = q → m + i + 1 ≤ M → pu_XR X x S w b B c M (mv_run X (mv_call X (d + 10)) m_L_runs 2 [.ref x, .ref t, .int (nZ j), j3] [] (mz_h P V, z))
  | 0, j, m, V, z, j3, hQ, hT, hj, hm => by
    obtain ⟨hW, hy⟩ := ph_Q_W hQ
    have hC : tx_C X P V z t q 0 := tx_C_W hW hT (by omega) (Or.inl (by omega))
    rw [bk_L_runs_2, hC.1]
    refine ph_ret (hC.2.2.1 (d + 8)) ?_
    rw [if_pos ((nZ_le ⟨by omega, by omega⟩ ⟨by omega, by omega⟩).mpr (by omega))]
    refine LP_execute (d := d) (ph_Q_out hQ) hS9 hb hJn fun r h1 w2 H1 ho => ?_
    exact ⟨r, h1, rfl, w2, ph_mono (by omega) H1, ho⟩
  | i + 1, j, m, V, z, j3, hQ, hT, hj, hm => by
    obtain ⟨hW, hy⟩ := ph_Q_W hQ
    have hC : tx_C X P V z t q 0 := tx_C_W hW hT (by omega) (Or.inl (by omega))
    obtain ⟨u, hu, e269⟩ := tx_chr (z := z) (d := d + 6) hW hT (by omega) (show j < q by omega)
    obtain ⟨r, V', z', e372, hQ', hk⟩ := ph_Q_feed (d := d + 7) hQ (show 0 ≤ u ∧ u ≤ 65535 by omega)
    rw [bk_L_runs_2, hC.1]
    refine ph_ret (hC.2.2.1 (d + 8)) ?_
    rw [if_neg (by rw [nZ_le ⟨by omega, by omega⟩ ⟨by omega, by omega⟩]; omega), hC.1]
    refine ph_ret e269 ?_
    refine ph_ret e372 ?_
    rw [nZ_add, ← nc1]
    exact LR_2 hS9 hb hJn hq i (j + 1) (m + 1) V' z' _ hQ' (tx_W_f (fun _ _ _ => rfl) (fun _ _ _ => rfl) (fun r r1 _ => hk r r1) hT) (by omega) (by omega)
theorem LP_runs (hQ : ph_Q X x S w b c y0 m P V z) (hS9 : ∀ k, k < 9 → mx_S X x (21 + k) (fm_l k)) (hb : b ≤ 999999000) (hJn : pn_J (w 1) B) (hq : q ≤ 34) {y2 : Nat} (hT : tx_W P V t q y0 y2) (K : ∀ (r : Int32) (h1 : mv_H), pu_X X x S w b B c (m + 40) r h1 → Φ (f r h1)) : Φ (mv_clI (mv_call X (d + 11)) 379 [.ref x, .ref t] (mz_h P V, z) g f) := by
  obtain ⟨r, h1, e, H1⟩ := LR_2 (M := m + 40) (d := d) hS9 hb hJn hq q 0 m V z (.retAddr 0) hQ hT (by omega) (by omega)
  have e2 : mv_call X (d + 11) 379 [.ref x, .ref t] (mz_h P V, z) = some (.inl (some (.int r)), h1) := by
    rw [mc_L_runs, bk_L_runs_0]
    exact e
  exact ph_ret e2 (K r h1 H1)
end RUNS
