/-! ONE CALL OF THE LAW: what its parts want -/
theorem mX_is_g {V V' : mz_V} {x v : Nat} {w : mz_V} {b : Int} (hI : mg_I w b) (hv : v = x + 368 ∨ x + 376 ≤ v) (h : ∀ r, x ≤ r → r < x + 368 → V' r = V r) (h2 : V' v = V v) (hW : mX_is V x v w) : mX_is V' x v w := by
  obtain ⟨W1, W2, W3, W4, W5, W6⟩ := hW
  have hx := h x (by omega) (by omega)
  exact ⟨mh_R_f hI.1.1.pil.2 (fun r r1 r2 => h r (by omega) (by omega)) W1, mX_s_same hI W2 rfl rfl (by rw [hx]) (fun r r1 r2 => h r (by omega) (by omega)), mX_h_same hI W3 rfl rfl (fun r r1 r2 => h r (by omega) (by omega)), mX_t_same W4 rfl rfl (by rw [h _ (by omega) (by omega)]) (h _ (by omega) (by omega)), mX_l_same W5 rfl rfl (h _ (by omega) (by omega)) h2, mX_d_same W6 rfl rfl rfl rfl (by rw [hx]) (by rw [hx]) (by rw [hx]) (by rw [hx])⟩
theorem mr_is_o {V V' : mz_V} {m : Nat} {w : mz_V} (h : ∀ r, r ≠ m + 2 → r ≠ m + 5 → r ≠ m + 7 → r ≠ m + 9 → r ≠ m + 10 → r ≠ m + 11 → r ≠ m + 12 → V' r = V r) (hw : mr_is V m w) : mr_is V' m w := by
  obtain ⟨⟨w1, w3, w4, w6, w8⟩, wf⟩ := hw
  exact ⟨⟨by rw [h _ (by omega) (by omega) (by omega) (by omega) (by omega) (by omega) (by omega)]; exact w1, by rw [h _ (by omega) (by omega) (by omega) (by omega) (by omega) (by omega) (by omega)]; exact w3, by rw [h _ (by omega) (by omega) (by omega) (by omega) (by omega) (by omega) (by omega)]; exact w4, by rw [h _ (by omega) (by omega) (by omega) (by omega) (by omega) (by omega) (by omega)]; exact w6, by rw [h _ (by omega) (by omega) (by omega) (by omega) (by omega) (by omega) (by omega)]; exact w8⟩, fun k hk => by rw [h _ (by omega) (by omega) (by omega) (by omega) (by omega) (by omega) (by omega)]; exact wf k hk⟩
theorem mg_cd0 {k : Nat} {r : Int} : mg_cd k r = 0 ↔ r = 0 := by
  unfold mg_cd
  by_cases c0 : r = 0
  · rw [if_pos c0]; exact ⟨fun _ => c0, fun _ => rfl⟩
  · rw [if_neg c0]
    by_cases c5 : r ≤ 5
    · rw [if_pos c5]
      have : mg_pl k ≠ 0 := by unfold mg_pl; split <;> decide
      exact ⟨fun h => absurd h this, fun h => absurd h c0⟩
    · rw [if_neg c5]
      have := mc_cd_in k r
      exact ⟨fun h => by omega, fun h => absurd h c0⟩
theorem mg_cd3 (k : Nat) (r : Int) : 0 ≤ mg_cd k r ∧ mg_cd k r ≤ 3 := by
  unfold mg_cd
  by_cases c0 : r = 0
  · rw [if_pos c0]; decide
  · rw [if_neg c0]
    by_cases c5 : r ≤ 5
    · rw [if_pos c5]
      unfold mg_pl
      split <;> decide
    · rw [if_neg c5]
      have := mc_cd_in k r
      omega
theorem mg_st_16 (w : mz_V) (k : Nat) (y : Nat → Int) : mg_st w k y 0 16 = w 0 16 := by
  unfold mg_st
  split
  · rw [mz_u_k _ _ (by decide), mz_w_n _ _ (by decide), mz_w_n _ _ (by decide)]
  · split
    · rw [mz_u_k _ _ (by decide), mz_u_k _ _ (by decide), mz_u_k _ _ (by decide)]
    · rfl
section LAWH
variable {X : mv_X} {P P1 : mz_P} {V V1 : mz_V} {z z1 : Nat × Nat} {x v n d : Nat} {w : mz_V} {b cd an : Int} {ex : Nat}
theorem lw_chg (hI : lw_I X x P V z v n w b) (hb : b ≤ 999999900) {k : Nat} (hk : k < 9) {x0 x1 x2 x3 : Int} (n0 : nS x0) (n1 : nS x1) (n2 : nS x2) (n3 : nS x3) {u : Nat → Int} (hu : u = fun i => if i = 0 then x0 else if i = 1 then x1 else if i = 2 then x2 else x3) :
    ∃ (V1 : mz_V) (z1 : Nat × Nat), lw_o (mv_call X (d + 8) 137 [.ref x, .int (nZ k), .int (nZ x0), .int (nZ x1), .int (nZ x2), .int (nZ x3)] (mz_h P V, z)) (mg_cd k (mc_rf (w 1) k u)) (mc_an (w 1) k u) (mg_ex (mc_rf (w 1) k u)) P V1 z1 ∧ lw_B X x P V z P V1 z1 v n (mg_st w k u) := by
  obtain ⟨⟨hP, hW, hM, hw, hJ⟩, -, -⟩ := id hI
  obtain ⟨V1, e1, e2, e3⟩ := Y8_change (X := X) (z := z) (d := d) hP hW hJ.1 hb hk n0 n1 n2 n3 hu
  obtain ⟨z1, h1, h2⟩ := lw_q (cd := mg_cd k (mc_rf (w 1) k u)) (an := mc_an (w 1) k u) (ex := mg_ex (mc_rf (w 1) k u)) hI (r := mv_call X (d + 8) 137 [.ref x, .int (nZ k), .int (nZ x0), .int (nZ x1), .int (nZ x2), .int (nZ x3)] (mz_h P V, z)) (by
    rw [e1]
    by_cases c : mc_rf (w 1) k u = 0
    · rw [if_pos c, mq_r0 (mg_cd0.mpr c)]
    · rw [if_neg c, mq_r1 (fun h => c (mg_cd0.mp h))]) e2 e3 (mg_st_16 w k u)
  exact ⟨V1, z1, h1, h2⟩
theorem lw_thru {r r2 : Option mv_R} {k : Option mv_R → Option mv_R} (ho : lw_o r2 cd an ex P1 V1 z1) (h1 : ∀ y h, k (some (.inl (some (.int y)), h)) = some (.inl (some (.int y)), h)) (h2 : ∀ e q h, k (some (.inr (e, q), h)) = some (.inr (e, q), h)) (hr : r = k r2) : lw_o r cd an ex P1 V1 z1 := by
  rcases ho with ⟨c, e⟩ | ⟨c, q, e⟩
  · exact Or.inl ⟨c, by rw [hr, e, h1]⟩
  · exact Or.inr ⟨c, q, by rw [hr, e, h2]⟩
end LAWH
