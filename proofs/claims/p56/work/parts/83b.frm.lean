/-! FORMS OF COMMANDS -/
/-- the text k that stands outside: its characters -/
def mx_S (X : mv_X) (x0 k : Nat) (l : List Int) : Prop := ∃ (v N : Nat) (fs : List Value) (g : Nat → Value), X.2.1 k < x0 ∧ v < x0 ∧ X.1 (X.2.1 k) = some (.inl (0, fs)) ∧ fs[0]? = some (.ref v) ∧ fs[1]? = some (.int (nZ 0)) ∧ X.1 v = some (.inr (.byte, N, g)) ∧ (l.length ≤ N ∧ nZ N = nZ l.length) ∧ l.length ≤ 100 ∧ ∀ j y, l[j]? = some y → g j = .int (nZ y) ∧ 0 ≤ y ∧ y ≤ 127
section FRM
variable {X : mv_X} {P : mz_P} {V : mz_V} {z : Nat × Nat} {x v n d c L p x0 k : Nat} {t F : Nat → Int} {q : Nat × (Nat → Int)} {l : List Int}
theorem mx_cO {a : Nat} (h : P.1 a = none) : mv_cell X (mz_h P V, z) a = X.1 a := by
  unfold mv_cell
  have e0 : mz_h P V a = none := by unfold mz_h; rw [h]; rfl
  simp only [e0]
theorem mx_rO {f : Option mv_R} {as : List Value} {a ci : Nat} {fs : List Value} (h : P.1 a = none) (hX : X.1 a = some (.inl (ci, fs))) : mv_rcv X (mz_h P V, z) (.ref a :: as) ci f = f := by
  unfold mv_rcv
  simp only [mx_cO h, hX, if_true]
theorem mx_gRO {f : Nat → Option mv_R} {a ci j b : Nat} {fs : List Value} (h : P.1 a = none) (hX : X.1 a = some (.inl (ci, fs))) (hj : fs[j]? = some (.ref b)) : mv_gR X (mz_h P V, z) a ci j f = f b := by
  unfold mv_gR mv_gf
  simp only [mx_cO h, hX, hj, mv_ref, if_true]
theorem mx_gIO {f : Int32 → Option mv_R} {a ci j : Nat} {y : Int32} {fs : List Value} (h : P.1 a = none) (hX : X.1 a = some (.inl (ci, fs))) (hj : fs[j]? = some (.int y)) : mv_gI X (mz_h P V, z) a ci j f = f y := by
  unfold mv_gI mv_gf
  simp only [mx_cO h, hX, hj, mv_int, if_true]
theorem mx_lO {f : Int32 → Option mv_R} {a N : Nat} {ty : FieldType} {g : Nat → Value} (h : P.1 a = none) (hX : X.1 a = some (.inr (ty, N, g))) : mv_len X (mz_h P V, z) a f = f (nZ N) := by
  unfold mv_len
  simp only [mx_cO h, hX]
theorem J0_len (hW : mx_W X P x0) (hS : mx_S X x0 k l) : mv_call X (d + 2) 268 [.ref (X.2.1 k)] (mz_h P V, z) = some (.inl (some (.int (nZ l.length))), (mz_h P V, z)) := by
  obtain ⟨vv, NN, fs, g, h1, h2, h3, h4, h5, h6, ⟨hN1, hN2⟩, h7, h8⟩ := hS
  have e270 : mv_call X (d + 1) 270 [.ref (X.2.1 k)] (mz_h P V, z) = some (.inl (some (.int (nZ 0))), (mz_h P V, z)) := by
    rw [mc_J0_coder_7d493, bk_J0_coder_7d493_0, hW.2.1]
    simp only [mv_int]
    rw [if_neg (by decide), mx_gIO (hW.1 _ h1) h3 h5, mv_chk_t (by decide)]
  rw [mc_J0_length_8abf5, bk_J0_length_8abf5_0, mx_gRO (hW.1 _ h1) h3 h4, mx_lO (hW.1 _ h2) h6, hN2, mx_rO (hW.1 _ h1) h3]
  simp only [mv_clI, mv_cl, e270, sh0r]
theorem J0_chr (hW : mx_W X P x0) (hS : mx_S X x0 k l) {j : Nat} {y : Int} (hj : l[j]? = some y) : mv_call X (d + 4) 269 [.ref (X.2.1 k), .int (nZ j)] (mz_h P V, z) = some (.inl (some (.int (nZ y))), (mz_h P V, z)) := by
  obtain ⟨vv, NN, fs, g, h1, h2, h3, h4, h5, h6, ⟨hN1, hN2⟩, h7, h8⟩ := hS
  have hjl : j < l.length := (List.getElem?_eq_some_iff.mp hj).1
  obtain ⟨g1, g2⟩ := h8 j y hj
  have e271 : mv_call X (d + 3) 271 [.ref (X.2.1 k)] (mz_h P V, z) = some (.inl (some (.int (nZ 1))), (mz_h P V, z)) := by
    rw [mc_J0_isLatin1_aae02, bk_J0_isLatin1_aae02_0, hW.2.1]
    simp only [mv_int]
    rw [if_neg (by decide), mx_gIO (hW.1 _ h1) h3 h5, if_pos (by rfl)]
  have e284 : mv_call X (d + 1) 284 [.int (nZ j), .int (nZ l.length), X.2.2 3] (mz_h P V, z) = some (.inl (some (.int (nZ j))), (mz_h P V, z)) := by
    rw [mc_J3_checkIndex_8e157, bk_J3_checkIndex_8e157_0, if_neg (by rw [nZ_lt0 ⟨by omega, by omega⟩]; omega), if_pos ((nZ_lt ⟨by omega, by omega⟩ ⟨by omega, by omega⟩).mpr (by omega))]
  have e272 : mv_call X (d + 2) 272 [.int (nZ j), .int (nZ l.length)] (mz_h P V, z) = some (.inl none, (mz_h P V, z)) := by
    rw [mc_J0_checkIndex_df160, bk_J0_checkIndex_df160_0, mv_chk_t hW.2.2.2.2]
    simp only [mv_clI, mv_cl, e284]
  have e279 : mv_call X (d + 3) 279 [.ref vv, .int (nZ j)] (mz_h P V, z) = some (.inl (some (.int (nZ y))), (mz_h P V, z)) := by
    rw [mc_J1_charAt_3b067, bk_J1_charAt_3b067_0, mx_lO (hW.1 _ h2) h6, hN2]
    simp only [mv_clV, mv_cl, e272]
    rw [mx_aO (y := y) (hW.1 _ h2) h6 (by omega) (by omega) (by omega) (by rw [Int.toNat_natCast]; exact g1), (sb_by g2).2, (mq_char (show 0 ≤ y ∧ y ≤ 65535 by omega)).2.2, mv_chk_t (mq_char (show 0 ≤ y ∧ y ≤ 65535 by omega)).2.1]
  rw [mc_J0_charAt_5068e, bk_J0_charAt_5068e_0, mx_rO (hW.1 _ h1) h3]
  simp only [mv_clI, mv_cl, e271]
  rw [if_neg (by decide), mx_gRO (hW.1 _ h1) h3 h4]
  simp only [e279]
  rw [mv_chk_t (mq_char (show 0 ≤ y ∧ y ≤ 65535 by omega)).2.1]
/-- the forms -/
def fm_l (k : Nat) : List Int := if k = 0 then [109, 111, 111, 114, 32, 68, 32, 78, 32, 78, 32, 78] else if k = 1 then [99, 97, 115, 116, 32, 68] else if k = 2 then [108, 111, 97, 100, 32, 68, 32, 78] else if k = 3 then [100, 114, 111, 112, 32, 68, 32, 68] else if k = 4 then [114, 105, 115, 101, 32, 68, 32, 78] else if k = 5 then [119, 105, 110, 100, 32, 78, 61, 83] else if k = 6 then [119, 97, 105, 116, 32, 78] else if k = 7 then [112, 105, 108, 111, 116, 32, 78, 32, 78, 45, 78] else [108, 101, 97, 118, 101, 32, 68]
theorem pr_num_L (k : Nat) (h : p ≤ L) (y : Int) : (pr_num t L k p y).2 ≤ L := (pr_num_p t L k p y).2.1 h
theorem pr_at_L {y : Int} (h : p ≤ L) : p ≤ (pr_at t L y p q).2.1 ∧ (pr_at t L y p q).2.1 ≤ L ∧ (q.1 ≤ 4 → (pr_at t L y p q).2.2.1 ≤ 4) := by
  have n1 := pr_num_p t L 1 p 0
  have n2 := pr_num_p t L 2 p 0
  have n3 := pr_num_p t L 1 (p + 1) 0
  unfold pr_at
  by_cases c1 : y = 68
  · rw [if_pos c1]; exact ⟨n1.1, n1.2.1 h, ps_add_1⟩
  · rw [if_neg c1]
    by_cases c2 : y = 78
    · rw [if_pos c2]; exact ⟨n2.1, n2.2.1 h, ps_add_1⟩
    · rw [if_neg c2]
      by_cases c3 : y = 83
      · rw [if_pos c3]
        by_cases c4 : pr_chr t L 45 p = true
        · have := (of_decide_eq_true c4).1
          rw [if_pos c4]
          exact ⟨by have := n3.1; show p ≤ (pr_num t L 1 (p + 1) 0).2; omega, n3.2.1 (by omega), ps_add_1⟩
        · rw [if_neg c4]; exact ⟨n1.1, n1.2.1 h, ps_add_1⟩
      · rw [if_neg c3]
        by_cases c4 : pr_chr t L y p = true
        · have := (of_decide_eq_true c4).1
          rw [if_pos c4]
          exact ⟨by show p ≤ p + 1; omega, by show p + 1 ≤ L; omega, fun h => h⟩
        · rw [if_neg c4]
          exact ⟨Nat.le_refl _, h, fun h => h⟩
theorem X6_readAs (hX : mx_W X P x0) (hS : mx_S X x0 (21 + k) (fm_l k)) (hk : k < 9) (hP : mX_P P x v n) (hT : pz_T P V x L t) (hc : x + 349 ≤ c) (hC : mz_Cm P c) (hp : p ≤ L) : mv_call X (d + 5) 72 [.ref (x + 346), .int (nZ k), .ref c] (mz_h P (pz_V V x c F p q), z) = some (.inl (some (.int (nZ (if (pr_fm t L (fm_l k) p (0, q.2)).1 = true then 1 else 0)))), (mz_h P (pz_V V x c (mr_up F 0 k) (pr_fm t L (fm_l k) p (0, q.2)).2.1 (pr_fm t L (fm_l k) p (0, q.2)).2.2), z)) := by
  obtain ⟨t1, t2, t3, -⟩ := hP.tx
  have e73 : mv_call X (d + 4) 73 [.int (nZ k)] (mz_h P (pz_V V x c F p q), z) = some (.inl (some (.ref (X.2.1 (21 + k)))), (mz_h P (pz_V V x c F p q), z)) := by
    rw [mc_X6_formOf, bk_X6_formOf_0]
    have : k = 0 ∨ k = 1 ∨ k = 2 ∨ k = 3 ∨ k = 4 ∨ k = 5 ∨ k = 6 ∨ k = 7 ∨ k = 8 := by omega
    rcases this with rfl | rfl | rfl | rfl | rfl | rfl | rfl | rfl | rfl
    all_goals rfl
  have eb : mz_w (mz_w (pz_V V x c F p q) c (mr_up (mr_up F 1 q.1) 0 k)) c (mr_up (mr_up (mr_up F 1 q.1) 0 k) 1 0) = pz_V V x c (mr_up F 0 k) p (0, q.2) := by
    rw [mz_w_w]
    have e : mr_up (mr_up (mr_up F 1 q.1) 0 k) 1 0 = mr_up (mr_up F 0 k) 1 0 := by
      funext j
      unfold mr_up
      repeat' split
      all_goals first | rfl | contradiction
    rw [e]
    unfold pz_V
    rw [mz_w_c _ _ _ (show c + 1 ≠ c by omega), mz_w_w]
    rfl
  have e17 : mv_call X (d + 4) 17 [.ref c, .int (nZ k)] (mz_h P (pz_V V x c F p q), z) = some (.inl none, (mz_h P (pz_V V x c (mr_up F 0 k) p (0, q.2)), z)) := by
    rw [mc_X1_begin, bk_X1_begin_0, mz_pW hC.1 (by decide), mz_pW hC.1 (by decide), mz_w_s, pz_c, eb]
  have hlen : (fm_l k).length ≤ 100 := by
    obtain ⟨vv, NN, fs, g, h1, h2, h3, h4, h5, h6, ⟨hN1, hN2⟩, h7, h8⟩ := hS
    exact h7
  have key : ∀ (rest pre : List Int), fm_l k = pre ++ rest → ∀ (p : Nat) (q : Nat × (Nat → Int)), p ≤ L → q.1 ≤ 4 → mv_run X (mv_call X (d + 4)) m_X6_readAs 13 [.ref (x + 346), .int (nZ k), .ref c, .ref (X.2.1 (21 + k)), .int (nZ pre.length)] [] (mz_h P (pz_V V x c (mr_up F 0 k) p q), z) = some (.inl (some (.int (nZ (if (pr_fm t L rest p q).1 = true then 1 else 0)))), (mz_h P (pz_V V x c (mr_up F 0 k) (pr_fm t L rest p q).2.1 (pr_fm t L rest p q).2.2), z)) := by
    intro rest
    induction rest with
    | nil =>
      intro pre hpre p q hp hq
      have hl : (fm_l k).length = pre.length := by rw [hpre, List.append_nil]
      obtain ⟨vv, NN, fs, g, h1, h2, h3, h4, h5, h6, ⟨hN1, hN2⟩, h7, h8⟩ := id hS
      rw [bk_X6_readAs_13, mx_rO (hX.1 _ h1) h3]
      simp only [mv_clI, mv_cl, J0_len (d := d + 2) hX hS]
      rw [if_pos (by rw [hl]; exact Int32.le_refl _)]
      rfl
    | cons y rest ih =>
      intro pre hpre p q hp hq
      have hl : (fm_l k).length = pre.length + (rest.length + 1) := by rw [hpre, List.length_append, List.length_cons]
      have hy : (fm_l k)[pre.length]? = some y := by rw [hpre]; simp
      obtain ⟨vv, NN, fs, g, h1, h2, h3, h4, h5, h6, ⟨hN1, hN2⟩, h7, h8⟩ := id hS
      have hyr := (h8 _ _ hy).2
      obtain ⟨a1, a2, a3⟩ := pr_at_L (t := t) (q := q) (y := y) hp
      have ih := ih (pre ++ [y]) (by rw [hpre]; simp)
      rw [List.length_append, List.length_singleton, nc1] at ih
      rw [bk_X6_readAs_13, mx_rO (hX.1 _ h1) h3]
      simp only [mv_clI, mv_cl, J0_len (d := d + 2) hX hS]
      rw [if_neg (by rw [hl, nZ_le ⟨by omega, by omega⟩ ⟨by omega, by omega⟩]; omega), mx_rO (hX.1 _ h1) h3]
      simp only [J0_chr (d := d) hX hS hy, mz_rcv t1, X6_readPart (d := d + 1) hP hT hc hC hq hp (show nS y from ⟨by omega, by omega⟩), nZ_b1]
      have ef : pr_fm t L (y :: rest) p q = if (pr_at t L y p q).1 = true then pr_fm t L rest (pr_at t L y p q).2.1 (pr_at t L y p q).2.2 else pr_at t L y p q := rfl
      rw [ef]
      by_cases e : (pr_at t L y p q).1 = true
      · rw [if_neg (fun w => w e), if_pos e, nZ_add]
        exact ih _ _ a2 (a3 hq)
      · rw [if_pos e, if_neg e, if_neg e]
  have := key (fm_l k) [] rfl p (0, q.2) hp (by show 0 ≤ 4; decide)
  rw [mc_X6_readAs, bk_X6_readAs_0]
  simp only [mv_clR, mv_cl, e73, mz_rcv hC.1, mv_clV, e17]
  exact this
end FRM
