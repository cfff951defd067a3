section LCH
variable {X : mv_X} {P : mz_P} {V : mz_V} {z : Nat × Nat} {x v n d x0 m : Nat} {b a : Int} {w : mz_V}
theorem J4_charAt (hX : mx_W X P x0) (hP : mX_P P x v n) (hW : mX_is V x v w) (hI : mg_I w b) (hLn : w 0 16 ≤ (n : Int)) (ha : 0 ≤ a ∧ a < w 0 16) : mv_call X (d + 5) 276 [.ref (x + 367), .int (nZ a)] (mz_h P V, z) = some (.inl (some (.int (nZ (w 8 a.toNat)))), (mz_h P V, z)) := by
  obtain ⟨p1, p2, p3, p4, p5, p6⟩ := hP.2.2.2.2.2.1
  obtain ⟨W1, W2, W3, W4, W5, W6⟩ := hW
  have h16 := hI.2.2.2.2.2.2.2.1
  have h8 := hI.2.2.2.2.2.2.2.2.1 a.toNat (by omega)
  have e284 : mv_call X (d + 2) 284 [.int (nZ a), .int (nZ (w 0 16)), X.2.2 3] (mz_h P V, z) = some (.inl (some (.int (nZ a))), (mz_h P V, z)) := by
    rw [mc_J3_checkIndex_8e157, bk_J3_checkIndex_8e157_0, if_neg (by rw [nZ_lt0 ⟨by omega, by omega⟩]; omega), if_pos ((nZ_lt ⟨by omega, by omega⟩ ⟨by omega, by omega⟩).mpr ha.2)]
  have e272 : mv_call X (d + 3) 272 [.int (nZ a), .int (nZ (w 0 16))] (mz_h P V, z) = some (.inl none, (mz_h P V, z)) := by
    rw [mc_J0_checkIndex_df160, bk_J0_checkIndex_df160_0, mv_chk_t hX.2.2.2.2]
    simp only [mv_clI, mv_cl, e284]
  have e258 : mv_call X (d + 4) 258 [.ref (x + 367), .int (nZ a)] (mz_h P V, z) = some (.inl (some (.int (nZ (w 8 a.toNat)))), (mz_h P V, z)) := by
    rw [mc_J5_charAt_5068e, bk_J5_charAt_5068e_0, mz_gI p1 (by decide), W5.1, mz_gR p1 (by decide) p2, mz_gI p1 (by decide), W5.2.1, mz_len p3, sh0r]
    simp only [mv_clI, mv_cl, J9_min (show nS (w 0 16) from ⟨by omega, by omega⟩) (show nS (n : Int) from ⟨by omega, by omega⟩)]
    rw [if_neg (show ¬ (n : Int) < w 0 16 by omega)]
    simp only [mv_clV, mv_cl, e272]
    rw [if_pos (by rfl), mz_aI p3 (by decide) (j := a.toNat) (by rw [nZ_i ⟨by omega, by omega⟩]; omega) (by omega), W5.2.2 a.toNat (by omega), (sb_by h8).2, (mq_char (show 0 ≤ w 8 a.toNat ∧ w 8 a.toNat ≤ 65535 by omega)).2.2, mv_chk_t (mq_char (show 0 ≤ w 8 a.toNat ∧ w 8 a.toNat ≤ 65535 by omega)).2.1]
  rw [mc_J4_charAt_5068e, bk_J4_charAt_5068e_0, mz_rcv p1]
  simp only [mv_clI, mv_cl, e258]
  rw [mv_chk_t (mq_char (show 0 ≤ w 8 a.toNat ∧ w 8 a.toNat ≤ 65535 by omega)).2.1]
theorem Q8_lineCharacter (hX : mx_W X P x0) (hP : mX_P P x v n) (hW : mX_is V x v w) (hI : mg_I w b) (hLn : w 0 16 ≤ (n : Int)) (ha : nS a) : mv_call X (d + 6) 129 [.ref x, .int (nZ a)] (mz_h P V, z) = mq_r P V z (if 0 ≤ a ∧ a < w 0 16 then 0 else 1) (w 8 a.toNat) 2 := by
  have p1 := hP.2.2.2.2.2.1.1
  have h16 := hI.2.2.2.2.2.2.2.1
  have e3 : V (x + 367) 3 = ((w 0 16).toNat : Int) := by rw [hW.2.2.2.2.1.2.1]; omega
  have e4 : ((w 0 16).toNat : Int) = w 0 16 := by omega
  rw [mc_X8_lineCharacter, bk_X8_lineCharacter_0, mx_g7 hP, mz_rcv p1]
  simp only [mv_clI, mv_cl, J4_length (d := d + 3) hP e3, e4, nZ_sub, X8_isWithin ha (show nS 0 by decide) (show nS (w 0 16 - 1) from ⟨by omega, by omega⟩), nZ_b1]
  by_cases c : 0 ≤ a ∧ a < w 0 16
  · have h8 := hI.2.2.2.2.2.2.2.2.1 a.toNat (by omega)
    rw [mq_r0 (if_pos c), if_neg (fun q => q (by omega)), mx_g7 hP, mz_rcv p1]
    simp only [J4_charAt (d := d) hX hP hW hI hLn c]
    rw [mv_chk_t (mq_char (show 0 ≤ w 8 a.toNat ∧ w 8 a.toNat ≤ 65535 by omega)).2.1]
  · rw [mq_r1 (by rw [if_neg c]; decide), if_pos (fun q => c (by omega))]
    rfl
theorem Q9_lineCharacter (hM : mr_M P m) (hw : mr_is V m w) (hI : mg_I w b) (ha : nS a) : mv_call X (d + 2) 245 [.ref m, .int (nZ a)] (mz_h P V, z) = mq_m P V z m (if 0 ≤ a ∧ a < w 0 16 then 0 else 1) (if 0 ≤ a ∧ a < w 0 16 then w 8 a.toNat else 0) := by
  have h16 := hI.2.2.2.2.2.2.2.1
  have e := hw.2 16 (by unfold mg_f; omega)
  rw [mc_X9_lineCharacter, bk_X9_lineCharacter_0, mz_gI hM.o (by decide), e, nZ_sub]
  simp only [mv_clI, mv_cl, X9_in ha (show nS 0 by decide) (show nS (w 0 16 - 1) from ⟨by omega, by omega⟩), nZ_b1]
  by_cases c : 0 ≤ a ∧ a < w 0 16
  · have h8 := hI.2.2.2.2.2.2.2.2.1 a.toNat (by omega)
    rw [if_neg (fun q => q (by omega)), if_pos c, if_pos c, mq_p0 hM, mq_g0 hM, if_pos (by decide), mr_gou hM, mr_aou hM c.1 (by omega), mq_t_r _ _ (show m + 8 ≠ m by omega), hw.1.2.2.2.2, (mq_char (show 0 ≤ w 8 a.toNat ∧ w 8 a.toNat ≤ 65535 by omega)).2.2, mv_chk_t (mq_char (show 0 ≤ w 8 a.toNat ∧ w 8 a.toNat ≤ 65535 by omega)).2.1]
    rfl
  · rw [if_pos (fun q => c (by omega)), if_neg c, if_neg c, mq_p0 hM, mq_g0 hM, if_neg (by decide)]
    rfl
end LCH
