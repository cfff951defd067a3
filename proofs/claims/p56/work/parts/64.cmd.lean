/-! COMMANDS: what is refused, done, told of all kinds -/
def mz_Cm (P : mz_P) (c : Nat) : Prop := P.1 c = some (.inl 5) ∧ P.2 c 2 = some (c + 1) ∧ P.1 (c + 1) = some (.inr (.int, 4))
/-- a command's numbers: kind, four values -/
def mc_is (V : mz_V) (c : Nat) (k : Nat) (x : Nat → Int) : Prop := V c 0 = k ∧ ∀ i, i < 4 → V (c + 1) i = x i ∧ nS (x i)
def mc_rf (s : Nat → Int) (k : Nat) (x : Nat → Int) : Int := match k with
  | 0 => mc_rf0 s (x 0) (x 1) (x 2) (x 3)
  | 1 => mc_rf1 s (x 0)
  | 2 => mc_rf2 s (x 0) (x 1)
  | 3 => mc_rf3 s (x 0) (x 1)
  | 4 => mc_rf4 s (x 0) (x 1)
  | 5 => mc_rf5 s (x 0) (x 1)
  | 6 => mc_rf6 (x 0)
  | 7 => mc_rf7 s (x 0) (x 1) (x 2)
  | _ => mc_rf8 s (x 0)
def mc_st (s : Nat → Int) (k : Nat) (x : Nat → Int) : Nat → Int := match k with
  | 0 => mc_st0 s (x 0).toNat (x 1) (x 2) (x 3)
  | 1 => mc_st1 s (x 0).toNat
  | 2 => mc_st2 s (x 0).toNat (x 1)
  | 3 => mc_st3 s (x 0).toNat (x 1).toNat
  | 4 => mc_st4 s (x 0).toNat (x 1)
  | 5 => mc_st5 s (x 0).toNat (x 1)
  | 6 => mc_st6 s (x 0).toNat
  | 7 => mc_st7 s (x 0) (x 1) (x 2)
  | _ => mc_st8 s (x 0).toNat
def mc_an (s : Nat → Int) (k : Nat) (x : Nat → Int) : Int := match k with
  | 0 => mr_ho (mc_st0 s (x 0).toNat (x 1) (x 2) (x 3)) (x 0).toNat 0
  | 1 => mr_bal s (x 0).toNat 0
  | 2 => mr_bal (mc_st2 s (x 0).toNat (x 1)) (x 0).toNat 0
  | 3 => s (6 + 11 * (x 0).toNat + (5 + (x 1).toNat))
  | 4 => mb_pop (mr_bst s (x 0).toNat (x 1)).toNat
  | 5 => s (116 + (x 0).toNat)
  | 6 => (mr_pas s (x 0).toNat).2
  | 7 => s 5
  | _ => s 5 - 1
def mc_dt (s : Nat → Int) (k : Nat) (x : Nat → Int) : Int := match k with
  | 0 => mr_ho s (x 0).toNat 0
  | 2 => 6
  | 4 => if x 1 ≤ mr_ho s (x 0).toNat 0 then mr_ho s (x 0).toNat 0 else mr_ho s (x 0).toNat 63
  | 5 => x 1
  | 7 => 6
  | _ => 0
section CMD
variable {X : mv_X} {P : mz_P} {V : mz_V} {z : Nat × Nat} {a c d k : Nat} {s x : Nat → Int}
theorem mc_v {f : Int32 → Option mv_R} (hC : mz_Cm P c) (hc : mc_is V c k x) {i : Nat} (hi : i < 4) : (mv_gR X (mz_h P V, z) c 5 2 fun r => mv_aI X (mz_h P V, z) 1 r (nZ i) f) = f (nZ (x i)) := by
  rw [mz_gR hC.1 (by decide) hC.2.1, mz_aJ hC.2.2 (by omega) (by omega) (by decide), Int.toNat_natCast, (hc.2 i hi).1]
theorem mc_v0 {f : Int32 → Option mv_R} (hC : mz_Cm P c) (hc : mc_is V c k x) : (mv_gR X (mz_h P V, z) c 5 2 fun r => mv_aI X (mz_h P V, z) 1 r (nZ 0) f) = f (nZ (x 0)) := mc_v hC hc (i := 0) (by decide)
theorem mc_v1 {f : Int32 → Option mv_R} (hC : mz_Cm P c) (hc : mc_is V c k x) : (mv_gR X (mz_h P V, z) c 5 2 fun r => mv_aI X (mz_h P V, z) 1 r (nZ 1) f) = f (nZ (x 1)) := mc_v hC hc (i := 1) (by decide)
theorem mc_v2 {f : Int32 → Option mv_R} (hC : mz_Cm P c) (hc : mc_is V c k x) : (mv_gR X (mz_h P V, z) c 5 2 fun r => mv_aI X (mz_h P V, z) 1 r (nZ 2) f) = f (nZ (x 2)) := mc_v hC hc (i := 2) (by decide)
theorem mc_v3 {f : Int32 → Option mv_R} (hC : mz_Cm P c) (hc : mc_is V c k x) : (mv_gR X (mz_h P V, z) c 5 2 fun r => mv_aI X (mz_h P V, z) 1 r (nZ 3) f) = f (nZ (x 3)) := mc_v hC hc (i := 3) (by decide)
theorem mc_k9 (hk : k < 9) : k = 0 ∨ k = 1 ∨ k = 2 ∨ k = 3 ∨ k = 4 ∨ k = 5 ∨ k = 6 ∨ k = 7 ∨ k = 8 := by omega
theorem Y3_refusalOf (hH : mz_H P a) (hC : mz_Cm P c) (hI : mr_I s) (h : mh_R V a s) (hc : mc_is V c k x) (hk : k < 9) : mv_call X (d + 4) 40 [.ref a, .ref c] (mz_h P V, z) = some (.inl (some (.int (nZ (mc_rf s k x)))), (mz_h P V, z)) := by
  have n0 := (hc.2 0 (by decide)).2
  have n1 := (hc.2 1 (by decide)).2
  have n2 := (hc.2 2 (by decide)).2
  have n3 := (hc.2 3 (by decide)).2
  rw [mc_X3_refusalOf, bk_X3_refusalOf_0, mc_v0 hC hc, mc_v1 hC hc, mc_v2 hC hc, mz_gI hC.1 (by decide), hc.1]
  rcases mc_k9 hk with rfl | rfl | rfl | rfl | rfl | rfl | rfl | rfl | rfl
  · rw [if_pos (show nZ ((0 : Nat) : Int) = nZ 0 by decide), mc_v3 hC hc]
    simp only [mz_rcv hH.1, mv_clI, mv_cl, Y3_refusalToMoor hH hI h n0 n1 n2 n3]
    rfl
  · rw [if_neg (show ¬ nZ ((1 : Nat) : Int) = nZ 0 by decide), if_pos (show nZ ((1 : Nat) : Int) = nZ 1 by decide)]
    simp only [mz_rcv hH.1, mv_clI, mv_cl, Y3_has hH hI h n0, nZ_b1]
    show _ = some (Sum.inl (some (Value.int (nZ (mc_rf1 s (x 0))))), (mz_h P V, z))
    unfold mc_rf1
    by_cases e : mr_has s (x 0)
    · rw [if_neg (fun q => q e), if_pos e]
    · rw [if_pos e, if_neg e]
  · rw [if_neg (show ¬ nZ ((2 : Nat) : Int) = nZ 0 by decide), if_neg (show ¬ nZ ((2 : Nat) : Int) = nZ 1 by decide), if_pos (show nZ ((2 : Nat) : Int) = nZ 2 by decide)]
    simp only [mz_rcv hH.1, mv_clI, mv_cl, Y3_refusalToLoad hH hI h n0 n1]
    rfl
  · rw [if_neg (show ¬ nZ ((3 : Nat) : Int) = nZ 0 by decide), if_neg (show ¬ nZ ((3 : Nat) : Int) = nZ 1 by decide), if_neg (show ¬ nZ ((3 : Nat) : Int) = nZ 2 by decide), if_pos (show nZ ((3 : Nat) : Int) = nZ 3 by decide)]
    simp only [mz_rcv hH.1, mv_clI, mv_cl, Y3_refusalToDrop hH hI h n0 n1]
    rfl
  · rw [if_neg (show ¬ nZ ((4 : Nat) : Int) = nZ 0 by decide), if_neg (show ¬ nZ ((4 : Nat) : Int) = nZ 1 by decide), if_neg (show ¬ nZ ((4 : Nat) : Int) = nZ 2 by decide), if_neg (show ¬ nZ ((4 : Nat) : Int) = nZ 3 by decide), if_pos (show nZ ((4 : Nat) : Int) = nZ 4 by decide)]
    simp only [mz_rcv hH.1, mv_clI, mv_cl, Y3_refusalToRise hH hI h n0 n1]
    rfl
  · rw [if_neg (show ¬ nZ ((5 : Nat) : Int) = nZ 0 by decide), if_neg (show ¬ nZ ((5 : Nat) : Int) = nZ 1 by decide), if_neg (show ¬ nZ ((5 : Nat) : Int) = nZ 2 by decide), if_neg (show ¬ nZ ((5 : Nat) : Int) = nZ 3 by decide), if_neg (show ¬ nZ ((5 : Nat) : Int) = nZ 4 by decide), if_pos (show nZ ((5 : Nat) : Int) = nZ 5 by decide)]
    simp only [mz_rcv hH.1, mv_clI, mv_cl, Y3_refusalOfWind hH hI h n0 n1]
    rfl
  · rw [if_neg (show ¬ nZ ((6 : Nat) : Int) = nZ 0 by decide), if_neg (show ¬ nZ ((6 : Nat) : Int) = nZ 1 by decide), if_neg (show ¬ nZ ((6 : Nat) : Int) = nZ 2 by decide), if_neg (show ¬ nZ ((6 : Nat) : Int) = nZ 3 by decide), if_neg (show ¬ nZ ((6 : Nat) : Int) = nZ 4 by decide), if_neg (show ¬ nZ ((6 : Nat) : Int) = nZ 5 by decide), if_pos (show nZ ((6 : Nat) : Int) = nZ 6 by decide)]
    simp only [mv_clI, mv_cl, X8_isWithin n0 (show nS 1 by decide) (show nS 48 by decide), nZ_b1]
    show _ = some (Sum.inl (some (Value.int (nZ (mc_rf6 (x 0))))), (mz_h P V, z))
    unfold mc_rf6
    by_cases e : 1 ≤ x 0 ∧ x 0 ≤ 48
    · rw [if_neg (fun q => q e), if_pos e]
    · rw [if_pos e, if_neg e]
  · rw [if_neg (show ¬ nZ ((7 : Nat) : Int) = nZ 0 by decide), if_neg (show ¬ nZ ((7 : Nat) : Int) = nZ 1 by decide), if_neg (show ¬ nZ ((7 : Nat) : Int) = nZ 2 by decide), if_neg (show ¬ nZ ((7 : Nat) : Int) = nZ 3 by decide), if_neg (show ¬ nZ ((7 : Nat) : Int) = nZ 4 by decide), if_neg (show ¬ nZ ((7 : Nat) : Int) = nZ 5 by decide), if_neg (show ¬ nZ ((7 : Nat) : Int) = nZ 6 by decide), if_pos (show nZ ((7 : Nat) : Int) = nZ 7 by decide)]
    simp only [mz_rcv hH.1, mv_clI, mv_cl, Y3_refusalOfPilot hH hI h n0 n1 n2]
    rfl
  · rw [if_neg (show ¬ nZ ((8 : Nat) : Int) = nZ 0 by decide), if_neg (show ¬ nZ ((8 : Nat) : Int) = nZ 1 by decide), if_neg (show ¬ nZ ((8 : Nat) : Int) = nZ 2 by decide), if_neg (show ¬ nZ ((8 : Nat) : Int) = nZ 3 by decide), if_neg (show ¬ nZ ((8 : Nat) : Int) = nZ 4 by decide), if_neg (show ¬ nZ ((8 : Nat) : Int) = nZ 5 by decide), if_neg (show ¬ nZ ((8 : Nat) : Int) = nZ 6 by decide), if_neg (show ¬ nZ ((8 : Nat) : Int) = nZ 7 by decide)]
    simp only [mz_rcv hH.1, mv_clI, mv_cl, Y3_hasP hH hI h n0, nZ_b1]
    show _ = some (Sum.inl (some (Value.int (nZ (mc_rf8 s (x 0))))), (mz_h P V, z))
    unfold mc_rf8
    by_cases e : 0 ≤ x 0 ∧ x 0 < s 5
    · rw [if_neg (fun q => q e), if_pos e]
    · rw [if_pos e, if_neg e]
/-- what a command needs that isn't refused -/
theorem mc_f0 (h : mc_rf0 s (x 0) (x 1) (x 2) (x 3) = 0) : ∃ q : Nat, x 0 = q ∧ q < 10 ∧ (1 ≤ x 1 ∧ x 1 ≤ 99) ∧ (1 ≤ x 2 ∧ x 2 ≤ 40) ∧ (1 ≤ x 3 ∧ x 3 ≤ 60) := by
  unfold mc_rf0 at h
  split at h
  · next e => exact ⟨(x 0).toNat, by omega, by omega, e.2⟩
  · exact absurd h (by decide)
theorem mc_f1 (h : mc_rf1 s (x 0) = 0) : ∃ q : Nat, x 0 = q ∧ q < 10 ∧ s (6 + 11 * q) = 1 := by
  unfold mc_rf1 at h
  split at h
  · next e => exact mr_has_h e
  · exact absurd h (by decide)
theorem mc_f2 (h : mc_rf2 s (x 0) (x 1) = 0) : ∃ q : Nat, x 0 = q ∧ q < 10 ∧ s (6 + 11 * q) = 1 ∧ (1 ≤ x 1 ∧ x 1 ≤ 20) ∧ s (6 + 11 * q + 4) ≠ 6 := by
  unfold mc_rf2 at h
  split at h
  · next e =>
    split at h
    · next e2 =>
      split at h
      · exact absurd h (by decide)
      · next e3 =>
        obtain ⟨q, h1, h2, h3⟩ := mr_has_h e
        refine ⟨q, h1, h2, h3, e2, ?_⟩
        rw [h1, Int.toNat_natCast] at e3
        exact e3
    · exact absurd h (by decide)
  · exact absurd h (by decide)
theorem mc_f3 (h : mc_rf3 s (x 0) (x 1) = 0) : ∃ q r : Nat, x 0 = q ∧ q < 10 ∧ s (6 + 11 * q) = 1 ∧ x 1 = r ∧ (r : Int) < s (6 + 11 * q + 4) := by
  unfold mc_rf3 at h
  split at h
  · next e =>
    split at h
    · next e2 =>
      obtain ⟨q, h1, h2, h3⟩ := mr_has_h e
      rw [h1, Int.toNat_natCast] at e2
      exact ⟨q, (x 1).toNat, h1, h2, h3, by omega, by omega⟩
    · exact absurd h (by decide)
  · exact absurd h (by decide)
theorem mc_f4 (h : mc_rf4 s (x 0) (x 1) = 0) : ∃ q : Nat, x 0 = q ∧ q < 10 ∧ s (6 + 11 * q) = 1 ∧ x 1 ≤ mr_ho s q 63 := by
  unfold mc_rf4 at h
  split at h
  · next e =>
    split at h
    · split at h
      · exact absurd h (by decide)
      · split at h
        · exact absurd h (by decide)
        · next e4 =>
          obtain ⟨q, h1, h2, h3⟩ := mr_has_h e
          rw [h1, Int.toNat_natCast] at e4
          exact ⟨q, h1, h2, h3, by omega⟩
    · exact absurd h (by decide)
  · exact absurd h (by decide)
theorem mc_f5 (h : mc_rf5 s (x 0) (x 1) = 0) : ∃ q : Nat, x 0 = q ∧ q < 24 ∧ (-9 ≤ x 1 ∧ x 1 ≤ 9) := by
  unfold mc_rf5 at h
  split at h
  · next e => exact ⟨(x 0).toNat, by omega, by omega, e.2⟩
  · exact absurd h (by decide)
theorem mc_f6 (h : mc_rf6 (x 0) = 0) : ∃ q : Nat, x 0 = q ∧ 1 ≤ q ∧ q ≤ 48 := by
  unfold mc_rf6 at h
  split at h
  · next e => exact ⟨(x 0).toNat, by omega, by omega, by omega⟩
  · exact absurd h (by decide)
theorem mc_f7 (h : mc_rf7 s (x 0) (x 1) (x 2) = 0) : (1 ≤ x 0 ∧ x 0 ≤ 30) ∧ (0 ≤ x 1 ∧ x 1 ≤ 23) ∧ (0 ≤ x 2 ∧ x 2 ≤ 23) ∧ s 5 ≠ 6 := by
  unfold mc_rf7 at h
  split at h
  · next e =>
    split at h
    · exact absurd h (by decide)
    · next e2 => exact ⟨e.1, e.2.1, e.2.2, e2⟩
  · exact absurd h (by decide)
theorem mc_f8 (h : mc_rf8 s (x 0) = 0) : ∃ q : Nat, x 0 = q ∧ (q : Int) < s 5 := by
  unfold mc_rf8 at h
  split at h
  · next e => exact ⟨(x 0).toNat, by omega, by omega⟩
  · exact absurd h (by decide)
theorem Y3_carryOut (hH : mz_H P a) (hC : mz_Cm P c) (hI : mr_I s) (h : mh_R V a s) (hc : mc_is V c k x) (hk : k < 9) (hh : s 0 ≤ 999999900) (hf : mc_rf s k x = 0) :
    ∃ V', mv_call X (d + 7) 48 [.ref a, .ref c] (mz_h P V, z) = some (.inl (some (.int (nZ (mc_an s k x)))), (mz_h P V', z)) ∧ mh_R V' a (mc_st s k x) ∧ mh_X V V' a := by
  rw [mc_X3_carryOut, bk_X3_carryOut_0, mc_v0 hC hc, mc_v1 hC hc, mc_v2 hC hc, mz_gI hC.1 (by decide), hc.1]
  rcases mc_k9 hk with rfl | rfl | rfl | rfl | rfl | rfl | rfl | rfl | rfl
  · rw [if_pos (show nZ ((0 : Nat) : Int) = nZ 0 by decide), mc_v3 hC hc]
    obtain ⟨q, e0, hq, h1, h2, h3⟩ := mc_f0 hf
    obtain ⟨V', e, r, hx⟩ := Y3_putBalloon (X := X) (z := z) (d := d + 3) hH hI h hq h1 h2 h3
    refine ⟨V', ?_, ?_, hx⟩
    · show _ = some (Sum.inl (some (Value.int (nZ (mr_ho (mc_st0 s (x 0).toNat (x 1) (x 2) (x 3)) (x 0).toNat 0)))), (mz_h P V', z))
      rw [e0, Int.toNat_natCast]
      simp only [mz_rcv hH.1, mv_clI, mv_cl, e]
    · show mh_R V' a (mc_st0 s (x 0).toNat (x 1) (x 2) (x 3))
      rw [e0, Int.toNat_natCast]
      exact r
  · rw [if_neg (show ¬ nZ ((1 : Nat) : Int) = nZ 0 by decide), if_pos (show nZ ((1 : Nat) : Int) = nZ 1 by decide)]
    obtain ⟨q, e0, hq, h1⟩ := mc_f1 hf
    obtain ⟨V', e, r, hx⟩ := Y3_removeBalloon (X := X) (z := z) (d := d + 4) hH hI h hq h1
    refine ⟨V', ?_, ?_, hx⟩
    · show _ = some (Sum.inl (some (Value.int (nZ (mr_bal s (x 0).toNat 0)))), (mz_h P V', z))
      rw [e0, Int.toNat_natCast]
      simp only [mz_rcv hH.1, mv_clI, mv_cl, e]
    · show mh_R V' a (mc_st1 s (x 0).toNat)
      rw [e0, Int.toNat_natCast]
      exact r
  · rw [if_neg (show ¬ nZ ((2 : Nat) : Int) = nZ 0 by decide), if_neg (show ¬ nZ ((2 : Nat) : Int) = nZ 1 by decide), if_pos (show nZ ((2 : Nat) : Int) = nZ 2 by decide)]
    obtain ⟨q, e0, hq, h1, h2, h3⟩ := mc_f2 hf
    obtain ⟨V', e, r, hx⟩ := Y3_loadBag (X := X) (z := z) (d := d + 4) hH hI h hq h1 h2 h3
    refine ⟨V', ?_, ?_, hx⟩
    · show _ = some (Sum.inl (some (Value.int (nZ (mr_bal (mc_st2 s (x 0).toNat (x 1)) (x 0).toNat 0)))), (mz_h P V', z))
      rw [e0, Int.toNat_natCast]
      simp only [mz_rcv hH.1, mv_clI, mv_cl, e]
    · show mh_R V' a (mc_st2 s (x 0).toNat (x 1))
      rw [e0, Int.toNat_natCast]
      exact r
  · rw [if_neg (show ¬ nZ ((3 : Nat) : Int) = nZ 0 by decide), if_neg (show ¬ nZ ((3 : Nat) : Int) = nZ 1 by decide), if_neg (show ¬ nZ ((3 : Nat) : Int) = nZ 2 by decide), if_pos (show nZ ((3 : Nat) : Int) = nZ 3 by decide)]
    obtain ⟨q, q2, e0, hq, h1, e1, h2⟩ := mc_f3 hf
    obtain ⟨V', e, r, hx⟩ := Y3_dropBag (X := X) (z := z) (d := d + 3) hH hI h hq h1 h2
    refine ⟨V', ?_, ?_, hx⟩
    · show _ = some (Sum.inl (some (Value.int (nZ (s (6 + 11 * (x 0).toNat + (5 + (x 1).toNat)))))), (mz_h P V', z))
      rw [e0, e1, Int.toNat_natCast, Int.toNat_natCast]
      simp only [mz_rcv hH.1, mv_clI, mv_cl, e]
    · show mh_R V' a (mc_st3 s (x 0).toNat (x 1).toNat)
      rw [e0, e1, Int.toNat_natCast, Int.toNat_natCast]
      exact r
  · rw [if_neg (show ¬ nZ ((4 : Nat) : Int) = nZ 0 by decide), if_neg (show ¬ nZ ((4 : Nat) : Int) = nZ 1 by decide), if_neg (show ¬ nZ ((4 : Nat) : Int) = nZ 2 by decide), if_neg (show ¬ nZ ((4 : Nat) : Int) = nZ 3 by decide), if_pos (show nZ ((4 : Nat) : Int) = nZ 4 by decide)]
    obtain ⟨q, e0, hq, h1, h2⟩ := mc_f4 hf
    obtain ⟨V', e, r, hx⟩ := Y3_dropBestSet (X := X) (z := z) (d := d + 2) hH hI h hq h1 (b := x 1) (hc.2 1 (by decide)).2 (fun e => by have := (mr_bst_none hI hq).mp e; omega)
    refine ⟨V', ?_, ?_, hx⟩
    · show _ = some (Sum.inl (some (Value.int (nZ (mb_pop (mr_bst s (x 0).toNat (x 1)).toNat)))), (mz_h P V', z))
      rw [e0, Int.toNat_natCast]
      simp only [mz_rcv hH.1, mv_clI, mv_cl, e]
    · show mh_R V' a (mc_st4 s (x 0).toNat (x 1))
      rw [e0, Int.toNat_natCast]
      exact r
  · rw [if_neg (show ¬ nZ ((5 : Nat) : Int) = nZ 0 by decide), if_neg (show ¬ nZ ((5 : Nat) : Int) = nZ 1 by decide), if_neg (show ¬ nZ ((5 : Nat) : Int) = nZ 2 by decide), if_neg (show ¬ nZ ((5 : Nat) : Int) = nZ 3 by decide), if_neg (show ¬ nZ ((5 : Nat) : Int) = nZ 4 by decide), if_pos (show nZ ((5 : Nat) : Int) = nZ 5 by decide)]
    obtain ⟨q, e0, hq, h1⟩ := mc_f5 hf
    obtain ⟨V', e, r, hx⟩ := Y3_replaceWind (X := X) (z := z) (d := d + 4) hH hI h hq (b := x 1)
    refine ⟨V', ?_, ?_, hx⟩
    · show _ = some (Sum.inl (some (Value.int (nZ (s (116 + (x 0).toNat))))), (mz_h P V', z))
      rw [e0, Int.toNat_natCast]
      simp only [mz_rcv hH.1, mv_clI, mv_cl, e]
    · show mh_R V' a (mc_st5 s (x 0).toNat (x 1))
      rw [e0, Int.toNat_natCast]
      exact r
  · rw [if_neg (show ¬ nZ ((6 : Nat) : Int) = nZ 0 by decide), if_neg (show ¬ nZ ((6 : Nat) : Int) = nZ 1 by decide), if_neg (show ¬ nZ ((6 : Nat) : Int) = nZ 2 by decide), if_neg (show ¬ nZ ((6 : Nat) : Int) = nZ 3 by decide), if_neg (show ¬ nZ ((6 : Nat) : Int) = nZ 4 by decide), if_neg (show ¬ nZ ((6 : Nat) : Int) = nZ 5 by decide), if_pos (show nZ ((6 : Nat) : Int) = nZ 6 by decide)]
    obtain ⟨q, e0, hq, h1⟩ := mc_f6 hf
    obtain ⟨V', e, r, hx⟩ := Y3_passHours (X := X) (z := z) (d := d) hH hI h (n := q) h1 (by omega)
    refine ⟨V', ?_, ?_, hx⟩
    · show _ = some (Sum.inl (some (Value.int (nZ ((mr_pas s (x 0).toNat).2)))), (mz_h P V', z))
      rw [e0, Int.toNat_natCast]
      simp only [mz_rcv hH.1, mv_clI, mv_cl, e]
    · show mh_R V' a (mc_st6 s (x 0).toNat)
      rw [e0, Int.toNat_natCast]
      exact r
  · rw [if_neg (show ¬ nZ ((7 : Nat) : Int) = nZ 0 by decide), if_neg (show ¬ nZ ((7 : Nat) : Int) = nZ 1 by decide), if_neg (show ¬ nZ ((7 : Nat) : Int) = nZ 2 by decide), if_neg (show ¬ nZ ((7 : Nat) : Int) = nZ 3 by decide), if_neg (show ¬ nZ ((7 : Nat) : Int) = nZ 4 by decide), if_neg (show ¬ nZ ((7 : Nat) : Int) = nZ 5 by decide), if_neg (show ¬ nZ ((7 : Nat) : Int) = nZ 6 by decide), if_pos (show nZ ((7 : Nat) : Int) = nZ 7 by decide)]
    obtain ⟨h1, h2, h3, h4⟩ := mc_f7 hf
    obtain ⟨V', e, r, hx⟩ := Y3_putPilot (X := X) (z := z) (d := d + 4) hH hI h h4 h1 h2 h3
    refine ⟨V', ?_, ?_, hx⟩
    · show _ = some (Sum.inl (some (Value.int (nZ (s 5)))), (mz_h P V', z))
      simp only [mz_rcv hH.1, mv_clI, mv_cl, e]
    · exact r
  · rw [if_neg (show ¬ nZ ((8 : Nat) : Int) = nZ 0 by decide), if_neg (show ¬ nZ ((8 : Nat) : Int) = nZ 1 by decide), if_neg (show ¬ nZ ((8 : Nat) : Int) = nZ 2 by decide), if_neg (show ¬ nZ ((8 : Nat) : Int) = nZ 3 by decide), if_neg (show ¬ nZ ((8 : Nat) : Int) = nZ 4 by decide), if_neg (show ¬ nZ ((8 : Nat) : Int) = nZ 5 by decide), if_neg (show ¬ nZ ((8 : Nat) : Int) = nZ 6 by decide), if_neg (show ¬ nZ ((8 : Nat) : Int) = nZ 7 by decide)]
    obtain ⟨q, e0, h1⟩ := mc_f8 hf
    obtain ⟨V', e, r, hx⟩ := Y3_takePilot (X := X) (z := z) (d := d + 3) hH hI h h1
    refine ⟨V', ?_, ?_, hx⟩
    · show _ = some (Sum.inl (some (Value.int (nZ (s 5 - 1)))), (mz_h P V', z))
      rw [e0]
      simp only [mz_rcv hH.1, mv_clI, mv_cl, e]
    · show mh_R V' a (mc_st8 s (x 0).toNat)
      rw [e0, Int.toNat_natCast]
      exact r
theorem mc_den (hk : k < 9) {r : Int} (hr : mc_rf s k x = r) (h1 : 1 ≤ r) (h2 : r ≤ 5) : (k = 0 ∧ r = 2 ∧ mr_has s (x 0)) ∨ (k = 2 ∧ r = 1) ∨ (k = 4 ∧ r = 4 ∧ mr_has s (x 0) ∧ x 1 ≤ mr_ho s (x 0).toNat 0) ∨ (k = 4 ∧ r = 3 ∧ mr_has s (x 0) ∧ ¬ x 1 ≤ mr_ho s (x 0).toNat 0) ∨ (k = 5 ∧ r = 5) ∨ (k = 7 ∧ r = 1) := by
  rcases mc_k9 hk with rfl | rfl | rfl | rfl | rfl | rfl | rfl | rfl | rfl
  · have hr : mc_rf0 s (x 0) (x 1) (x 2) (x 3) = r := hr
    unfold mc_rf0 at hr
    split at hr
    · split at hr
      · next q2 => exact Or.inl ⟨rfl, hr.symm, q2⟩
      · omega
    · omega
  · have hr : mc_rf1 s (x 0) = r := hr
    unfold mc_rf1 at hr
    split at hr <;> omega
  · have hr : mc_rf2 s (x 0) (x 1) = r := hr
    unfold mc_rf2 at hr
    split at hr
    · split at hr
      · split at hr
        · exact Or.inr (Or.inl ⟨rfl, hr.symm⟩)
        · omega
      · omega
    · omega
  · have hr : mc_rf3 s (x 0) (x 1) = r := hr
    unfold mc_rf3 at hr
    split at hr
    · split at hr <;> omega
    · omega
  · have hr : mc_rf4 s (x 0) (x 1) = r := hr
    unfold mc_rf4 at hr
    split at hr
    · next q1 =>
      split at hr
      · split at hr
        · next q3 => exact Or.inr (Or.inr (Or.inl ⟨rfl, hr.symm, q1, q3⟩))
        · next q3 =>
          split at hr
          · exact Or.inr (Or.inr (Or.inr (Or.inl ⟨rfl, hr.symm, q1, q3⟩)))
          · omega
      · omega
    · omega
  · have hr : mc_rf5 s (x 0) (x 1) = r := hr
    unfold mc_rf5 at hr
    split at hr
    · split at hr
      · exact Or.inr (Or.inr (Or.inr (Or.inr (Or.inl ⟨rfl, hr.symm⟩))))
      · omega
    · omega
  · have hr : mc_rf6 (x 0) = r := hr
    unfold mc_rf6 at hr
    split at hr <;> omega
  · have hr : mc_rf7 s (x 0) (x 1) (x 2) = r := hr
    unfold mc_rf7 at hr
    split at hr
    · split at hr
      · exact Or.inr (Or.inr (Or.inr (Or.inr (Or.inr ⟨rfl, hr.symm⟩))))
      · omega
    · omega
  · have hr : mc_rf8 s (x 0) = r := hr
    unfold mc_rf8 at hr
    split at hr <;> omega
theorem Y3_detailOf (hH : mz_H P a) (hC : mz_Cm P c) (hI : mr_I s) (h : mh_R V a s) (hc : mc_is V c k x) (hk : k < 9) (h1 : 1 ≤ mc_rf s k x) (h2 : mc_rf s k x ≤ 5) :
    mv_call X (d + 3) 47 [.ref a, .int (nZ (mc_rf s k x)), .ref c] (mz_h P V, z) = some (.inl (some (.int (nZ (mc_dt s k x)))), (mz_h P V, z)) := by
  have n0 := (hc.2 0 (by decide)).2
  have hd := mc_den hk (r := mc_rf s k x) rfl h1 h2
  generalize mc_rf s k x = r at *
  rw [mc_X3_detailOf, bk_X3_detailOf_0]
  rcases hd with ⟨rfl, rfl, q⟩ | ⟨rfl, rfl⟩ | ⟨rfl, rfl, q, q2⟩ | ⟨rfl, rfl, q, q2⟩ | ⟨rfl, rfl⟩ | ⟨rfl, rfl⟩
  · obtain ⟨b, e0, hb, hh⟩ := mr_has_h q
    rw [if_neg (by decide), if_neg (by decide), mc_v0 hC hc]
    simp only [mz_rcv hH.1, mv_clI, mv_cl, Y3_has hH hI h n0, nZ_b1]
    rw [if_neg (fun w => w q), if_neg (by decide), e0, mh_bal hH hb, mz_rcv (hH.b hb).1]
    simp only [Y0_height hH h hb hh]
    show _ = some (Sum.inl (some (Value.int (nZ (mr_ho s (x 0).toNat 0)))), (mz_h P V, z))
    rw [e0, Int.toNat_natCast]
  · rw [if_pos rfl, mz_gI hC.1 (by decide)]
    split <;> rfl
  · obtain ⟨b, e0, hb, hh⟩ := mr_has_h q
    rw [if_neg (by decide), if_neg (by decide), mc_v0 hC hc]
    simp only [mz_rcv hH.1, mv_clI, mv_cl, Y3_has hH hI h n0, nZ_b1]
    rw [if_neg (fun w => w q), if_neg (by decide), e0, mh_bal hH hb, mz_rcv (hH.b hb).1]
    simp only [Y0_height hH h hb hh]
    show _ = some (Sum.inl (some (Value.int (nZ (if x 1 ≤ mr_ho s (x 0).toNat 0 then mr_ho s (x 0).toNat 0 else mr_ho s (x 0).toNat 63)))), (mz_h P V, z))
    rw [if_pos q2, e0, Int.toNat_natCast]
  · obtain ⟨b, e0, hb, hh⟩ := mr_has_h q
    rw [if_neg (by decide), if_neg (by decide), mc_v0 hC hc]
    simp only [mz_rcv hH.1, mv_clI, mv_cl, Y3_has hH hI h n0, nZ_b1]
    rw [if_neg (fun w => w q), if_pos trivial, e0, mh_bal hH hb, mz_rcv (hH.b hb).1]
    simp only [Y0_height0 hH hI h hb hh]
    show _ = some (Sum.inl (some (Value.int (nZ (if x 1 ≤ mr_ho s (x 0).toNat 0 then mr_ho s (x 0).toNat 0 else mr_ho s (x 0).toNat 63)))), (mz_h P V, z))
    rw [if_neg q2, e0, Int.toNat_natCast]
  · rw [if_neg (by decide), if_pos rfl, mc_v1 hC hc]
    rfl
  · rw [if_pos rfl, mz_gI hC.1 (by decide)]
    split <;> rfl
/-- a command written -/
theorem Y1_set (hC : mz_Cm P c) {x0 x1 x2 x3 : Int} (h0 : nS x0) (h1 : nS x1) (h2 : nS x2) (h3 : nS x3) :
    ∃ V', mv_call X (d + 2) 19 [.ref c, .int (nZ k), .int (nZ x0), .int (nZ x1), .int (nZ x2), .int (nZ x3)] (mz_h P V, z) = some (.inl none, (mz_h P V', z)) ∧ mc_is V' c k (fun i => if i = 0 then x0 else if i = 1 then x1 else if i = 2 then x2 else x3) ∧ ∀ r, r ≠ c → r ≠ c + 1 → V' r = V r := by
  have beg : ∀ (W : mz_V), mv_call X (d + 1) 17 [.ref c, .int (nZ k)] (mz_h P W, z) = some (.inl none, (mz_h P (mz_w W c (mr_up (mr_up (W c) 0 k) 1 0)), z)) := fun W => by
    rw [mc_X1_begin, bk_X1_begin_0]
    simp (disch := decide) only [mz_pW hC.1, mz_w_s, mz_w_w]
  have add : ∀ (f g : Nat → Int) (n : Nat) (y : Int), n < 4 → f 1 = n → mv_call X (d + 1) 18 [.ref c, .int (nZ y)] (mz_h P (mz_w (mz_w V (c + 1) g) c f), z) = some (.inl none, (mz_h P (mz_w (mz_w V (c + 1) (mr_up g n y)) c (mr_up f 1 (n + 1))), z)) := fun f g n y hn hf => by
    have e1 : mz_w (mz_w V (c + 1) g) c f c 1 = n := by rw [mz_w_s]; exact hf
    have e2 : mz_w (mz_w V (c + 1) g) c f (c + 1) = g := by rw [mz_w_n _ _ (by omega), mz_w_s]
    rw [mc_X1_add, bk_X1_add_0, mz_gI hC.1 (by decide), e1, mz_gR hC.1 (by decide) hC.2.1, mz_len hC.2.2, if_neg (by rw [nZ_le (by decide) ⟨by omega, by omega⟩]; omega), mz_gR hC.1 (by decide) hC.2.1, mz_gI hC.1 (by decide), e1, mz_sJ hC.2.2 (by omega) (by omega) (by decide), e2, Int.toNat_natCast]
    have e3 : mz_w (mz_w (mz_w V (c + 1) g) c f) (c + 1) (mr_up g n y) = mz_w (mz_w V (c + 1) (mr_up g n y)) c f := by rw [mz_w_c _ _ _ (show c ≠ c + 1 by omega), mz_w_w]
    rw [e3, mz_gI hC.1 (by decide), mz_w_s, hf, nZ_add, mz_pW hC.1 (by decide), mz_w_s, mz_w_w]
  have e0 : mz_w V c (mr_up (mr_up (V c) 0 k) 1 0) = mz_w (mz_w V (c + 1) (V (c + 1))) c (mr_up (mr_up (V c) 0 k) 1 0) := by rw [mz_w_id]
  refine ⟨mz_w (mz_w V (c + 1) (mr_up (mr_up (mr_up (mr_up (V (c + 1)) 0 x0) 1 x1) 2 x2) 3 x3)) c (mr_up (mr_up (mr_up (mr_up (mr_up (mr_up (V c) 0 k) 1 0) 1 (((0 : Nat) : Int) + 1)) 1 (((1 : Nat) : Int) + 1)) 1 (((2 : Nat) : Int) + 1)) 1 (((3 : Nat) : Int) + 1)), ?_, ⟨?_, fun i hi => ?_⟩, fun r r1 r2 => ?_⟩
  · rw [mc_X1_set, bk_X1_set_0]
    simp only [mz_rcv hC.1, mv_clV, mv_cl, beg]
    rw [e0]
    have a0 := add (mr_up (mr_up (V c) 0 k) 1 0) (V (c + 1)) 0 x0 (by decide) (mr_up_s _ _ _)
    have a1 := add (mr_up (mr_up (mr_up (V c) 0 k) 1 0) 1 (((0 : Nat) : Int) + 1)) (mr_up (V (c + 1)) 0 x0) 1 x1 (by decide) (mr_up_s _ _ _)
    have a2 := add (mr_up (mr_up (mr_up (mr_up (V c) 0 k) 1 0) 1 (((0 : Nat) : Int) + 1)) 1 (((1 : Nat) : Int) + 1)) (mr_up (mr_up (V (c + 1)) 0 x0) 1 x1) 2 x2 (by decide) (mr_up_s _ _ _)
    have a3 := add (mr_up (mr_up (mr_up (mr_up (mr_up (V c) 0 k) 1 0) 1 (((0 : Nat) : Int) + 1)) 1 (((1 : Nat) : Int) + 1)) 1 (((2 : Nat) : Int) + 1)) (mr_up (mr_up (mr_up (V (c + 1)) 0 x0) 1 x1) 2 x2) 3 x3 (by decide) (mr_up_s _ _ _)
    simp only [mz_rcv hC.1, a0, a1, a2, a3]
  · rw [mz_w_s, mr_up_n _ _ (by decide), mr_up_n _ _ (by decide), mr_up_n _ _ (by decide), mr_up_n _ _ (by decide), mr_up_n _ _ (by decide), mr_up_s]
  · rw [mz_w_n _ _ (by omega), mz_w_s]
    have : i = 0 ∨ i = 1 ∨ i = 2 ∨ i = 3 := by omega
    rcases this with rfl | rfl | rfl | rfl
    · exact ⟨by simp [mr_up], h0⟩
    · exact ⟨by simp [mr_up], h1⟩
    · exact ⟨by simp [mr_up], h2⟩
    · exact ⟨by simp [mr_up], h3⟩
  · rw [mz_w_n _ _ r1, mz_w_n _ _ r2]
end CMD
