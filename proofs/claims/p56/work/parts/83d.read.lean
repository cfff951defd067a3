/-! A TEXT READ -/
theorem nZ_w (y : Int) : nZ (y % 4294967296) = nZ y := by
  apply Int32.toBitVec_inj.mp
  show BitVec.ofInt 32 (y % 4294967296) = BitVec.ofInt 32 y
  apply BitVec.eq_of_toNat_eq
  rw [BitVec.toNat_ofInt, BitVec.toNat_ofInt]
  show (y % 4294967296 % 4294967296).toNat = (y % 4294967296).toNat
  rw [Int.emod_emod_of_dvd _ (Int.dvd_refl _)]
theorem nZ_ti (y : Int) : nZ (nZ y).toInt = nZ y := Int32.ofInt_toInt _
theorem nZ_nS (y : Int) : nS (nZ y).toInt := by
  have h1 := Int32.le_toInt (nZ y)
  have h2 := Int32.toInt_lt (nZ y)
  exact ⟨by omega, by omega⟩
/-- numbers that the machine can't tell apart -/
theorem mz_h_n {P : mz_P} {V V' : mz_V} (h : ∀ a j, V' a j = V a j ∨ (nZ (V' a j) = nZ (V a j) ∧ ((∃ c, P.1 a = some (.inl c)) ∨ ∃ n, P.1 a = some (.inr (.int, n))))) : mz_h P V' = mz_h P V := by
  funext a
  unfold mz_h
  cases e : P.1 a with
  | none => rfl
  | some t =>
    simp only [Option.map_some]
    cases t with
    | inl c =>
      have this : (fun k v => mz_fv v (P.2 a k) (V' a k)) = fun k v => mz_fv v (P.2 a k) (V a k) := by
        funext k y
        rcases h a k with w | ⟨w, -⟩
        · rw [w]
        · unfold mz_fv
          rw [w]
      simp only [mz_c, this]
    | inr r =>
      have this : (fun j => mz_av r.1 (P.2 a j) (V' a j)) = fun j => mz_av r.1 (P.2 a j) (V a j) := by
        funext j
        rcases h a j with w | ⟨w, w2⟩
        · rw [w]
        · rcases w2 with ⟨c, hc⟩ | ⟨n, hn⟩
          · rw [e] at hc; cases hc
          · rw [e] at hn
            cases hn
            show Value.int (nZ (V' a j)) = Value.int (nZ (V a j))
            rw [w]
      simp only [mz_c, this]
/-- where the commands of a text begin -/
def rd_p (t : Nat → Int) (L : Nat) : Nat → Nat
  | 0 => 0
  | i + 1 => (pc_r t L (rd_p t L i)).2.1 + 1
/-- whether a text from its command k on is one, how far it is, how many commands -/
def rd_r (t : Nat → Int) (L : Nat) : Nat → Nat → Bool × Nat × Nat
  | 0, k => (false, rd_p t L k, k)
  | f + 1, k => if (pc_r t L (rd_p t L k)).1 = true then (if (pc_r t L (rd_p t L k)).2.1 < L then (if pr_chr t L 59 (pc_r t L (rd_p t L k)).2.1 = true then rd_r t L f (k + 1) else (false, (pc_r t L (rd_p t L k)).2.1, k + 1)) else (true, (pc_r t L (rd_p t L k)).2.1, k + 1)) else (false, (pc_r t L (rd_p t L k)).2.1, k)
/-- command i as the class holds it -/
def rd_c (V : mz_V) (x : Nat) (t : Nat → Int) (L i : Nat) : Prop := V (x + 349 + 2 * i) 0 = pk_k t L (rd_p t L i) ∧ ∀ j, j < (pc_r t L (rd_p t L i)).2.2.1 → V (x + 349 + 2 * i + 1) j = (pc_r t L (rd_p t L i)).2.2.2 j
theorem pc_r_p {t : Nat → Int} {L p : Nat} (hp : p ≤ L) : p ≤ (pc_r t L p).2.1 ∧ (pc_r t L p).2.1 ≤ L := by
  unfold pc_r
  split
  · exact ⟨Nat.le_refl _, hp⟩
  · have := pr_fm_p t L (fm_l (pk_k t L p)) p (0, fun _ => 0) hp
    exact ⟨this.1, this.2.1⟩
section READ
variable {X : mv_X} {P : mz_P} {V : mz_V} {z : Nat × Nat} {x v n d c L p x0 : Nat} {t : Nat → Int}
theorem X6_readCmd (hX : mx_W X P x0) (hS : ∀ k, k < 9 → mx_S X x0 (21 + k) (fm_l k)) (hP : mX_P P x v n) (hT : pz_T P V x L t) (hc : x + 349 ≤ c) (hC : mz_Cm P c) (hp : p ≤ L) (h4 : V (x + 346) 4 = p) : ∃ V' : mz_V, mv_call X (d + 6) 71 [.ref (x + 346), .ref c] (mz_h P V, z) = some (.inl (some (.int (nZ (if (pc_r t L p).1 = true then 1 else 0)))), (mz_h P V', z)) ∧ V' (x + 346) 4 = (pc_r t L p).2.1 ∧ (∀ k, k ≠ 4 → V' (x + 346) k = V (x + 346) k) ∧ (∀ r, r ≠ x + 346 → r ≠ c → r ≠ c + 1 → V' r = V r) ∧
    ((pc_r t L p).1 = true → V' c 0 = pk_k t L p ∧ ∀ i, i < (pc_r t L p).2.2.1 → V' (c + 1) i = (pc_r t L p).2.2.2 i) := by
  obtain ⟨V1, hV1⟩ : ∃ V1, V1 = mz_w V c (mr_up (V c) 1 (V c 1 % 4294967296)) := ⟨_, rfl⟩
  have eh : mz_h P V1 = mz_h P V := mz_h_n fun a j => by
    rw [hV1]
    by_cases e : a = c
    · subst e
      rw [mz_w_s]
      by_cases e2 : j = 1
      · subst e2
        rw [mr_up_s]
        exact Or.inr ⟨nZ_w _, Or.inl ⟨5, hC.1⟩⟩
      · rw [mr_up_n _ _ e2]; exact Or.inl rfl
    · rw [mz_w_n _ _ e]; exact Or.inl rfl
  have hn : V c 1 % 4294967296 = ((V c 1 % 4294967296).toNat : Int) := by omega
  have ev : pz_V V1 x c (V1 c) p ((V c 1 % 4294967296).toNat, V (c + 1)) = V1 := by
    funext r
    by_cases e1 : r = c + 1
    · rw [e1, pz_g, hV1, mz_w_n _ _ (by omega)]
    · by_cases e2 : r = c
      · rw [e2, pz_c, hV1, mz_w_s, mr_up_up]
        show mr_up (V c) 1 (((V c 1 % 4294967296).toNat : Nat) : Int) = _
        rw [← hn]
      · by_cases e3 : r = x + 346
        · rw [e3]
          unfold pz_V
          rw [mz_w_n _ _ (by omega), mz_w_n _ _ (by omega), mz_w_s, hV1, mz_w_n _ _ (by omega), ← h4, mr_up_id]
        · rw [pz_r e3 e2 e1]
  have hT1 : pz_T P V1 x L t := by
    unfold pz_T
    rw [hV1, mz_w_n _ _ (by omega), mz_w_n _ _ (by omega)]
    exact hT
  obtain ⟨F', q', k1, k2⟩ := X6_readCommand (X := X) (z := z) (d := d) (F := V1 c) (q := ((V c 1 % 4294967296).toNat, V (c + 1))) hX hS hP hT1 hc hC hp
  rw [ev, eh] at k1
  refine ⟨_, k1, pz_p hc, fun k hk => ?_, fun r r1 r2 r3 => ?_, fun w => ?_⟩
  · rw [pz_t hc k hk, hV1, mz_w_n _ _ (by omega)]
  · rw [pz_r r1 r2 r3, hV1, mz_w_n _ _ r2]
  · obtain ⟨w1, w2⟩ := k2 w
    refine ⟨?_, fun i hi => ?_⟩
    · rw [pz_c, mr_up_n _ _ (by decide)]; exact w1
    · rw [pz_g]; exact w2 i hi
theorem X6_read (hX : mx_W X P x0) (hS : ∀ k, k < 9 → mx_S X x0 (21 + k) (fm_l k)) (hP : mX_P P x v n) (hT : pz_T P V x L t) : ∃ V' : mz_V, mv_call X (d + 7) 70 [.ref (x + 346)] (mz_h P V, z) = some (.inl (some (.int (nZ (if (rd_r t L 9 0).1 = true then 1 else 0)))), (mz_h P V', z)) ∧ V' (x + 346) 4 = (rd_r t L 9 0).2.1 ∧ V' (x + 346) 3 = (rd_r t L 9 0).2.2 ∧ V' (x + 346) 1 = L ∧ (∀ r, r ≠ x + 346 → (r < x + 349 ∨ x + 367 ≤ r) → V' r = V r) ∧ ∀ i, i < (rd_r t L 9 0).2.2 → rd_c V' x t L i := by
  obtain ⟨t1, t2, t3, t4, t5, t6⟩ := hP.tx
  obtain ⟨hL1, hL2, hL3⟩ := id hT
  have key : ∀ f k : Nat, k + f = 9 → ∀ W : mz_V, pz_T P W x L t → W (x + 346) 4 = (rd_p t L k : Nat) → rd_p t L k ≤ L → W (x + 346) 3 = (k : Int) → (∀ i, i < k → rd_c W x t L i) → ∃ V' : mz_V, mv_run X (mv_call X (d + 6)) m_X6_read 10 [.ref (x + 346)] [] (mz_h P W, z) = some (.inl (some (.int (nZ (if (rd_r t L f k).1 = true then 1 else 0)))), (mz_h P V', z)) ∧ V' (x + 346) 4 = (rd_r t L f k).2.1 ∧ V' (x + 346) 3 = (rd_r t L f k).2.2 ∧ V' (x + 346) 1 = L ∧ (∀ r, r ≠ x + 346 → (r < x + 349 ∨ x + 367 ≤ r) → V' r = W r) ∧ ∀ i, i < (rd_r t L f k).2.2 → rd_c V' x t L i := by
    intro f
    induction f with
    | zero =>
      intro k hk W hTW h4 hp h3 hcs
      have : k = 9 := by omega
      subst this
      refine ⟨W, ?_, h4, h3, hTW.1, fun _ _ _ => rfl, hcs⟩
      rw [bk_X6_read_10, mz_gI t1 (by decide), h3, if_pos (by exact Int32.le_refl _)]
      rfl
    | succ f ih =>
      intro k hk W hTW h4 hp h3 hcs
      have hk9 : k < 9 := by omega
      obtain ⟨W1, e1, a1, a2, a3, a4⟩ := X6_readCmd (X := X) (z := z) (d := d) (c := x + 349 + 2 * k) hX hS hP hTW (by omega) (t6 k hk9).2 hp h4
      obtain ⟨f1, f2⟩ := pc_r_p (t := t) hp
      have er : rd_r t L (f + 1) k = if (pc_r t L (rd_p t L k)).1 = true then (if (pc_r t L (rd_p t L k)).2.1 < L then (if pr_chr t L 59 (pc_r t L (rd_p t L k)).2.1 = true then rd_r t L f (k + 1) else (false, (pc_r t L (rd_p t L k)).2.1, k + 1)) else (true, (pc_r t L (rd_p t L k)).2.1, k + 1)) else (false, (pc_r t L (rd_p t L k)).2.1, k) := rfl
      have w1 : W1 (x + 346) 1 = L := by rw [a2 1 (by decide)]; exact hTW.1
      have w3 : W1 (x + 346) 3 = k := by rw [a2 3 (by decide)]; exact h3
      have wo : ∀ i, i < k → rd_c W1 x t L i := fun i hi => by
        have := hcs i hi
        unfold rd_c at this ⊢
        rw [a3 _ (by omega) (by omega) (by omega), a3 _ (by omega) (by omega) (by omega)]
        exact this
      rw [bk_X6_read_10, mz_gI t1 (by decide), h3, if_neg (by rw [nZ_le (by decide) ⟨by omega, by omega⟩]; omega), mz_gR t1 (by decide) t4, mz_gI t1 (by decide), h3, mz_aR t5 (nZ_i ⟨by omega, by omega⟩) (by omega) (t6 k hk9).1, mz_rcv t1]
      simp only [mv_clI, mv_cl, e1, nZ_b1]
      by_cases c0 : (pc_r t L (rd_p t L k)).1 = true
      · obtain ⟨b1, b2⟩ := a4 c0
        rw [if_pos c0] at er
        rw [if_neg (fun w => w c0), mz_gI t1 (by decide), w3, nZ_add, mz_pW t1 (by decide), mz_gI t1 (by decide), mz_w_s, mr_up_n _ _ (by decide), a1, mz_gI t1 (by decide), mz_w_s, mr_up_n _ _ (by decide), w1]
        obtain ⟨W2, hW2⟩ : ∃ W2, W2 = mz_w W1 (x + 346) (mr_up (W1 (x + 346)) 3 ((k : Int) + 1)) := ⟨_, rfl⟩
        rw [← hW2]
        have u3 : W2 (x + 346) 3 = ((k + 1 : Nat) : Int) := by rw [hW2, mz_w_s, mr_up_s, nc1]
        have u4 : W2 (x + 346) 4 = (pc_r t L (rd_p t L k)).2.1 := by rw [hW2, mz_w_s, mr_up_n _ _ (by decide)]; exact a1
        have u1 : W2 (x + 346) 1 = L := by rw [hW2, mz_w_s, mr_up_n _ _ (by decide)]; exact w1
        have uo : ∀ r, r ≠ x + 346 → W2 r = W1 r := fun r hr => by rw [hW2]; exact mz_w_n _ _ hr
        have ucs : ∀ i, i < k + 1 → rd_c W2 x t L i := fun i hi => by
          unfold rd_c
          rw [uo _ (by omega), uo _ (by omega)]
          by_cases e : i = k
          · subst e; exact ⟨b1, b2⟩
          · exact wo i (by omega)
        have uf : ∀ r, r ≠ x + 346 → (r < x + 349 ∨ x + 367 ≤ r) → W2 r = W r := fun r r1 r2 => by rw [uo r r1, a3 r r1 (by omega) (by omega)]
        by_cases c1 : (pc_r t L (rd_p t L k)).2.1 < L
        · rw [if_pos c1] at er
          rw [if_pos ((nZ_lt ⟨by omega, by omega⟩ ⟨by omega, by omega⟩).mpr (by omega)), mz_rcv t1]
          have hT2 : pz_T P W2 x L t := ⟨u1, hL2, fun i hi => by rw [uf _ (by omega) (by omega)]; exact hTW.2.2 i hi⟩
          have e76 : mv_call X (d + 6) 76 [.ref (x + 346), .int (nZ 59)] (mz_h P W2, z) = some (.inl (some (.int (nZ (if pr_chr t L 59 (pc_r t L (rd_p t L k)).2.1 = true then 1 else 0)))), (mz_h P (if pr_chr t L 59 (pc_r t L (rd_p t L k)).2.1 = true then mz_w W2 (x + 346) (mr_up (W2 (x + 346)) 4 (((pc_r t L (rd_p t L k)).2.1 : Int) + 1)) else W2), z)) := by
            have h3t := hT2.2.2 _ c1
            rw [mc_X6_readCharacter, bk_X6_readCharacter_0, mz_gI t1 (by decide), mz_gI t1 (by decide), u4, u1, if_neg (fun w => by rw [nZ_le ⟨by omega, by omega⟩ ⟨by omega, by omega⟩] at w; omega), mz_gR t1 (by decide) t2, mz_gI t1 (by decide), u4, mz_aI t3 (by decide) (nZ_i ⟨by omega, by omega⟩) (by omega), h3t.1]
            by_cases e2 : t (pc_r t L (rd_p t L k)).2.1 = 59
            · have ey : pr_chr t L 59 (pc_r t L (rd_p t L k)).2.1 = true := decide_eq_true ⟨c1, e2⟩
              rw [if_pos (by rw [e2]), if_pos ey, if_pos ey, mz_gI t1 (by decide), u4, nZ_add, mz_pW t1 (by decide)]
            · have en : ¬ pr_chr t L 59 (pc_r t L (rd_p t L k)).2.1 = true := fun w => e2 (of_decide_eq_true w).2
              rw [if_neg (by rw [nZ_inj ⟨by omega, by omega⟩ (by decide)]; exact e2), if_neg en, if_neg en]
          simp only [e76, nZ_b1]
          by_cases c2 : pr_chr t L 59 (pc_r t L (rd_p t L k)).2.1 = true
          · rw [if_pos c2] at er
            have hpn : rd_p t L (k + 1) = (pc_r t L (rd_p t L k)).2.1 + 1 := rfl
            obtain ⟨V', g1, g2, g3, g4, g5, g6⟩ := ih (k + 1) (by omega) (mz_w W2 (x + 346) (mr_up (W2 (x + 346)) 4 (((pc_r t L (rd_p t L k)).2.1 : Int) + 1))) ⟨by rw [mz_w_s, mr_up_n _ _ (by decide)]; exact u1, hL2, fun i hi => by rw [mz_w_n _ _ (by omega)]; exact hT2.2.2 i hi⟩ (by rw [mz_w_s, mr_up_s, hpn, nc1]) (by rw [hpn]; omega) (by rw [mz_w_s, mr_up_n _ _ (by decide)]; exact u3) (fun i hi => by
              have := ucs i hi
              unfold rd_c at this ⊢
              rw [mz_w_n _ _ (by omega), mz_w_n _ _ (by omega)]
              exact this)
            refine ⟨V', ?_, by rw [er]; exact g2, by rw [er]; exact g3, g4, fun r r1 r2 => by rw [g5 r r1 r2, mz_w_n _ _ r1, uf r r1 r2], by rw [er]; exact g6⟩
            rw [if_neg (fun w => w c2), if_pos c2, er]
            exact g1
          · rw [if_neg c2] at er
            refine ⟨W2, ?_, by rw [er]; exact u4, by rw [er]; exact u3, u1, uf, by rw [er]; exact ucs⟩
            rw [if_pos c2, if_neg c2, er]
            rfl
        · rw [if_neg c1] at er
          refine ⟨W2, ?_, by rw [er]; exact u4, by rw [er]; exact u3, u1, uf, by rw [er]; exact ucs⟩
          rw [if_neg (fun w => by rw [nZ_lt ⟨by omega, by omega⟩ ⟨by omega, by omega⟩] at w; omega), er]
          rfl
      · rw [if_neg c0] at er
        refine ⟨W1, ?_, by rw [er]; exact a1, by rw [er]; exact w3, w1, fun r r1 r2 => a3 r r1 (by omega) (by omega), by rw [er]; exact wo⟩
        rw [if_pos c0, er]
        rfl
  rw [mc_X6_read, bk_X6_read_0, mz_pW t1 (by decide), mz_pW t1 (by decide), mz_w_s, mz_w_w]
  obtain ⟨V', g1, g2, g3, g4, g5, g6⟩ := key 9 0 (by decide) (mz_w V (x + 346) (mr_up (mr_up (V (x + 346)) 4 0) 3 0)) ⟨by rw [mz_w_s, mr_up_n _ _ (by decide), mr_up_n _ _ (by decide)]; exact hL1, hL2, fun i hi => by rw [mz_w_n _ _ (by omega)]; exact hL3 i hi⟩ (by rw [mz_w_s, mr_up_n _ _ (by decide), mr_up_s]; rfl) (Nat.zero_le _) (by rw [mz_w_s, mr_up_s]; rfl) (fun i hi => absurd hi (Nat.not_lt_zero _))
  exact ⟨V', g1, g2, g3, g4, fun r r1 r2 => by rw [g5 r r1 r2, mz_w_n _ _ r1], g6⟩
end READ
