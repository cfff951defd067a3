/-! A HARBOUR'S CHANGES, TOLD BY THE REFERENCE'S NUMBERS -/
theorem mz_BI_p {V V' : mz_V} {b b' : Nat} (h1 : ∀ j, j < 6 → V' b' j = V b j) (h2 : ∀ j, j < 6 → V' (b' + 1) j = V (b + 1) j) (h : mz_BI V b) : mz_BI V' b' := by
  have q1 := h.count1
  have q2 := h.count2
  obtain ⟨g0, g1, g2, g3, g4, g5, g6, g7, g8, g9, g10, g11, g12⟩ := h
  unfold mz_BI
  rw [h1 0 (by decide), h1 1 (by decide), h1 2 (by decide), h1 3 (by decide), h1 4 (by decide), h1 5 (by decide)]
  refine ⟨g0, g1, g2, g3, g4, g5, g6, g7, g8, fun k hk => ?_, fun k hk => ?_, fun k hk => ?_, ?_⟩
  · rw [h2 k hk]; exact g9 k hk
  · rw [h2 k hk]; exact g10 k hk
  · rw [h2 k (by omega)]; exact g11 k hk
  · rw [g12]; exact mz_s_c fun i hi => (h2 i (by omega)).symm
theorem mh_R_p {V V' : mz_V} {a a' : Nat} {s : Nat → Int} (hp : s 5 ≤ 6) (h1 : ∀ i, i < 10 → ∀ j, j < 6 → V' (a' + 5 + 2 * i) j = V (a + 5 + 2 * i) j) (h2 : ∀ i, i < 10 → ∀ j, j < 6 → V' (a' + 5 + 2 * i + 1) j = V (a + 5 + 2 * i + 1) j)
    (h3 : ∀ i, i < 24 → V' (a' + 2) i = V (a + 2) i) (h4 : ∀ j, j < 6 → ∀ k, k < 3 → V' (a' + 25 + j) k = V (a + 25 + j) k) (h5 : ∀ k, 3 ≤ k → k < 9 → V' a' k = V a k) (h : mh_R V a s) : mh_R V' a' s := by
  obtain ⟨g1, g2, g3⟩ := h
  refine ⟨fun i hi => ?_, ?_, fun i hi => ?_, fun j hj => ?_, fun j hj => ?_⟩
  · obtain ⟨p1, p2, p3, p4⟩ := g1 i hi
    refine ⟨mz_BI_p (h1 i hi) (h2 i hi) p1, by rw [h1 i hi 0 (by decide)]; exact p2, fun q => ?_, p4⟩
    obtain ⟨r1, r2, r3, r4, r5⟩ := p3 q
    rw [h1 i hi 1 (by decide), h1 i hi 2 (by decide), h1 i hi 3 (by decide), h1 i hi 5 (by decide)]
    refine ⟨r1, r2, r3, r4, fun k hk => ?_⟩
    have := p1.count2
    rw [h2 i hi k (by omega)]
    exact r5 k hk
  · obtain ⟨c1, c2, c3, c4, c5, c6⟩ := g2
    unfold mh_C
    rw [h5 3 (by decide) (by decide), h5 4 (by decide) (by decide), h5 5 (by decide) (by decide), h5 6 (by decide) (by decide), h5 7 (by decide) (by decide), h5 8 (by decide) (by decide)]
    exact ⟨c1, c2, c3, c4, c5, c6⟩
  · rw [h3 i hi]; exact g3.1 i hi
  · have := g3.2.1 j hj
    unfold mp_I at this ⊢
    rw [h4 j hj 0 (by decide), h4 j hj 1 (by decide), h4 j hj 2 (by decide)]
    exact this
  · have hj6 : j < 6 := by omega
    rw [h4 j hj6 0 (by decide), h4 j hj6 1 (by decide), h4 j hj6 2 (by decide)]
    exact g3.2.2 j hj
section WR
variable {X : mv_X} {P : mz_P} {V : mz_V} {z : Nat × Nat} {a d : Nat} {s : Nat → Int}
theorem mz_u_o {V : mz_V} {a k : Nat} {x : Int} {r : Nat} (h : r ≠ a) : mz_u V a k x r = V r := by funext j; exact mz_u_a V x h
theorem mh_X_u {V V' : mz_V} {a r k : Nat} {x : Int} (h : mh_X V V' a) (h1 : a ≤ r) (h2 : r < a + 31) : mh_X V (mz_u V' r k x) a := fun q hq => (mz_u_o (by omega)).trans (h q hq)
/-- a counter -/
theorem mh_R_ct (h : mh_R V a s) (hp : s 5 ≤ 6) {k j : Nat} {x : Int} (hkj : (k = 5 ∧ j = 1) ∨ (k = 6 ∧ j = 2) ∨ (k = 7 ∧ j = 3) ∨ (k = 8 ∧ j = 4)) : mh_R (mz_u V a k x) a (mr_up s j x) := by
  obtain ⟨g1, ⟨c1, c2, c3, c4, c5, c6⟩, g3⟩ := h
  refine ⟨fun i hi => mb_R_c (mz_u_o (by omega)) (mz_u_o (by omega)) (fun q _ => mr_up_n _ _ (by omega)) (g1 i hi), ?_, mh_W_c (mz_u_o (by omega)) (fun j _ => mz_u_o (by omega)) (mr_up_n _ _ (by omega)) (fun j hj => mr_up_n _ _ (by omega)) hp g3⟩
  unfold mh_C
  rcases hkj with ⟨rfl, rfl⟩ | ⟨rfl, rfl⟩ | ⟨rfl, rfl⟩ | ⟨rfl, rfl⟩ <;> simp [mz_u, mr_up, c1, c2, c3, c4, c5, c6]
theorem mz_BI_0 {V V' : mz_V} {b : Nat} (h0 : V' b 0 = 0 ∨ V' b 0 = 1) (h1 : ∀ j, 1 ≤ j → V' b j = V b j) (h2 : V' (b + 1) = V (b + 1)) (h : mz_BI V b) : mz_BI V' b := by
  obtain ⟨g0, g⟩ := h
  unfold mz_BI
  rw [h1 1 (by decide), h1 2 (by decide), h1 3 (by decide), h1 4 (by decide), h1 5 (by decide), h2]
  exact ⟨h0, g⟩
/-- a berth cleared -/
theorem mh_R_clr (h : mh_R V a s) (hp : s 5 ≤ 6) {i : Nat} (hi : i < 10) : mh_R (mz_u V (a + 5 + 2 * i) 0 0) a (mr_clr s i) := by
  have hz : ∀ j, j < 11 → mr_clr s i (6 + 11 * i + j) = 0 := fun j hj => mr_zr_y _ (by omega)
  have hn : ∀ j, ¬ (6 + 11 * i ≤ j ∧ j < 6 + 11 * i + 11) → mr_clr s i j = s j := fun j hj => mr_zr_n _ hj
  refine mh_R_b h hp (fun r _ h2 _ => mz_u_o h2) (fun j _ hj => hn j hj) hi ⟨mz_BI_0 (Or.inl (mz_u_s _ _ _ _)) (fun j hj => mz_u_k _ _ (by omega)) (mz_u_o (by omega)) (h.1 i hi).1, ?_, fun q => ?_, fun _ k hk => hz k hk⟩ ?_
  · rw [mz_u_s]; exact (hz 0 (by decide)).symm
  · rw [show mr_clr s i (6 + 11 * i) = 0 from hz 0 (by decide)] at q
    exact absurd q (by decide)
  · have := h.2.1
    unfold mh_C at this ⊢
    rw [hn 0 (by omega), hn 1 (by omega), hn 2 (by omega), hn 3 (by omega), hn 4 (by omega), hn 5 (by omega), mz_u_o (by omega)]
    exact this
/-- a balloon moored -/
theorem mh_R_beg (h : mh_R V a s) (hp : s 5 ≤ 6) {i : Nat} (hi : i < 10) {l c t : Int} (hl : 1 ≤ l ∧ l ≤ 99) (hc : 1 ≤ c ∧ c ≤ 40) (ht : 1 ≤ t ∧ t ≤ 60) :
    mh_R (mz_u (mz_u (mz_u (mz_u (mz_u (mz_u V (a + 5 + 2 * i) 0 1) (a + 5 + 2 * i) 1 l) (a + 5 + 2 * i) 2 c) (a + 5 + 2 * i) 3 t) (a + 5 + 2 * i) 4 0) (a + 5 + 2 * i) 5 0) a (mc_st0 s i l c t) := by
  have hz : ∀ j, j < 11 → mr_clr s i (6 + 11 * i + j) = 0 := fun j hj => mr_zr_y _ (by omega)
  have hn : ∀ j, ¬ (6 + 11 * i ≤ j ∧ j < 6 + 11 * i + 11) → mr_clr s i j = s j := fun j hj => mr_zr_n _ hj
  have e0 : mc_st0 s i l c t (6 + 11 * i) = 1 := by
    unfold mc_st0
    rw [mr_up_n _ _ (by omega), mr_up_n _ _ (by omega), mr_up_n _ _ (by omega)]; exact mr_up_s _ _ _
  have e1 : mc_st0 s i l c t (6 + 11 * i + 1) = l := by
    unfold mc_st0
    rw [mr_up_n _ _ (by omega), mr_up_n _ _ (by omega), mr_up_s]
  have e2 : mc_st0 s i l c t (6 + 11 * i + 2) = c := by
    unfold mc_st0
    rw [mr_up_n _ _ (by omega), mr_up_s]
  have e3 : mc_st0 s i l c t (6 + 11 * i + 3) = t := by
    unfold mc_st0
    rw [mr_up_s]
  have e4 : mc_st0 s i l c t (6 + 11 * i + 4) = 0 := by
    unfold mc_st0
    rw [mr_up_n _ _ (by omega), mr_up_n _ _ (by omega), mr_up_n _ _ (by omega), mr_up_n _ _ (by omega)]; exact hz 4 (by decide)
  have en : ∀ j, ¬ (6 + 11 * i ≤ j ∧ j < 6 + 11 * i + 11) → mc_st0 s i l c t j = s j := fun j hj => by
    unfold mc_st0
    rw [mr_up_n _ _ (by omega), mr_up_n _ _ (by omega), mr_up_n _ _ (by omega), mr_up_n _ _ (by omega)]; exact hn j hj
  have eo : ∀ r, r ≠ a + 5 + 2 * i → (mz_u (mz_u (mz_u (mz_u (mz_u (mz_u V (a + 5 + 2 * i) 0 1) (a + 5 + 2 * i) 1 l) (a + 5 + 2 * i) 2 c) (a + 5 + 2 * i) 3 t) (a + 5 + 2 * i) 4 0) (a + 5 + 2 * i) 5 0) r = V r := fun r hr => by
    rw [mz_u_o hr, mz_u_o hr, mz_u_o hr, mz_u_o hr, mz_u_o hr, mz_u_o hr]
  have hB := (h.1 i hi).1
  have v0 : (mz_u (mz_u (mz_u (mz_u (mz_u (mz_u V (a + 5 + 2 * i) 0 1) (a + 5 + 2 * i) 1 l) (a + 5 + 2 * i) 2 c) (a + 5 + 2 * i) 3 t) (a + 5 + 2 * i) 4 0) (a + 5 + 2 * i) 5 0) (a + 5 + 2 * i) 0 = 1 := by simp [mz_u]
  have v1 : (mz_u (mz_u (mz_u (mz_u (mz_u (mz_u V (a + 5 + 2 * i) 0 1) (a + 5 + 2 * i) 1 l) (a + 5 + 2 * i) 2 c) (a + 5 + 2 * i) 3 t) (a + 5 + 2 * i) 4 0) (a + 5 + 2 * i) 5 0) (a + 5 + 2 * i) 1 = l := by simp [mz_u]
  have v2 : (mz_u (mz_u (mz_u (mz_u (mz_u (mz_u V (a + 5 + 2 * i) 0 1) (a + 5 + 2 * i) 1 l) (a + 5 + 2 * i) 2 c) (a + 5 + 2 * i) 3 t) (a + 5 + 2 * i) 4 0) (a + 5 + 2 * i) 5 0) (a + 5 + 2 * i) 2 = c := by simp [mz_u]
  have v3 : (mz_u (mz_u (mz_u (mz_u (mz_u (mz_u V (a + 5 + 2 * i) 0 1) (a + 5 + 2 * i) 1 l) (a + 5 + 2 * i) 2 c) (a + 5 + 2 * i) 3 t) (a + 5 + 2 * i) 4 0) (a + 5 + 2 * i) 5 0) (a + 5 + 2 * i) 3 = t := by simp [mz_u]
  have v4 : (mz_u (mz_u (mz_u (mz_u (mz_u (mz_u V (a + 5 + 2 * i) 0 1) (a + 5 + 2 * i) 1 l) (a + 5 + 2 * i) 2 c) (a + 5 + 2 * i) 3 t) (a + 5 + 2 * i) 4 0) (a + 5 + 2 * i) 5 0) (a + 5 + 2 * i) 4 = 0 := by simp [mz_u]
  have v5 : (mz_u (mz_u (mz_u (mz_u (mz_u (mz_u V (a + 5 + 2 * i) 0 1) (a + 5 + 2 * i) 1 l) (a + 5 + 2 * i) 2 c) (a + 5 + 2 * i) 3 t) (a + 5 + 2 * i) 4 0) (a + 5 + 2 * i) 5 0) (a + 5 + 2 * i) 5 = 0 := by simp [mz_u]
  have vo := eo (a + 5 + 2 * i + 1) (by omega)
  have va := eo a (by omega)
  generalize (mz_u (mz_u (mz_u (mz_u (mz_u (mz_u V (a + 5 + 2 * i) 0 1) (a + 5 + 2 * i) 1 l) (a + 5 + 2 * i) 2 c) (a + 5 + 2 * i) 3 t) (a + 5 + 2 * i) 4 0) (a + 5 + 2 * i) 5 0) = W at *
  refine mh_R_b h hp (fun r _ h2 _ => eo r h2) (fun j _ hj => en j hj) hi ⟨?_, ?_, fun q => ?_, fun q => ?_⟩ ?_
  · unfold mz_BI
    rw [v0, v1, v2, v3, v4, v5, vo]
    exact ⟨Or.inr rfl, hl.1, hl.2, hc.1, hc.2, ht.1, ht.2, by decide, by decide, hB.bag1, hB.bag2, fun k hk => absurd hk (by omega), rfl⟩
  · rw [e0, v0]
  · rw [e1, e2, e3, e4, v1, v2, v3, v5]
    exact ⟨rfl, rfl, rfl, rfl, fun k hk => absurd hk (by omega)⟩
  · rw [e0] at q; exact absurd q (by decide)
  · have := h.2.1
    unfold mh_C at this ⊢
    rw [en 0 (by omega), en 1 (by omega), en 2 (by omega), en 3 (by omega), en 4 (by omega), en 5 (by omega), va]
    exact this
/-- a bag more -/
theorem mh_R_add (h : mh_R V a s) (hp : s 5 ≤ 6) {i n : Nat} (hi : i < 10) (hh : s (6 + 11 * i) = 1) (hn : V (a + 5 + 2 * i) 5 = n) (hn6 : n < 6) {w : Int} (hw : 1 ≤ w ∧ w ≤ 20) :
    mh_R (mz_u (mz_u (mz_u V (a + 5 + 2 * i + 1) n w) (a + 5 + 2 * i) 5 (n + 1)) (a + 5 + 2 * i) 4 (V (a + 5 + 2 * i) 4 + w)) a (mr_up (mr_up s (6 + 11 * i + (5 + (s (6 + 11 * i + 4)).toNat)) w) (6 + 11 * i + 4) (s (6 + 11 * i + 4) + 1)) := by
  obtain ⟨hB, g2, g3, g4⟩ := h.1 i hi
  obtain ⟨p1, p2, p3, p4, p5⟩ := g3 hh
  have esn : (s (6 + 11 * i + 4)).toNat = n := by omega
  rw [esn]
  have e4 : s (6 + 11 * i + 4) = n := by omega
  have en : ∀ j, j ≠ 6 + 11 * i + 4 → j ≠ 6 + 11 * i + (5 + n) → mr_up (mr_up s (6 + 11 * i + (5 + n)) w) (6 + 11 * i + 4) (s (6 + 11 * i + 4) + 1) j = s j := fun j h1 h2 => by rw [mr_up_n _ _ h1, mr_up_n _ _ h2]
  have eb : ∀ j, j ≠ 4 → j ≠ 5 → (mz_u (mz_u (mz_u V (a + 5 + 2 * i + 1) n w) (a + 5 + 2 * i) 5 (n + 1)) (a + 5 + 2 * i) 4 (V (a + 5 + 2 * i) 4 + w)) (a + 5 + 2 * i) j = V (a + 5 + 2 * i) j := fun j h1 h2 => by
    rw [mz_u_k _ _ h1, mz_u_k _ _ h2, mz_u_a _ _ (by omega)]
  have eb4 : (mz_u (mz_u (mz_u V (a + 5 + 2 * i + 1) n w) (a + 5 + 2 * i) 5 (n + 1)) (a + 5 + 2 * i) 4 (V (a + 5 + 2 * i) 4 + w)) (a + 5 + 2 * i) 4 = V (a + 5 + 2 * i) 4 + w := mz_u_s _ _ _ _
  have eb5 : (mz_u (mz_u (mz_u V (a + 5 + 2 * i + 1) n w) (a + 5 + 2 * i) 5 (n + 1)) (a + 5 + 2 * i) 4 (V (a + 5 + 2 * i) 4 + w)) (a + 5 + 2 * i) 5 = n + 1 := by rw [mz_u_k _ _ (by decide), mz_u_s]
  have eg : (mz_u (mz_u (mz_u V (a + 5 + 2 * i + 1) n w) (a + 5 + 2 * i) 5 (n + 1)) (a + 5 + 2 * i) 4 (V (a + 5 + 2 * i) 4 + w)) (a + 5 + 2 * i + 1) = mr_up (V (a + 5 + 2 * i + 1)) n w := by
    rw [mz_u_o (by omega), mz_u_o (by omega)]
    funext j
    unfold mz_u mr_up
    simp
  refine mh_R_b h hp (fun r h1 h2 h3 => ?_) (fun j _ hj => en j (by omega) (by omega)) hi ⟨?_, ?_, fun q => ?_, fun q => ?_⟩ ?_
  · rw [mz_u_o h2, mz_u_o h2, mz_u_o h3]
  · unfold mz_BI
    rw [eb 0 (by decide) (by decide), eb 1 (by decide) (by decide), eb 2 (by decide) (by decide), eb 3 (by decide) (by decide), eb4, eb5, eg]
    refine ⟨hB.moored, hB.lift1, hB.lift2, hB.string1, hB.string2, hB.strength1, hB.strength2, by omega, by omega, fun k hk => ?_, fun k hk => ?_, fun k hk => ?_, ?_⟩
    · have := hB.bag1 k hk
      unfold mr_up; split <;> omega
    · have := hB.bag2 k hk
      unfold mr_up; split <;> omega
    · by_cases e : k = n
      · subst e; rw [mr_up_s]; omega
      · rw [mr_up_n _ _ e]; exact hB.bag3 k (by omega)
    · rw [show ((n : Int) + 1).toNat = n + 1 by omega, hB.ballast, hn, Int.toNat_natCast]
      show _ = mz_s (mr_up (V (a + 5 + 2 * i + 1)) n w) n + mr_up (V (a + 5 + 2 * i + 1)) n w n
      rw [mr_up_s, mz_s_c (f := mr_up (V (a + 5 + 2 * i + 1)) n w) (g := V (a + 5 + 2 * i + 1)) fun j hj => mr_up_n _ _ (by omega)]
  · rw [eb 0 (by decide) (by decide), en _ (by omega) (by omega)]; exact g2
  · rw [eb 1 (by decide) (by decide), eb 2 (by decide) (by decide), eb 3 (by decide) (by decide), eb5, eg, en _ (by omega) (by omega), en _ (by omega) (by omega), en _ (by omega) (by omega), mr_up_s, e4]
    refine ⟨p1, p2, p3, rfl, fun k hk => ?_⟩
    by_cases e : k = n
    · subst e
      rw [mr_up_s, mr_up_n _ _ (by omega), mr_up_s]
    · rw [mr_up_n _ _ e, mr_up_n _ _ (by omega), mr_up_n _ _ (by omega)]
      exact p5 k (by omega)
  · rw [en _ (by omega) (by omega), hh] at q; exact absurd q (by decide)
  · have := h.2.1
    unfold mh_C at this ⊢
    rw [en 0 (by omega) (by omega), en 1 (by omega) (by omega), en 2 (by omega) (by omega), en 3 (by omega) (by omega), en 4 (by omega) (by omega), en 5 (by omega) (by omega), mz_u_o (by omega), mz_u_o (by omega), mz_u_o (by omega)]
    exact this
theorem mz_s_rm {f : Nat → Int} {k : Nat} : ∀ n, k < n → mz_s (fun j => if k ≤ j ∧ j + 1 < n then f (j + 1) else f j) (n - 1) = mz_s f n - f k
  | 0, h => absurd h (Nat.not_lt_zero _)
  | n + 1, h => by
    show mz_s (fun j => if k ≤ j ∧ j + 1 < n + 1 then f (j + 1) else f j) n = mz_s f n + f n - f k
    have key : ∀ i, i ≤ n → mz_s (fun j => if k ≤ j ∧ j + 1 < n + 1 then f (j + 1) else f j) i = if k < i then mz_s f i + f i - f k else mz_s f i := by
      intro i
      induction i with
      | zero => intro _; rw [if_neg (by omega)]; rfl
      | succ i ih =>
        intro hi
        show mz_s _ i + (if k ≤ i ∧ i + 1 < n + 1 then f (i + 1) else f i) = if k < i + 1 then mz_s f i + f i + f (i + 1) - f k else mz_s f i + f i
        rw [ih (by omega)]
        by_cases c : k < i
        · rw [if_pos c, if_pos (by omega), if_pos (by omega)]; omega
        · rw [if_neg c]
          by_cases c2 : k = i
          · subst c2
            rw [if_pos (by omega), if_pos (by omega)]; omega
          · rw [if_neg (by omega), if_neg (by omega)]
    rw [key n (Nat.le_refl _)]
    by_cases c : k < n
    · rw [if_pos c]
    · have : k = n := by omega
      subst this
      rw [if_neg c]; omega
/-- a bag taken -/
theorem mh_R_rm (h : mh_R V a s) (hp : s 5 ≤ 6) {i k : Nat} (hi : i < 10) (hh : s (6 + 11 * i) = 1) (hk : (k : Int) < s (6 + 11 * i + 4)) : mh_R (mb_rm V (a + 5 + 2 * i) k) a (mr_take s i k) := by
  obtain ⟨hB, g2, g3, g4⟩ := h.1 i hi
  obtain ⟨p1, p2, p3, p4, p5⟩ := g3 hh
  have q1 := hB.count1
  have q2 := hB.count2
  obtain ⟨n, hn⟩ : ∃ n : Nat, V (a + 5 + 2 * i) 5 = n := ⟨(V (a + 5 + 2 * i) 5).toNat, by omega⟩
  have e4 : s (6 + 11 * i + 4) = n := by omega
  have en : ∀ j, ¬ (6 + 11 * i + 4 ≤ j ∧ j < 6 + 11 * i + 11) → mr_take s i k j = s j := fun j hj => mr_take_o (by omega) hj
  have en4 : mr_take s i k (6 + 11 * i + 4) = (n : Int) - 1 := by unfold mr_take; rw [mr_up_s, e4]
  have eb : ∀ j, j ≠ 4 → j ≠ 5 → mb_rm V (a + 5 + 2 * i) k (a + 5 + 2 * i) j = V (a + 5 + 2 * i) j := fun j h1 h2 => by
    unfold mb_rm
    rw [mz_u_k _ _ h1, mz_u_k _ _ h2, mb_sh_o _ _ _ _ (by omega)]
  have eb4 : mb_rm V (a + 5 + 2 * i) k (a + 5 + 2 * i) 4 = V (a + 5 + 2 * i) 4 - V (a + 5 + 2 * i + 1) k := mz_u_s _ _ _ _
  have eb5 : mb_rm V (a + 5 + 2 * i) k (a + 5 + 2 * i) 5 = (n : Int) - 1 := by unfold mb_rm; rw [mz_u_k _ _ (by decide), mz_u_s, hn]
  have eg : mb_rm V (a + 5 + 2 * i) k (a + 5 + 2 * i + 1) = fun j => if k ≤ j ∧ j + 1 < n then V (a + 5 + 2 * i + 1) (j + 1) else V (a + 5 + 2 * i + 1) j := by
    unfold mb_rm
    rw [mz_u_o (by omega), mz_u_o (by omega), hn, Int.toNat_natCast]
    funext j
    unfold mb_sh
    simp
  have eo : ∀ r, r ≠ a + 5 + 2 * i → r ≠ a + 5 + 2 * i + 1 → mb_rm V (a + 5 + 2 * i) k r = V r := fun r h1 h2 => by
    unfold mb_rm
    rw [mz_u_o h1, mz_u_o h1]
    funext j
    exact mb_sh_o _ _ _ _ h2
  refine mh_R_b h hp (fun r h1 h2 h3 => eo r h2 h3) (fun j _ hj => en j (by omega)) hi ⟨?_, ?_, fun q => ?_, fun q => ?_⟩ ?_
  · unfold mz_BI
    rw [eb 0 (by decide) (by decide), eb 1 (by decide) (by decide), eb 2 (by decide) (by decide), eb 3 (by decide) (by decide), eb4, eb5, eg]
    refine ⟨hB.moored, hB.lift1, hB.lift2, hB.string1, hB.string2, hB.strength1, hB.strength2, by omega, by omega, fun j hj => ?_, fun j hj => ?_, fun j hj => ?_, ?_⟩
    · show 0 ≤ if k ≤ j ∧ j + 1 < n then _ else _
      split
      · exact hB.bag1 _ (by omega)
      · exact hB.bag1 _ hj
    · show (if k ≤ j ∧ j + 1 < n then _ else _) ≤ (20 : Int)
      split
      · exact hB.bag2 _ (by omega)
      · exact hB.bag2 _ hj
    · show 1 ≤ if k ≤ j ∧ j + 1 < n then _ else _
      split
      · exact hB.bag3 _ (by omega)
      · exact hB.bag3 _ (by omega)
    · rw [show ((n : Int) - 1).toNat = n - 1 by omega, mz_s_rm n (by omega), hB.ballast, hn, Int.toNat_natCast]
  · rw [eb 0 (by decide) (by decide), en _ (by omega)]; exact g2
  · rw [eb 1 (by decide) (by decide), eb 2 (by decide) (by decide), eb 3 (by decide) (by decide), eb5, eg, en _ (by omega), en _ (by omega), en _ (by omega), en4]
    refine ⟨p1, p2, p3, rfl, fun j hj => ?_⟩
    show (if k ≤ j ∧ j + 1 < n then V (a + 5 + 2 * i + 1) (j + 1) else V (a + 5 + 2 * i + 1) j) = _
    unfold mr_take
    rw [mr_up_n _ _ (by omega), mr_up_n _ _ (by omega), e4, Int.toNat_natCast]
    unfold mr_shf
    by_cases c : k ≤ j ∧ j + 1 < n
    · rw [if_pos c, if_pos (by omega), show 6 + 11 * i + (5 + j) + 1 = 6 + 11 * i + (5 + (j + 1)) by omega]
      exact p5 _ (by omega)
    · rw [if_neg c, if_neg (by omega)]
      exact p5 _ (by omega)
  · rw [en _ (by omega), hh] at q; exact absurd q (by decide)
  · have := h.2.1
    unfold mh_C at this ⊢
    rw [en 0 (by omega), en 1 (by omega), en 2 (by omega), en 3 (by omega), en 4 (by omega), en 5 (by omega), eo a (by omega) (by omega)]
    exact this
theorem mr_take_up {s : Nat → Int} {b k j : Nat} {x : Int} (hj : j < 5) : mr_take (mr_up s j x) b k = mr_up (mr_take s b k) j x := by
  have e : mr_up s j x (6 + 11 * b + 4) = s (6 + 11 * b + 4) := mr_up_n _ _ (by omega)
  funext q
  unfold mr_take
  rw [e]
  simp only [mr_up, mr_shf]
  repeat' split
  all_goals first | rfl | omega
theorem mr_clr_up {s : Nat → Int} {b j : Nat} {x : Int} (hj : j < 5) : mr_clr (mr_up s j x) b = mr_up (mr_clr s b) j x := by
  funext q
  simp only [mr_clr, mr_zr, mr_up]
  repeat' split
  all_goals first | rfl | omega
end WR
