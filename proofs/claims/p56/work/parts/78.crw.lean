/-! CREWS: the numbers behind -/
def cw_n (H : Nat → Int) (q : Nat) : Int := mz_s (fun b => if H b = (q : Int) then 1 else 0) 10
theorem mz_s_up (g : Nat → Int → Int) (H : Nat → Int) (k : Nat) (y : Int) : ∀ n, mz_s (fun b => g b (mr_up H k y b)) n = mz_s (fun b => g b (H b)) n + if k < n then g k y - g k (H k) else 0
  | 0 => rfl
  | n + 1 => by
    have ih := mz_s_up g H k y n
    show mz_s (fun b => g b (mr_up H k y b)) n + g n (mr_up H k y n) = mz_s (fun b => g b (H b)) n + g n (H n) + if k < n + 1 then g k y - g k (H k) else 0
    rw [ih]
    by_cases e : n = k
    · subst e
      rw [mr_up_s, if_neg (by omega), if_pos (by omega)]
      omega
    · rw [mr_up_n _ _ e]
      by_cases e2 : k < n
      · rw [if_pos e2, if_pos (by omega)]; omega
      · rw [if_neg e2, if_neg (by omega)]; omega
theorem cw_n_up (H : Nat → Int) {k : Nat} (hk : k < 10) (y : Int) (q : Nat) : cw_n (mr_up H k y) q = cw_n H q + ((if y = (q : Int) then 1 else 0) - (if H k = (q : Int) then 1 else 0)) := by
  have := mz_s_up (fun _ u => if u = (q : Int) then 1 else 0) H k y 10
  rw [if_pos hk] at this
  exact this
theorem mz_s_add (f g : Nat → Int) : ∀ n, mz_s (fun i => f i + g i) n = mz_s f n + mz_s g n
  | 0 => rfl
  | n + 1 => by
    have := mz_s_add f g n
    show mz_s (fun i => f i + g i) n + (f n + g n) = mz_s f n + f n + (mz_s g n + g n)
    omega
theorem mz_s_zero : ∀ n, mz_s (fun _ => 0) n = 0
  | 0 => rfl
  | n + 1 => by
    have := mz_s_zero n
    show mz_s (fun _ => 0) n + 0 = 0
    omega
theorem mz_s_sw (a : Nat → Nat → Int) (m : Nat) : ∀ n, mz_s (fun q => mz_s (fun b => a q b) m) n = mz_s (fun b => mz_s (fun q => a q b) n) m
  | 0 => (mz_s_zero m).symm
  | n + 1 => by
    have := mz_s_sw a m n
    show mz_s (fun q => mz_s (fun b => a q b) m) n + mz_s (fun b => a n b) m = mz_s (fun b => mz_s (fun q => a q b) n + a n b) m
    rw [this, ← mz_s_add]
theorem mz_s_le {f g : Nat → Int} : ∀ {n : Nat}, (∀ i, i < n → f i ≤ g i) → mz_s f n ≤ mz_s g n
  | 0, _ => Int.le_refl 0
  | n + 1, h => by
    have h1 := mz_s_le (n := n) fun i hi => h i (by omega)
    have h2 := h n (by omega)
    show mz_s f n + f n ≤ mz_s g n + g n
    omega
theorem mz_s_one (y : Int) : ∀ n : Nat, mz_s (fun q => if y = (q : Int) then 1 else 0) n = if 0 ≤ y ∧ y < n then 1 else 0
  | 0 => by
    show (0 : Int) = _
    rw [if_neg (by omega)]
  | n + 1 => by
    have := mz_s_one y n
    show mz_s (fun q => if y = (q : Int) then 1 else 0) n + (if y = (n : Int) then 1 else 0) = _
    rw [this]
    repeat' split
    all_goals omega
theorem mz_s_ex {f : Nat → Int} : ∀ {n : Nat}, 0 < mz_s f n → ∃ i, i < n ∧ 0 < f i
  | 0, h => absurd (show (0 : Int) < 0 from h) (by decide)
  | n + 1, h => by
    have h : 0 < mz_s f n + f n := h
    by_cases e : 0 < f n
    · exact ⟨n, by omega, e⟩
    · obtain ⟨i, h1, h2⟩ := mz_s_ex (f := f) (n := n) (by omega)
      exact ⟨i, by omega, h2⟩
/-- no assignment is larger than one with a closed set of berths -/
theorem cw_up {E : Nat → Nat → Bool} {H G : Nat → Int} {W : Nat → Bool} {np : Nat} (ha : ∀ b, b < 10 → H b = -1 ∨ (0 ≤ H b ∧ H b < np)) (hc : ∀ q, q < np → cw_n H q = 1 ∨ (cw_n H q = 0 ∧ ∀ b, b < 10 → E q b = true → W b = true))
    (hd : ∀ b, b < 10 → W b = true → H b ≠ -1 ∧ ∀ b', b' < 10 → E (H b).toNat b' = true → W b' = true) (hG : ∀ b, b < 10 → G b = -1 ∨ (0 ≤ G b ∧ G b < np ∧ E (G b).toNat b = true)) (hG1 : ∀ q, q < np → cw_n G q ≤ 1) :
    mz_s (cw_n G) np ≤ mz_s (cw_n H) np := by
  obtain ⟨dq, hdq⟩ : ∃ dq : Nat → Int, dq = fun q : Nat => mz_s (fun b => if W b = true ∧ H b = (q : Int) then 1 else 0) 10 := ⟨_, rfl⟩
  obtain ⟨gw, hgw⟩ : ∃ gw : Nat → Int, gw = fun q : Nat => mz_s (fun b => if W b = true ∧ G b = (q : Int) then 1 else 0) 10 := ⟨_, rfl⟩
  have d0 : ∀ q, 0 ≤ dq q := fun q => by rw [hdq]; exact mz_s_0 fun i _ => by split <;> omega
  have g0 : ∀ q, 0 ≤ gw q := fun q => by rw [hgw]; exact mz_s_0 fun i _ => by split <;> omega
  have dle : ∀ q, dq q ≤ cw_n H q := fun q => by
    rw [hdq]
    refine mz_s_le fun i _ => ?_
    show (if W i = true ∧ H i = (q : Int) then (1 : Int) else 0) ≤ (if H i = (q : Int) then 1 else 0)
    repeat' split
    all_goals first | omega | (rename_i h1 h2; exact absurd h1.2 h2)
  have hDg : ∀ q, q < np → (∀ b, b < 10 → E q b = true → W b = true) → cw_n G q = gw q := fun q hq hall => by
    rw [hgw]
    refine mz_s_c fun i hi => ?_
    show (if G i = (q : Int) then (1 : Int) else 0) = (if W i = true ∧ G i = (q : Int) then 1 else 0)
    by_cases e : G i = (q : Int)
    · have : E q i = true := by
        rcases hG i hi with h | ⟨h1, h2, h3⟩
        · omega
        · rw [e, Int.toNat_natCast] at h3
          exact h3
      rw [if_pos e, if_pos ⟨hall i hi this, e⟩]
    · rw [if_neg e, if_neg (fun h => e h.2)]
  -- term by term
  have t1 : mz_s (cw_n G) np ≤ mz_s (fun q => cw_n H q + (gw q - dq q)) np := by
    refine mz_s_le fun q hq => ?_
    have h1 := hG1 q hq
    have h2 := d0 q
    have h3 := g0 q
    have h4 := dle q
    show cw_n G q ≤ cw_n H q + (gw q - dq q)
    by_cases c0 : cw_n H q = 0
    · have : ∀ b, b < 10 → E q b = true → W b = true := by
        rcases hc q hq with h | h
        · omega
        · exact h.2
      have := hDg q hq this
      omega
    · have c1 : cw_n H q = 1 := by
        rcases hc q hq with h | h
        · exact h
        · exact absurd h.1 c0
      by_cases c2 : 0 < dq q
      · have : ∀ b, b < 10 → E q b = true → W b = true := by
          have c2' := c2
          rw [hdq] at c2'
          obtain ⟨i, i1, i2⟩ := mz_s_ex c2'
          by_cases e : W i = true ∧ H i = (q : Int)
          · have := (hd i i1 e.1).2
            rw [e.2, Int.toNat_natCast] at this
            exact this
          · rw [if_neg e] at i2
            omega
        have := hDg q hq this
        omega
      · omega
  have t2 : mz_s gw np ≤ mz_s (fun b => if W b = true then 1 else 0) 10 := by
    rw [hgw, mz_s_sw]
    refine mz_s_le fun b hb => ?_
    show mz_s (fun q => if W b = true ∧ G b = (q : Int) then (1 : Int) else 0) np ≤ (if W b = true then 1 else 0)
    by_cases e : W b = true
    · rw [if_pos e, show mz_s (fun q : Nat => if W b = true ∧ G b = (q : Int) then (1 : Int) else 0) np = mz_s (fun q : Nat => if G b = (q : Int) then 1 else 0) np from mz_s_c fun q _ => by
        by_cases e2 : G b = (q : Int)
        · rw [if_pos ⟨e, e2⟩, if_pos e2]
        · rw [if_neg (fun h => e2 h.2), if_neg e2], mz_s_one]
      split <;> omega
    · rw [if_neg e, show mz_s (fun q : Nat => if W b = true ∧ G b = (q : Int) then (1 : Int) else 0) np = mz_s (fun _ => 0) np from mz_s_c fun q _ => if_neg (fun h => e h.1), mz_s_zero]
      omega
  have t3 : mz_s dq np = mz_s (fun b => if W b = true then 1 else 0) 10 := by
    rw [hdq, mz_s_sw]
    refine mz_s_c fun b hb => ?_
    show mz_s (fun q => if W b = true ∧ H b = (q : Int) then (1 : Int) else 0) np = (if W b = true then 1 else 0)
    by_cases e : W b = true
    · have := hd b hb e
      have h2 := ha b hb
      rw [if_pos e, show mz_s (fun q : Nat => if W b = true ∧ H b = (q : Int) then (1 : Int) else 0) np = mz_s (fun q : Nat => if H b = (q : Int) then 1 else 0) np from mz_s_c fun q _ => by
        by_cases e2 : H b = (q : Int)
        · rw [if_pos ⟨e, e2⟩, if_pos e2]
        · rw [if_neg (fun h => e2 h.2), if_neg e2], mz_s_one, if_pos (by omega)]
    · rw [if_neg e, show mz_s (fun q : Nat => if W b = true ∧ H b = (q : Int) then (1 : Int) else 0) np = mz_s (fun _ => 0) np from mz_s_c fun q _ => if_neg (fun h => e h.1), mz_s_zero]
  have t4 : mz_s (fun q => cw_n H q + (gw q - dq q)) np = mz_s (cw_n H) np + (mz_s gw np - mz_s dq np) := by
    have a1 := mz_s_add (cw_n H) (fun q => gw q - dq q) np
    have a2 := mz_s_add (fun q => gw q - dq q) dq np
    have a3 : mz_s (fun q => gw q - dq q + dq q) np = mz_s gw np := mz_s_c fun q _ => by omega
    omega
  omega
/-- the sets of pilots that the first k berths can take -/
def cw_R (E : Nat → Nat → Bool) : Nat → Nat → Prop
  | 0, S => S = 0
  | k + 1, S => cw_R E k S ∨ ∃ p, p < 6 ∧ S.testBit p = true ∧ E p k = true ∧ cw_R E k (S - 2 ^ p)
def cw_max (E : Nat → Nat → Bool) (N : Int) : Prop := (∃ S, S < 64 ∧ cw_R E 10 S ∧ mb_pop S = N) ∧ ∀ S, S < 64 → cw_R E 10 S → mb_pop S ≤ N
theorem cw_max_u {E : Nat → Nat → Bool} {N N' : Int} (h : cw_max E N) (h' : cw_max E N') : N = N' := by
  obtain ⟨⟨S, s1, s2, s3⟩, u⟩ := h
  obtain ⟨⟨S', s1', s2', s3'⟩, u'⟩ := h'
  have := u S' s1' s2'
  have := u' S s1 s2
  omega
theorem cw_bit_t : ∀ S, S < 64 → ∀ p, p < 6 → S.testBit p = true → (S - 2 ^ p < 64 ∧ ∀ q, q < 6 → (S - 2 ^ p).testBit q = (decide (q ≠ p) && S.testBit q)) := by decide +kernel
theorem cw_or_t : ∀ S, S < 64 → ∀ p, p < 6 → S.testBit p = false → (S ||| 2 ^ p < 64 ∧ (S ||| 2 ^ p).testBit p = true ∧ (S ||| 2 ^ p) - 2 ^ p = S ∧ S < S ||| 2 ^ p ∧ ∀ q, q < 6 → (S ||| 2 ^ p).testBit q = (decide (q = p) || S.testBit q)) := by decide +kernel
/-- a set's assignment -/
theorem cw_R_G {E : Nat → Nat → Bool} : ∀ k S, k ≤ 10 → S < 64 → cw_R E k S → ∃ G : Nat → Int, (∀ b, b < 10 → G b = -1 ∨ (0 ≤ G b ∧ G b < 6 ∧ E (G b).toNat b = true)) ∧ (∀ b, k ≤ b → G b = -1) ∧ ∀ q, q < 6 → cw_n G q = if S.testBit q then 1 else 0
  | 0, S, _, hS, h => by
    have h : S = 0 := h
    subst h
    refine ⟨fun _ => -1, fun _ _ => Or.inl rfl, fun _ _ => rfl, fun q hq => ?_⟩
    rw [Nat.zero_testBit, if_neg (by decide)]
    unfold cw_n
    rw [show mz_s (fun _ : Nat => if (-1 : Int) = (q : Int) then (1 : Int) else 0) 10 = mz_s (fun _ => 0) 10 from mz_s_c fun i _ => if_neg (by omega), mz_s_zero]
  | k + 1, S, hk, hS, h => by
    rcases h with h | ⟨p, hp, hb, he, h⟩
    · obtain ⟨G, g1, g2, g3⟩ := cw_R_G k S (by omega) hS h
      exact ⟨G, g1, fun b hb => g2 b (by omega), g3⟩
    · obtain ⟨t1, t2⟩ := cw_bit_t S hS p hp hb
      obtain ⟨G, g1, g2, g3⟩ := cw_R_G k (S - 2 ^ p) (by omega) t1 h
      have gk := g2 k (by omega)
      refine ⟨mr_up G k p, fun b hb2 => ?_, fun b hb2 => ?_, fun q hq => ?_⟩
      · by_cases e : b = k
        · subst e
          rw [mr_up_s, Int.toNat_natCast]
          exact Or.inr ⟨by omega, by omega, he⟩
        · rw [mr_up_n _ _ e]
          exact g1 b hb2
      · rw [mr_up_n _ _ (by omega)]
        exact g2 b (by omega)
      · rw [cw_n_up G (by omega), g3 q hq, gk, t2 q hq, if_neg (show ¬ (-1 : Int) = (q : Int) by omega)]
        by_cases e : q = p
        · subst e
          rw [if_pos rfl, hb]
          simp
        · rw [if_neg (show ¬ (p : Int) = (q : Int) by omega)]
          simp [e]
/-- an assignment's set -/
def cw_T (H : Nat → Int) : Nat → Nat
  | 0 => 0
  | k + 1 => if H k = -1 then cw_T H k else cw_T H k ||| 2 ^ (H k).toNat
theorem cw_T_R {E : Nat → Nat → Bool} {H : Nat → Int} (ha : ∀ b, b < 10 → H b = -1 ∨ (0 ≤ H b ∧ H b < 6 ∧ E (H b).toNat b = true)) (h1 : ∀ q, q < 6 → cw_n H q ≤ 1) : ∀ k, k ≤ 10 → cw_T H k < 64 ∧ cw_R E k (cw_T H k) ∧ ∀ q, q < 6 → (if (cw_T H k).testBit q then (1 : Int) else 0) = mz_s (fun b => if H b = (q : Int) then 1 else 0) k
  | 0, _ => ⟨by show 0 < 64; decide, rfl, fun q hq => by show (if (0 : Nat).testBit q then (1 : Int) else 0) = 0; rw [Nat.zero_testBit]; rfl⟩
  | k + 1, hk => by
    obtain ⟨i1, i2, i3⟩ := cw_T_R ha h1 k (by omega)
    have eT : cw_T H (k + 1) = if H k = -1 then cw_T H k else cw_T H k ||| 2 ^ (H k).toNat := rfl
    by_cases c : H k = -1
    · rw [if_pos c] at eT
      rw [eT]
      refine ⟨i1, Or.inl i2, fun q hq => ?_⟩
      show _ = mz_s (fun b => if H b = (q : Int) then (1 : Int) else 0) k + (if H k = (q : Int) then 1 else 0)
      rw [i3 q hq, if_neg (show ¬ H k = (q : Int) by omega)]
      omega
    · rw [if_neg c] at eT
      obtain ⟨p, hp⟩ : ∃ p : Nat, H k = p := ⟨(H k).toNat, by have := ha k (by omega); omega⟩
      have hp6 : p < 6 := by have := ha k (by omega); omega
      have hE : E p k = true := by
        rcases ha k (by omega) with h | ⟨h2, h3, h4⟩
        · exact absurd h c
        · rw [hp, Int.toNat_natCast] at h4; exact h4
      rw [hp, Int.toNat_natCast] at eT
      -- p is not yet there
      have hnot : (cw_T H k).testBit p = false := by
        have h3 := i3 p hp6
        have h4 := h1 p hp6
        have h5 : mz_s (fun b => if H b = (p : Int) then (1 : Int) else 0) (k + 1) ≤ cw_n H p := by
          have mono : ∀ n j, j ≤ n → mz_s (fun b => if H b = (p : Int) then (1 : Int) else 0) j ≤ mz_s (fun b => if H b = (p : Int) then (1 : Int) else 0) n := by
            intro n
            induction n with
            | zero => intro j hj; rw [show j = 0 by omega]; exact Int.le_refl _
            | succ n ih =>
              intro j hj
              by_cases e : j = n + 1
              · rw [e]; exact Int.le_refl _
              · have := ih j (by omega)
                show _ ≤ mz_s (fun b => if H b = (p : Int) then (1 : Int) else 0) n + (if H n = (p : Int) then 1 else 0)
                split <;> omega
          exact mono 10 (k + 1) hk
        have h6 : mz_s (fun b => if H b = (p : Int) then (1 : Int) else 0) (k + 1) = mz_s (fun b => if H b = (p : Int) then (1 : Int) else 0) k + 1 := by
          show mz_s (fun b => if H b = (p : Int) then (1 : Int) else 0) k + (if H k = (p : Int) then 1 else 0) = _
          rw [if_pos hp]
        cases hb : (cw_T H k).testBit p with
        | false => rfl
        | true => rw [hb, if_pos rfl] at h3; omega
      obtain ⟨o1, o2, o3, o4, o5⟩ := cw_or_t _ i1 p hp6 hnot
      rw [eT]
      refine ⟨o1, Or.inr ⟨p, hp6, o2, hE, by rw [o3]; exact i2⟩, fun q hq => ?_⟩
      show _ = mz_s (fun b => if H b = (q : Int) then (1 : Int) else 0) k + (if H k = (q : Int) then 1 else 0)
      have h3 := i3 q hq
      rw [o5 q hq, ← h3, hp]
      by_cases e : q = p
      · subst e
        rw [hnot]
        simp
      · rw [if_neg (show ¬ (p : Int) = (q : Int) by omega)]
        simp [e]
theorem cw_pop {S : Nat} {f : Nat → Int} (h : ∀ q, q < 6 → f q = if S.testBit q then 1 else 0) : mb_pop S = mz_s f 6 := mz_s_c fun q hq => (h q hq).symm
theorem mz_s_cut {f : Nat → Int} : ∀ {n m : Nat}, n ≤ m → (∀ q, n ≤ q → q < m → f q = 0) → mz_s f m = mz_s f n
  | n, 0, h, _ => by rw [show n = 0 by omega]
  | n, m + 1, h, h0 => by
    by_cases e : n = m + 1
    · rw [e]
    · have := mz_s_cut (f := f) (n := n) (m := m) (by omega) fun q h1 h2 => h0 q h1 (by omega)
      show mz_s f m + f m = _
      rw [h0 m (by omega) (by omega), this]
      omega
/-- an assignment with a closed set is a largest -/
theorem cw_max_of {E : Nat → Nat → Bool} {H : Nat → Int} {W : Nat → Bool} {np : Nat} (hnp : np ≤ 6) (hE : ∀ p b, E p b = true → p < np) (ha : ∀ b, b < 10 → H b = -1 ∨ (0 ≤ H b ∧ H b < np ∧ E (H b).toNat b = true)) (hc : ∀ q, q < np → cw_n H q = 1 ∨ (cw_n H q = 0 ∧ ∀ b, b < 10 → E q b = true → W b = true))
    (hd : ∀ b, b < 10 → W b = true → H b ≠ -1 ∧ ∀ b', b' < 10 → E (H b).toNat b' = true → W b' = true) : cw_max E (mz_s (cw_n H) np) := by
  have hz : ∀ (G : Nat → Int), (∀ b, b < 10 → G b = -1 ∨ (0 ≤ G b ∧ G b < np ∧ E (G b).toNat b = true)) → ∀ q, np ≤ q → q < 6 → cw_n G q = 0 := fun G hG q h1 h2 => by
    unfold cw_n
    rw [show mz_s (fun b => if G b = (q : Int) then (1 : Int) else 0) 10 = mz_s (fun _ => 0) 10 from mz_s_c fun i hi => if_neg (by have := hG i hi; omega), mz_s_zero]
  have e6 : ∀ (G : Nat → Int), (∀ b, b < 10 → G b = -1 ∨ (0 ≤ G b ∧ G b < np ∧ E (G b).toNat b = true)) → mz_s (cw_n G) 6 = mz_s (cw_n G) np := fun G hG => mz_s_cut hnp (hz G hG)
  have h1 : ∀ q, q < 6 → cw_n H q ≤ 1 := fun q hq => by
    by_cases e : q < np
    · have := hc q e; omega
    · have := hz H ha q (by omega) hq; omega
  obtain ⟨t1, t2, t3⟩ := cw_T_R (fun b hb => (ha b hb).imp id fun u => ⟨u.1, by omega, u.2.2⟩) h1 10 (Nat.le_refl _)
  refine ⟨⟨cw_T H 10, t1, t2, ?_⟩, fun S hS hR => ?_⟩
  · rw [← e6 H ha]
    exact cw_pop fun q hq => (t3 q hq).symm
  · obtain ⟨G, g1, g2, g3⟩ := cw_R_G 10 S (Nat.le_refl _) hS hR
    have gnp : ∀ b, b < 10 → G b = -1 ∨ (0 ≤ G b ∧ G b < np ∧ E (G b).toNat b = true) := fun b hb => by
      rcases g1 b hb with h | ⟨h2, h3, h4⟩
      · exact Or.inl h
      · have := hE _ _ h4
        exact Or.inr ⟨h2, by omega, h4⟩
    rw [cw_pop g3, e6 G gnp]
    exact cw_up (fun b hb => by have := ha b hb; omega) hc hd gnp (fun q hq => by rw [g3 q (by omega)]; split <;> omega)
