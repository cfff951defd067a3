/-! THE REFERENCE: hours that pass; the sets again -/
/-- hours that pass: the numbers behind n, how many burst -/
def mr_pas (s : Nat → Int) : Nat → (Nat → Int) × Nat
  | 0 => (s, 0)
  | n + 1 => ((mr_hr (mr_pas s n).1).1, (mr_pas s n).2 + (mr_hr (mr_pas s n).1).2)
theorem mr_shf_o {s : Nat → Int} {b k : Nat} {j : Nat} (hn : (s (6 + 11 * b + 4)).toNat ≤ 6) (h : ¬ (6 + 11 * b ≤ j ∧ j < 6 + 11 * b + 11)) : mr_take s b k j = s j := mr_take_o hn (by omega)
theorem mr_shk_0 {s : Nat → Int} (h : mr_I s) {b : Nat} (hb : b < 10) : mr_shk s b 0 = s 0 := by
  have h1 := h.bags hb
  unfold mr_shk
  split
  · rw [mr_take_o (by rw [mr_up_n _ _ (by omega)]; omega) (by omega), mr_up_n _ _ (by omega)]
  · rfl
theorem mq_sh_0 {x : (Nat → Int) × List Nat} (h : mr_I x.1) (b : Nat) : (mq_shake x b).1 0 = x.1 0 := by
  unfold mq_shake
  split
  · next hb => exact mr_shk_0 h hb
  · rfl
theorem mq_st_0 {x : (Nat → Int) × List Nat} (h : mr_I x.1) (ho : mq_ok x.2) {b : Nat} (hb : b < 10) : (mq_step x b).1 0 = x.1 0 := by
  have h1 : mr_I (mr_clr (mr_up x.1 4 (x.1 4 + mr_bal x.1 b 0)) b) := mr_I_clr (mr_I_up h (by omega)) hb
  have e1 : mr_clr (mr_up x.1 4 (x.1 4 + mr_bal x.1 b 0)) b 0 = x.1 0 := by
    unfold mr_clr
    rw [mr_zr_n _ (by omega), mr_up_n _ _ (by omega)]
  unfold mq_step
  simp only
  split
  · have h2 := mr_I_sh (x := (mr_clr (mr_up x.1 4 (x.1 4 + mr_bal x.1 b 0)) b, x.2)) h1 ho (b - 1)
    rw [mq_sh_0 h2.1, mq_sh_0 h1]
    exact e1
  · rw [mq_sh_0 h1]
    exact e1
theorem mq_lp_0 : ∀ (f n : Nat) (x : (Nat → Int) × List Nat), mr_I x.1 → mq_ok x.2 → (mq_loop f n x).1 0 = x.1 0
  | 0, _, x, h, ho => rfl
  | f + 1, n, x, h, ho => by
    unfold mq_loop
    split
    · next b hb =>
      have hb : b < 10 := ho.2 b (List.mem_of_getElem? hb)
      have h2 := mr_I_st h ho hb
      rw [mq_lp_0 f (n + 1) _ h2.1 h2.2, mq_st_0 h ho hb]
    · rfl
theorem mr_lft_0 (s : Nat → Int) (t : Int) : ∀ n, mr_lft s t n 0 = s 0
  | 0 => rfl
  | b + 1 => by
    unfold mr_lft
    split
    · exact mr_lft_0 s t b
    · rw [mr_up_n _ _ (by omega)]; exact mr_lft_0 s t b
theorem mr_hr_0 {s : Nat → Int} (h : mr_I s) (hh : s 0 ≤ 999999999) : (mr_hr s).1 0 = s 0 + 1 := by
  unfold mr_hr
  simp only
  rw [mr_up_n _ _ (by omega)]
  unfold mr_h2
  rw [mq_lp_0 10 0 _ (mr_I_h1 h hh) (mq_all_ok _ 10 (Nat.le_refl _))]
  unfold mr_h1
  simp only
  rw [mr_lft_0, mr_up_s]
theorem mr_pas_I {s : Nat → Int} (h : mr_I s) : ∀ n : Nat, s 0 + n ≤ 1000000000 → mr_I (mr_pas s n).1 ∧ (mr_pas s n).1 0 = s 0 + n
  | 0, _ => ⟨h, by show s 0 = s 0 + ((0 : Nat) : Int); omega⟩
  | n + 1, hn => by
    obtain ⟨h1, h2⟩ := mr_pas_I h n (by omega)
    refine ⟨mr_I_hr h1 (by omega), ?_⟩
    show (mr_hr (mr_pas s n).1).1 0 = _
    rw [mr_hr_0 h1 (by omega), h2]
    omega
theorem mr_hr_n {s : Nat → Int} (h : mr_I s) (hh : s 0 ≤ 999999999) : (mr_hr s).2 ≤ 10 := mq_len (mr_I_h2 h hh).2
theorem mr_pas_n {s : Nat → Int} (h : mr_I s) : ∀ n : Nat, s 0 + n ≤ 1000000000 → (mr_pas s n).2 ≤ 10 * n
  | 0, _ => Nat.le_refl _
  | n + 1, hn => by
    have h1 := mr_pas_n h n (by omega)
    have h2 := mr_pas_I h n (by omega)
    have h3 := mr_hr_n h2.1 (by omega)
    show (mr_pas s n).2 + (mr_hr (mr_pas s n).1).2 ≤ _
    omega
theorem mr_best_ne {s : Nat → Int} {b : Nat} {h : Int} : ∀ n, (∃ i, i < n ∧ h ≤ mr_ho s b i) → mr_best s b h n ≠ -1
  | 0, q => by obtain ⟨i, hi, -⟩ := q; exact absurd hi (Nat.not_lt_zero _)
  | n + 1, q => by
    obtain ⟨i, hi, hh⟩ := q
    have e : mr_best s b h (n + 1) = if h ≤ mr_ho s b n ∧ (mr_best s b h n = -1 ∨ mr_btr s b n (mr_best s b h n).toNat = true) then (n : Int) else mr_best s b h n := rfl
    rw [e]
    split
    · omega
    · next c =>
      by_cases e2 : i = n
      · subst e2
        intro e3
        exact c ⟨hh, Or.inl e3⟩
      · exact mr_best_ne n ⟨i, by omega, hh⟩
theorem mr_best_no {s : Nat → Int} {b : Nat} {h : Int} (hh : ∀ i, mr_ho s b i < h) : ∀ n, mr_best s b h n = -1
  | 0 => rfl
  | n + 1 => by
    have e : mr_best s b h (n + 1) = if h ≤ mr_ho s b n ∧ (mr_best s b h n = -1 ∨ mr_btr s b n (mr_best s b h n).toNat = true) then (n : Int) else mr_best s b h n := rfl
    rw [e, if_neg (fun q => by have := hh n; omega)]
    exact mr_best_no hh n
/-- without all bags -/
theorem mr_bal_full {s : Nat → Int} {b t : Nat} (ht : ∀ k, k < (s (6 + 11 * b + 4)).toNat → t.testBit k = true) : mr_bal s b t = 0 := by
  unfold mr_bal mr_bw
  have : ∀ n, n ≤ (s (6 + 11 * b + 4)).toNat → mz_s (fun k => if t.testBit k then 0 else s (6 + 11 * b + (5 + k))) n = 0 := by
    intro n
    induction n with
    | zero => intro _; rfl
    | succ n ih =>
      intro hn
      show mz_s _ n + (if t.testBit n then 0 else s (6 + 11 * b + (5 + n))) = 0
      rw [ih (by omega), if_pos (ht n (by omega))]
      rfl
  exact this _ (Nat.le_refl _)
theorem mr_bal63 {s : Nat → Int} (h : mr_I s) {b : Nat} (hb : b < 10) : mr_bal s b 63 = 0 := by
  have h1 := h.bags hb
  refine mr_bal_full fun k hk => ?_
  have : k = 0 ∨ k = 1 ∨ k = 2 ∨ k = 3 ∨ k = 4 ∨ k = 5 := by omega
  rcases this with rfl | rfl | rfl | rfl | rfl | rfl <;> decide
theorem mr_ho_le {s : Nat → Int} {b t t' : Nat} (h : mr_bal s b t' ≤ mr_bal s b t) : mr_ho s b t ≤ mr_ho s b t' := by
  unfold mr_ho mr_sp
  repeat' split
  all_goals omega
theorem mr_ho63 {s : Nat → Int} (h : mr_I s) {b : Nat} (hb : b < 10) (t : Nat) : mr_ho s b t ≤ mr_ho s b 63 :=
  mr_ho_le (by rw [mr_bal63 h hb]; exact mr_bal0 h hb t)
theorem mr_bst_none {s : Nat → Int} (h : mr_I s) {b : Nat} (hb : b < 10) {x : Int} : mr_bst s b x = -1 ↔ mr_ho s b 63 < x := by
  constructor
  · intro e
    refine Classical.byContradiction fun q => ?_
    refine mr_best_ne _ ⟨2 ^ (s (6 + 11 * b + 4)).toNat - 1, ?_, ?_⟩ e
    · have : 0 < 2 ^ (s (6 + 11 * b + 4)).toNat := Nat.pow_pos (by decide)
      omega
    · have : mr_bal s b (2 ^ (s (6 + 11 * b + 4)).toNat - 1) = 0 := mr_bal_full fun k hk => by rw [Nat.testBit_two_pow_sub_one]; simpa using hk
      have e2 := mr_ho_le (s := s) (b := b) (t := 63) (t' := 2 ^ (s (6 + 11 * b + 4)).toNat - 1) (by rw [this, mr_bal63 h hb]; exact Int.le_refl _)
      omega
  · intro q
    exact mr_best_no (fun i => by have := mr_ho63 h hb i; omega) _
/-! WHAT A COMMAND DOES: refusals (0 none; 1 to 5 denials; 8, 9, 10 exceptions), numbers behind it, answers, details -/
def mc_rf0 (s : Nat → Int) (a b c e : Int) : Int := if (0 ≤ a ∧ a ≤ 9) ∧ (1 ≤ b ∧ b ≤ 99) ∧ (1 ≤ c ∧ c ≤ 40) ∧ (1 ≤ e ∧ e ≤ 60) then (if mr_has s a then 2 else 0) else 8
def mc_rf1 (s : Nat → Int) (a : Int) : Int := if mr_has s a then 0 else 9
def mc_rf2 (s : Nat → Int) (a b : Int) : Int := if mr_has s a then (if 1 ≤ b ∧ b ≤ 20 then (if s (6 + 11 * a.toNat + 4) = 6 then 1 else 0) else 8) else 9
def mc_rf3 (s : Nat → Int) (a b : Int) : Int := if mr_has s a then (if 0 ≤ b ∧ b < s (6 + 11 * a.toNat + 4) then 0 else 10) else 9
def mc_rf4 (s : Nat → Int) (a b : Int) : Int := if mr_has s a then (if 1 ≤ b ∧ b ≤ 40 then (if b ≤ mr_ho s a.toNat 0 then 4 else if mr_ho s a.toNat 63 < b then 3 else 0) else 8) else 9
def mc_rf5 (s : Nat → Int) (a b : Int) : Int := if (0 ≤ a ∧ a ≤ 23) ∧ (-9 ≤ b ∧ b ≤ 9) then (if s (116 + a.toNat) = b then 5 else 0) else 8
def mc_rf6 (a : Int) : Int := if 1 ≤ a ∧ a ≤ 48 then 0 else 8
def mc_rf7 (s : Nat → Int) (a b c : Int) : Int := if (1 ≤ a ∧ a ≤ 30) ∧ (0 ≤ b ∧ b ≤ 23) ∧ (0 ≤ c ∧ c ≤ 23) then (if s 5 = 6 then 1 else 0) else 8
def mc_rf8 (s : Nat → Int) (a : Int) : Int := if 0 ≤ a ∧ a < s 5 then 0 else 10
def mc_st0 (s : Nat → Int) (a : Nat) (b c e : Int) : Nat → Int := mr_up (mr_up (mr_up (mr_up (mr_clr s a) (6 + 11 * a + 0) 1) (6 + 11 * a + 1) b) (6 + 11 * a + 2) c) (6 + 11 * a + 3) e
def mc_st1 (s : Nat → Int) (a : Nat) : Nat → Int := mr_clr (mr_up s 3 (s 3 + mr_bal s a 0)) a
def mc_st2 (s : Nat → Int) (a : Nat) (b : Int) : Nat → Int := mr_up (mr_up (mr_up s (6 + 11 * a + (5 + (s (6 + 11 * a + 4)).toNat)) b) (6 + 11 * a + 4) (s (6 + 11 * a + 4) + 1)) 2 (s 2 + b)
def mc_st3 (s : Nat → Int) (a b : Nat) : Nat → Int := mr_up (mr_take s a b) 3 (s 3 + s (6 + 11 * a + (5 + b)))
def mr_drp (t a : Nat) : Nat → (Nat → Int) → Nat → Int
  | 0, s => s
  | n + 1, s => mr_drp t a n (if t.testBit n then mr_take (mr_up s 3 (s 3 + s (6 + 11 * a + (5 + n)))) a n else s)
def mc_st4 (s : Nat → Int) (a : Nat) (b : Int) : Nat → Int := mr_drp (mr_bst s a b).toNat a 6 s
def mc_st5 (s : Nat → Int) (a : Nat) (b : Int) : Nat → Int := mr_up s (116 + a) b
def mc_st6 (s : Nat → Int) (a : Nat) : Nat → Int := (mr_pas s a).1
def mc_st7 (s : Nat → Int) (a b c : Int) : Nat → Int := mr_up (mr_up (mr_up (mr_up s (140 + 3 * (s 5).toNat) a) (140 + 3 * (s 5).toNat + 1) b) (140 + 3 * (s 5).toNat + 2) c) 5 (s 5 + 1)
def mr_shf3 (s : Nat → Int) (p q : Nat) : Nat → Int := fun j => if p ≤ j ∧ j < q then s (j + 3) else s j
def mc_st8 (s : Nat → Int) (a : Nat) : Nat → Int := mr_up (mr_zr (mr_shf3 s (140 + 3 * a) (140 + 3 * ((s 5).toNat - 1))) (140 + 3 * ((s 5).toNat - 1)) (140 + 3 * ((s 5).toNat - 1) + 3)) 5 (s 5 - 1)
theorem mr_shf30 (s : Nat → Int) (p : Nat) : mr_shf3 s p p = s := by
  funext j
  unfold mr_shf3
  rw [if_neg (by omega)]
theorem mr_shf31 (s : Nat → Int) {p q : Nat} (h : p ≤ q) : mr_up (mr_shf3 s p q) q (s (q + 3)) = mr_shf3 s p (q + 1) := by
  funext j
  unfold mr_up mr_shf3
  by_cases e : j = q
  · subst e
    rw [if_pos rfl, if_pos (by omega)]
  · rw [if_neg e]
    by_cases e2 : p ≤ j ∧ j < q
    · rw [if_pos e2, if_pos (by omega)]
    · rw [if_neg e2, if_neg (by omega)]
theorem mr_shf3_n (s : Nat → Int) {p q j : Nat} (h : ¬ (p ≤ j ∧ j < q)) : mr_shf3 s p q j = s j := if_neg h
/-- .. its number of an exception -/
def mc_cd (k : Nat) (r : Int) : Int := if r = 9 then 1 else if r = 10 then (if k = 3 then 2 else 1) else if k = 2 ∨ k = 4 then 2 else 1
def mc_rs (k : Nat) (r : Int) : Int := if r = 0 then 0 else if r ≤ 5 then -r else mc_cd k r
/-- what the reference's numbers are behind a command that ended with r -/
def mr_E (V V' : mz_V) (m : Nat) (r : Int) (s' : Nat → Int) (an dt : Int) : Prop :=
  (r = 0 → V' (m + 1) = s' ∧ V' m 18 = an ∧ ∀ k, k ≠ 18 → k ≠ 22 → V' m k = V m k) ∧
  (0 < r → V' = V) ∧
  (r < 0 → V' (m + 1) = V (m + 1) ∧ V' m 19 = -r ∧ V' m 20 = dt ∧ V' m 21 = 0 ∧ ∀ k, k ≠ 19 → k ≠ 20 → k ≠ 21 → V' m k = V m k) ∧
  ∀ a, a ≠ m → a ≠ m + 1 → a ≠ m + 9 → a ≠ m + 10 → V' a = V a
section REFE
variable {X : mv_X} {P : mz_P} {V : mz_V} {z : Nat × Nat} {m d : Nat}
theorem mr_E_done {s' : Nat → Int} {an dt : Int} {W : mz_V} (h1 : W (m + 1) = s') (h2 : ∀ k, k ≠ 22 → W m k = V m k) (h3 : ∀ a, a ≠ m → a ≠ m + 1 → a ≠ m + 9 → a ≠ m + 10 → W a = V a) : mr_E V (mz_w W m (mr_up (W m) 18 an)) m 0 s' an dt := by
  refine ⟨fun _ => ⟨?_, ?_, fun k hk hk2 => ?_⟩, fun h => absurd h (by omega), fun h => absurd h (by omega), fun a a1 a2 a3 a4 => ?_⟩
  · rw [mz_w_n _ _ (by omega)]; exact h1
  · rw [mz_w_s, mr_up_s]
  · rw [mz_w_s, mr_up_n _ _ hk]; exact h2 k hk2
  · rw [mz_w_n _ _ a1]; exact h3 a a1 a2 a3 a4
theorem mr_E_s {s' : Nat → Int} {an dt : Int} : mr_E V (mz_w (mz_w V (m + 1) s') m (mr_up (mz_w V (m + 1) s' m) 18 an)) m 0 s' an dt :=
  mr_E_done (mz_w_s _ _ _) (fun k _ => by rw [mz_w_n _ _ (by omega)]) (fun a _ a2 _ _ => by rw [mz_w_n _ _ a2])
theorem mr_E_den {s' : Nat → Int} {n an dt : Int} (hn : 0 < n) : mr_E V (mz_w V m (mr_up (mr_up (mr_up (V m) 19 n) 20 dt) 21 0)) m (-n) s' an dt := by
  refine ⟨fun h => absurd h (by omega), fun h => absurd h (by omega), fun _ => ⟨?_, ?_, ?_, ?_, fun k k1 k2 k3 => ?_⟩, fun a a1 a2 a3 a4 => ?_⟩
  · rw [mz_w_n _ _ (by omega)]
  · rw [mz_w_s, mr_up_n _ _ (by omega), mr_up_n _ _ (by omega), mr_up_s]; omega
  · rw [mz_w_s, mr_up_n _ _ (by omega), mr_up_s]
  · rw [mz_w_s, mr_up_s]
  · rw [mz_w_s, mr_up_n _ _ k3, mr_up_n _ _ k2, mr_up_n _ _ k1]
  · rw [mz_w_n _ _ a1]
theorem mr_E_ex {s' : Nat → Int} {n an dt : Int} (hn : 0 < n) : mr_E V V m n s' an dt :=
  ⟨fun h => absurd h (by omega), fun _ => rfl, fun h => absurd h (by omega), fun _ _ _ _ _ => rfl⟩
end REFE
