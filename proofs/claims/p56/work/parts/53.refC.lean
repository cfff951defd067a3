/-! THE REFERENCE: the queue, an hour -/
def mr_q (V : mz_V) (m : Nat) (s q u : Nat → Int) (w : Int) : mz_V := fun a j => if a = m + 1 then s j else if a = m + 9 then q j else if a = m + 10 then u j else if a = m ∧ j = 22 then w else V a j
theorem mr_q_s (V : mz_V) (m : Nat) (s q u : Nat → Int) (w : Int) : mr_q V m s q u w (m + 1) = s := by funext j; exact if_pos rfl
theorem mr_q_q (V : mz_V) (m : Nat) (s q u : Nat → Int) (w : Int) : mr_q V m s q u w (m + 9) = q := by funext j; unfold mr_q; rw [if_neg (by omega), if_pos rfl]
theorem mr_q_u (V : mz_V) (m : Nat) (s q u : Nat → Int) (w : Int) : mr_q V m s q u w (m + 10) = u := by funext j; unfold mr_q; rw [if_neg (by omega), if_neg (by omega), if_pos rfl]
theorem mr_q_w (V : mz_V) (m : Nat) (s q u : Nat → Int) (w : Int) : mr_q V m s q u w m 22 = w := by unfold mr_q; rw [if_neg (by omega), if_neg (by omega), if_neg (by omega), if_pos ⟨rfl, rfl⟩]
theorem mr_q_o (V : mz_V) {m : Nat} (s q u : Nat → Int) (w : Int) {a j : Nat} (h1 : a ≠ m + 1) (h2 : a ≠ m + 9) (h3 : a ≠ m + 10) (h4 : ¬ (a = m ∧ j = 22)) : mr_q V m s q u w a j = V a j := by unfold mr_q; rw [if_neg h1, if_neg h2, if_neg h3, if_neg h4]
theorem mr_q_id (V : mz_V) (m : Nat) : mr_q V m (V (m + 1)) (V (m + 9)) (V (m + 10)) (V m 22) = V := by
  funext a j
  unfold mr_q
  by_cases h1 : a = m + 1
  · rw [if_pos h1, h1]
  · rw [if_neg h1]
    by_cases h2 : a = m + 9
    · rw [if_pos h2, h2]
    · rw [if_neg h2]
      by_cases h3 : a = m + 10
      · rw [if_pos h3, h3]
      · rw [if_neg h3]
        by_cases h4 : a = m ∧ j = 22
        · rw [if_pos h4, h4.1, h4.2]
        · rw [if_neg h4]
theorem mr_q_ws (V : mz_V) (m : Nat) (s q u f : Nat → Int) (w : Int) : mz_w (mr_q V m s q u w) (m + 1) f = mr_q V m f q u w := by
  funext a j
  unfold mz_w mr_q
  by_cases h1 : a = m + 1
  · rw [if_pos h1, if_pos h1]
  · rw [if_neg h1, if_neg h1, if_neg h1]
theorem mr_q_wq (V : mz_V) (m : Nat) (s q u f : Nat → Int) (w : Int) : mz_w (mr_q V m s q u w) (m + 9) f = mr_q V m s f u w := by
  funext a j
  unfold mz_w mr_q
  by_cases h1 : a = m + 9
  · rw [if_pos h1, if_neg (by omega), if_pos h1]
  · simp only [if_neg h1]
theorem mr_q_wu (V : mz_V) (m : Nat) (s q u f : Nat → Int) (w : Int) : mz_w (mr_q V m s q u w) (m + 10) f = mr_q V m s q f w := by
  funext a j
  unfold mz_w mr_q
  by_cases h1 : a = m + 10
  · rw [if_pos h1, if_neg (by omega), if_neg (by omega), if_pos h1]
  · simp only [if_neg h1]
theorem mr_q_ww (V : mz_V) (m : Nat) (s q u : Nat → Int) (w x : Int) : mz_w (mr_q V m s q u w) m (mr_up (mr_q V m s q u w m) 22 x) = mr_q V m s q u x := by
  funext a j
  unfold mz_w mr_up mr_q
  by_cases h1 : a = m
  · subst h1
    rw [if_pos rfl]
    by_cases h2 : j = 22
    · rw [if_pos h2, if_neg (by omega), if_neg (by omega), if_neg (by omega), if_pos ⟨rfl, h2⟩]
    · rw [if_neg h2]
      have h3 : ¬ (a = a ∧ j = 22) := fun q => h2 q.2
      rw [if_neg (by omega), if_neg (by omega), if_neg (by omega), if_neg h3, if_neg (by omega), if_neg (by omega), if_neg (by omega), if_neg h3]
  · rw [if_neg h1]
    have h3 : ¬ (a = m ∧ j = 22) := fun q => h1 q.1
    rw [if_neg h3, if_neg h3]
/-- the queue, as a list, in both arrays -/
def mr_Q (l : List Nat) (q u : Nat → Int) (w : Int) : Prop := w = l.length ∧ (∀ i, i < l.length → q i = (l.getD i 0 : Nat)) ∧ (∀ b, b < 10 → u b = if b ∈ l then 1 else 0)
theorem mr_Q_push {l : List Nat} {q u : Nat → Int} {w : Int} (h : mr_Q l q u w) {b : Nat} : mr_Q (l ++ [b]) (mr_up q l.length b) (mr_up u b 1) (w + 1) := by
  obtain ⟨h1, h2, h3⟩ := h
  refine ⟨by rw [h1, List.length_append]; rfl, fun i hi => ?_, fun c hc => ?_⟩
  · rw [List.length_append] at hi
    have hi : i < l.length + 1 := hi
    by_cases e : i = l.length
    · subst e
      rw [mr_up_s, List.getD_eq_getElem?_getD, List.getElem?_append_right (Nat.le_refl _), Nat.sub_self]
      rfl
    · rw [mr_up_n _ _ e, h2 i (by omega), List.getD_eq_getElem?_getD, List.getD_eq_getElem?_getD, List.getElem?_append_left (by omega)]
  · by_cases e : c = b
    · subst e
      rw [mr_up_s, if_pos (by simp)]
    · rw [mr_up_n _ _ e, h3 c hc]
      by_cases e2 : c ∈ l
      · rw [if_pos e2, if_pos (by simp [e2])]
      · rw [if_neg e2, if_neg (by simp [e2, e])]
/-- no berth twice, none beyond -/
def mq_ok (l : List Nat) : Prop := l.Nodup ∧ ∀ b ∈ l, b < 10
theorem mq_len {l : List Nat} (h : mq_ok l) : l.length ≤ 10 := by
  have h1 : l ⊆ List.range 10 := fun b hb => List.mem_range.mpr (h.2 b hb)
  have := List.Nodup.length_le_of_subset h.1 h1
  simpa using this
theorem mq_push {l : List Nat} (h : mq_ok l) {b : Nat} (hb : b < 10) (hn : b ∉ l) : mq_ok (l ++ [b]) := by
  refine ⟨?_, fun c hc => ?_⟩
  · rw [List.nodup_append]
    refine ⟨h.1, by simp, ?_⟩
    intro a ha c hc
    rw [List.mem_singleton.mp hc]
    intro e
    exact hn (e ▸ ha)
  · rcases List.mem_append.mp hc with hc | hc
    · exact h.2 c hc
    · rw [List.mem_singleton.mp hc]; exact hb
theorem mq_lt {l : List Nat} (h : mq_ok l) {b : Nat} (hb : b < 10) (hn : b ∉ l) : l.length < 10 := by
  have := mq_len (mq_push h hb hn)
  rw [List.length_append] at this
  have : l.length + 1 ≤ 10 := this
  omega
/-- what comes into the queue; a berth shaken; the bursts -/
def mq_in (s : Nat → Int) (l : List Nat) (b : Nat) : List Nat := if s (6 + 11 * b) = 1 ∧ s (6 + 11 * b + 3) < mr_ho s b 0 ∧ b ∉ l then l ++ [b] else l
theorem mq_in_ok {s : Nat → Int} {l : List Nat} (h : mq_ok l) {b : Nat} (hb : b < 10) : mq_ok (mq_in s l b) := by
  unfold mq_in
  split
  · next c => exact mq_push h hb c.2.2
  · exact h
def mr_shk (s : Nat → Int) (b : Nat) : Nat → Int := if s (6 + 11 * b) = 1 ∧ 0 < s (6 + 11 * b + 4) then mr_take (mr_up s 4 (s 4 + s (6 + 11 * b + (5 + ((s (6 + 11 * b + 4)).toNat - 1))))) b ((s (6 + 11 * b + 4)).toNat - 1) else s
def mq_shake (x : (Nat → Int) × List Nat) (b : Nat) : (Nat → Int) × List Nat := if b < 10 then (mr_shk x.1 b, mq_in (mr_shk x.1 b) x.2 b) else x
def mq_step (x : (Nat → Int) × List Nat) (b : Nat) : (Nat → Int) × List Nat :=
  let x1 := (mr_clr (mr_up x.1 4 (x.1 4 + mr_bal x.1 b 0)) b, x.2)
  let x2 := if 0 < b then mq_shake x1 (b - 1) else x1
  mq_shake x2 (b + 1)
def mq_loop : Nat → Nat → (Nat → Int) × List Nat → (Nat → Int) × List Nat
  | 0, _, x => x
  | f + 1, n, x => match x.2[n]? with
    | some b => mq_loop f (n + 1) (mq_step x b)
    | none => x
def mr_lft (s : Nat → Int) (t : Int) : Nat → Nat → Int
  | 0 => s
  | b + 1 => if mr_lft s t b (6 + 11 * b) = 0 then mr_lft s t b else mr_up (mr_lft s t b) (6 + 11 * b + 1) (if mr_lft s t b (6 + 11 * b + 1) + t ≤ 99 then (if 1 ≤ mr_lft s t b (6 + 11 * b + 1) + t then mr_lft s t b (6 + 11 * b + 1) + t else 1) else 99)
def mq_all (s : Nat → Int) : Nat → List Nat
  | 0 => []
  | b + 1 => mq_in s (mq_all s b) b
def mr_day (s : Nat → Int) : Int := if 6 ≤ s 0 % 24 ∧ s 0 % 24 ≤ 17 then 1 else -1
/-- an hour: the numbers behind it, how many burst -/
def mr_h1 (s : Nat → Int) : Nat → Int := mr_lft (mr_up s 0 (s 0 + 1)) (mr_day (mr_up s 0 (s 0 + 1))) 10
def mr_h2 (s : Nat → Int) : (Nat → Int) × List Nat := mq_loop 10 0 (mr_h1 s, mq_all (mr_h1 s) 10)
def mr_hr (s : Nat → Int) : (Nat → Int) × Nat := (mr_up (mr_h2 s).1 1 ((mr_h2 s).1 1 + (mr_h2 s).2.length), (mr_h2 s).2.length)
/-! .. these keep what holds of the numbers -/
theorem mr_I_up {s : Nat → Int} (h : mr_I s) {k : Nat} {x : Int} (hk : k = 1 ∨ k = 2 ∨ k = 3 ∨ k = 4) : mr_I (mr_up s k x) := by
  obtain ⟨h1, h2, h3, h4⟩ := h
  refine ⟨?_, ?_, fun i hi => ?_, fun b hb => ⟨?_, ?_, ?_, ?_, ?_, fun j hj => ?_⟩⟩
  · rw [mr_up_n _ _ (by omega)]; exact h1
  · rw [mr_up_n _ _ (by omega)]; exact h2
  · rw [mr_up_n _ _ (by omega)]; exact h3 i hi
  · rw [mr_up_n _ _ (by omega)]; exact (h4 b hb).1
  · rw [mr_up_n _ _ (by omega)]; exact (h4 b hb).2.1
  · rw [mr_up_n _ _ (by omega)]; exact (h4 b hb).2.2.1
  · rw [mr_up_n _ _ (by omega)]; exact (h4 b hb).2.2.2.1
  · rw [mr_up_n _ _ (by omega)]; exact (h4 b hb).2.2.2.2.1
  · have := (h4 b hb).2.2.2.2.2 j hj
    unfold mr_bag at this ⊢
    rw [mr_up_n _ _ (by omega)]; exact this
theorem mr_I_h {s : Nat → Int} (h : mr_I s) {x : Int} (h0 : 0 ≤ x) (h1 : x ≤ 1000000000) : mr_I (mr_up s 0 x) := by
  obtain ⟨-, h2, h3, h4⟩ := h
  refine ⟨?_, ?_, fun i hi => ?_, fun b hb => ⟨?_, ?_, ?_, ?_, ?_, fun j hj => ?_⟩⟩
  · rw [mr_up_s]; exact ⟨h0, h1⟩
  · rw [mr_up_n _ _ (by omega)]; exact h2
  · rw [mr_up_n _ _ (by omega)]; exact h3 i hi
  · rw [mr_up_n _ _ (by omega)]; exact (h4 b hb).1
  · rw [mr_up_n _ _ (by omega)]; exact (h4 b hb).2.1
  · rw [mr_up_n _ _ (by omega)]; exact (h4 b hb).2.2.1
  · rw [mr_up_n _ _ (by omega)]; exact (h4 b hb).2.2.2.1
  · rw [mr_up_n _ _ (by omega)]; exact (h4 b hb).2.2.2.2.1
  · have := (h4 b hb).2.2.2.2.2 j hj
    unfold mr_bag at this ⊢
    rw [mr_up_n _ _ (by omega)]; exact this
/-- one berth's numbers alone are other ones -/
theorem mr_I_b {s s' : Nat → Int} (h : mr_I s) {c : Nat} (hc : c < 10) (ho : ∀ j, ¬ (6 + 11 * c ≤ j ∧ j < 6 + 11 * c + 11) → s' j = s j)
    (hn : (s' (6 + 11 * c) = 0 ∨ s' (6 + 11 * c) = 1) ∧ (0 ≤ s' (6 + 11 * c + 1) ∧ s' (6 + 11 * c + 1) ≤ 99) ∧ (0 ≤ s' (6 + 11 * c + 2) ∧ s' (6 + 11 * c + 2) ≤ 40) ∧ (0 ≤ s' (6 + 11 * c + 3) ∧ s' (6 + 11 * c + 3) ≤ 60) ∧ (0 ≤ s' (6 + 11 * c + 4) ∧ s' (6 + 11 * c + 4) ≤ 6) ∧ ∀ k, k < 6 → 0 ≤ mr_bag s' c k ∧ mr_bag s' c k ≤ 20) : mr_I s' := by
  obtain ⟨h1, h2, h3, h4⟩ := h
  refine ⟨by rw [ho 0 (by omega)]; exact h1, by rw [ho 5 (by omega)]; exact h2, fun i hi => by rw [ho (116 + i) (by omega)]; exact h3 i hi, fun b hb => ?_⟩
  by_cases e : b = c
  · subst e; exact hn
  · have h5 := h4 b hb
    refine ⟨?_, ?_, ?_, ?_, ?_, fun j hj => ?_⟩
    · rw [ho _ (by omega)]; exact h5.1
    · rw [ho _ (by omega)]; exact h5.2.1
    · rw [ho _ (by omega)]; exact h5.2.2.1
    · rw [ho _ (by omega)]; exact h5.2.2.2.1
    · rw [ho _ (by omega)]; exact h5.2.2.2.2.1
    · have := h5.2.2.2.2.2 j hj
      unfold mr_bag at this ⊢
      rw [ho _ (by omega)]; exact this
theorem mr_zr_n (s : Nat → Int) {p q j : Nat} (h : ¬ (p ≤ j ∧ j < q)) : mr_zr s p q j = s j := if_neg h
theorem mr_zr_y (s : Nat → Int) {p q j : Nat} (h : p ≤ j ∧ j < q) : mr_zr s p q j = 0 := if_pos h
theorem mr_I_clr {s : Nat → Int} (h : mr_I s) {b : Nat} (hb : b < 10) : mr_I (mr_clr s b) := by
  have hz : ∀ j, 6 + 11 * b ≤ j ∧ j < 6 + 11 * b + 11 → mr_clr s b j = 0 := fun j hj => mr_zr_y s hj
  refine mr_I_b h hb (fun j hj => mr_zr_n s hj) ⟨Or.inl (hz _ (by omega)), ?_, ?_, ?_, ?_, fun k hk => ?_⟩
  · rw [hz _ (by omega)]; omega
  · rw [hz _ (by omega)]; omega
  · rw [hz _ (by omega)]; omega
  · rw [hz _ (by omega)]; omega
  · unfold mr_bag; rw [hz _ (by omega)]; omega
theorem mr_take_o {s : Nat → Int} {b k j : Nat} (hn : (s (6 + 11 * b + 4)).toNat ≤ 6) (h : ¬ (6 + 11 * b + 4 ≤ j ∧ j < 6 + 11 * b + 11)) : mr_take s b k j = s j := by
  unfold mr_take
  rw [mr_up_n _ _ (by omega), mr_up_n _ _ (by omega), mr_shf_n _ (by omega)]
theorem mr_I_take {s : Nat → Int} (h : mr_I s) {b k : Nat} (hb : b < 10) (hk : (k : Int) < s (6 + 11 * b + 4)) : mr_I (mr_take s b k) := by
  have h1 := h.bags hb
  have hn : (s (6 + 11 * b + 4)).toNat ≤ 6 := by omega
  refine mr_I_b h hb (fun j hj => mr_take_o hn (by omega)) ⟨?_, ?_, ?_, ?_, ?_, fun i hi => ?_⟩
  · rw [mr_take_o hn (by omega)]; exact h.here hb
  · rw [mr_take_o hn (by omega)]; exact h.lift hb
  · rw [mr_take_o hn (by omega)]; exact h.string hb
  · rw [mr_take_o hn (by omega)]; exact h.strength hb
  · unfold mr_take; rw [mr_up_s]; omega
  · unfold mr_bag mr_take
    rw [mr_up_n _ _ (by omega)]
    unfold mr_up mr_shf
    have h2 := h.bag hb hi
    split
    · omega
    · split
      · next q =>
        have h3 := h.bag hb (k := i + 1) (by omega)
        rw [show 6 + 11 * b + (5 + i) + 1 = 6 + 11 * b + (5 + (i + 1)) by omega]
        exact h3
      · exact h2
theorem mr_I_shk {s : Nat → Int} (h : mr_I s) {b : Nat} (hb : b < 10) : mr_I (mr_shk s b) := by
  unfold mr_shk
  split
  · next c =>
    have h1 := h.bags hb
    refine mr_I_take (mr_I_up h (by omega)) hb ?_
    rw [mr_up_n _ _ (by omega)]
    omega
  · exact h
theorem mr_I_sh {x : (Nat → Int) × List Nat} (h : mr_I x.1) (ho : mq_ok x.2) (b : Nat) : mr_I (mq_shake x b).1 ∧ mq_ok (mq_shake x b).2 := by
  unfold mq_shake
  split
  · next hb => exact ⟨mr_I_shk h hb, mq_in_ok ho hb⟩
  · exact ⟨h, ho⟩
theorem mr_I_st {x : (Nat → Int) × List Nat} (h : mr_I x.1) (ho : mq_ok x.2) {b : Nat} (hb : b < 10) : mr_I (mq_step x b).1 ∧ mq_ok (mq_step x b).2 := by
  unfold mq_step
  have h1 : mr_I (mr_clr (mr_up x.1 4 (x.1 4 + mr_bal x.1 b 0)) b) := mr_I_clr (mr_I_up h (by omega)) hb
  simp only
  split
  · have h2 := mr_I_sh (x := (mr_clr (mr_up x.1 4 (x.1 4 + mr_bal x.1 b 0)) b, x.2)) h1 ho (b - 1)
    exact mr_I_sh h2.1 h2.2 _
  · exact mr_I_sh (x := (mr_clr (mr_up x.1 4 (x.1 4 + mr_bal x.1 b 0)) b, x.2)) h1 ho _
theorem mr_I_lp : ∀ (f n : Nat) (x : (Nat → Int) × List Nat), mr_I x.1 → mq_ok x.2 → mr_I (mq_loop f n x).1 ∧ mq_ok (mq_loop f n x).2
  | 0, _, x, h, ho => ⟨h, ho⟩
  | f + 1, n, x, h, ho => by
    unfold mq_loop
    split
    · next b hb =>
      have hb : b < 10 := ho.2 b (List.mem_of_getElem? hb)
      have h2 := mr_I_st h ho hb
      exact mr_I_lp f (n + 1) _ h2.1 h2.2
    · exact ⟨h, ho⟩
theorem mr_I_lft {s : Nat → Int} (h : mr_I s) (t : Int) : ∀ n, n ≤ 10 → mr_I (mr_lft s t n)
  | 0, _ => h
  | b + 1, hb => by
    have h1 := mr_I_lft h t b (by omega)
    unfold mr_lft
    split
    · exact h1
    · refine mr_I_b h1 (c := b) (by omega) (fun j hj => mr_up_n _ _ (by omega)) ⟨?_, ?_, ?_, ?_, ?_, fun i hi => ?_⟩
      · rw [mr_up_n _ _ (by omega)]; exact h1.here (by omega)
      · rw [mr_up_s]
        repeat' split
        all_goals omega
      · rw [mr_up_n _ _ (by omega)]; exact h1.string (by omega)
      · rw [mr_up_n _ _ (by omega)]; exact h1.strength (by omega)
      · rw [mr_up_n _ _ (by omega)]; exact h1.bags (by omega)
      · unfold mr_bag
        rw [mr_up_n _ _ (by omega)]; exact h1.bag (by omega) hi
theorem mq_all_ok (s : Nat → Int) : ∀ n, n ≤ 10 → mq_ok (mq_all s n)
  | 0, _ => ⟨List.nodup_nil, fun b hb => absurd hb List.not_mem_nil⟩
  | b + 1, hb => mq_in_ok (mq_all_ok s b (by omega)) (by omega)
theorem mr_I_h1 {s : Nat → Int} (h : mr_I s) (hh : s 0 ≤ 999999999) : mr_I (mr_h1 s) := mr_I_lft (mr_I_h h (by have := h.hour; omega) (by omega)) _ 10 (Nat.le_refl _)
theorem mr_I_h2 {s : Nat → Int} (h : mr_I s) (hh : s 0 ≤ 999999999) : mr_I (mr_h2 s).1 ∧ mq_ok (mr_h2 s).2 := mr_I_lp 10 0 _ (mr_I_h1 h hh) (mq_all_ok _ 10 (Nat.le_refl _))
theorem mr_I_hr {s : Nat → Int} (h : mr_I s) (hh : s 0 ≤ 999999999) : mr_I (mr_hr s).1 := mr_I_up (mr_I_h2 h hh).1 (by omega)
