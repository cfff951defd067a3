/-! ROWS OF NUMBERS -/
def mz_w (V : mz_V) (a : Nat) (f : Nat → Int) : mz_V := fun b j => if b = a then f j else V b j
theorem mz_w_s (V : mz_V) (a : Nat) (f : Nat → Int) : mz_w V a f a = f := by funext j; exact if_pos rfl
theorem mz_w_n (V : mz_V) {a b : Nat} (f : Nat → Int) (h : b ≠ a) : mz_w V a f b = V b := by funext j; exact if_neg h
theorem mz_w_w (V : mz_V) (a : Nat) (f g : Nat → Int) : mz_w (mz_w V a f) a g = mz_w V a g := by
  funext b j
  unfold mz_w
  by_cases e : b = a
  · rw [if_pos e, if_pos e]
  · rw [if_neg e, if_neg e, if_neg e]
theorem mz_w_id (V : mz_V) (a : Nat) : mz_w V a (V a) = V := by
  funext b j
  unfold mz_w
  by_cases e : b = a
  · rw [if_pos e, e]
  · rw [if_neg e]
theorem mz_w_c (V : mz_V) {a b : Nat} (f g : Nat → Int) (h : a ≠ b) : mz_w (mz_w V a f) b g = mz_w (mz_w V b g) a f := by
  funext c j
  unfold mz_w
  by_cases e : c = a
  · subst e
    rw [if_neg h, if_pos rfl, if_pos rfl]
  · by_cases e2 : c = b
    · subst e2
      rw [if_pos rfl, if_neg e, if_pos rfl]
    · rw [if_neg e2, if_neg e, if_neg e, if_neg e2]
def mr_up (f : Nat → Int) (k : Nat) (x : Int) : Nat → Int := fun j => if j = k then x else f j
theorem mr_up_s (f : Nat → Int) (k : Nat) (x : Int) : mr_up f k x k = x := if_pos rfl
theorem mr_up_n (f : Nat → Int) {k j : Nat} (x : Int) (h : j ≠ k) : mr_up f k x j = f j := if_neg h
theorem mr_up_id (f : Nat → Int) (k : Nat) : mr_up f k (f k) = f := by
  funext j
  unfold mr_up
  split
  · next e => rw [e]
  · rfl
theorem mr_up_up (f : Nat → Int) (k : Nat) (x y : Int) : mr_up (mr_up f k x) k y = mr_up f k y := by
  funext j
  unfold mr_up
  split <;> rfl
theorem mz_u_w (V : mz_V) (a k : Nat) (x : Int) : mz_u V a k x = mz_w V a (mr_up (V a) k x) := by
  funext b j
  unfold mz_u mz_w mr_up
  by_cases e : b = a
  · subst e
    rw [if_pos rfl]
    by_cases e2 : j = k
    · rw [if_pos ⟨rfl, e2⟩, if_pos e2]
    · rw [if_neg (fun q => e2 q.2), if_neg e2]
  · rw [if_neg (fun q => e q.1), if_neg e]
section MZW
variable {X : mv_X} {P : mz_P} {V : mz_V} {z : Nat × Nat} {a c k n : Nat}
theorem mz_pW {f : mv_H → Option mv_R} {x : Int} (h : P.1 a = some (.inl c)) (hk : mz_fi c k = true) : mv_pf (mz_h P V, z) a c k (.int (nZ x)) f = f (mz_h P (mz_w V a (mr_up (V a) k x)), z) := by
  rw [mz_pf h hk, mz_u_w]
theorem mz_aJ {f : Int32 → Option mv_R} {i : Int} (h : P.1 a = some (.inr (.int, n))) (h0 : 0 ≤ i) (h1 : i < n) (h2 : n ≤ 65536) : mv_aI X (mz_h P V, z) 1 a (nZ i) f = f (nZ (V a i.toNat)) :=
  mz_aI h (by decide) (j := i.toNat) (by rw [nZ_i ⟨by omega, by omega⟩]; omega) (by omega)
theorem mz_sJ {f : mv_H → Option mv_R} {i x : Int} (h : P.1 a = some (.inr (.int, n))) (h0 : 0 ≤ i) (h1 : i < n) (h2 : n ≤ 65536) : mv_as (mz_h P V, z) 1 a (nZ i) (.int (nZ x)) f = f (mz_h P (mz_w V a (mr_up (V a) i.toNat x)), z) := by
  rw [mz_as h (by decide) (j := i.toNat) (by rw [nZ_i ⟨by omega, by omega⟩]; omega) (by omega), mz_u_w]
end MZW
section MRG
variable {X : mv_X} {P : mz_P} {V : mz_V} {z : Nat × Nat} {m : Nat}
end MRG
theorem mr_I.hour {s : Nat → Int} (h : mr_I s) : 0 ≤ s 0 ∧ s 0 ≤ 1000000000 := h.1
theorem mr_I.pil {s : Nat → Int} (h : mr_I s) : 0 ≤ s 5 ∧ s 5 ≤ 6 := h.2.1
theorem mr_I.wind {s : Nat → Int} (h : mr_I s) {i : Nat} (hi : i < 24) : -9 ≤ s (116 + i) ∧ s (116 + i) ≤ 9 := h.2.2.1 i hi
theorem mr_I.here {s : Nat → Int} (h : mr_I s) {b : Nat} (hb : b < 10) : s (6 + 11 * b) = 0 ∨ s (6 + 11 * b) = 1 := (h.2.2.2 b hb).1
theorem mr_I.lift {s : Nat → Int} (h : mr_I s) {b : Nat} (hb : b < 10) : 0 ≤ s (6 + 11 * b + 1) ∧ s (6 + 11 * b + 1) ≤ 99 := (h.2.2.2 b hb).2.1
theorem mr_I.string {s : Nat → Int} (h : mr_I s) {b : Nat} (hb : b < 10) : 0 ≤ s (6 + 11 * b + 2) ∧ s (6 + 11 * b + 2) ≤ 40 := (h.2.2.2 b hb).2.2.1
theorem mr_I.strength {s : Nat → Int} (h : mr_I s) {b : Nat} (hb : b < 10) : 0 ≤ s (6 + 11 * b + 3) ∧ s (6 + 11 * b + 3) ≤ 60 := (h.2.2.2 b hb).2.2.2.1
theorem mr_I.bags {s : Nat → Int} (h : mr_I s) {b : Nat} (hb : b < 10) : 0 ≤ s (6 + 11 * b + 4) ∧ s (6 + 11 * b + 4) ≤ 6 := (h.2.2.2 b hb).2.2.2.2.1
theorem mr_I.bag {s : Nat → Int} (h : mr_I s) {b k : Nat} (hb : b < 10) (hk : k < 6) : 0 ≤ s (6 + 11 * b + (5 + k)) ∧ s (6 + 11 * b + (5 + k)) ≤ 20 := (h.2.2.2 b hb).2.2.2.2.2 k hk
/-- the ballast without a set of bags; what is spare, the height then -/
def mr_bw (s : Nat → Int) (b t n : Nat) : Int := mz_s (fun k => if t.testBit k then 0 else s (6 + 11 * b + (5 + k))) n
def mr_bal (s : Nat → Int) (b t : Nat) : Int := mr_bw s b t (s (6 + 11 * b + 4)).toNat
def mr_sp (s : Nat → Int) (b t : Nat) : Int := if 0 ≤ s (6 + 11 * b + 1) - mr_bal s b t then s (6 + 11 * b + 1) - mr_bal s b t else 0
def mr_ho (s : Nat → Int) (b t : Nat) : Int := if s (6 + 11 * b + 2) ≤ mr_sp s b t then s (6 + 11 * b + 2) else mr_sp s b t
theorem mr_bal0 {s : Nat → Int} (h : mr_I s) {b : Nat} (hb : b < 10) (t : Nat) : 0 ≤ mr_bal s b t := mz_s_0 fun i hi => by
  have h1 := h.bags hb
  have := h.bag hb (k := i) (by omega)
  split <;> omega
theorem mr_bal1 {s : Nat → Int} (h : mr_I s) {b : Nat} (hb : b < 10) (t : Nat) : mr_bal s b t ≤ 120 := by
  have h1 := h.bags hb
  have := mz_s_20 (f := fun k => if t.testBit k then (0 : Int) else s (6 + 11 * b + (5 + k))) (m := 20) (n := (s (6 + 11 * b + 4)).toNat) fun i hi => by
    have := h.bag hb (k := i) (by omega)
    split <;> omega
  unfold mr_bal mr_bw
  omega
theorem mr_sp0 {s : Nat → Int} (b t : Nat) : 0 ≤ mr_sp s b t := by unfold mr_sp; split <;> omega
theorem mr_sp1 {s : Nat → Int} (h : mr_I s) {b : Nat} (hb : b < 10) (t : Nat) : mr_sp s b t ≤ 99 := by
  have h1 := h.lift hb
  have h2 := mr_bal0 h hb t
  unfold mr_sp; split <;> omega
theorem mr_ho0 {s : Nat → Int} (h : mr_I s) {b : Nat} (hb : b < 10) (t : Nat) : 0 ≤ mr_ho s b t := by
  have h1 := h.string hb
  have h2 := mr_sp0 (s := s) b t
  unfold mr_ho; split <;> omega
theorem mr_ho1 {s : Nat → Int} (h : mr_I s) {b : Nat} (hb : b < 10) (t : Nat) : mr_ho s b t ≤ 40 := by
  have h1 := h.string hb
  unfold mr_ho; split <;> omega
theorem mb_shr_t : ∀ s : Fin 64, ∀ k : Fin 6, (nZ ((s : Nat) : Int) >>> (nZ ((k : Nat) : Int) &&& 31)) &&& nZ 1 = nZ (if (s : Nat).testBit k then 1 else 0) := by decide +kernel
theorem mb_shr {s k : Nat} (hs : s < 64) (hk : k < 6) : (nZ s >>> (nZ k &&& 31)) &&& nZ 1 = nZ (if s.testBit k then 1 else 0) := mb_shr_t ⟨s, hs⟩ ⟨k, hk⟩
theorem mr_t5 (j : Nat) : (5 + (j : Int)).toNat = 5 + j := by omega
theorem nc1 (i : Nat) : ((i + 1 : Nat) : Int) = (i : Int) + 1 := by omega
section REFA
variable {X : mv_X} {P : mz_P} {V : mz_V} {z : Nat × Nat} {m d : Nat}
/-- the top -/
def mr_top (s : Nat → Int) (b : Nat) : Int := 10 * b + mr_ho s b 0 * s (116 + (s 0 % 24).toNat)
end REFA
