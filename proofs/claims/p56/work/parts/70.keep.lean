/-! WHAT IS KEPT BESIDE THE HARBOUR: told by the reference's cells -/
/-- the reference's fields that count -/
def mg_f (k : Nat) : Prop := k = 6 ∨ k = 7 ∨ k = 15 ∨ k = 16 ∨ k = 17 ∨ k = 19 ∨ k = 20 ∨ k = 21
/-- the reference at m holds w (w 0 fields, w 1 numbers, w 3 the snapshot, w 4 the history, w 6 the text, w 8 the line) -/
def mr_is (V : mz_V) (m : Nat) (w : mz_V) : Prop := (V (m + 1) = w 1 ∧ V (m + 3) = w 3 ∧ V (m + 4) = w 4 ∧ V (m + 6) = w 6 ∧ V (m + 8) = w 8) ∧ ∀ k, mg_f k → V m k = w 0 k
def mr_X (V V' : mz_V) (m : Nat) : Prop := ∀ r, r < m ∨ m + 13 ≤ r → V' r = V r
theorem mr_X_rfl (V : mz_V) (m : Nat) : mr_X V V m := fun _ _ => rfl
theorem mr_X_tr {V V' V'' : mz_V} {m : Nat} (h : mr_X V V' m) (h' : mr_X V' V'' m) : mr_X V V'' m := fun r hr => (h' r hr).trans (h r hr)
theorem mr_X_w {V : mz_V} {m r : Nat} {f : Nat → Int} (h1 : m ≤ r) (h2 : r < m + 13) : mr_X V (mz_w V r f) m := fun q hq => mz_w_n _ _ (by omega)
def mr_cpy (f g : Nat → Int) (n : Nat) : Nat → Int := fun j => if j < n then g j else f j
theorem mr_cpy0 (f g : Nat → Int) : mr_cpy f g 0 = f := by
  funext j
  unfold mr_cpy
  rw [if_neg (Nat.not_lt_zero _)]
theorem mr_cpy1 (f g : Nat → Int) (n : Nat) : mr_up (mr_cpy f g n) n (g n) = mr_cpy f g (n + 1) := by
  funext j
  unfold mr_up mr_cpy
  by_cases e : j = n
  · rw [if_pos e, if_pos (by omega), e]
  · rw [if_neg e]
    by_cases e2 : j < n
    · rw [if_pos e2, if_pos (by omega)]
    · rw [if_neg e2, if_neg (by omega)]
theorem mr_cpy_l (f g : Nat → Int) {n j : Nat} (h : j < n) : mr_cpy f g n j = g j := if_pos h
/-- places from p on, n of them, taken from g -/
def mr_put (f g : Nat → Int) (p n : Nat) : Nat → Int := fun j => if p ≤ j ∧ j < p + n then g (j - p) else f j
theorem mr_put0 (f g : Nat → Int) (p : Nat) : mr_put f g p 0 = f := by
  funext j
  unfold mr_put
  rw [if_neg (by omega)]
theorem mr_put1 (f g : Nat → Int) (p n : Nat) : mr_up (mr_put f g p n) (p + n) (g n) = mr_put f g p (n + 1) := by
  funext j
  unfold mr_up mr_put
  by_cases e : j = p + n
  · rw [if_pos e, if_pos (by omega), e, Nat.add_sub_cancel_left]
  · rw [if_neg e]
    by_cases e2 : p ≤ j ∧ j < p + n
    · rw [if_pos e2, if_pos (by omega)]
    · rw [if_neg e2, if_neg (by omega)]
/-- places below n moved down by 158 -/
def mr_sh8 (f : Nat → Int) (n : Nat) : Nat → Int := fun j => if j < n then f (j + 158) else f j
theorem mr_sh80 (f : Nat → Int) : mr_sh8 f 0 = f := by
  funext j
  unfold mr_sh8
  rw [if_neg (Nat.not_lt_zero _)]
theorem mr_sh81 (f : Nat → Int) (n : Nat) : mr_up (mr_sh8 f n) n (f (n + 158)) = mr_sh8 f (n + 1) := by
  funext j
  unfold mr_up mr_sh8
  by_cases e : j = n
  · rw [if_pos e, if_pos (by omega), e]
  · rw [if_neg e]
    by_cases e2 : j < n
    · rw [if_pos e2, if_pos (by omega)]
    · rw [if_neg e2, if_neg (by omega)]
/-- the history with one more -/
def mg_hp (f : Nat → Int) (k : Int) (s : Nat → Int) : Nat → Int := if k = 8 then mr_put (mr_sh8 f 1106) s 1106 158 else mr_put f s (158 * k.toNat) 158
def mg_kp (k : Int) : Int := if k = 8 then 8 else k + 1
theorem mr_I_e {s s' : Nat → Int} (h : ∀ j, j < 158 → s' j = s j) (hI : mr_I s) : mr_I s' := by
  obtain ⟨h1, h2, h3, h4⟩ := hI
  refine ⟨by rw [h 0 (by omega)]; exact h1, by rw [h 5 (by omega)]; exact h2, fun i hi => by rw [h _ (by omega)]; exact h3 i hi, fun b hb => ?_⟩
  obtain ⟨g1, g2, g3, g4, g5, g6⟩ := h4 b hb
  refine ⟨by rw [h _ (by omega)]; exact g1, by rw [h _ (by omega)]; exact g2, by rw [h _ (by omega)]; exact g3, by rw [h _ (by omega)]; exact g4, by rw [h _ (by omega)]; exact g5, fun k hk => ?_⟩
  have := g6 k hk
  unfold mr_bag at this ⊢
  rw [h _ (by omega)]; exact this
section REFG
variable {X : mv_X} {P : mz_P} {V : mz_V} {z : Nat × Nat} {m d : Nat} {w : mz_V}
/-- where a denial is thrown; what a change tells -/
def mg_pl (k : Nat) : Int := match k with
  | 0 => 2
  | 1 => 1
  | 2 => 3
  | 3 => 2
  | 4 => 3
  | 5 => 2
  | 6 => 1
  | 7 => 2
  | _ => 1
def mg_cd (k : Nat) (r : Int) : Int := if r = 0 then 0 else if r ≤ 5 then mg_pl k else mc_cd k r
def mg_st (w : mz_V) (k : Nat) (x : Nat → Int) : mz_V :=
  if mc_rf (w 1) k x = 0 then mz_u (mz_w (mz_w w 1 (mc_st (w 1) k x)) 4 (mg_hp (w 4) (w 0 6) (w 1))) 0 6 (mg_kp (w 0 6))
  else if mc_rf (w 1) k x ≤ 5 then mz_u (mz_u (mz_u w 0 19 (mc_rf (w 1) k x)) 0 20 (mc_dt (w 1) k x)) 0 21 0 else w
theorem mg_hp_e {f s s' : Nat → Int} {k : Int} (h : ∀ j, j < 158 → s' j = s j) : mg_hp f k s' = mg_hp f k s := by
  funext j
  unfold mg_hp
  split
  · unfold mr_put
    split
    · exact h _ (by omega)
    · rfl
  · unfold mr_put
    split
    · exact h _ (by omega)
    · rfl
theorem mc_rf_in (s : Nat → Int) (k : Nat) (x : Nat → Int) : mc_rf s k x = 0 ∨ (1 ≤ mc_rf s k x ∧ mc_rf s k x ≤ 5) ∨ mc_rf s k x = 8 ∨ mc_rf s k x = 9 ∨ mc_rf s k x = 10 := by
  unfold mc_rf
  split <;> (first | unfold mc_rf0 | unfold mc_rf1 | unfold mc_rf2 | unfold mc_rf3 | unfold mc_rf4 | unfold mc_rf5 | unfold mc_rf6 | unfold mc_rf7 | unfold mc_rf8) <;> repeat' split
  all_goals omega
theorem mc_cd_in (k : Nat) (r : Int) : 1 ≤ mc_cd k r ∧ mc_cd k r ≤ 2 := by
  unfold mc_cd
  repeat' split
  all_goals omega
/-- the reference's public changes -/
def mg_no (k : Nat) : Nat := match k with
  | 0 => 187
  | 1 => 188
  | 2 => 189
  | 3 => 190
  | 4 => 191
  | 5 => 192
  | 6 => 195
  | 7 => 193
  | _ => 194
/-- a call's arguments by its kind -/
def mg_ar (k : Nat) (x : Nat → Int) : List Value := match k with
  | 0 => [.int (nZ (x 0)), .int (nZ (x 1)), .int (nZ (x 2)), .int (nZ (x 3))]
  | 1 => [.int (nZ (x 0))]
  | 2 => [.int (nZ (x 0)), .int (nZ (x 1))]
  | 3 => [.int (nZ (x 0)), .int (nZ (x 1))]
  | 4 => [.int (nZ (x 0)), .int (nZ (x 1))]
  | 5 => [.int (nZ (x 0)), .int (nZ (x 1))]
  | 6 => [.int (nZ (x 0))]
  | 7 => [.int (nZ (x 0)), .int (nZ (x 1)), .int (nZ (x 2))]
  | _ => [.int (nZ (x 0))]
end REFG
