/-! THE TYPED STORE: shapes and references stand fast, numbers move -/
abbrev mz_P : Type := (Nat → Option (Nat ⊕ (FieldType × Nat))) × (Nat → Nat → Option Nat)
abbrev mz_V : Type := Nat → Nat → Int
def mz_rf (r : Option Nat) : Value := match r with
  | some a => .ref a
  | none => .null
def mz_fv (v : Value) (r : Option Nat) (z : Int) : Value := match v with
  | .null => mz_rf r
  | .int _ => .int (nZ z)
  | w => w
def mz_av (t : FieldType) (r : Option Nat) (z : Int) : Value := match t with
  | .object _ => mz_rf r
  | .array _ => mz_rf r
  | .long => .long (Int64.ofInt z)
  | .double => .double (UInt64.ofNat z.toNat)
  | _ => .int (nZ z)
def mz_c (P : mz_P) (V : mz_V) (a : Nat) (t : Nat ⊕ (FieldType × Nat)) : mv_C := match t with
  | .inl c => .inl (c, (mv_df c).mapIdx fun k v => mz_fv v (P.2 a k) (V a k))
  | .inr q => .inr (q.1, q.2, fun j => mz_av q.1 (P.2 a j) (V a j))
def mz_h (P : mz_P) (V : mz_V) : Nat → Option mv_C := fun a => (P.1 a).map (mz_c P V a)
def mz_u (V : mz_V) (a k : Nat) (z : Int) : mz_V := fun b j => if b = a ∧ j = k then z else V b j
theorem mz_u_s (V : mz_V) (a k : Nat) (z : Int) : mz_u V a k z a k = z := if_pos ⟨rfl, rfl⟩
theorem mz_u_k (V : mz_V) {a b k j : Nat} (z : Int) (h : j ≠ k) : mz_u V a k z b j = V b j := if_neg fun q => h q.2
theorem mz_u_a (V : mz_V) {a b k j : Nat} (z : Int) (h : b ≠ a) : mz_u V a k z b j = V b j := if_neg fun q => h q.1
/-- a field's kind in its class -/
def mz_fi (c k : Nat) : Bool := match (mv_df c)[k]? with
  | some (.int _) => true
  | _ => false
def mz_fr (c k : Nat) : Bool := match (mv_df c)[k]? with
  | some .null => true
  | _ => false
def mz_ai (k : Nat) (t : FieldType) : Bool := match k, t with
  | 1, .int => true
  | 7, .char => true
  | 8, .byte => true
  | _, _ => false
theorem mz_fi_ok {c k : Nat} (h : mz_fi c k = true) : ∃ x, (mv_df c)[k]? = some (.int x) := by
  unfold mz_fi at h
  split at h
  · next x hx => exact ⟨x, hx⟩
  · cases h
theorem mz_fr_ok {c k : Nat} (h : mz_fr c k = true) : (mv_df c)[k]? = some .null := by
  unfold mz_fr at h
  split at h
  · next hx => exact hx
  · cases h
theorem mz_own {P : mz_P} {V : mz_V} {a : Nat} {t : Nat ⊕ (FieldType × Nat)} (h : P.1 a = some t) : mz_h P V a = some (mz_c P V a t) := by
  unfold mz_h
  rw [h]
  rfl
theorem mz_cell {X : mv_X} {P : mz_P} {V : mz_V} {z : Nat × Nat} {a : Nat} {t : Nat ⊕ (FieldType × Nat)} (h : P.1 a = some t) : mv_cell X (mz_h P V, z) a = some (mz_c P V a t) := by
  unfold mv_cell
  show (match mz_h P V a with
    | some c => some c
    | none => X.1 a) = _
  rw [mz_own h]
section MZ
variable {X : mv_X} {P : mz_P} {V : mz_V} {z : Nat × Nat} {a c k n : Nat}
theorem mz_gI {f : Int32 → Option mv_R} (h : P.1 a = some (.inl c)) (hk : mz_fi c k = true) : mv_gI X (mz_h P V, z) a c k f = f (nZ (V a k)) := by
  obtain ⟨x, hx⟩ := mz_fi_ok hk
  unfold mv_gI mv_gf
  rw [mz_cell h]
  simp only [mz_c, List.getElem?_mapIdx, hx, Option.map_some, mz_fv, mv_int, if_true]
theorem mz_gR {f : Nat → Option mv_R} {b : Nat} (h : P.1 a = some (.inl c)) (hk : mz_fr c k = true) (hb : P.2 a k = some b) : mv_gR X (mz_h P V, z) a c k f = f b := by
  have hx := mz_fr_ok hk
  unfold mv_gR mv_gf
  rw [mz_cell h]
  simp only [mz_c, List.getElem?_mapIdx, hx, Option.map_some, mz_fv, hb, mz_rf, mv_ref, if_true]
theorem mz_set_i {l : List Value} {f : Nat → Value → Value} {g : Nat → Value → Value} {n : Nat} {v : Value} (h : ∀ j w, l[j]? = some w → g j w = if j = n then v else f j w) : (l.mapIdx f).set n v = l.mapIdx g := by
  apply List.ext_getElem?
  intro j
  rw [List.getElem?_set, List.getElem?_mapIdx, List.getElem?_mapIdx]
  cases hj : l[j]? with
  | none =>
    have : l.length ≤ j := List.getElem?_eq_none_iff.mp hj
    by_cases e : n = j
    · subst e; simp [this]
    · simp [e]
  | some w =>
    have hl : j < l.length := (List.getElem?_eq_some_iff.mp hj).1
    have := h j w hj
    by_cases e : n = j
    · subst e; simp [this, hl]
    · have e2 : ¬ j = n := fun q => e q.symm
      simp [e, e2, this]
theorem mz_pf {f : mv_H → Option mv_R} {x : Int} (h : P.1 a = some (.inl c)) (hk : mz_fi c k = true) : mv_pf (mz_h P V, z) a c k (.int (nZ x)) f = f (mz_h P (mz_u V a k x), z) := by
  obtain ⟨y, hx⟩ := mz_fi_ok hk
  have hl : k < (mv_df c).length := (List.getElem?_eq_some_iff.mp hx).1
  unfold mv_pf
  simp only [mz_own h, mz_c, if_true, List.length_mapIdx, if_pos hl]
  congr 2
  funext b
  by_cases e : b = a
  · subst e
    rw [mv_up_s, mz_own h, mz_c]
    congr 3
    refine mz_set_i fun j w hj => ?_
    by_cases e2 : j = k
    · subst e2
      rw [hx] at hj
      cases hj
      simp only [if_true, mz_fv, mz_u_s]
    · simp only [if_neg e2, mz_u_k V x e2]
  · rw [mv_up_n _ _ e]
    unfold mz_h
    cases P.1 b with
    | none => rfl
    | some t =>
      simp only [Option.map_some]
      cases t with
      | inl c2 => simp only [mz_c, mz_u_a V x e]
      | inr q => simp only [mz_c, mz_u_a V x e]
theorem mz_aI {f : Int32 → Option mv_R} {t : FieldType} {m : Nat} {i : Int32} {j : Nat} (h : P.1 a = some (.inr (t, n))) (hk : mz_ai m t = true) (hi : i.toInt = j) (hn : j < n) : mv_aI X (mz_h P V, z) m a i f = f (nZ (V a j)) := by
  unfold mv_aI mv_ar
  rw [mz_cell h]
  have e : i.toInt.toNat = j := by omega
  have e2 : 0 ≤ i.toInt ∧ i.toInt < (n : Int) := by omega
  have e3 : mv_ak m t = true := by unfold mz_ai at hk; split at hk <;> first | rfl | cases hk
  simp only [mz_c, e3, mv_chk, cond_true, if_pos e2, e]
  unfold mz_ai at hk
  split at hk <;> first | rfl | cases hk
theorem mz_aR {f : Nat → Option mv_R} {C : String} {i : Int32} {j b : Nat} (h : P.1 a = some (.inr (.object C, n))) (hi : i.toInt = j) (hn : j < n) (hb : P.2 a j = some b) : mv_aR X (mz_h P V, z) a i f = f b := by
  unfold mv_aR mv_ar
  rw [mz_cell h]
  have e : i.toInt.toNat = j := by omega
  have e2 : 0 ≤ i.toInt ∧ i.toInt < (n : Int) := by omega
  simp only [mz_c, mv_ak, mv_chk, cond_true, if_pos e2, e, mz_av, hb, mz_rf, mv_ref]
theorem mz_len {f : Int32 → Option mv_R} {t : FieldType} (h : P.1 a = some (.inr (t, n))) : mv_len X (mz_h P V, z) a f = f (nZ n) := by
  unfold mv_len
  rw [mz_cell h]
  rfl
theorem mz_as {f : mv_H → Option mv_R} {t : FieldType} {m : Nat} {i : Int32} {j : Nat} {x : Int} (h : P.1 a = some (.inr (t, n))) (hk : mz_ai m t = true) (hi : i.toInt = j) (hn : j < n) : mv_as (mz_h P V, z) m a i (.int (nZ x)) f = f (mz_h P (mz_u V a j x), z) := by
  unfold mv_as
  have e : i.toInt.toNat = j := by omega
  have e2 : 0 ≤ i.toInt ∧ i.toInt < (n : Int) := by omega
  have e3 : mv_ak m t = true := by unfold mz_ai at hk; split at hk <;> first | rfl | cases hk
  simp only [mz_own h, mz_c, e3, mv_chk, cond_true, if_pos e2, e]
  congr 2
  funext b
  by_cases eb : b = a
  · subst eb
    rw [mv_up_s, mz_own h, mz_c]
    congr 4
    funext q
    by_cases e4 : q = j
    · subst e4
      rw [mv_up_s, mz_u_s]
      unfold mz_ai at hk
      split at hk <;> first | rfl | cases hk
    · rw [mv_up_n _ _ e4, mz_u_k V x e4]
  · rw [mv_up_n _ _ eb]
    unfold mz_h
    cases P.1 b with
    | none => rfl
    | some t =>
      simp only [Option.map_some]
      cases t with
      | inl c2 => simp only [mz_c, mz_u_a V x eb]
      | inr q => simp only [mz_c, mz_u_a V x eb]
/-- contents behind a copy -/
def mz_cp (V : mz_V) (a0 sp a1 dp n : Nat) : mz_V := fun b j => if b = a1 ∧ dp ≤ j ∧ j < dp + n then V a0 (sp + (j - dp)) else V b j
theorem mz_cpy {f : mv_H → Option mv_R} {a0 a1 n0 n1 s d m : Nat} {sp dp nn : Int32} {t : FieldType} (h0 : P.1 a0 = some (.inr (t, n0))) (h1 : P.1 a1 = some (.inr (t, n1))) (ht : mv_prim t = true) (hs : sp.toInt = s) (hd : dp.toInt = d) (hn : nn.toInt = m) (hs2 : s + m ≤ n0) (hd2 : d + m ≤ n1) :
    mv_cpy X (mz_h P V, z) a0 sp a1 dp nn f = f (mz_h P (mz_cp V a0 s a1 d m), z) := by
  unfold mv_cpy
  have e1 : sp.toInt.toNat = s := by omega
  have e2 : dp.toInt.toNat = d := by omega
  have e3 : nn.toInt.toNat = m := by omega
  have e4 : 0 ≤ sp.toInt ∧ 0 ≤ dp.toInt ∧ 0 ≤ nn.toInt ∧ sp.toInt + nn.toInt ≤ (n0 : Int) ∧ dp.toInt + nn.toInt ≤ (n1 : Int) := by omega
  simp only [mz_cell h0, mz_own h0, mz_own h1, mz_c, ht, mv_chk, cond_true, if_pos e4, e1, e2, e3, if_true, Option.isSome_some, Bool.true_or]
  congr 2
  funext b
  by_cases eb : b = a1
  · subst eb
    rw [mv_up_s, mz_own h1, mz_c]
    congr 4
    funext q
    unfold mv_cpf mz_cp
    by_cases e5 : d ≤ q ∧ q < d + m
    · rw [if_pos e5, if_pos ⟨rfl, e5⟩]
      cases t <;> first | rfl | cases ht
    · rw [if_neg e5, if_neg fun q => e5 q.2]
  · rw [mv_up_n _ _ eb]
    unfold mz_h
    cases P.1 b with
    | none => rfl
    | some t =>
      have e6 : ∀ j, mz_cp V a0 s a1 d m b j = V b j := fun j => if_neg fun q => eb q.1
      simp only [Option.map_some]
      cases t with
      | inl c2 => simp only [mz_c, e6]
      | inr q => simp only [mz_c, e6]
theorem mz_rcv {f : Option mv_R} {as : List Value} (h : P.1 a = some (.inl c)) : mv_rcv X (mz_h P V, z) (.ref a :: as) c f = f := by
  unfold mv_rcv
  simp only [mz_cell h, mz_c, if_true]
end MZ
/-! numbers -/
theorem nZ_add (x y : Int) : nZ x + nZ y = nZ (x + y) := (Int32.ofInt_add x y).symm
theorem nZ_sub (x y : Int) : nZ x - nZ y = nZ (x - y) := (Int32.ofInt_sub x y).symm
theorem nZ_mul (x y : Int) : nZ x * nZ y = nZ (x * y) := (Int32.ofInt_mul x y).symm
theorem nZ_neg (x : Int) : -nZ x = nZ (-x) := (Int32.ofInt_neg x).symm
abbrev nS (z : Int) : Prop := -2147483648 ≤ z ∧ z < 2147483648
theorem nZ_i {z : Int} (h : nS z) : (nZ z).toInt = z := nZ_toInt h.1 h.2
theorem nZ_n {z : Int} {j : Nat} (h : z = j) (h2 : (j : Int) < 2147483648) : (nZ z).toInt = j := by rw [nZ_toInt (by omega) (by omega)]; exact h
theorem nZ_lt {x y : Int} (hx : nS x) (hy : nS y) : nZ x < nZ y ↔ x < y := by rw [Int32.lt_iff_toInt_lt, nZ_i hx, nZ_i hy]
theorem nZ_le {x y : Int} (hx : nS x) (hy : nS y) : nZ x ≤ nZ y ↔ x ≤ y := by rw [Int32.le_iff_toInt_le, nZ_i hx, nZ_i hy]
theorem nZ_inj {x y : Int} (hx : nS x) (hy : nS y) : nZ x = nZ y ↔ x = y := by
  constructor
  · intro h; have := congrArg Int32.toInt h; rwa [nZ_i hx, nZ_i hy] at this
  · intro h; rw [h]
theorem nZ_ok6 {x : Int} (h0 : 0 ≤ x) (h1 : x ≤ 1) : mv_ok 6 (nZ x) = true := by
  have : x = 0 ∨ x = 1 := by omega
  rcases this with rfl | rfl <;> decide
theorem mv_chk_t {f : Option mv_R} {b : Bool} (h : b = true) : mv_chk b f = f := by rw [h]; rfl
/-- a loop upward -/
theorem mz_loop {φ : Nat → Prop} (n : Nat) (h0 : φ n) (h1 : ∀ i, i < n → φ (i + 1) → φ i) : ∀ i, i ≤ n → φ i := by
  intro i hi
  obtain ⟨k, rfl⟩ := Nat.exists_eq_add_of_le hi
  clear hi
  induction k generalizing i with
  | zero => exact h0
  | succ k ih => exact h1 i (by omega) (ih (i + 1) (by rw [show i + 1 + k = i + (k + 1) by omega]; exact h0) (by rw [show i + 1 + k = i + (k + 1) by omega]; exact h1))
/-- sums -/
def mz_s (f : Nat → Int) : Nat → Int
  | 0 => 0
  | n + 1 => mz_s f n + f n
theorem mz_s_c {f g : Nat → Int} : ∀ {n : Nat}, (∀ i, i < n → f i = g i) → mz_s f n = mz_s g n
  | 0, _ => rfl
  | n + 1, h => by show mz_s f n + f n = mz_s g n + g n; rw [mz_s_c fun i hi => h i (by omega), h n (by omega)]
