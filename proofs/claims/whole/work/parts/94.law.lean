/-! THE LAW: what stands between two calls; what a call's wrapper tells -/
section LONG
variable {X : mv_X} {P : mz_P} {V : mz_V} {z : Nat × Nat} {a n m o : Nat}
theorem mz_asg {f : mv_H → Option mv_R} {t : FieldType} {u : Value} {y : Int} (h : P.1 a = some (.inr (t, n))) (hk : mv_ak m t = true) (hn : 0 < n) (hv : ∀ r, mz_av t r y = u) : mv_as (mz_h P V, z) m a (nZ 0) u f = f (mz_h P (mz_u V a 0 y), z) := by
  unfold mv_as
  have e1 : (nZ 0).toInt = 0 := by decide
  have e2 : 0 ≤ (nZ 0).toInt ∧ (nZ 0).toInt < (n : Int) := by omega
  have e3 : (nZ 0).toInt.toNat = 0 := by decide
  simp only [mz_own h, mz_c, hk, mv_chk, cond_true, if_pos e2, e3]
  congr 2
  funext b
  by_cases eb : b = a
  · subst eb
    rw [mv_up_s, mz_own h, mz_c]
    congr 4
    funext q
    by_cases e4 : q = 0
    · subst e4
      rw [mv_up_s, mz_u_s, hv]
    · rw [mv_up_n _ _ e4, mz_u_k V y e4]
  · rw [mv_up_n _ _ eb]
    unfold mz_h
    cases P.1 b with
    | none => rfl
    | some t =>
      simp only [Option.map_some]
      cases t with
      | inl c2 => simp only [mz_c, mz_u_a V y eb]
      | inr q => simp only [mz_c, mz_u_a V y eb]
theorem mz_as3 {f : mv_H → Option mv_R} {u : Int32} (h : P.1 o = some (.inr (.long, 1))) : mv_as (mz_h P V, z) 3 o (nZ 0) (.long u.toInt64) f = f (mz_h P (mz_u V o 0 u.toInt), z) := mz_asg h rfl (by decide) (fun _ => rfl)
theorem mz_as30 {f : mv_H → Option mv_R} {k : Nat} (h : P.1 o = some (.inr (.long, 1))) : mv_as (mz_h P V, z) 3 o (nZ 0) (.long (Int64.ofNat k)) f = f (mz_h P (mz_u V o 0 k), z) := mz_asg h rfl (by decide) (fun _ => rfl)
theorem mz_as5 {f : mv_H → Option mv_R} {u : UInt64} (h : P.1 o = some (.inr (.double, 1))) : mv_as (mz_h P V, z) 5 o (nZ 0) (.double u) f = f (mz_h P (mz_u V o 0 u.toNat), z) := mz_asg h rfl (by decide) (fun _ => by
  show Value.double (UInt64.ofNat ((u.toNat : Int).toNat)) = .double u
  rw [Int.toNat_natCast, UInt64.ofNat_toNat])
theorem mz_aL {f : Int64 → Option mv_R} (h : P.1 o = some (.inr (.long, 1))) : mv_aL X (mz_h P V, z) o (nZ 0) f = f (Int64.ofInt (V o 0)) := by
  unfold mv_aL mv_ar
  rw [mz_cell h]
  have e2 : 0 ≤ (nZ 0).toInt ∧ (nZ 0).toInt < ((1 : Nat) : Int) := by decide
  simp only [mz_c, mv_ak, mv_chk, cond_true, if_pos e2]
  rfl
theorem mz_aD {f : UInt64 → Option mv_R} (h : P.1 o = some (.inr (.double, 1))) : mv_aD X (mz_h P V, z) o (nZ 0) f = f (UInt64.ofNat (V o 0).toNat) := by
  unfold mv_aD mv_ar
  rw [mz_cell h]
  have e2 : 0 ≤ (nZ 0).toInt ∧ (nZ 0).toInt < ((1 : Nat) : Int) := by decide
  simp only [mz_c, mv_ak, mv_chk, cond_true, if_pos e2]
  rfl
end LONG
/-- the class's object as its cells tell it -/
theorem mX_is_f {V V' : mz_V} {x v : Nat} {w : mz_V} {b : Int} (hI : mg_I w b) (hv : v = x + 368 ∨ x + 376 ≤ v) (h : ∀ r, x ≤ r → r < x + 376 → V' r = V r) (h2 : V' v = V v) (hW : mX_is V x v w) : mX_is V' x v w := by
  obtain ⟨W1, W2, W3, W4, W5, W6⟩ := hW
  have hx := h x (by omega) (by omega)
  exact ⟨mh_R_f hI.1.1.pil.2 (fun r r1 r2 => h r (by omega) (by omega)) W1, mX_s_same hI W2 rfl rfl (by rw [hx]) (fun r r1 r2 => h r (by omega) (by omega)), mX_h_same hI W3 rfl rfl (fun r r1 r2 => h r (by omega) (by omega)), mX_t_same W4 rfl rfl (by rw [h _ (by omega) (by omega)]) (h _ (by omega) (by omega)), mX_l_same W5 rfl rfl (h _ (by omega) (by omega)) h2, mX_d_same W6 rfl rfl rfl rfl (by rw [hx]) (by rw [hx]) (by rw [hx]) (by rw [hx])⟩
theorem mr_M_c {P P' : mz_P} {m : Nat} (h1 : ∀ r, m ≤ r → r < m + 13 → P'.1 r = P.1 r) (h2 : P'.2 m = P.2 m) (h : mr_M P m) : mr_M P' m := by
  unfold mr_M at h ⊢
  rw [h2, h1 m (by omega) (by omega), h1 (m + 1) (by omega) (by omega), h1 (m + 2) (by omega) (by omega), h1 (m + 3) (by omega) (by omega), h1 (m + 4) (by omega) (by omega), h1 (m + 5) (by omega) (by omega), h1 (m + 6) (by omega) (by omega), h1 (m + 7) (by omega) (by omega), h1 (m + 8) (by omega) (by omega), h1 (m + 9) (by omega) (by omega), h1 (m + 10) (by omega) (by omega), h1 (m + 11) (by omega) (by omega), h1 (m + 12) (by omega) (by omega)]
  exact h
theorem mr_is_c {V V' : mz_V} {m : Nat} {w : mz_V} (h : ∀ r, m ≤ r → r < m + 13 → V' r = V r) (hw : mr_is V m w) : mr_is V' m w := by
  obtain ⟨⟨w1, w3, w4, w6, w8⟩, wf⟩ := hw
  exact ⟨⟨by rw [h _ (by omega) (by omega)]; exact w1, by rw [h _ (by omega) (by omega)]; exact w3, by rw [h _ (by omega) (by omega)]; exact w4, by rw [h _ (by omega) (by omega)]; exact w6, by rw [h _ (by omega) (by omega)]; exact w8⟩, fun k hk => by rw [h _ (by omega) (by omega)]; exact wf k hk⟩
/-- between two calls: the class at x, the reference at x + 376, the two results behind it -/
def lw_I (X : mv_X) (x : Nat) (P : mz_P) (V : mz_V) (z : Nat × Nat) (v n : Nat) (w : mz_V) (b : Int) : Prop :=
  (mX_P P x v n ∧ mX_is V x v w ∧ mr_M P (x + 376) ∧ mr_is V (x + 376) w ∧ mg_J w b) ∧ (mx_W X P x ∧ P.1 (x + 389) = some (.inr (.long, 1)) ∧ P.1 (x + 390) = some (.inr (.double, 1))) ∧ (x + 391 ≤ z.1 ∧ v < z.1) ∧ (v = x + 368 ∨ x + 391 ≤ v) ∧ w 0 16 ≤ (n : Int)
/-- behind the class's call -/
def lw_B (X : mv_X) (x : Nat) (P : mz_P) (V : mz_V) (z : Nat × Nat) (P1 : mz_P) (V1 : mz_V) (z1 : Nat × Nat) (v1 n1 : Nat) (w1 : mz_V) : Prop :=
  (mX_P P1 x v1 n1 ∧ mX_is V1 x v1 w1 ∧ mx_W X P1 x) ∧ (∀ r, x + 376 ≤ r → r < x + 391 → P1.1 r = P.1 r ∧ P1.2 r = P.2 r) ∧ (∀ r, x + 376 ≤ r → r < x + 389 → V1 r = V r) ∧ (z.1 ≤ z1.1 ∧ z1.1 ≤ z.1 + 24) ∧ (z.2 ≤ z1.2 ∧ z1.2 ≤ z.2 + 1290) ∧ v1 < z1.1 ∧ (v1 = x + 368 ∨ x + 391 ≤ v1) ∧ w1 0 16 ≤ (n1 : Int)
/-- the script: L ints y at b0 -/
def lw_X (X : mv_X) (x b0 L : Nat) (y : Nat → Int) : Prop := b0 < x ∧ L ≤ 2560 ∧ (∃ g : Nat → Value, X.1 b0 = some (.inr (.int, L, g)) ∧ ∀ j, j < L → g j = .int (nZ (y j))) ∧ ∀ j, nS (y j)
/-- a case of the law that comes to its end -/
def lw_T (X : mv_X) (D x b0 pc i : Nat) (P : mz_P) (V : mz_V) (z : Nat × Nat) (b : Int) : Prop := ∀ j6 j7 : Value, ∃ (P' : mz_P) (V' : mz_V) (z' : Nat × Nat) (v' n' : Nat) (w' : mz_V) (k6 k7 : Value),
  mv_run X (mv_call X D) m_L_law pc [.ref b0, .ref x, .ref (x + 376), .ref (x + 389), .ref (x + 390), .int (nZ i), j6, j7, .retAddr 0] [] (mz_h P V, z) = mv_run X (mv_call X D) m_L_law 2752 [.ref b0, .ref x, .ref (x + 376), .ref (x + 389), .ref (x + 390), .int (nZ i), k6, k7, .retAddr 0] [] (mz_h P' V', z') ∧
  lw_I X x P' V' z' v' n' w' (b + 432) ∧ (z.1 ≤ z'.1 ∧ z'.1 ≤ z.1 + 24) ∧ z.2 ≤ z'.2 ∧ z'.2 ≤ z.2 + 1290
/-- what the class's method gave -/
def lw_o (r : Option mv_R) (cd an : Int) (ex : Nat) (P1 : mz_P) (V1 : mz_V) (z1 : Nat × Nat) : Prop := (cd = 0 ∧ r = some (.inl (some (.int (nZ an))), (mz_h P1 V1, z1))) ∨ (cd ≠ 0 ∧ ∃ q, r = some (.inr (ex, q), (mz_h P1 V1, z1)))
/-- handlers: an exception's number, what is told for it -/
def lw_lk : List (Nat × Int) → Nat → Option Int
  | [], _ => none
  | h :: l, e => if e = h.1 then some h.2 else lw_lk l e
section LAWG
variable {X : mv_X} {P P1 P2 : mz_P} {V V1 V2 V3 : mz_V} {z z1 : Nat × Nat} {x v n v1 n1 b0 L i o m : Nat} {w w1 : mz_V} {b cd an bn : Int} {ex : Nat} {y : Nat → Int}
theorem lw_rd {f : Int32 → Option mv_R} (hn : ∀ r, r < x → P.1 r = none) (hS : lw_X X x b0 L y) {j : Int32} {k : Nat} (hj : j.toInt = k) (hk : k < L) : mv_aI X (mz_h P V, z) 1 b0 j f = f (nZ (y k)) := by
  obtain ⟨h1, h2, ⟨g, h3, h4⟩, h5⟩ := hS
  unfold mv_aI mv_ar
  have e0 := mx_cO (X := X) (V := V) (z := z) (hn b0 h1)
  have e2 : 0 ≤ j.toInt ∧ j.toInt < (L : Int) := by omega
  have e3 : j.toInt.toNat = k := by omega
  simp only [e0, h3, mv_ak, mv_chk, cond_true, if_pos e2, e3, h4 k hk, mv_int]
theorem lw_rdi {f : Int32 → Option mv_R} (hn : ∀ r, r < x → P.1 r = none) (hS : lw_X X x b0 L y) (hi : i < L) : mv_aI X (mz_h P V, z) 1 b0 (nZ i) f = f (nZ (y i)) := by
  have hL := hS.2.1
  exact lw_rd hn hS (nZ_i ⟨by omega, by omega⟩) hi
theorem lw_rdj {f : Int32 → Option mv_R} (hn : ∀ r, r < x → P.1 r = none) (hS : lw_X X x b0 L y) {c : Int} (k : Nat) (hc : c = k) (hi : i + k < L) : mv_aI X (mz_h P V, z) 1 b0 (nZ i + nZ c) f = f (nZ (y (i + k))) := by
  have hL := hS.2.1
  rw [nZ_add]
  exact lw_rd hn hS (by rw [nZ_i ⟨by omega, by omega⟩]; omega) hi
/-- a query's end -/
theorem lw_q (hI : lw_I X x P V z v n w b) {r : Option mv_R} (hr : r = mq_r P V1 z cd an ex) (hW : mX_is V1 x v w1) (hX : mX_X V V1 x v) (h16 : w1 0 16 = w 0 16) : ∃ z1, lw_o r cd an ex P V1 z1 ∧ lw_B X x P V z P V1 z1 v n w1 := by
  obtain ⟨⟨hP, -, hM, hw, hJ⟩, ⟨hx, ho, hd⟩, ⟨hz, hv⟩, hvv, hn⟩ := hI
  have hfr : ∀ r, x + 376 ≤ r → r < x + 389 → V1 r = V r := fun r r1 r2 => hX r (Or.inr r1) (by omega)
  by_cases c : cd = 0
  · exact ⟨z, Or.inl ⟨c, by rw [hr, mq_r0 c]⟩, ⟨hP, hW, hx⟩, fun _ _ _ => ⟨rfl, rfl⟩, hfr, ⟨by omega, by omega⟩, ⟨by omega, by omega⟩, hv, hvv, by rw [h16]; exact hn⟩
  · exact ⟨(z.1 + 1, z.2 + 6), Or.inr ⟨c, z.1, by rw [hr, mq_r1 c]⟩, ⟨hP, hW, hx⟩, fun _ _ _ => ⟨rfl, rfl⟩, hfr, ⟨by show z.1 ≤ z.1 + 1; omega, by show z.1 + 1 ≤ z.1 + 24; omega⟩, ⟨by show z.2 ≤ z.2 + 6; omega, by show z.2 + 6 ≤ z.2 + 1290; omega⟩, by show v < z.1 + 1; omega, hvv, by rw [h16]; exact hn⟩
/-- the reference behind it -/
theorem lw_g (hI : lw_I X x P V z v n w b) {bb : Int} (hw1 : mg_I w1 bb) (hB : lw_B X x P V z P1 V1 z1 v1 n1 w1) (hV : ∀ r, r ≠ x + 389 → r ≠ x + 390 → V2 r = V1 r) : lw_B X x P V z P1 V2 z1 v1 n1 w1 ∧ mr_M P1 (x + 376) ∧ mr_is V2 (x + 376) w ∧ (∀ r, r < x → P1.1 r = none) ∧ P1.1 (x + 389) = some (.inr (.long, 1)) ∧ P1.1 (x + 390) = some (.inr (.double, 1)) := by
  obtain ⟨⟨hP, hW, hM, hw, hJ⟩, ⟨hx, ho, hd⟩, ⟨hz, hv⟩, hvv, hn⟩ := hI
  obtain ⟨⟨b1, b2, b3⟩, b4, b5, b6, b7, b8, b9, b10⟩ := hB
  refine ⟨⟨⟨b1, mX_is_f hw1 (by omega) (fun r r1 r2 => hV r (by omega) (by omega)) (hV v1 (by omega) (by omega)) b2, b3⟩, b4, fun r r1 r2 => by rw [hV r (by omega) (by omega), b5 r r1 r2], b6, b7, b8, b9, b10⟩, mr_M_c (fun r r1 r2 => (b4 r r1 (by omega)).1) (b4 _ (by omega) (by omega)).2 hM, mr_is_c (fun r r1 r2 => by rw [hV r (by omega) (by omega), b5 r r1 (by omega)]) hw, b3.1, by rw [(b4 _ (by omega) (by omega)).1]; exact ho, by rw [(b4 _ (by omega) (by omega)).1]; exact hd⟩
/-- behind both -/
theorem lw_fin (hI : lw_I X x P V z v n w b) (hB : lw_B X x P V z P1 V2 z1 v1 n1 w1) (hw : mr_is V3 (x + 376) w1) (hX : mr_X V2 V3 (x + 376)) (hJ : mg_J w1 (b + 432)) : lw_I X x P1 V3 z1 v1 n1 w1 (b + 432) ∧ (z.1 ≤ z1.1 ∧ z1.1 ≤ z.1 + 24) ∧ z.2 ≤ z1.2 ∧ z1.2 ≤ z.2 + 1290 := by
  obtain ⟨⟨hP, hW, hM, -, -⟩, ⟨hx, ho, hd⟩, ⟨hz, hv⟩, hvv, hn⟩ := hI
  obtain ⟨⟨b1, b2, b3⟩, b4, b5, b6, b7, b8, b9, b10⟩ := hB
  exact ⟨⟨⟨b1, mX_is_f hJ.1 (by omega) (fun r r1 r2 => hX r (by omega)) (hX v1 (by omega)) b2, mr_M_c (fun r r1 r2 => (b4 r r1 (by omega)).1) (b4 _ (by omega) (by omega)).2 hM, hw, hJ⟩, ⟨b3, by rw [(b4 _ (by omega) (by omega)).1]; exact ho, by rw [(b4 _ (by omega) (by omega)).1]; exact hd⟩, ⟨by omega, b8⟩, b9, b10⟩, b6, b7⟩
/-- the law's comparison -/
theorem lw_tail {K Z : Option mv_R} {A B : Int32} (hA : A = nZ cd) (hB : B = nZ bn) (h1 : V3 m 0 = cd) (hc : 0 ≤ cd ∧ cd ≤ 3) (ho : P1.1 o = some (.inr (.long, 1))) (h0 : cd = 0 → V3 o 0 = (nZ bn).toInt) : (if nZ (V3 m 0) = A then (if A = 0 then (mv_aL X (mz_h P1 V3, z1) o (nZ 0) fun l1 => if lg_cmp l1 B.toInt64 = 0 then K else Z) else K) else Z) = K := by
  rw [h1, hA, hB, if_pos rfl]
  by_cases c : cd = 0
  · rw [if_pos (by rw [c]; rfl), mz_aL ho, h0 c]
    exact if_pos ((lg_cmp_eq (Int64.ofInt (nZ bn).toInt) (nZ bn).toInt64).mpr rfl)
  · rw [if_neg (by rw [nZ_eq0 ⟨by omega, by omega⟩]; exact c)]
theorem lw_tailB {K Z : Option mv_R} {A B : Int32} (hA : A = nZ cd) (hB : B = nZ bn) (h1 : V3 m 0 = cd) (hc : 0 ≤ cd ∧ cd ≤ 3) (ho : P1.1 o = some (.inr (.long, 1))) (h0 : cd = 0 → V3 o 0 = if nZ bn = 0 then 0 else 1) : (if nZ (V3 m 0) = A then (if A = 0 then (mv_aL X (mz_h P1 V3, z1) o (nZ 0) fun l1 => if B = 0 then (if lg_cmp l1 (Int64.ofNat 0) = 0 then K else Z) else (if lg_cmp l1 (Int64.ofNat 1) = 0 then K else Z)) else K) else Z) = K := by
  rw [h1, hA, hB, if_pos rfl]
  by_cases c : cd = 0
  · rw [if_pos (by rw [c]; rfl), mz_aL ho, h0 c]
    by_cases c2 : nZ bn = 0
    · rw [if_pos c2, if_pos c2]
      exact if_pos ((lg_cmp_eq (Int64.ofInt 0) (Int64.ofNat 0)).mpr rfl)
    · rw [if_neg c2, if_neg c2]
      exact if_pos ((lg_cmp_eq (Int64.ofInt 1) (Int64.ofNat 1)).mpr rfl)
  · rw [if_neg (by rw [nZ_eq0 ⟨by omega, by omega⟩]; exact c)]
end LAWG
