/-! THE LAW'S WORLD: a heap that holds the harbour; the text, the line and the fault position are left out of what is told -/
def ph_E (w w1 : mz_V) : Prop := w1 1 = w 1 ∧ w1 3 = w 3 ∧ w1 4 = w 4 ∧ w1 0 6 = w 0 6 ∧ w1 0 7 = w 0 7 ∧ w1 0 19 = w 0 19 ∧ w1 0 20 = w 0 20
/-- the numbers of a state -/
def ph_P (X : mv_X) (x : Nat) (S : Nat → Int) (w1 : mz_V) (b : Int) (P : mz_P) (V : mz_V) (z : Nat × Nat) (v n : Nat) : Prop :=
  (mX_P P x v n ∧ mX_is V x v w1 ∧ mg_J w1 b) ∧ mx_W X P x ∧ (x + 377 ≤ z.1 ∧ v < z.1) ∧ (v = x + 368 ∨ x + 377 ≤ v) ∧ w1 0 16 ≤ (n : Int) ∧ P.1 (x + 376) = some (.inr (.long, 70)) ∧ V (x + 376) = S
def ph_H (X : mv_X) (x : Nat) (S : Nat → Int) (w : mz_V) (b : Int) (c : Nat × Nat) (m : Nat) (h : mv_H) : Prop :=
  ∃ (P : mz_P) (V : mz_V) (v n : Nat) (w1 : mz_V), h.1 = mz_h P V ∧ ph_P X x S w1 b P V h.2 v n ∧ ph_E w w1 ∧ h.2.1 ≤ c.1 + m ∧ h.2.2 ≤ c.2 + 6 * m
theorem ph_E_rfl (w : mz_V) : ph_E w w := ⟨rfl, rfl, rfl, rfl, rfl, rfl, rfl⟩
section HOLD
variable {X : mv_X} {x : Nat} {S : Nat → Int} {w : mz_V} {b : Int} {c : Nat × Nat} {m : Nat} {h : mv_H} {d y : Nat} {as : List Value} {Φ : Option mv_R → Prop}
theorem ph_mono {m' : Nat} (hm : m ≤ m') (hH : ph_H X x S w b c m h) : ph_H X x S w b c m' h := by
  obtain ⟨P, V, v, n, w1, e, hP, hE, h1, h2⟩ := hH
  exact ⟨P, V, v, n, w1, e, hP, hE, by omega, by omega⟩
theorem ph_I (hH : ph_H X x S w b c m h) : mr_I (w 1) ∧ w 1 0 ≤ b ∧ 0 ≤ w 0 6 ∧ w 0 6 ≤ 8 := by
  obtain ⟨P, V, v, n, w1, e, ⟨⟨-, -, hJ⟩, -⟩, hE, -⟩ := hH
  rw [← hE.1, ← hE.2.2.2.1]
  exact ⟨hJ.1.1.1, hJ.1.1.2, hJ.1.2.1⟩
theorem ph_N (hH : ph_H X x S w b c m h) : pn_I (w 1) := by
  have hI := (ph_I hH).1
  obtain ⟨P, V, v, n, w1, e, ⟨⟨-, hW, hJ⟩, -⟩, hE, -⟩ := hH
  have hR := hW.1
  rw [hE.1] at hR
  exact pn_of hI hR
theorem ph_rcv {f : Option mv_R} (hH : ph_H X x S w b c m h) : mv_rcv X h (.ref x :: as) 12 f = f := by
  obtain ⟨P, V, v, n, w1, e, ⟨⟨hP, -⟩, -⟩, -⟩ := hH
  obtain ⟨h1, z⟩ := h
  have e : h1 = mz_h P V := e
  subst e
  exact mz_rcv hP.o
/-- a question that only reads -/
theorem ph_ok {r : Value} (hH : ph_H X x S w b c m h) (hq : ∀ (P : mz_P) (V : mz_V) (v n : Nat) (z : Nat × Nat) (w1 : mz_V), mX_P P x v n → mX_is V x v w1 → mg_J w1 b → ph_E w w1 → mv_call X d y as (mz_h P V, z) = some (.inl (some r), (mz_h P V, z))) : mv_call X d y as h = some (.inl (some r), h) := by
  obtain ⟨P, V, v, n, w1, e, ⟨⟨hP, hW, hJ⟩, -⟩, hE, -⟩ := hH
  obtain ⟨h1, z⟩ := h
  have e : h1 = mz_h P V := e
  subst e
  exact hq P V v n z w1 hP hW hJ hE
/-- .. one that is refused -/
theorem ph_ex {ex : Nat} (hH : ph_H X x S w b c m h) (hq : ∀ (P : mz_P) (V : mz_V) (v n : Nat) (z : Nat × Nat) (w1 : mz_V), mX_P P x v n → mX_is V x v w1 → mg_J w1 b → ph_E w w1 → mv_call X d y as (mz_h P V, z) = some (.inr (ex, z.1), (mz_h P V, (z.1 + 1, z.2 + 6)))) : ∃ q h', mv_call X d y as h = some (.inr (ex, q), h') ∧ ph_H X x S w b c (m + 1) h' := by
  obtain ⟨P, V, v, n, w1, e, ⟨⟨hP, hW, hJ⟩, hX, ⟨z1, z2⟩, r⟩, hE, c1, c2⟩ := hH
  obtain ⟨h1, z⟩ := h
  have e : h1 = mz_h P V := e
  subst e
  have z1 : x + 377 ≤ z.1 := z1
  have z2 : v < z.1 := z2
  have c1 : z.1 ≤ c.1 + m := c1
  have c2 : z.2 ≤ c.2 + 6 * m := c2
  exact ⟨z.1, _, hq P V v n z w1 hP hW hJ hE, P, V, v, n, w1, rfl, ⟨⟨hP, hW, hJ⟩, hX, ⟨by show x + 377 ≤ z.1 + 1; omega, by show v < z.1 + 1; omega⟩, r⟩, hE, by show z.1 + 1 ≤ c.1 + (m + 1); omega, by show z.2 + 6 ≤ c.2 + 6 * (m + 1); omega⟩
/-- .. one that writes where nothing is told -/
theorem ph_wr {r : Value} (hH : ph_H X x S w b c m h) (hq : ∀ (P : mz_P) (V : mz_V) (v n : Nat) (z : Nat × Nat) (w1 : mz_V), mX_P P x v n → mX_is V x v w1 → mg_J w1 b → ph_E w w1 → ∃ V', mv_call X d y as (mz_h P V, z) = some (.inl (some r), (mz_h P V', z)) ∧ mX_is V' x v w1 ∧ mX_X V V' x v) : ∃ h', mv_call X d y as h = some (.inl (some r), h') ∧ ph_H X x S w b c m h' := by
  obtain ⟨P, V, v, n, w1, e, ⟨⟨hP, hW, hJ⟩, hX, z1, hv, h16, hs, hS⟩, hE, c1⟩ := hH
  obtain ⟨h1, z⟩ := h
  have e : h1 = mz_h P V := e
  subst e
  obtain ⟨V', e', hW', hX'⟩ := hq P V v n z w1 hP hW hJ hE
  exact ⟨_, e', P, V', v, n, w1, rfl, ⟨⟨hP, hW', hJ⟩, hX, z1, hv, h16, hs, (hX' (x + 376) (by omega) (by omega)).trans hS⟩, hE, c1⟩
theorem ph_ret {call : mv_G} {g : Nat → Nat → mv_H → Option mv_R} {f : Int32 → mv_H → Option mv_R} {r : Int32} {h' : mv_H} (e : call y as h = some (.inl (some (.int r)), h')) (K : Φ (f r h')) : Φ (mv_clI call y as h g f) := by
  simp only [mv_clI, mv_cl, e]
  exact K
theorem ph_retF {call : mv_G} {g : Nat → Nat → mv_H → Option mv_R} {f : UInt32 → mv_H → Option mv_R} {r : UInt32} {h' : mv_H} (e : call y as h = some (.inl (some (.float r)), h')) (K : Φ (f r h')) : Φ (mv_clF call y as h g f) := by
  simp only [mv_clF, mv_cl, e]
  exact K
theorem ph_retD {call : mv_G} {g : Nat → Nat → mv_H → Option mv_R} {f : UInt64 → mv_H → Option mv_R} {r : UInt64} {h' : mv_H} (e : call y as h = some (.inl (some (.double r)), h')) (K : Φ (f r h')) : Φ (mv_clD call y as h g f) := by
  simp only [mv_clD, mv_cl, e]
  exact K
theorem ph_retL {call : mv_G} {g : Nat → Nat → mv_H → Option mv_R} {f : Int64 → mv_H → Option mv_R} {r : Int64} {h' : mv_H} (e : call y as h = some (.inl (some (.long r)), h')) (K : Φ (f r h')) : Φ (mv_clL call y as h g f) := by
  simp only [mv_clL, mv_cl, e]
  exact K
end HOLD
abbrev pq (s : Nat → Int) (a : Nat) (r : Int) : Int := if s (6 + 11 * a) = 1 then r else -75
theorem pq_has {s : Nat → Int} {a : Nat} (ha : a < 10) : mr_has s (a : Int) ↔ s (6 + 11 * a) = 1 := by rw [mr_has_n ha]
theorem pq_n (a : Nat) : ((a : Nat) : Int).toNat = a := Int.toNat_natCast a
theorem pq_S {a : Nat} (ha : a < 10) : nS (a : Int) := ⟨by omega, by omega⟩
theorem pq_y {s : Nat → Int} {a : Nat} (ha : a < 10) (hh : s (6 + 11 * a) = 1) : mq_b s (a : Int) = 0 := mq_by ((pq_has ha).mpr hh)
theorem pq_no {s : Nat → Int} {a : Nat} (ha : a < 10) (hh : ¬ s (6 + 11 * a) = 1) : mq_b s (a : Int) ≠ 0 := mq_bn fun q => hh ((pq_has ha).mp q)
