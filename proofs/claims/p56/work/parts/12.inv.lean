/-! WHAT AN ANSWER OF THE SMALL MACHINE SAYS OF ITS STEP -/
theorem mi_popI {st : List Value} {f : Int32 → List Value → Option mv_R} {r : mv_R} (e : mv_popI st f = some r) : ∃ x t, st = .int x :: t ∧ f x t = some r := by
  unfold mv_popI at e; split at e
  · exact ⟨_, _, rfl, e⟩
  · cases e
theorem mi_popR {st : List Value} {f : Nat → List Value → Option mv_R} {r : mv_R} (e : mv_popR st f = some r) : ∃ x t, st = .ref x :: t ∧ f x t = some r := by
  unfold mv_popR at e; split at e
  · exact ⟨_, _, rfl, e⟩
  · cases e
theorem mi_popL {st : List Value} {f : Int64 → List Value → Option mv_R} {r : mv_R} (e : mv_popL st f = some r) : ∃ x t, st = .long x :: t ∧ f x t = some r := by
  unfold mv_popL at e; split at e
  · exact ⟨_, _, rfl, e⟩
  · cases e
theorem mi_popF {st : List Value} {f : UInt32 → List Value → Option mv_R} {r : mv_R} (e : mv_popF st f = some r) : ∃ x t, st = .float x :: t ∧ f x t = some r := by
  unfold mv_popF at e; split at e
  · exact ⟨_, _, rfl, e⟩
  · cases e
theorem mi_popD {st : List Value} {f : UInt64 → List Value → Option mv_R} {r : mv_R} (e : mv_popD st f = some r) : ∃ x t, st = .double x :: t ∧ f x t = some r := by
  unfold mv_popD at e; split at e
  · exact ⟨_, _, rfl, e⟩
  · cases e
theorem mi_chk {b : Bool} {f : Option mv_R} {r : mv_R} (e : mv_chk b f = some r) : b = true ∧ f = some r := by
  cases b
  · cases e
  · exact ⟨rfl, e⟩
theorem mi_pop1 {st : List Value} {f : Value → List Value → Option mv_R} {r : mv_R} (e : mv_pop1 st f = some r) : ∃ x t, st = x :: t ∧ x.category = 1 ∧ f x t = some r := by
  cases st with
  | nil => cases e
  | cons v t =>
    have e : (bif Nat.beq v.category 1 then f v t else none) = some r := e
    cases hc : Nat.beq v.category 1 with
    | false => rw [hc] at e; cases e
    | true => rw [hc] at e; exact ⟨v, t, rfl, Nat.eq_of_beq_eq_true hc, e⟩
theorem mi_ld {ls : List Value} {i : Nat} {f : Value → Option mv_R} {r : mv_R} (e : mv_ld ls i f = some r) : ∃ v, ls[i]? = some v ∧ f v = some r := by
  unfold mv_ld at e; split at e
  · next v h => exact ⟨v, h, e⟩
  · cases e
theorem mi_int {v : Value} {f : Int32 → Option mv_R} {r : mv_R} (e : mv_int v f = some r) : ∃ x, v = .int x ∧ f x = some r := by
  unfold mv_int at e; split at e
  · exact ⟨_, rfl, e⟩
  · cases e
theorem mi_ref {v : Value} {f : Nat → Option mv_R} {r : mv_R} (e : mv_ref v f = some r) : ∃ x, v = .ref x ∧ f x = some r := by
  unfold mv_ref at e; split at e
  · exact ⟨_, rfl, e⟩
  · cases e
theorem mi_lng {v : Value} {f : Int64 → Option mv_R} {r : mv_R} (e : mv_lng v f = some r) : ∃ x, v = .long x ∧ f x = some r := by
  unfold mv_lng at e; split at e
  · exact ⟨_, rfl, e⟩
  · cases e
theorem mi_flt {v : Value} {f : UInt32 → Option mv_R} {r : mv_R} (e : mv_flt v f = some r) : ∃ x, v = .float x ∧ f x = some r := by
  unfold mv_flt at e; split at e
  · exact ⟨_, rfl, e⟩
  · cases e
theorem mi_dbl {v : Value} {f : UInt64 → Option mv_R} {r : mv_R} (e : mv_dbl v f = some r) : ∃ x, v = .double x ∧ f x = some r := by
  unfold mv_dbl at e; split at e
  · exact ⟨_, rfl, e⟩
  · cases e
theorem mi_st {w : Bool} {ls : List Value} {i : Nat} {v : Value} {f : List Value → Option mv_R} {r : mv_R} (e : mv_st w ls i v f = some r) : i < ls.length ∧ (w = true → mv_wid (ls.getD (i - 1) .null) = false) ∧ f (ls.set i v) = some r := by
  obtain ⟨h1, e⟩ := mi_chk e
  obtain ⟨h2, e⟩ := mi_chk e
  refine ⟨by simpa [Nat.blt_eq] using h1, fun hw => ?_, e⟩
  subst hw
  simpa using h2
theorem mi_st2 {w : Bool} {ls : List Value} {i : Nat} {v : Value} {f : List Value → Option mv_R} {r : mv_R} (e : mv_st2 w ls i v f = some r) : i + 1 < ls.length ∧ w = true ∧ mv_wid (ls.getD (i - 1) .null) = false ∧ f ((ls.set i v).set (i + 1) (.retAddr 0)) = some r := by
  obtain ⟨h1, e⟩ := mi_chk e
  obtain ⟨h2, e⟩ := mi_chk e
  rw [Bool.and_eq_true] at h2
  exact ⟨by simpa [Nat.blt_eq] using h1, h2.1, by simpa using h2.2, e⟩
theorem mi_gf {X : mv_X} {h : mv_H} {a ci n : Nat} {f : Value → Option mv_R} {r : mv_R} (e : mv_gf X h a ci n f = some r) : ∃ fs v, mv_cell X h a = some (.inl (ci, fs)) ∧ fs[n]? = some v ∧ f v = some r := by
  unfold mv_gf at e
  split at e
  · next c fs hc =>
    split at e
    · next hcc =>
      subst hcc
      split at e
      · next v hv => exact ⟨fs, v, hc, hv, e⟩
      · cases e
    · cases e
  · cases e
theorem mi_pf {h : mv_H} {a ci n : Nat} {v : Value} {f : mv_H → Option mv_R} {r : mv_R} (e : mv_pf h a ci n v f = some r) : ∃ fs, h.1 a = some (.inl (ci, fs)) ∧ n < fs.length ∧ f (mv_up h.1 a (some (.inl (ci, fs.set n v))), h.2) = some r := by
  unfold mv_pf at e
  split at e
  · next c fs hc =>
    split at e
    · next hcc =>
      subst hcc
      split at e
      · next hn => exact ⟨fs, hc, hn, e⟩
      · cases e
    · cases e
  · cases e
theorem mi_ar {X : mv_X} {h : mv_H} {k a : Nat} {i : Int32} {f : Value → Option mv_R} {r : mv_R} (e : mv_ar X h k a i f = some r) : ∃ t n g, mv_cell X h a = some (.inr (t, n, g)) ∧ mv_ak k t = true ∧ 0 ≤ i.toInt ∧ i.toInt < n ∧ f (g i.toInt.toNat) = some r := by
  unfold mv_ar at e
  split at e
  · next t n g hc =>
    obtain ⟨h1, e⟩ := mi_chk e
    split at e
    · next hi => exact ⟨t, n, g, hc, h1, hi.1, hi.2, e⟩
    · cases e
  · cases e
theorem mi_len {X : mv_X} {h : mv_H} {a : Nat} {f : Int32 → Option mv_R} {r : mv_R} (e : mv_len X h a f = some r) : ∃ t n g, mv_cell X h a = some (.inr (t, n, g)) ∧ f (nZ n) = some r := by
  unfold mv_len at e
  split at e
  · next t n g hc => exact ⟨t, n, g, hc, e⟩
  · cases e
theorem mi_as {h : mv_H} {k a : Nat} {i : Int32} {v : Value} {f : mv_H → Option mv_R} {r : mv_R} (e : mv_as h k a i v f = some r) : ∃ t n g, h.1 a = some (.inr (t, n, g)) ∧ mv_ak k t = true ∧ 0 ≤ i.toInt ∧ i.toInt < n ∧ f (mv_up h.1 a (some (.inr (t, n, mv_up g i.toInt.toNat v))), h.2) = some r := by
  unfold mv_as at e
  split at e
  · next t n g hc =>
    obtain ⟨h1, e⟩ := mi_chk e
    split at e
    · next hi => exact ⟨t, n, g, hc, h1, hi.1, hi.2, e⟩
    · cases e
  · cases e
theorem mi_aa {h : mv_H} {a b : Nat} {i : Int32} {f : mv_H → Option mv_R} {r : mv_R} (e : mv_aa h a i b f = some r) : ∃ c fs C n g, h.1 b = some (.inl (c, fs)) ∧ h.1 a = some (.inr (.object C, n, g)) ∧ mv_cn c = C ∧ 0 ≤ i.toInt ∧ i.toInt < n ∧ f (mv_up h.1 a (some (.inr (.object C, n, mv_up g i.toInt.toNat (.ref b)))), h.2) = some r := by
  unfold mv_aa at e
  split at e
  · next c fs hb =>
    split at e
    · next C n g ha =>
      obtain ⟨h1, e⟩ := mi_chk e
      split at e
      · next hi => exact ⟨c, fs, C, n, g, hb, ha, by simpa using h1, hi.1, hi.2, e⟩
      · cases e
    · cases e
  · cases e
theorem mi_newa {h : mv_H} {t : FieldType} {v : Value} {n : Int32} {f : Nat → mv_H → Option mv_R} {r : mv_R} (e : mv_newa h t v n f = some r) : 0 ≤ n.toInt ∧ n.toInt ≤ 65536 ∧ f h.2.1 (mv_up h.1 h.2.1 (some (.inr (t, n.toInt.toNat, fun _ => v))), h.2.1 + 1, h.2.2 + n.toInt.toNat) = some r := by
  unfold mv_newa at e
  split at e
  · next hi => exact ⟨hi.1, hi.2, e⟩
  · cases e
theorem mi_cpy {X : mv_X} {h : mv_H} {a0 a1 : Nat} {sp dp n : Int32} {f : mv_H → Option mv_R} {r : mv_R} (e : mv_cpy X h a0 sp a1 dp n f = some r) : ∃ t n0 g0 n1 g1, mv_cell X h a0 = some (.inr (t, n0, g0)) ∧ h.1 a1 = some (.inr (t, n1, g1)) ∧ mv_prim t = true ∧ 0 ≤ sp.toInt ∧ 0 ≤ dp.toInt ∧ 0 ≤ n.toInt ∧ sp.toInt + n.toInt ≤ n0 ∧ dp.toInt + n.toInt ≤ n1 ∧ (h.1 a0 ≠ none ∨ ∀ i, i < n.toInt.toNat → fits t (g0 (sp.toInt.toNat + i)) = true) ∧
    f (mv_up h.1 a1 (some (.inr (t, n1, mv_cpf g0 g1 sp.toInt.toNat dp.toInt.toNat n.toInt.toNat))), h.2) = some r := by
  unfold mv_cpy at e
  split at e
  · next t0 n0 g0 t1 n1 g1 h0 h1 =>
    obtain ⟨hp, e⟩ := mi_chk e
    split at e
    · next ht =>
      subst ht
      split at e
      · next hi =>
        obtain ⟨hf, e⟩ := mi_chk e
        refine ⟨t0, n0, g0, n1, g1, h0, h1, hp, hi.1, hi.2.1, hi.2.2.1, hi.2.2.2.1, hi.2.2.2.2, ?_, e⟩
        rw [Bool.or_eq_true, List.all_eq_true] at hf
        rcases hf with hf | hf
        · exact Or.inl fun z => by rw [z] at hf; cases hf
        · exact Or.inr fun i hi => hf i (List.mem_range.mpr hi)
      · cases e
    · cases e
  · cases e
theorem mi_cl {call : mv_G} {y : Nat} {as : List Value} {h : mv_H} {g : Nat → Nat → mv_H → Option mv_R} {f : Option Value → mv_H → Option mv_R} {r : mv_R} (e : mv_cl call y as h g f = some r) : (∃ v h', call y as h = some (.inl v, h') ∧ f v h' = some r) ∨ ∃ x q h', call y as h = some (.inr (x, q), h') ∧ g x q h' = some r := by
  unfold mv_cl at e
  split at e
  · next v h' hc => exact Or.inl ⟨v, h', hc, e⟩
  · next x q h' hc => exact Or.inr ⟨x, q, h', hc, e⟩
  · cases e
theorem mi_cal {rk : Nat} {call : mv_G} {y : Nat} {as : List Value} {h : mv_H} {g : Nat → Nat → mv_H → Option mv_R} {f : List Value → mv_H → Option mv_R} {r : mv_R} (e : mv_cal rk call y as h g f = some r) : (∃ v h', call y as h = some (.inl v, h') ∧ f v.toList h' = some r) ∨ ∃ x q h', call y as h = some (.inr (x, q), h') ∧ g x q h' = some r := by
  unfold mv_cal at e
  split at e
  · rcases mi_cl e with ⟨v, h', hc, e⟩ | h
    · cases v with
      | none => exact Or.inl ⟨none, h', hc, e⟩
      | some v => cases e
    · exact Or.inr h
  · rcases mi_cl e with ⟨v, h', hc, e⟩ | h
    · cases v with
      | none => cases e
      | some v => cases v <;> first | exact Or.inl ⟨_, h', hc, e⟩ | cases e
    · exact Or.inr h
  · rcases mi_cl e with ⟨v, h', hc, e⟩ | h
    · cases v with
      | none => cases e
      | some v => cases v <;> first | exact Or.inl ⟨_, h', hc, e⟩ | cases e
    · exact Or.inr h
  · rcases mi_cl e with ⟨v, h', hc, e⟩ | h
    · cases v with
      | none => cases e
      | some v => cases v <;> first | exact Or.inl ⟨_, h', hc, e⟩ | cases e
    · exact Or.inr h
  · rcases mi_cl e with ⟨v, h', hc, e⟩ | h
    · cases v with
      | none => cases e
      | some v => cases v <;> first | exact Or.inl ⟨_, h', hc, e⟩ | cases e
    · exact Or.inr h
  · rcases mi_cl e with ⟨v, h', hc, e⟩ | h
    · cases v with
      | none => cases e
      | some v => cases v <;> first | exact Or.inl ⟨_, h', hc, e⟩ | cases e
    · exact Or.inr h
  · cases e
theorem mi_cln {h : mv_H} {a : Nat} {f : Nat → mv_H → Option mv_R} {r : mv_R} (e : mv_cln h a f = some r) : ∃ n g, h.1 a = some (.inr (.byte, n, g)) ∧ f h.2.1 (mv_up h.1 h.2.1 (some (.inr (.byte, n, g))), h.2.1 + 1, h.2.2 + n) = some r := by
  unfold mv_cln at e
  split at e
  · next n g hc => exact ⟨n, g, hc, e⟩
  · cases e
theorem mi_isB {h : mv_H} {a : Nat} {f : Option mv_R} {r : mv_R} (e : mv_isB h a f = some r) : ∃ n g, h.1 a = some (.inr (.byte, n, g)) ∧ f = some r := by
  unfold mv_isB at e
  split at e
  · next n g hc => exact ⟨n, g, hc, e⟩
  · cases e
theorem mi_args {st : List Value} {n : Nat} {f : List Value → List Value → Option mv_R} {r : mv_R} (e : mv_args st n f = some r) : ∃ as rest, st = as.reverse ++ rest ∧ as.length = n ∧ (rest.map fun v => v.category).sum ≤ 8 ∧ (∀ v ∈ as, v.category = 1) ∧ True ∧ f as rest = some r := by
  obtain ⟨h1, e⟩ := mi_chk e
  simp only [Bool.and_eq_true, Nat.ble_eq, List.all_eq_true] at h1
  obtain ⟨⟨h1, h3⟩, h2⟩ := h1
  refine ⟨_, _, ?_, ?_, h2, ?_, trivial, e⟩
  · rw [List.reverse_reverse, List.take_append_drop]
  · rw [List.length_reverse, List.length_take]; omega
  · intro v hv
    exact Nat.eq_of_beq_eq_true (h3 v (List.mem_reverse.mp hv))
theorem mi_rcv {X : mv_X} {h : mv_H} {as : List Value} {c : Nat} {f : Option mv_R} {r : mv_R} (e : mv_rcv X h as c f = some r) : ∃ a t fs, as = .ref a :: t ∧ mv_cell X h a = some (.inl (c, fs)) ∧ f = some r := by
  unfold mv_rcv at e
  split at e
  · split at e
    · next a t q c' fs hc =>
      split at e
      · next hcc => subst hcc; exact ⟨_, _, _, rfl, hc, e⟩
      · cases e
    · cases e
  · cases e
theorem mi_isr {as : List Value} {f : Option mv_R} {r : mv_R} (e : mv_isr as f = some r) : ∃ a t, as = .ref a :: t ∧ f = some r := by
  unfold mv_isr at e
  split at e
  · exact ⟨_, _, rfl, e⟩
  · cases e
theorem mi_thr {hs : List (Nat × Nat × Nat × Nat × Nat)} {pc : Nat} {ls : List Value} {k : mv_K} {x q : Nat} {h : mv_H} {r : mv_R} (e : mv_thr hs pc ls k x q h = some r) : (r = (.inr (x, q), h) ∧ mv_hs hs pc x = none) ∨ ∃ t, mv_hs hs pc x = some t ∧ k t.1 (ls.set t.2 (.retAddr 0)) [] h = some r := by
  cases hs with
  | nil =>
    cases e
    exact Or.inl ⟨rfl, rfl⟩
  | cons z t =>
    have e : (match mv_hs (z :: t) pc x with
      | some t => k t.1 (ls.set t.2 (.retAddr 0)) [] h
      | none => mv_raise x q h) = some r := e
    cases hh : mv_hs (z :: t) pc x with
    | none =>
      rw [hh] at e
      cases e
      exact Or.inl ⟨rfl, rfl⟩
    | some t' =>
      rw [hh] at e
      exact Or.inr ⟨t', rfl, e⟩
theorem mi_lk {M : mv_M} {i : Nat} {f : mv_L → Option mv_R} {r : mv_R} (e : mv_lk M i f = some r) : ∃ q, mv_look M.2.2.2.2.1 16 i = some q ∧ f q = some r := by
  unfold mv_lk at e
  split at e
  · next q hq => exact ⟨q, hq, e⟩
  · cases e
theorem mi_find {α : Type} {l : List (Nat × α)} {n : Nat} {x : α} (e : mv_find l n = some x) : (n, x) ∈ l := by
  induction l with
  | nil => cases e
  | cons q r ih =>
    have e : (bif Nat.beq q.1 n then some q.2 else mv_find r n) = some x := e
    cases hb : Nat.beq q.1 n with
    | true =>
      rw [hb] at e
      cases e
      have := Nat.eq_of_beq_eq_true hb
      subst this
      exact List.mem_cons_self
    | false =>
      rw [hb] at e
      exact List.mem_cons_of_mem _ (ih e)
theorem mi_look {α : Type} {t : List (List (Nat × α))} {sh n : Nat} {x : α} (e : mv_look t sh n = some x) : ∃ l ∈ t, (n, x) ∈ l := by
  unfold mv_look at e
  split at e
  · next l hl => exact ⟨l, List.mem_of_getElem? hl, mi_find e⟩
  · cases e
theorem mi_hs {hs : List (Nat × Nat × Nat × Nat × Nat)} {pc e : Nat} {t : Nat × Nat} (h : mv_hs hs pc e = some t) : ∃ pre x suf, hs = pre ++ x :: suf ∧ (∀ z ∈ pre, ¬ (z.1 ≤ pc ∧ pc < z.2.1) ∨ z.2.2.2.1 ≠ e) ∧ x.1 ≤ pc ∧ pc < x.2.1 ∧ x.2.2.2.1 = e ∧ t = (x.2.2.1, x.2.2.2.2) := by
  induction hs with
  | nil => cases h
  | cons x r ih =>
    have h : (bif Nat.ble x.1 pc && Nat.blt pc x.2.1 && Nat.beq x.2.2.2.1 e then some (x.2.2.1, x.2.2.2.2) else mv_hs r pc e) = some t := h
    cases hb : Nat.ble x.1 pc && Nat.blt pc x.2.1 && Nat.beq x.2.2.2.1 e with
    | true =>
      rw [hb] at h
      simp only [Bool.and_eq_true, Nat.ble_eq, Nat.blt_eq] at hb
      cases h
      exact ⟨[], x, r, rfl, fun z hz => (nomatch hz), hb.1.1, hb.1.2, Nat.eq_of_beq_eq_true hb.2, rfl⟩
    | false =>
      rw [hb] at h
      obtain ⟨pre, x', suf, e1, e2, e3⟩ := ih h
      refine ⟨x :: pre, x', suf, by rw [e1]; rfl, fun z hz => ?_, e3⟩
      rcases List.mem_cons.mp hz with rfl | hz
      · by_cases q : z.1 ≤ pc ∧ pc < z.2.1
        · refine Or.inr fun he => ?_
          rw [Bool.and_eq_false_iff, Bool.and_eq_false_iff] at hb
          rcases hb with (hb | hb) | hb
          · have := Nat.ble_eq.mpr q.1; rw [hb] at this; cases this
          · have := Nat.blt_eq.mpr q.2; rw [hb] at this; cases this
          · rw [he] at hb
            have := Nat.beq_refl e
            rw [hb] at this; cases this
        · exact Or.inl q
      · exact e2 z hz
theorem mi_hn {hs : List (Nat × Nat × Nat × Nat × Nat)} {pc e : Nat} (h : mv_hs hs pc e = none) : ∀ z ∈ hs, ¬ (z.1 ≤ pc ∧ pc < z.2.1) ∨ z.2.2.2.1 ≠ e := by
  induction hs with
  | nil => intro z hz; cases hz
  | cons x r ih =>
    have h : (bif Nat.ble x.1 pc && Nat.blt pc x.2.1 && Nat.beq x.2.2.2.1 e then some (x.2.2.1, x.2.2.2.2) else mv_hs r pc e) = none := h
    cases hb : Nat.ble x.1 pc && Nat.blt pc x.2.1 && Nat.beq x.2.2.2.1 e with
    | true => rw [hb] at h; cases h
    | false =>
      rw [hb] at h
      intro z hz
      rcases List.mem_cons.mp hz with rfl | hz
      · by_cases q : z.1 ≤ pc ∧ pc < z.2.1
        · refine Or.inr fun he => ?_
          rw [Bool.and_eq_false_iff, Bool.and_eq_false_iff] at hb
          rcases hb with (hb | hb) | hb
          · have := Nat.ble_eq.mpr q.1; rw [hb] at this; cases this
          · have := Nat.blt_eq.mpr q.2; rw [hb] at this; cases this
          · rw [he] at hb
            have := Nat.beq_refl e
            rw [hb] at this; cases this
        · exact Or.inl q
      · exact ih h z hz
