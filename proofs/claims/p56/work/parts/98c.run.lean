/-! THE START, AS THE SMALL MACHINE HAS IT -/
noncomputable def lw_x1 (D : va_G) (s : State) (a : Nat) : Option mv_C :=
  @dite _ (∃ p : Nat × (Nat → Value), mv_ro D s a (.inr (.int, p.1, p.2)) s.heap) (Classical.propDecidable _) (fun h => some (.inr (.int, h.choose.1, h.choose.2))) fun _ =>
  @dite _ (∃ p : Nat × (Nat → Value), mv_ro D s a (.inr (.byte, p.1, p.2)) s.heap) (Classical.propDecidable _) (fun h => some (.inr (.byte, h.choose.1, h.choose.2))) fun _ =>
  @dite _ (∃ fs : List Value, fs.length = 2 ∧ mv_ro D s a (.inl (0, fs)) s.heap) (Classical.propDecidable _) (fun h => some (.inl (0, h.choose))) fun _ => none
section ENV2
variable {D : va_G} {s : State} {a b : Nat}
theorem lw_ro_lt {c : mv_C} (h : mv_ro D s a c s.heap) : a < s.heap.size := by
  cases c with
  | inl q =>
    obtain ⟨r, -, -, cell, hc, -⟩ := h
    exact (Array.getElem?_eq_some_iff.mp hc).1
  | inr q =>
    obtain ⟨cell, hc, -⟩ := h
    exact (Array.getElem?_eq_some_iff.mp hc).1
theorem lw_x1_ok {c : mv_C} (e : lw_x1 D s a = some c) : a < s.heap.size ∧ mv_ro D s a c s.heap := by
  unfold lw_x1 at e
  by_cases h1 : ∃ p : Nat × (Nat → Value), mv_ro D s a (.inr (.int, p.1, p.2)) s.heap
  · rw [dif_pos h1] at e
    cases e
    exact ⟨lw_ro_lt h1.choose_spec, h1.choose_spec⟩
  · rw [dif_neg h1] at e
    by_cases h2 : ∃ p : Nat × (Nat → Value), mv_ro D s a (.inr (.byte, p.1, p.2)) s.heap
    · rw [dif_pos h2] at e
      cases e
      exact ⟨lw_ro_lt h2.choose_spec, h2.choose_spec⟩
    · rw [dif_neg h2] at e
      by_cases h3 : ∃ fs : List Value, fs.length = 2 ∧ mv_ro D s a (.inl (0, fs)) s.heap
      · rw [dif_pos h3] at e
        cases e
        exact ⟨lw_ro_lt h3.choose_spec.2, h3.choose_spec.2⟩
      · rw [dif_neg h3] at e
        cases e
theorem lw_ro_u {t : FieldType} {n n' : Nat} {g g' : Nat → Value} (h : mv_ro D s a (.inr (t, n, g)) s.heap) (h' : mv_ro D s a (.inr (t, n', g')) s.heap) : n' = n ∧ ∀ j, j < n → g' j = g j := by
  obtain ⟨cell, c1, c2, c3, c4, c5⟩ := h
  obtain ⟨cell', d1, d2, d3, d4, d5⟩ := h'
  cases c1.symm.trans d1
  have e : n' = n := d4.symm.trans c4
  refine ⟨e, fun j hj => ?_⟩
  have h1 := c5 j hj
  have h2 := d5 j (by show j < n'; omega)
  exact Option.some.inj (h2.symm.trans h1)
theorem lw_x1_I {n : Nat} {g : Nat → Value} (h : mv_ro D s a (.inr (.int, n, g)) s.heap) : ∃ g' : Nat → Value, lw_x1 D s a = some (.inr (.int, n, g')) ∧ ∀ j, j < n → g' j = g j := by
  have h1 : ∃ p : Nat × (Nat → Value), mv_ro D s a (.inr (.int, p.1, p.2)) s.heap := ⟨(n, g), h⟩
  obtain ⟨e1, e2⟩ := lw_ro_u h h1.choose_spec
  refine ⟨h1.choose.2, ?_, e2⟩
  unfold lw_x1
  rw [dif_pos h1, e1]
theorem lw_x1_B {n : Nat} {g : Nat → Value} (h : mv_ro D s a (.inr (.byte, n, g)) s.heap) : ∃ g' : Nat → Value, lw_x1 D s a = some (.inr (.byte, n, g')) ∧ ∀ j, j < n → g' j = g j := by
  have h0 : ¬ ∃ p : Nat × (Nat → Value), mv_ro D s a (.inr (.int, p.1, p.2)) s.heap := fun ⟨p, hp⟩ => by
    obtain ⟨cell, c1, c2, c3, c4, c5⟩ := h
    obtain ⟨cell', d1, d2, d3, d4, d5⟩ := hp
    cases c1.symm.trans d1
    obtain ⟨-, k1, k2, comp1, k3⟩ := c2
    obtain ⟨-, k4, k5, comp2, k6⟩ := d2
    cases k2.symm.trans k5
    have e := k3.symm.trans k6
    cases e
  have h1 : ∃ p : Nat × (Nat → Value), mv_ro D s a (.inr (.byte, p.1, p.2)) s.heap := ⟨(n, g), h⟩
  obtain ⟨e1, e2⟩ := lw_ro_u h h1.choose_spec
  refine ⟨h1.choose.2, ?_, e2⟩
  unfold lw_x1
  rw [dif_neg h0, dif_pos h1, e1]
theorem lw_x1_S (hD : va_K D vwCl [] s) {fs : List Value} (hl : fs.length = 2) (h : mv_ro D s a (.inl (0, fs)) s.heap) : ∃ fs' : List Value, lw_x1 D s a = some (.inl (0, fs')) ∧ fs'.length = 2 ∧ ∀ k, k < 2 → vp_V fs' k = vp_V fs k := by
  have hk := (hD.1 0 (RJ0, TJ0, 4) rfl).2
  have hno : ∀ (t : FieldType) (p : Nat × (Nat → Value)), ¬ mv_ro D s a (.inr (t, p.1, p.2)) s.heap := fun t p hp => by
    obtain ⟨r, r1, r2, cell, c1, c2, -⟩ := h
    obtain ⟨cell', d1, d2, -⟩ := hp
    cases c1.symm.trans d1
    obtain ⟨-, k4, k5, comp2, k6⟩ := d2
    obtain ⟨-, kC, k7, k8⟩ := hk
    have c2 : cell.cls = D.1 0 := c2
    rw [c2] at k5
    cases k5.symm.trans k7
    have e := k6.symm.trans k8
    cases e
  have h1 : ∃ fs : List Value, fs.length = 2 ∧ mv_ro D s a (.inl (0, fs)) s.heap := ⟨fs, hl, h⟩
  have hs := h1.choose_spec
  refine ⟨h1.choose, ?_, ?_, ?_⟩
  · unfold lw_x1
    rw [dif_neg (fun ⟨p, hp⟩ => hno _ p hp), dif_neg (fun ⟨p, hp⟩ => hno _ p hp), dif_pos h1]
  · exact hs.1
  · intro k hk2
    obtain ⟨r, r1, r2, cell, c1, c2, c3, c4⟩ := h
    obtain ⟨hs0, r', r1', r2', cell', d1, d2, d3, d4⟩ := hs
    cases c1.symm.trans d1
    exact Option.some.inj ((d4 k (by show k < h1.choose.length; omega)).symm.trans (c4 k (by show k < fs.length; omega)))
/-- a row of bytes from the start -/
theorem lw_ro_B {N : Nat} {f : Nat → Value} (h : va_T .byte a N f (fun q => s.heap.size ≤ q) s s.heap) : ∃ (n : Nat) (g : Nat → Value), mv_ro D s a (.inr (.byte, n, g)) s.heap ∧ (N ≤ n ∧ nZ n = nZ N) ∧ a < s.heap.size ∧ ∀ j, j < N → g j = f j := by
  obtain ⟨cell, h1, h2, h3, h4, h5, h6, h7⟩ := h
  have nz : ∀ q : Nat, nZ (q : Int) = Int32.ofNat q := fun q => by
    apply Int32.toBitVec_inj.mp
    show BitVec.ofInt 32 (q : Int) = BitVec.ofNat 32 q
    exact BitVec.ofInt_natCast 32 q
  refine ⟨cell.slots.size, fun j => (cell.slots[j]?).getD .null, ⟨cell, h1, h2, h3, rfl, fun j hj => ?_⟩, ⟨h4, ?_⟩, Nat.not_le.mp h7, fun j hj => ?_⟩
  · have hj : j < cell.slots.size := hj
    show cell.slots[j]? = some ((cell.slots[j]?).getD .null)
    rw [Array.getElem?_eq_getElem hj]
    rfl
  · rw [nz, nz]
    exact h5
  · show (cell.slots[j]?).getD .null = f j
    rw [h6 j hj]
    rfl
/-- a text from the start -/
theorem lw_ro_S (hD : va_K D vwCl [] s) {v : Nat} (h1 : va_O "java/lang/String" a (fun q => s.heap.size ≤ q) s s.heap) (h2 : va_OF "java/lang/String" "coder" "B" (.int 0) a (fun q => s.heap.size ≤ q) s s.heap) (h3 : va_OF "java/lang/String" "value" "[B" (.ref v) a (fun q => s.heap.size ≤ q) s s.heap) : mv_ro D s a (.inl (0, [.ref v, .int 0])) s.heap := by
  obtain ⟨hsl, hcl, -⟩ := hD.1 0 (RJ0, TJ0, 4) rfl
  obtain ⟨cell, a1, a2, a3, a4⟩ := h1
  obtain ⟨cf, kf, fi, f, cell2, b1, b2, b3, b4, b5, b6⟩ := h2
  obtain ⟨cf', kf', fi', f', cell3, d1, d2, d3, d4, d5, d6⟩ := h3
  cases a1.symm.trans b3
  cases a1.symm.trans d3
  refine ⟨(RJ0, TJ0, 4), rfl, (show 2 ≤ 4 by decide), cell, a1, Option.some.inj (a3.symm.trans hcl), ⟨b4, a2⟩, fun k hk => ?_⟩
  have hk : k < 2 := hk
  obtain ⟨cg, kg, gi, g, e1, e2⟩ := hsl k (show k < 4 by omega)
  have hk2 : k = 0 ∨ k = 1 := by omega
  rcases hk2 with rfl | rfl
  · have e1 : s.fieldFound? "java/lang/String" "value" "[B" = some (cg, kg, gi, g) := e1
    cases d1.symm.trans e1
    rw [← e2]
    exact d5
  · have e1 : s.fieldFound? "java/lang/String" "coder" "B" = some (cg, kg, gi, g) := e1
    cases b1.symm.trans e1
    rw [← e2]
    exact b5
/-- .. as the small machine has it -/
theorem lw_mS (hD : va_K D vwCl [] s) {args : Array Value} (hs : ∀ w ∈ lw_nw, w.before args s = true) {C : String} {k base n i : Nat} {l : List Int} {li : List Int32} {f : Nat → Nat} {u : Nat → Value} (hl : li = l.map nZ) (hr : ∀ y ∈ l, 0 ≤ y ∧ y ≤ 127) (hn : li.length ≤ 100) (hc : (lw_nw.drop base).take n = lw_se C k li) (ha : (Term.string C k).eval args s none [] s = some (.ref (f i))) : mx_S (lw_x1 D s, f, u) s.heap.size i l := by
  obtain ⟨v, g1, g2, g3, g4⟩ := lw_sg hs hn hc ha
  obtain ⟨N, gg, k1, k2, k3, k4⟩ := lw_ro_B (D := D) g4
  obtain ⟨g', m1, m2⟩ := lw_x1_B k1
  have q1 := lw_ro_S hD g1 g2 g3
  obtain ⟨fs, p1, p2, p3⟩ := lw_x1_S hD rfl q1
  have hll : li.length = l.length := by rw [hl, List.length_map]
  rw [hll] at k2
  match fs, p2, p1, p3 with
  | [y0, y1], _, p1, p3 =>
    have e0 : y0 = .ref v := p3 0 (by decide)
    have e1 : y1 = .int 0 := p3 1 (by decide)
    refine ⟨v, N, [y0, y1], g', lw_ro_lt q1, k3, p1, by rw [e0]; rfl, by rw [e1]; rfl, m1, k2, by omega, fun j y hj => ?_⟩
    have hjl : j < l.length := (List.getElem?_eq_some_iff.mp hj).1
    have hm : y ∈ l := List.mem_of_getElem? hj
    refine ⟨?_, (hr y hm).1, (hr y hm).2⟩
    rw [m2 j (by omega), k4 j (by omega), hl]
    show Value.int ((l.map nZ).getD j 0) = .int (nZ y)
    rw [List.getD_eq_getElem?_getD, List.getElem?_map, hj]
    rfl
/-- the digits -/
theorem lw_mD {d : Int → Int} {li : List Int32} {v : Nat} {u : Nat → Value} (hd : ∀ j : Nat, j < 100 → li.getD j 0 = nZ (48 + d j)) (h : va_T .byte v 100 (fun j => .int (li.getD j 0)) (fun q => s.heap.size ≤ q) s s.heap) {k : Nat} (hu : u k = .ref v) : ∃ (t N : Nat) (g : Nat → Value), t < s.heap.size ∧ u k = .ref t ∧ lw_x1 D s t = some (.inr (.byte, N, g)) ∧ 100 ≤ N ∧ ∀ j : Nat, j < 100 → g j = .int (nZ (48 + d j)) := by
  obtain ⟨N, gg, k1, k2, k3, k4⟩ := lw_ro_B (D := D) h
  obtain ⟨g', m1, m2⟩ := lw_x1_B k1
  refine ⟨v, N, g', k3, hu, m1, k2.1, fun j hj => ?_⟩
  rw [m2 j (by omega), k4 j hj, hd j hj]
end ENV2
theorem lw_run {D : va_G} {s : State} {args : Array Value} {b L : Nat} {xs : Nat → Int32} {f : Nat → Nat} {u : Nat → Value} (hD : va_K D vwCl [] s) (hs : ∀ w ∈ lw_nw, w.before args s = true) (hf : ∀ (n : Nat) (q : String × Nat × String), mv_sn n = some q → (Term.string q.1 q.2.1).eval args s none [] s = some (.ref (f n))) (hL : L ≤ 260) (hx : va_X b L xs s s.heap) (h0 : u 0 = .int 1)
    (h1 : ∃ v : Nat, u 1 = .ref v ∧ va_T .byte v 100 (fun j => .int (lw_lDigitOnes.getD j 0)) (fun q => s.heap.size ≤ q) s s.heap) (h2 : ∃ v : Nat, u 2 = .ref v ∧ va_T .byte v 100 (fun j => .int (lw_lDigitTens.getD j 0)) (fun q => s.heap.size ≤ q) s s.heap) (h3 : mv_nr (u 3) = true) :
    ∃ h' : mv_H, mv_run (lw_x1 D s, f, u) (mv_call (lw_x1 D s, f, u) 24) m_L_law 0 ([Value.ref b] ++ List.replicate 29 (.retAddr 0)) [] ((fun _ => none), s.heap.size, 0) = some (.inl (some (.int 1)), h') ∧ h'.2.1 ≤ s.heap.size + 864245 ∧ h'.2.2 ≤ 6499946 := by
  obtain ⟨v1, u1, T1⟩ := h1
  obtain ⟨v2, u2, T2⟩ := h2
  have hW : mx_W (lw_x1 D s, f, u) (fun _ => none, fun _ _ => none) s.heap.size := ⟨fun _ _ => rfl, h0, lw_mD (D := D) (d := fun j => j % 10) (by decide +kernel) T1 u1, lw_mD (D := D) (d := fun j => j / 10) (by decide +kernel) T2 u2, h3⟩
  have s21 : mx_S (lw_x1 D s, f, u) s.heap.size 21 [109, 111, 111, 114, 32, 68, 32, 78, 32, 78, 32, 78] := lw_mS hD hs rfl (by decide) (by decide) lw_k21 (hf 21 _ rfl)
  have s22 : mx_S (lw_x1 D s, f, u) s.heap.size 22 [99, 97, 115, 116, 32, 68] := lw_mS hD hs rfl (by decide) (by decide) lw_k22 (hf 22 _ rfl)
  have s23 : mx_S (lw_x1 D s, f, u) s.heap.size 23 [108, 111, 97, 100, 32, 68, 32, 78] := lw_mS hD hs rfl (by decide) (by decide) lw_k23 (hf 23 _ rfl)
  have s24 : mx_S (lw_x1 D s, f, u) s.heap.size 24 [100, 114, 111, 112, 32, 68, 32, 68] := lw_mS hD hs rfl (by decide) (by decide) lw_k24 (hf 24 _ rfl)
  have s25 : mx_S (lw_x1 D s, f, u) s.heap.size 25 [114, 105, 115, 101, 32, 68, 32, 78] := lw_mS hD hs rfl (by decide) (by decide) lw_k25 (hf 25 _ rfl)
  have s26 : mx_S (lw_x1 D s, f, u) s.heap.size 26 [119, 105, 110, 100, 32, 78, 61, 83] := lw_mS hD hs rfl (by decide) (by decide) lw_k26 (hf 26 _ rfl)
  have s27 : mx_S (lw_x1 D s, f, u) s.heap.size 27 [119, 97, 105, 116, 32, 78] := lw_mS hD hs rfl (by decide) (by decide) lw_k27 (hf 27 _ rfl)
  have s28 : mx_S (lw_x1 D s, f, u) s.heap.size 28 [112, 105, 108, 111, 116, 32, 78, 32, 78, 45, 78] := lw_mS hD hs rfl (by decide) (by decide) lw_k28 (hf 28 _ rfl)
  have s29 : mx_S (lw_x1 D s, f, u) s.heap.size 29 [108, 101, 97, 118, 101, 32, 68] := lw_mS hD hs rfl (by decide) (by decide) lw_k29 (hf 29 _ rfl)
  have s43 : mx_S (lw_x1 D s, f, u) s.heap.size 43 [108, 111, 97, 100, 32] := lw_mS hD hs rfl (by decide) (by decide) lw_k43 (hf 43 _ rfl)
  have s44 : mx_S (lw_x1 D s, f, u) s.heap.size 44 [32] := lw_mS hD hs rfl (by decide) (by decide) lw_k44 (hf 44 _ rfl)
  have s45 : mx_S (lw_x1 D s, f, u) s.heap.size 45 [59, 119, 97, 105, 116, 32, 49] := lw_mS hD hs rfl (by decide) (by decide) lw_k45 (hf 45 _ rfl)
  have s46 : mx_S (lw_x1 D s, f, u) s.heap.size 46 [59, 100, 114, 111, 112, 32] := lw_mS hD hs rfl (by decide) (by decide) lw_k46 (hf 46 _ rfl)
  have s47 : mx_S (lw_x1 D s, f, u) s.heap.size 47 [32, 48] := lw_mS hD hs rfl (by decide) (by decide) lw_k47 (hf 47 _ rfl)
  have s48 : mx_S (lw_x1 D s, f, u) s.heap.size 48 [59, 114, 105, 115, 101, 32] := lw_mS hD hs rfl (by decide) (by decide) lw_k48 (hf 48 _ rfl)
  have s49 : mx_S (lw_x1 D s, f, u) s.heap.size 49 [59] := lw_mS hD hs rfl (by decide) (by decide) lw_k49 (hf 49 _ rfl)
  have hS9 : ∀ k, k < 9 → mx_S (lw_x1 D s, f, u) s.heap.size (21 + k) (fm_l k) := fun k hk => by
    rcases mc_k9 hk with rfl | rfl | rfl | rfl | rfl | rfl | rfl | rfl | rfl
    · exact s21
    · exact s22
    · exact s23
    · exact s24
    · exact s25
    · exact s26
    · exact s27
    · exact s28
    · exact s29
  have hT : tx_H (lw_x1 D s, f, u) s.heap.size := ⟨s43, s44, s45, s46, s47, s48, s49⟩
  obtain ⟨scr, x1, x2, x3, x4, x5⟩ := hx
  have hro : mv_ro D s b (.inr (.int, L, fun j => .int (xs j))) s.heap := ⟨scr, x1, x2, x3, x4, x5⟩
  obtain ⟨g', m1, m2⟩ := lw_x1_I hro
  exact pl_all hW ⟨lw_ro_lt hro, L, g', hL, m1, fun j hj => ⟨xs j, m2 j hj⟩⟩ hT hS9
set_option maxRecDepth 10000 in
theorem whole_start {p : Program} {e : Env} {s : State} {m : MethodId} {below : List Frame} {meth : Method} {c : Code} (l : Launch) (hflags : l.flags = flags0) {b L : Nat} {xs : Nat → Int32} (hL : L ≤ 260) (C0 : lw_At p s m meth c b L xs) : W p l e room_1 s m #[Value.ref b] below meth c s.heap [] 0 0 (lw_Z below #[Value.ref b] s) (entryFrame m ([Value.ref b] : List Value).toArray 30) := by
  obtain ⟨-, -, -, -, -, hts, hx, -, -, hpre, -, -⟩ := id C0
  have hs : ∀ w ∈ lw_nw, w.before #[Value.ref b] s = true := flat_of_before _ hpre
  obtain ⟨D, hD⟩ := lw_D hts
  have hch : ∀ n : Nat, ∃ a : Nat, ∀ q : String × Nat × String, mv_sn n = some q → (Term.string q.1 q.2.1).eval #[Value.ref b] s none [] s = some (.ref a) := fun n => by
    cases hq : mv_sn n with
    | none => exact ⟨0, fun q h => by cases h⟩
    | some q =>
      obtain ⟨a, ha⟩ := lw_ss hs n q hq
      exact ⟨a, fun q' h => by cases h; exact ha⟩
  obtain ⟨f, hf⟩ := Classical.axiomOfChoice hch
  obtain ⟨u, hu, u0, u1, u2, u3⟩ := lw_stt hts hs
  obtain ⟨h', hrun, r1, r2⟩ := lw_run hD hs hf hL hx u0 u1 u2 u3
  have hst : l.stackTraces = false := by
    unfold Launch.stackTraces
    rw [hflags]
    decide +kernel
  have G : mv_GL D l s #[Value.ref b] (lw_x1 D s, f, u) := ⟨hst, hts, hD, fun a c e => lw_x1_ok e, fun n q h => vk_R.of (lw_sr hts n q h) (hf n q h), hu, (lw_us hts hs).1, (lw_us hts hs).2, lw_nc hs, lw_ao hts⟩
  exact lw_go mv_all mv_plains (mv_all 380 n_L_law m_L_law rfl rfl) C0 G (show 24 ≤ 1000 by decide) hrun r1 r2
