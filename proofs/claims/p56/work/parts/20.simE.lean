section SIME
variable {D : va_G} {l : Launch} {s0 : State} {a0 : Array Value} {X : mv_X} {p : Program} {e : Env} {R : Room} {s : State} {m : MethodId} {args : Array Value} {below : List Frame} {meth : Method} {c : Code} {N : mv_N} {M : mv_M} {r : mv_R} {pc pc2 : Nat} {ls st st2 : List Value} {h : mv_H}
theorem mv_hlen (C : mv_Cx D l s0 a0 X p s m meth c N M) : N.2.2.2.length = M.2.2.2.2.2.length := by
  have h1 := C.2.2.2.2.2.2.2.2.2.2.1.1
  simp only [mv_mck, Bool.and_eq_true] at h1
  exact Nat.eq_of_beq_eq_true h1.1.1.2
theorem mv_hz (C : mv_Cx D l s0 a0 X p s m meth c N M) {i : Nat} {w : Nat × Nat × Nat × Nat} {z : Nat × Nat × Nat × Nat × Nat} (hw : N.2.2.2[i]? = some w) (hz : M.2.2.2.2.2[i]? = some z) : mv_hck N M w z = true := by
  have h1 := C.2.2.2.2.2.2.2.2.2.2.1.1
  simp only [mv_mck, Bool.and_eq_true, List.all_eq_true] at h1
  exact h1.1.2 (w, z) (List.mem_of_getElem? (i := i) (by rw [List.getElem?_zip_eq_some]; exact ⟨hw, hz⟩))
theorem mv_hcl (C : mv_Cx D l s0 a0 X p s m meth c N M) {w : Nat × Nat × Nat × Nat} {z : Nat × Nat × Nat × Nat × Nat} (h : mv_hck N M w z = true) : w.1 = z.1 ∧ w.2.1 = z.2.1 ∧ w.2.2.2 ≠ 0 ∧ z.2.2.2.2 < M.1 ∧ M.2.1 = false ∧ z.2.2.2.1 < 6 ∧ (Cond.classLink N.1.cls w.2.2.2 (mv_en z.2.2.2.1)).before args s = true ∧
    ((∃ k : Fin 4, decode N.2.1 w.2.2.1 = .ok (.astore_n k, 1) ∧ (k : Nat) = z.2.2.2.2 ∧ z.2.2.1 = w.2.2.1 + 1) ∨ (∃ k : Nat, decode N.2.1 w.2.2.1 = .ok (.astore k, 2) ∧ k = z.2.2.2.2 ∧ z.2.2.1 = w.2.2.1 + 2)) := by
  simp only [mv_hck, Bool.and_eq_true] at h
  obtain ⟨⟨⟨⟨⟨⟨⟨h1, h2⟩, h3⟩, h4⟩, h5⟩, h6⟩, h7⟩, h8⟩ := h
  have g1 := Nat.eq_of_beq_eq_true h1
  have g2 := Nat.eq_of_beq_eq_true h2
  have g3 : w.2.2.2 ≠ 0 := fun hh => by rw [hh] at h3; cases h3
  have g4 : z.2.2.2.2 < M.1 := by simpa [Nat.blt_eq] using h4
  have g5 : M.2.1 = false := by simpa using h5
  have g6 : z.2.2.2.1 < 6 := by simpa [Nat.blt_eq] using h6
  refine ⟨g1, g2, g3, g4, g5, g6, ?_, ?_⟩
  · cases hk : mv_look M.2.2.2.2.1 16 w.2.2.2 with
    | none => rw [hk] at h7; cases h7
    | some y =>
      rw [hk] at h7
      have h7 : (Nat.beq y.1 11 && Nat.beq y.2.1 z.2.2.2.1) = true := h7
      rw [Bool.and_eq_true] at h7
      obtain ⟨kd, hs, hw⟩ := mv_link C (args := args) hk
      obtain ⟨t, x, y'⟩ := y
      have e1 : t = 11 := Nat.eq_of_beq_eq_true h7.1
      have e2 : x = z.2.2.2.1 := Nat.eq_of_beq_eq_true h7.2
      subst e1
      rw [← e2]
      exact hw _ List.mem_cons_self
  · split at h8
    · next k hk =>
      rw [Bool.and_eq_true] at h8
      exact Or.inl ⟨k, hk, Nat.eq_of_beq_eq_true h8.1, Nat.eq_of_beq_eq_true h8.2⟩
    · next k hk =>
      rw [Bool.and_eq_true] at h8
      exact Or.inr ⟨k, hk, Nat.eq_of_beq_eq_true h8.1, Nat.eq_of_beq_eq_true h8.2⟩
    · cases h8
theorem mv_tb (C : mv_Cx D l s0 a0 X p s m meth c N M) : c.exceptionTable.toList = N.2.2.2.map fun q => ⟨q.1, q.2.1, q.2.2.1, q.2.2.2⟩ := C.2.2.2.2.2.2.2.2.2.1
theorem mv_pass (C : mv_Cx D l s0 a0 X p s m meth c N M) {i x : Nat} {w : Nat × Nat × Nat × Nat} {z : Nat × Nat × Nat × Nat × Nat} (hx : x < 6) (hw : N.2.2.2[i]? = some w) (hz : M.2.2.2.2.2[i]? = some z) (hn : ¬ (z.1 ≤ pc ∧ pc < z.2.1) ∨ z.2.2.2.1 ≠ x) :
    covers ⟨w.1, w.2.1, w.2.2.1, w.2.2.2⟩ pc = false ∨ (w.2.2.2 ≠ 0 ∧ ∃ nm : String, (Cond.classLink N.1.cls w.2.2.2 nm).before args s = true ∧ va_Nc (mv_en x) nm s) := by
  obtain ⟨g1, g2, g3, g4, g5, g6, g7, -⟩ := mv_hcl C (args := args) (mv_hz C hw hz)
  rcases hn with hn | hn
  · left
    show (decide (w.1 ≤ pc) && decide (pc < w.2.1)) = false
    rw [g1, g2, Bool.and_eq_false_iff, decide_eq_false_iff_not, decide_eq_false_iff_not]
    omega
  · right
    exact ⟨g3, _, g7, va_Nc.moved (mv_alike C) (C.1.2.2.2.2.2.2.2.2.1 x z.2.2.2.1 hx g6 (fun h => hn h.symm))⟩
/-- a call, whatever its kind: 'hrun' is what the kit says of it -/
theorem mv_callG (C : mv_Cx D l s0 a0 X p s m meth c N M) {call : mv_G} {d y rk : Nat} (hcall : mv_CallOK D l s0 d call) {k : mv_K} (ih : ∀ pc ls st h, k pc ls st h = some r → mv_Go D s0 p l e R s m args below meth c M r pc ls st h) {as rest stx : List Value}
    (ec : mv_cal rk call y as h (mv_thr M.2.2.2.2.2 pc ls k) (fun vs h' => k (pc + 3) ls (vs ++ rest) h') = some r)
    (hrun : ∀ (r1 : mv_R) (H : Heap) (locs : List Loc) (cells slots : Nat) (rls : Array Slot), call y as h = some r1 → mv_HR D s0 h H → mv_lr M.2.1 M.1 ls rls → cells + (r1.2.2.1 - h.2.1) ≤ R.cells → slots + (r1.2.2.2 - h.2.2) ≤ R.slots →
      vx_Run p l e R s m args below meth c H locs cells slots (r1.2.2.1 - h.2.1) (r1.2.2.2 - h.2.2) (F0 m pc rls stx) rest (mv_Qc D s0 r1 as.toArray) (mv_XC D s0 r1) (fun q => s0.heap.size ≤ q)) : mv_Go D s0 p l e R s m args below meth c M r pc ls stx h := by
  rcases mi_cal ec with ⟨v, h1, hc, e1⟩ | ⟨x, q, h1, hc, e1⟩
  · have hle : mv_Le h h1 := (hcall _ _ _ _ hc).1
    have G := ih _ _ _ _ e1
    have hle2 : mv_Le h1 r.2 := G.1
    obtain ⟨u1, u2⟩ := hle
    obtain ⟨v1, v2⟩ := hle2
    refine ⟨⟨by omega, by omega⟩, fun H locs cells slots mc ms rls hr a2 a3 a4 a5 a6 a7 a8 => ?_⟩
    have hR := hrun _ H locs cells slots rls hc hr a2 (by show cells + (h1.2.1 - h.2.1) ≤ R.cells; omega) (by show slots + (h1.2.2 - h.2.2) ≤ R.slots; omega)
    intro T hT Y
    rcases hR T hT Y with ⟨v', st₀, t, T', L, h0, Y', hL, z1, z2, ⟨w, hw1, hw2, hw3⟩, go⟩ | ⟨q, st₀, t, T', L, E, ce, h0, Y', hL, z1, z2, ⟨x, q', hx1, -⟩, -⟩
    · cases hw1
      cases hw2
      have hr1 : mv_HR D s0 h1 T'.heap := by rw [z1]; exact hw3
      obtain ⟨t2, b1, b2⟩ := G.2 T'.heap (locs ++ L) (cells + (h1.2.1 - h.2.1)) (slots + (h1.2.2 - h.2.2)) mc ms rls hr1 a2 (fun z hz => by
        rcases List.mem_append.mp hz with hz | hz
        · exact a3 z hz
        · exact hL z hz) (by omega) (by omega) (by omega) a7 a8 T' rfl Y'
      exact ⟨t2, go t2 b1, b2⟩
    · cases hx1
  · have hle : mv_Le h h1 := (hcall _ _ _ _ hc).1
    obtain ⟨u1, u2⟩ := hle
    have key : mv_Le h1 r.2 ∧ (x < 6 → ∀ (H1 : Heap) (locs1 : List Loc) (cells1 slots1 mc ms : Nat) (rls : Array Slot) (q9 : Addr) (ce : Cell), mv_HR D s0 h1 H1 → mv_lr M.2.1 M.1 ls rls → (∀ q ∈ locs1, s0.heap.size ≤ q.base) → s.heap.size ≤ h1.2.1 → cells1 + (r.2.2.1 - h1.2.1) ≤ mc → slots1 + (r.2.2.2 - h1.2.2) ≤ ms → mc ≤ R.cells → ms ≤ R.slots → H1[q9]? = some ce → ce.vm = .none → s.vm.findClass (mv_en x) = some ce.cls →
        vx_W p l e R s m args below meth c H1 locs1 cells1 slots1 (vx_MQ below (mv_Qc D s0 r) (mv_XC D s0 r) args s mc ms (fun q => s0.heap.size ≤ q)) (F0 m pc rls rest) q9) := by
      rcases mi_thr e1 with ⟨rfl, hn⟩ | ⟨t, ht, e2⟩
      · refine ⟨⟨Nat.le_refl _, Nat.le_refl _⟩, fun hx H1 locs1 cells1 slots1 mc ms rls q9 ce hr a2 a3 a4 a5 a6 a7 a8 g1 g2 g3 => ?_⟩
        refine vx_outP C.2.2.2.2.2.2.1 C.2.2.2.2.2.2.2.1 (fun z hz => ?_) g1 g2 g3 (fun t ht _ => ⟨x, q, rfl, hx, rfl, by rw [ht]; exact hr⟩) a3 (by omega) (by omega)
        rw [mv_tb C] at hz
        obtain ⟨w, hw, rfl⟩ := List.mem_map.mp hz
        obtain ⟨i, hi⟩ := List.mem_iff_getElem?.mp hw
        have hlt : i < M.2.2.2.2.2.length := by rw [← mv_hlen C]; exact (List.getElem?_eq_some_iff.mp hi).1
        have hz2 := List.getElem?_eq_getElem hlt
        exact mv_pass C hx hi hz2 (mi_hn hn _ (List.mem_of_getElem? hz2))
      · have G := ih _ _ _ _ e2
        refine ⟨G.1, fun hx H1 locs1 cells1 slots1 mc ms rls q9 ce hr a2 a3 a4 a5 a6 a7 a8 g1 g2 g3 => ?_⟩
        obtain ⟨pre, z, suf, hs, hpre, y1, y2, y3, y4⟩ := mi_hs ht
        have hz : M.2.2.2.2.2[pre.length]? = some z := by rw [hs]; simp
        have hlt : pre.length < N.2.2.2.length := by rw [mv_hlen C]; exact (List.getElem?_eq_some_iff.mp hz).1
        have hw := List.getElem?_eq_getElem hlt
        obtain ⟨g1', g2', g3', g4', g5', g6', g7', g8'⟩ := mv_hcl C (args := args) (mv_hz C hw hz)
        subst y4
        have hsplit : c.exceptionTable.toList = (N.2.2.2.take pre.length).map (fun q => (⟨q.1, q.2.1, q.2.2.1, q.2.2.2⟩ : ExceptionTableEntry)) ++ (⟨N.2.2.2[pre.length].1, N.2.2.2[pre.length].2.1, N.2.2.2[pre.length].2.2.1, N.2.2.2[pre.length].2.2.2⟩ : ExceptionTableEntry) :: (N.2.2.2.drop (pre.length + 1)).map (fun q => (⟨q.1, q.2.1, q.2.2.1, q.2.2.2⟩ : ExceptionTableEntry)) := by
          rw [mv_tb C]
          conv => lhs; rw [← List.take_append_drop pre.length N.2.2.2, List.drop_eq_getElem_cons hlt]
          rw [List.map_append, List.map_cons]
        refine vx_catch (own := N.1.cls) (name := mv_en z.2.2.2.1) (E := mv_en x) C.2.2.2.2.2.2.1 _ _ _ hsplit (fun z' hz' => ?_) ?_ g3' g7' ?_ g1 g2 g3 ?_
        · obtain ⟨w, hw, rfl⟩ := List.mem_map.mp hz'
          obtain ⟨i, hi⟩ := List.mem_iff_getElem?.mp hw
          have hi2 : i < pre.length := by
            have := (List.getElem?_eq_some_iff.mp hi).1
            rw [List.length_take] at this
            omega
          rw [List.getElem?_take_of_lt hi2] at hi
          have hz2 : M.2.2.2.2.2[i]? = some pre[i] := by rw [hs, List.getElem?_append_left hi2]; exact List.getElem?_eq_getElem hi2
          exact mv_pass C hx hi hz2 (hpre _ (List.getElem_mem hi2))
        · show (decide (N.2.2.2[pre.length].1 ≤ pc) && decide (pc < N.2.2.2[pre.length].2.1)) = true
          rw [g1', g2', Bool.and_eq_true, decide_eq_true_eq, decide_eq_true_eq]
          exact ⟨y1, y2⟩
        · rw [y3]
          exact vx_ot_at_w C (by rfl) (mv_cast_ok hx)
        · have hlsl : z.2.2.2.2 < M.1 := g4'
          have hset : ∀ rls', lv_has rls' M.1 ((z.2.2.2.2, Value.ref q9) :: (mv_prs ls).filter (fun q => !(q.1 == z.2.2.2.2) && !(q.1 + 1 == z.2.2.2.2 && q.2.category == 2))) → mv_lr M.2.1 M.1 (ls.set z.2.2.2.2 (.retAddr 0)) rls' := fun rls' hh => mv_lr_set a2 (v := .ref q9) rfl (Or.inr rfl) (fun hw => by rw [g5'] at hw; cases hw) hh
          rcases g8' with ⟨k', hd, hk, hp⟩ | ⟨k', hd, hk, hp⟩
          · have := G.2 H1 locs1 cells1 slots1 mc ms
            rw [hp] at this
            exact lv_astore_n C.2.1 C.2.2.2.1 hd hk a2.2.1 hlsl rfl fun rls' hh => this rls' hr (hset rls' hh) a3 a4 a5 a6 a7 a8
          · have := G.2 H1 locs1 cells1 slots1 mc ms
            rw [hp] at this
            subst hk
            exact lv_astore C.2.1 C.2.2.2.1 hd a2.2.1 hlsl rfl fun rls' hh => this rls' hr (hset rls' hh) a3 a4 a5 a6 a7 a8
    obtain ⟨⟨v1, v2⟩, key⟩ := key
    refine ⟨⟨by omega, by omega⟩, fun H locs cells slots mc ms rls hr a2 a3 a4 a5 a6 a7 a8 => ?_⟩
    have hR := hrun _ H locs cells slots rls hc hr a2 (by show cells + (h1.2.1 - h.2.1) ≤ R.cells; omega) (by show slots + (h1.2.2 - h.2.2) ≤ R.slots; omega)
    intro T hT Y
    rcases hR T hT Y with ⟨v', st₀, t, T', L, h0, Y', hL, z1, z2, ⟨w, hw1, -⟩, go⟩ | ⟨q9, st₀, t, T', L, E, ce, h0, Y', hL, z1, z2, ⟨x', q', hx1, hx2, hx3, hx4⟩, hce, hcv, hcl, go⟩
    · cases hw1
    · cases hx1
      subst hx3
      have hr1 : mv_HR D s0 h1 T'.heap := by rw [z1]; exact hx4
      obtain ⟨t2, b1, b2⟩ := key hx2 T'.heap (locs ++ L) (cells + (h1.2.1 - h.2.1)) (slots + (h1.2.2 - h.2.2)) mc ms rls q9 ce hr1 a2 (fun z hz => by
        rcases List.mem_append.mp hz with hz | hz
        · exact a3 z hz
        · exact hL z hz) (by omega) (by omega) (by omega) a7 a8 (by rw [z1]; exact hce) hcv hcl T' rfl Y'
      exact ⟨t2, go.trans b1, b2⟩
end SIME
