section SIMD
variable {D : va_G} {l : Launch} {s0 : State} {a0 : Array Value} {X : mv_X} {p : Program} {e : Env} {R : Room} {s : State} {m : MethodId} {args : Array Value} {below : List Frame} {meth : Method} {c : Code} {N : mv_N} {M : mv_M} {r : mv_R} {pc pc2 : Nat} {ls st st2 : List Value} {h : mv_H}
theorem si_cpy (C : mv_Cx D l s0 a0 X p s m meth c N M) {j b0 b1 n0 n1 : Nat} {q : mv_L} {sp dp n : Int32} {t : FieldType} {g0 g1 : Nat → Value} {rest : List Value} (hR : 1 ≤ R.frames ∧ 60 ≤ R.locals) (dg : decode N.2.1 pc = .ok (.invokestatic j, 3)) (hl : mv_look M.2.2.2.2.1 16 j = some q) (hq : q.1 = 24)
    (hc0 : mv_cell X h b0 = some (.inr (t, n0, g0))) (hc1 : h.1 b1 = some (.inr (t, n1, g1))) (hp : mv_prim t = true) (h1 : 0 ≤ sp.toInt) (h2 : 0 ≤ dp.toInt) (h3 : 0 ≤ n.toInt) (h4 : sp.toInt + n.toInt ≤ n0) (h5 : dp.toInt + n.toInt ≤ n1) (hfo : h.1 b0 ≠ none ∨ ∀ i, i < n.toInt.toNat → fits t (g0 (sp.toInt.toNat + i)) = true) (h8 : (rest.map fun v => v.category).sum ≤ 8) (hc : True)
    (gg : mv_Go D s0 p l e R s m args below meth c M r (pc + 3) ls rest (mv_up h.1 b1 (some (.inr (t, n1, mv_cpf g0 g1 sp.toInt.toNat dp.toInt.toNat n.toInt.toNat))), h.2)) : mv_Go D s0 p l e R s m args below meth c M r pc ls (.int n :: .int dp :: .ref b1 :: .int sp :: .ref b0 :: rest) h := by
  refine ⟨gg.1, fun H locs cells slots mc ms rls hr a2 a3 a4 a5 a6 a7 a8 => ?_⟩
  obtain ⟨kd, hsd, hw⟩ := mv_link C (args := args) hl
  obtain ⟨tg, z⟩ := q
  have hq : tg = 24 := hq
  subst hq
  have hw : ∀ w ∈ [Cond.methodLink N.1.cls j arraycopyName, .native arraycopyName, .static arraycopyName, .initialized "java/lang/System"], w.before args s = true := hw
  obtain ⟨cs, p1, p2, p3, p5, p6⟩ := mv_cell_is C.1 hr hc0
  have p1 : H[b0]? = some cs := p1
  have p2 : s0.isArrayOf cs t := p2
  have p5 : cs.slots.size = n0 := p5
  have p6 : ∀ j, j < n0 → cs.slots[j]? = some (g0 j) := p6
  have p4 : ∀ i, i < n.toInt.toNat → fits t (g0 (sp.toInt.toNat + i)) = true := by
    rcases hfo with hfo | hfo
    · unfold mv_cell at hc0
      cases hcc : h.1 b0 with
      | none => exact absurd hcc hfo
      | some cc =>
        rw [hcc] at hc0
        cases hc0
        obtain ⟨-, c0, -, -, -, q⟩ := hr.2.2.2 b0 _ hcc
        exact fun i hi => q hp _ (by show sp.toInt.toNat + i < n0; omega)
    · exact hfo
  obtain ⟨hab1, c1, q1, q2, q3, q4⟩ := hr.2.2.2 b1 _ hc1
  obtain ⟨hns0, k0, hk0, cm0, hkk0⟩ := mv_arrR C p2
  obtain ⟨-, k1, hk1, cm1, hkk1⟩ := (mv_arr C q2) n1 g1
  have nn : ∀ z : Int32, 0 ≤ z.toInt → z.toInt = ((z.toNatClampNeg : Nat) : Int) := fun z hz => by
    show z.toInt = ((z.toInt.toNat : Nat) : Int)
    omega
  have e1 : sp.toNatClampNeg = sp.toInt.toNat := rfl
  have e2 : dp.toNatClampNeg = dp.toInt.toNat := rfl
  have e3 : n.toNatClampNeg = n.toInt.toNat := rfl
  have hnw : nativeFrameWords "java/lang/System" "arraycopy" 5 ≤ 10 := by decide
  have hprim : refKind t = false := by cases t <;> first | rfl | cases hp
  intro T hT Y
  obtain ⟨vm', X', step⟩ := Y.arraycopy C.2.1 C.2.2.2.2.2.2.1 (hw _ List.mem_cons_self) (hw _ (List.mem_cons_of_mem _ List.mem_cons_self)) (hw _ (List.mem_cons_of_mem _ (List.mem_cons_of_mem _ List.mem_cons_self))) (hw _ (List.mem_cons_of_mem _ (List.mem_cons_of_mem _ (List.mem_cons_of_mem _ List.mem_cons_self))))
    (src := b0) (dst := b1) (cs := cs) (cd := arrV c1 n1 g1) (srcPos := sp) (destPos := dp) (n := n) (by rw [hT]; exact p1) (by rw [hT]; exact q1)
    hns0 (fun _ h => by cases h) p3 (fun h => by cases h) hk0 hk1 hkk0 hkk1 (by simp [hprim]) (mv_ge0.mpr h1) (mv_ge0.mpr h2) (mv_ge0.mpr h3)
    (by rw [p5]; omega)
    (by show ¬ _ > ((arrV c1 n1 g1).slots.size : Int); rw [arrV_size]; omega)
    (fun vm₁ _ i hi => by
      have e : cs.slots.getD (sp.toNatClampNeg + i) .null = g0 (sp.toNatClampNeg + i) := by
        rw [Array.getD_eq_getD_getElem?, p6 _ (by omega)]
        rfl
      have hf : fits t (g0 (sp.toNatClampNeg + i)) = true := p4 i hi
      rw [e]
      refine ⟨hf, ?_⟩
      have hf : fits t (g0 (sp.toNatClampNeg + i)) = true := hf
      cases t with
      | int => cases hv : g0 (sp.toNatClampNeg + i) <;> first | exact trivial | (rw [hv] at hf; cases hf)
      | byte => cases hv : g0 (sp.toNatClampNeg + i) <;> first | exact trivial | (rw [hv] at hf; cases hf)
      | _ => cases hp)
    (g := F0 m pc rls (.int n :: .int dp :: .ref b1 :: .int sp :: .ref b0 :: rest)) rfl (a2.2.1.1.trans C.2.2.2.2.1.symm) (rest := rest) rfl (by rw [C.2.2.2.1]; exact dg) hR.1 (by show 2 * 0 + (rest.map fun v => v.category).sum + _ ≤ _; omega)
  have ec : copied cs (arrV c1 n1 g1) sp dp n = arrV c1 n1 (mv_cpf g0 g1 sp.toInt.toNat dp.toInt.toNat n.toInt.toNat) := va_copiedX (fun z => z) cs c1 g0 g1 p6 (by omega)
  rw [ec] at X' step
  have hlt : b1 < H.size := (Array.getElem?_eq_some_iff.mp q1).1
  have hheap : ((T.setVm vm').setCell b1 (arrV c1 n1 (mv_cpf g0 g1 sp.toInt.toNat dp.toInt.toNat n.toInt.toNat))).heap = H.setIfInBounds b1 (arrV c1 n1 (mv_cpf g0 g1 sp.toInt.toNat dp.toInt.toNat n.toInt.toNat)) := by rw [← hT]; rfl
  have oq : ∀ q : Nat, q ≠ b1 → (H.setIfInBounds b1 (arrV c1 n1 (mv_cpf g0 g1 sp.toInt.toNat dp.toInt.toNat n.toInt.toNat)))[q]? = H[q]? := fun q hq => by simp [Array.getElem?_setIfInBounds, Ne.symm hq]
  obtain ⟨t2, x1, x2⟩ := gg.2 _ _ cells slots mc ms rls (mv_HR_up hr hab1 (by simp) oq ⟨c1, show (H.setIfInBounds b1 _)[b1]? = some _ by simp [Array.getElem?_setIfInBounds, hlt], q2, q3, fun hp' j hj => by
      show fits t (if _ then _ else _) = true
      split
      · next hh => exact p4 _ (by omega)
      · exact q4 hp j hj⟩) a2 (fun z hz => by
      rcases List.mem_append.mp hz with h | h
      · exact a3 z h
      · obtain ⟨z', -, hz'⟩ := List.mem_map.mp h
        rw [← hz']
        exact hab1) a4 a5 a6 a7 a8 _ hheap X'
  exact ⟨t2, step t2 x1, x2⟩
theorem vx_ot_at_w (C : mv_Cx D l s0 a0 X p s m meth c N M) {w : Cond} (hg : (goodWord w || (w.onTables && w.keepsCast)) = true) (hm : w ∈ lw_tbl) : w.before args s = true := by
  rw [Bool.or_eq_true, Bool.and_eq_true] at hg
  rcases hg with hg | ⟨h1, h2⟩
  · exact mv_w C ⟨by unfold mv_gg; rw [hg]; rfl, hm⟩
  · have h3 := Cond.before_shiftedCast (State.Shifted.of_warmed C.2.2.1) w h2 (C.1.2.1 w hm)
    have h4 : w.before args (s.setVm s.vm) = true := by
      rw [Cond.onTables_vm (A' := a0) (U' := s0) s.vm w h1]
      exact h3
    rwa [State.setVm_self] at h4
theorem mv_rk (C : mv_Cx D l s0 a0 X p s m meth c N M) : mv_rkok M.2.2.1 N.2.2.1 = true := by
  have h1 := C.2.2.2.2.2.2.2.2.2.2.1.1
  simp only [mv_mck, Bool.and_eq_true] at h1
  exact h1.1.1.1.2
theorem mv_hxx {x : Nat} {q : Nat} {h' : mv_H} (hx : x < 6) : ∀ t : State, mv_HR D s0 h' t.heap → mv_XC D s0 (.inr (x, q), h') (mv_en x) s t := fun t ht => ⟨x, q, rfl, hx, rfl, ht⟩
theorem si_exc (C : mv_Cx D l s0 a0 X p s m meth c N M) {j t : Nat} {sw : List (Int × Nat)} {q : mv_L} (hR : 6 ≤ R.frames ∧ 100 ≤ R.locals) (dg : decode N.2.1 pc = .ok (.new j, 3)) (hx : mv_ex N M pc (.new j) t sw = true) (ht : 0 < t) (hl : mv_look M.2.2.2.2.1 16 j = some q) (hq : q.1 = 11) (h8 : st.length ≤ 8) (hc : ∀ v ∈ st, v.category = 1) (he : M.2.2.2.2.2 = [])
    (hr' : r = (.inr (q.2.1, h.2.1), (h.1, h.2.1 + 1, h.2.2 + 6))) : mv_Go D s0 p l e R s m args below meth c M r pc ls st h := by
  subst hr'
  refine ⟨⟨Nat.le_succ _, Nat.le_add_right _ _⟩, fun H locs cells slots mc ms rls hr a2 a3 a4 a5 a6 a7 a8 => ?_⟩
  obtain ⟨kd, hsd, hw⟩ := mv_link C (args := args) hl
  have hlt := C.2.2.2.2.2.2.2.2.2.1
  have hN : N.2.2.2 = [] := by
    have h1 := C.2.2.2.2.2.2.2.2.2.2.1.1
    simp only [mv_mck, Bool.and_eq_true] at h1
    have := Nat.eq_of_beq_eq_true h1.1.1.2
    rw [he] at this
    exact List.eq_nil_of_length_eq_zero this
  have hout : ∀ pc' : Nat, ∀ x ∈ c.exceptionTable.toList, covers x pc' = false := fun pc' x hx => by
    rw [hlt, hN] at hx
    cases hx
  have hsum := mv_sum hc
  have hS := mv_vaS C hr a3 a4
  have hA := (mv_alike C)
  have kp : ∀ a : Nat, a < s0.heap.size → ¬ (fun a => s0.heap.size ≤ a) a → s.heap[a]? = s0.heap[a]? := fun a ha _ => C.2.2.2.2.2.2.2.2.2.2.2.2 a ha
  have hU := (vx_Zq.moved hA C.1.2.2.2.2.2.2.1).kept (H1 := s.heap) kp
  have hNn := (vx_Zq.moved hA C.1.2.2.2.2.2.2.2.1).kept (H1 := s.heap) kp
  obtain ⟨tg, x, z⟩ := q
  have hq : tg = 11 := hq
  subst hq
  have hx6 : x < 6 := by
    have hsd : Nat.blt x 6 = true := hsd
    simpa [Nat.blt_eq] using hsd
  have hw : ∀ w ∈ [Cond.classLink N.1.cls j (mv_en x), .initialized (mv_en x)], w.before args s = true := hw
  have hwt : ∀ w ∈ mv_lws N.1.cls j (11, x, z) 0, mv_gg w = true ∧ w ∈ lw_tbl := by
    obtain ⟨kd', hs', hw'⟩ := C.2.2.2.2.2.2.2.2.2.2.1.2 j _ hl
    exact hw'
  have hwt : ∀ w ∈ [Cond.classLink N.1.cls j (mv_en x), .initialized (mv_en x)], mv_gg w = true ∧ w ∈ lw_tbl := hwt
  have hcls : N.1.cls = "BalloonHarbour" → ∀ w ∈ mv_at N.1.cls (mv_xc x) (mv_en x) (mv_xi x) (mv_xr x) mv_xn, w.before args s = true := fun hcl w hw => by
    rw [hcl] at hw
    exact vx_ot_at_w C (mv_xat hx6 w hw).2.1 (mv_xat hx6 w hw).2.2
  have hgood : N.1.cls = "BalloonHarbour" → ∀ w ∈ Cond.classLink N.1.cls j (mv_en x) :: Cond.initialized (mv_en x) :: mv_at N.1.cls (mv_xc x) (mv_en x) (mv_xi x) (mv_xr x) mv_xn, vx_ot w = true := fun hcl w hw => by
    rcases List.mem_cons.mp hw with rfl | hw
    · exact rfl
    · rcases List.mem_cons.mp hw with rfl | hw
      · exact rfl
      · rw [hcl] at hw
        exact (mv_xat hx6 w hw).1
  have hfin : ∀ t : State, s.vm.Alike t.vm → t.heap.size = H.size + 1 → (∀ q : Nat, q < H.size → t.heap[q]? = H[q]?) → mv_XC D s0 ((.inr (x, h.2.1), (h.1, h.2.1 + 1, h.2.2 + 6)) : mv_R) (mv_en x) s t := fun t _ hz hk => mv_hxx hx6 t (mv_HR_one hr hz hk)
  have ez : ((h.1, h.2.1 + 1, h.2.2 + 6) : mv_H).2.1 - h.2.1 = 1 := by show h.2.1 + 1 - h.2.1 = 1; omega
  have ez2 : ((h.1, h.2.1 + 1, h.2.2 + 6) : mv_H).2.2 - h.2.2 = 6 := by show h.2.2 + 6 - h.2.2 = 6; omega
  rw [ez] at a5
  rw [ez2] at a6
  have hsz : rls.size = c.maxLocals := a2.2.1.1.trans C.2.2.2.2.1.symm
  match t, ht, hx with
  | 1, _, hx =>
    have hx : (match mv_look M.2.2.2.2.1 16 j, decode N.2.1 (pc + 4) with
      | some z, .ok (.ldc s, 2) => (match mv_look M.2.2.2.2.1 16 s with
        | some y => Nat.beq y.1 14 && N.1.cls == "BalloonHarbour" && Nat.beq z.1 11 && Nat.blt z.2.1 6 && decide (decode N.2.1 (pc + 3) = .ok (.dup, 1)) && decide (decode N.2.1 (pc + 6) = .ok (.invokespecial (mv_xc z.2.1), 3)) && decide (decode N.2.1 (pc + 9) = .ok (.athrow, 1))
        | none => false)
      | _, _ => false) = true := hx
    rw [hl] at hx
    split at hx
    · next z1 i1 hz hd4 =>
      cases hz
      split at hx
      · next y hy =>
        simp only [Bool.and_eq_true, decide_eq_true_eq, beq_iff_eq] at hx
        obtain ⟨⟨⟨⟨⟨⟨e1, e2⟩, -⟩, -⟩, d3⟩, d6⟩, d9⟩ := hx
        obtain ⟨tx, hv⟩ := mv_str C hy (Nat.eq_of_beq_eq_true e1)
        exact mv_throwS C.2.1 C.2.2.2.1 C.1.1 (own := N.1.cls) (cls := mv_en x) (names := mv_xn) (A := fun a => s0.heap.size ≤ a) C.2.2.2.2.2.2.1 (mv_xr_ok hx6) (mv_xf_ok hx6) mv_xn_ok (hw _ List.mem_cons_self) (hw _ (List.mem_cons_of_mem _ List.mem_cons_self)) hv (hcls e2) (hgood e2) hU hNn hS hsz dg d3 hd4 d6 d9 (hout _) (by show 2 + 3 < R.frames; omega) (by show (st.map fun v => v.category).sum + (13 * (2 + 1) + 43) ≤ R.locals; omega) (by omega) (by omega) C.2.2.2.2.2.2.2.1 hfin a3 a5 a6
      · cases hx
    · cases hx
  | n + 2, _, hx =>
    have hx : (match mv_look M.2.2.2.2.1 16 j, decode N.2.1 (pc + 4) with
      | some z, .ok (.ldc_w s, 3) => (match mv_look M.2.2.2.2.1 16 s with
        | some y => Nat.beq y.1 14 && N.1.cls == "BalloonHarbour" && Nat.beq z.1 11 && Nat.blt z.2.1 6 && decide (decode N.2.1 (pc + 3) = .ok (.dup, 1)) && decide (decode N.2.1 (pc + 7) = .ok (.invokespecial (mv_xc z.2.1), 3)) && decide (decode N.2.1 (pc + 10) = .ok (.athrow, 1))
        | none => false)
      | _, _ => false) = true := hx
    rw [hl] at hx
    split at hx
    · next z1 i1 hz hd4 =>
      cases hz
      split at hx
      · next y hy =>
        simp only [Bool.and_eq_true, decide_eq_true_eq, beq_iff_eq] at hx
        obtain ⟨⟨⟨⟨⟨⟨e1, e2⟩, -⟩, -⟩, d3⟩, d6⟩, d9⟩ := hx
        obtain ⟨tx, hv⟩ := mv_str C hy (Nat.eq_of_beq_eq_true e1)
        exact mv_throwSW C.2.1 C.2.2.2.1 C.1.1 (own := N.1.cls) (cls := mv_en x) (names := mv_xn) (A := fun a => s0.heap.size ≤ a) C.2.2.2.2.2.2.1 (mv_xr_ok hx6) (mv_xf_ok hx6) mv_xn_ok (hw _ List.mem_cons_self) (hw _ (List.mem_cons_of_mem _ List.mem_cons_self)) hv (hcls e2) (hgood e2) hU hNn hS hsz dg d3 hd4 d6 d9 (hout _) (by show 2 + 3 < R.frames; omega) (by show (st.map fun v => v.category).sum + (13 * (2 + 1) + 43) ≤ R.locals; omega) (by omega) (by omega) C.2.2.2.2.2.2.2.1 hfin a3 a5 a6
      · cases hx
    · cases hx
-- the ends
theorem si_iret (C : mv_Cx D l s0 a0 X p s m meth c N M) {x : Int32} (dg : decode N.2.1 pc = .ok (.ireturn, 1)) (hok : mv_ok M.2.2.1 x = true) (hr' : r = (.inl (some (.int x)), h)) : mv_Go D s0 p l e R s m args below meth c M r pc ls [.int x] h := by
  subst hr'
  refine ⟨⟨Nat.le_refl _, Nat.le_refl _⟩, fun H locs cells slots mc ms rls hr a2 a3 a4 a5 a6 a7 a8 => ?_⟩
  refine W.widen (k := mc) (n := ms) (by omega) (by omega) (vx_ret ?_)
  have hk := mv_rk C
  obtain ⟨ty, hty, hn⟩ : ∃ ty, N.2.2.1 = some ty ∧ narrow ty (.int x) = .int x := by
    generalize hg : N.2.2.1 = t at hk
    generalize hg2 : M.2.2.1 = k at hk hok
    unfold mv_rkok at hk
    split at hk
    · exact absurd hok (by simp [mv_ok])
    · exact ⟨.int, rfl, rfl⟩
    · exact absurd hok (by simp [mv_ok])
    · exact absurd hok (by simp [mv_ok])
    · exact absurd hok (by simp [mv_ok])
    · exact absurd hok (by simp [mv_ok])
    · exact absurd hok (by simp [mv_ok])
    · exact ⟨.boolean, rfl, (mv_fkI (k := 6) (ty := .boolean) rfl hok).1⟩
    · exact ⟨.char, rfl, (mv_fkI (k := 7) (ty := .char) rfl hok).1⟩
    · exact ⟨.byte, rfl, (mv_fkI (k := 8) (ty := .byte) rfl hok).1⟩
    · cases hk
  exact W.zret C.2.1 C.2.2.2.1 (C.2.2.2.2.2.1.trans hty) hn (fun t ht _ => ⟨_, rfl, rfl, by rw [ht]; exact hr⟩) a3 dg C.2.2.2.2.2.2.2.1
theorem si_ret (C : mv_Cx D l s0 a0 X p s m meth c N M) (dg : decode N.2.1 pc = .ok (.return_, 1)) (hk0 : M.2.2.1 = 0) (hr' : r = (.inl none, h)) : mv_Go D s0 p l e R s m args below meth c M r pc ls [] h := by
  subst hr'
  refine ⟨⟨Nat.le_refl _, Nat.le_refl _⟩, fun H locs cells slots mc ms rls hr a2 a3 a4 a5 a6 a7 a8 => ?_⟩
  refine W.widen (k := mc) (n := ms) (by omega) (by omega) (vx_ret ?_)
  have hk := mv_rk C
  rw [hk0] at hk
  have hty : N.2.2.1 = none := by
    cases hg : N.2.2.1 with
    | none => rfl
    | some t => rw [hg] at hk; cases hk
  exact W.vret C.2.1 C.2.2.2.1 (C.2.2.2.2.2.1.trans hty) (fun t ht _ => ⟨_, rfl, rfl, by rw [ht]; exact hr⟩) a3 dg C.2.2.2.2.2.2.2.1
theorem si_areturn (C : mv_Cx D l s0 a0 X p s m meth c N M) {x : Nat} (dg : decode N.2.1 pc = .ok (.areturn, 1)) (hk0 : M.2.2.1 = 2) (hr' : r = (.inl (some (.ref x)), h)) : mv_Go D s0 p l e R s m args below meth c M r pc ls [.ref x] h := by
  subst hr'
  refine ⟨⟨Nat.le_refl _, Nat.le_refl _⟩, fun H locs cells slots mc ms rls hr a2 a3 a4 a5 a6 a7 a8 => ?_⟩
  refine W.widen (k := mc) (n := ms) (by omega) (by omega) (vx_ret ?_)
  have hk := mv_rk C
  rw [hk0] at hk
  obtain ⟨ty, hty, hrt⟩ : ∃ ty, N.2.2.1 = some ty ∧ ((∃ n, ty = .object n) ∨ ∃ t, ty = .array t) := by
    cases hg : N.2.2.1 with
    | none => rw [hg] at hk; cases hk
    | some t =>
      rw [hg] at hk
      cases t <;> first | exact ⟨_, rfl, Or.inl ⟨_, rfl⟩⟩ | exact ⟨_, rfl, Or.inr ⟨_, rfl⟩⟩ | cases hk
  exact W.aret C.2.1 C.2.2.2.1 (C.2.2.2.2.2.1.trans hty) hrt (Or.inr ⟨x, rfl⟩) (fun t ht _ => ⟨_, rfl, rfl, by rw [ht]; exact hr⟩) a3 dg C.2.2.2.2.2.2.2.1
theorem si_freturn (C : mv_Cx D l s0 a0 X p s m meth c N M) {x : UInt32} (dg : decode N.2.1 pc = .ok (.freturn, 1)) (hk0 : M.2.2.1 = 4) (hr' : r = (.inl (some (.float x)), h)) : mv_Go D s0 p l e R s m args below meth c M r pc ls [.float x] h := by
  subst hr'
  refine ⟨⟨Nat.le_refl _, Nat.le_refl _⟩, fun H locs cells slots mc ms rls hr a2 a3 a4 a5 a6 a7 a8 => ?_⟩
  refine W.widen (k := mc) (n := ms) (by omega) (by omega) (vx_ret ?_)
  have hk := mv_rk C
  rw [hk0] at hk
  have hty : N.2.2.1 = some .float := by
    cases hg : N.2.2.1 with
    | none => rw [hg] at hk; cases hk
    | some t => rw [hg] at hk; cases t <;> first | rfl | cases hk
  exact W.fret C.2.1 C.2.2.2.1 (C.2.2.2.2.2.1.trans hty) (fun t ht _ => ⟨_, rfl, rfl, by rw [ht]; exact hr⟩) a3 dg C.2.2.2.2.2.2.2.1
theorem si_lreturn (C : mv_Cx D l s0 a0 X p s m meth c N M) {x : Int64} (dg : decode N.2.1 pc = .ok (.lreturn, 1)) (hk0 : M.2.2.1 = 3) (hr' : r = (.inl (some (.long x)), h)) : mv_Go D s0 p l e R s m args below meth c M r pc ls [.long x] h := by
  subst hr'
  refine ⟨⟨Nat.le_refl _, Nat.le_refl _⟩, fun H locs cells slots mc ms rls hr a2 a3 a4 a5 a6 a7 a8 => ?_⟩
  refine W.widen (k := mc) (n := ms) (by omega) (by omega) (vx_ret ?_)
  have hk := mv_rk C
  rw [hk0] at hk
  have hty : N.2.2.1 = some .long := by
    cases hg : N.2.2.1 with
    | none => rw [hg] at hk; cases hk
    | some t => rw [hg] at hk; cases t <;> first | rfl | cases hk
  exact W.lret C.2.1 C.2.2.2.1 (C.2.2.2.2.2.1.trans hty) (fun t ht _ => ⟨_, rfl, rfl, by rw [ht]; exact hr⟩) a3 dg C.2.2.2.2.2.2.2.1
theorem si_dreturn (C : mv_Cx D l s0 a0 X p s m meth c N M) {x : UInt64} (dg : decode N.2.1 pc = .ok (.dreturn, 1)) (hk0 : M.2.2.1 = 5) (hr' : r = (.inl (some (.double x)), h)) : mv_Go D s0 p l e R s m args below meth c M r pc ls [.double x] h := by
  subst hr'
  refine ⟨⟨Nat.le_refl _, Nat.le_refl _⟩, fun H locs cells slots mc ms rls hr a2 a3 a4 a5 a6 a7 a8 => ?_⟩
  refine W.widen (k := mc) (n := ms) (by omega) (by omega) (vx_ret ?_)
  have hk := mv_rk C
  rw [hk0] at hk
  have hty : N.2.2.1 = some .double := by
    cases hg : N.2.2.1 with
    | none => rw [hg] at hk; cases hk
    | some t => rw [hg] at hk; cases t <;> first | rfl | cases hk
  exact W.dret C.2.1 C.2.2.2.1 (C.2.2.2.2.2.1.trans hty) (fun t ht _ => ⟨_, rfl, rfl, by rw [ht]; exact hr⟩) a3 dg C.2.2.2.2.2.2.2.1
theorem mv_Bcl : Cond.castable "[B" "java/lang/Cloneable" ∈ lw_tbl := List.mem_of_getElem? (i := 954) (by decide +kernel)
theorem si_cln (C : mv_Cx D l s0 a0 X p s m meth c N M) {j b n0 : Nat} {q : mv_L} {g0 : Nat → Value} {rest : List Value} (hR : 1 ≤ R.frames ∧ 60 ≤ R.locals) (dg : decode N.2.1 pc = .ok (.invokevirtual j, 3)) (hl : mv_look M.2.2.2.2.1 16 j = some q) (hq : q.1 = 26)
    (hc0 : h.1 b = some (.inr (.byte, n0, g0))) (h8 : (rest.map fun v => v.category).sum ≤ 8)
    (gg : mv_Go D s0 p l e R s m args below meth c M r (pc + 3) ls (.ref h.2.1 :: rest) (mv_up h.1 h.2.1 (some (.inr (.byte, n0, g0))), h.2.1 + 1, h.2.2 + n0)) : mv_Go D s0 p l e R s m args below meth c M r pc ls (.ref b :: rest) h := by
  have hmc := C.2.2.2.2.1
  have gg2 : mv_Le h r.2 := ⟨by have := gg.1.1; exact Nat.le_trans (Nat.le_succ _) this, by have := gg.1.2; exact Nat.le_trans (Nat.le_add_right _ _) this⟩
  refine ⟨gg2, fun H locs cells slots mc ms rls hr a2 a3 a4 a5 a6 a7 a8 => ?_⟩
  have hle1 : h.2.1 + 1 ≤ r.2.2.1 := gg.1.1
  have hle2 : h.2.2 + n0 ≤ r.2.2.2 := gg.1.2
  obtain ⟨kd, hsd, hw⟩ := mv_link C (args := args) hl
  obtain ⟨tg, z⟩ := q
  have hq : tg = 26 := hq
  subst hq
  have hw : ∀ w ∈ [Cond.methodLink N.1.cls j ⟨"[B", "clone", "()Ljava/lang/Object;"⟩, .sameMethod "[B" "java/lang/Object" "clone" "()Ljava/lang/Object;", .native ⟨"java/lang/Object", "clone", "()Ljava/lang/Object;"⟩, .instanceMethod ⟨"java/lang/Object", "clone", "()Ljava/lang/Object;"⟩, .selects "[B" ⟨"[B", "clone", "()Ljava/lang/Object;"⟩ ⟨"java/lang/Object", "clone", "()Ljava/lang/Object;"⟩], w.before args s = true := hw
  have hcl : (Cond.castable "[B" "java/lang/Cloneable").before args s = true := vx_ot_at_w C (by rfl) mv_Bcl
  obtain ⟨hab0, cA, p1, p2, p3, p4⟩ := hr.2.2.2 b _ hc0
  have p2' : ArrOfT s cA .byte := mv_arr C p2
  have p3' : va_RA s cA .byte := p3.moved (mv_alike C)
  have hnm : s.vm.findClass "[B" = some cA := va_nm_byte p3'
  obtain ⟨c0, t0', f1, f2, f3⟩ := Cond.castable_spec hcl
  cases hnm.symm.trans f1
  have hz := hr.1
  intro T hT Y
  have hcellT : T.heap[b]? = some (arrV cA n0 g0) := by rw [hT]; exact p1
  obtain ⟨-, kA, hkA, comp, hkind⟩ := State.isArrayOf_alike Y.warmed.alike (p2' 0 (fun _ => .null))
  obtain ⟨-, kS, hkS, compS, hkindS⟩ := p2' 0 (fun _ => .null)
  have hsz : (arrV cA n0 g0).slots.size = n0 := arrV_size _ _ _
  obtain ⟨vm', Y', st⟩ := Y.cloneArray C.2.1 C.2.2.2.2.2.2.1 (hw _ List.mem_cons_self) (hw _ (List.mem_cons_of_mem _ List.mem_cons_self)) (hw _ (List.mem_cons_of_mem _ (List.mem_cons_of_mem _ List.mem_cons_self))) (hw _ (List.mem_cons_of_mem _ (List.mem_cons_of_mem _ (List.mem_cons_of_mem _ List.mem_cons_self)))) (hw _ (List.mem_cons_of_mem _ (List.mem_cons_of_mem _ (List.mem_cons_of_mem _ (List.mem_cons_of_mem _ List.mem_cons_self))))) (a := b) (cell := arrV cA n0 g0) hcellT (fun k h => by cases h) (fun h => by cases h) hnm f2 f3
    (fun i v hv => by
      have hk' : T.vm.classes[cA]? = some kA := hkA
      have hfv : fits .byte v = true := va_fit (F := g0) (fun i hi => p4 rfl i hi) i v hv
      have hcc : (arrV cA n0 g0).cls = cA := rfl
      simpa [State.fitsSlot, State.slotType?, hcc, hk', hkind] using hfv)
    (g := F0 m pc rls (.ref b :: rest)) rfl (a2.2.1.1.trans hmc.symm) rfl (by rw [C.2.2.2.1]; exact dg) hR.1 (by show 2 * 0 + _ + 14 ≤ _; omega) (by show cells + 1 ≤ R.cells; omega) (by rw [hsz]; omega) (hloader := Vm.clonesLoader_of_array hkS hkindS)
  have hcellE : ({ cls := (arrV cA n0 g0).cls, slots := (arrV cA n0 g0).slots } : Cell) = arrV cA n0 g0 := rfl
  rw [hcellE, hsz] at Y'
  have hH : (((T.setVm vm').pushCell (arrV cA n0 g0))).heap = H.push (arrV cA n0 g0) := by rw [← hT]; rfl
  have z1 : (H.push (arrV cA n0 g0)).size = H.size + 1 := by rw [Array.size_push]
  have e1 : (H.push (arrV cA n0 g0))[H.size]? = some (arrV cA n0 g0) := by rw [Array.getElem?_push_size]
  have o1 : ∀ q : Nat, q < H.size → (H.push (arrV cA n0 g0))[q]? = H[q]? := fun q hq => by rw [Array.getElem?_push, if_neg (Nat.ne_of_lt hq)]
  obtain ⟨t, b1, b2⟩ := gg.2 (H.push (arrV cA n0 g0)) locs (cells + 1) (slots + n0) mc ms rls (mv_HR_new hr z1 o1 ⟨cA, by rw [← hz]; exact e1, p2, p3, p4⟩) a2 a3 (by show s.heap.size ≤ h.2.1 + 1; omega) (by show cells + 1 + (r.2.2.1 - (h.2.1 + 1)) ≤ mc; omega) (by show slots + n0 + (r.2.2.2 - (h.2.2 + n0)) ≤ ms; omega) a7 a8 _ hH Y'
  refine ⟨t, st t ?_, b2⟩
  rw [hcellE, hT, hz]
  exact b1
theorem si_castB (C : mv_Cx D l s0 a0 X p s m meth c N M) {j b n0 : Nat} {q : mv_L} {g0 : Nat → Value} (dg : decode N.2.1 pc = .ok (.checkcast j, 3)) (hl : mv_look M.2.2.2.2.1 16 j = some q) (hq : q.1 = 27) (hc0 : h.1 b = some (.inr (.byte, n0, g0)))
    (gg : mv_Go D s0 p l e R s m args below meth c M r (pc + 3) ls (.ref b :: st) h) : mv_Go D s0 p l e R s m args below meth c M r pc ls (.ref b :: st) h := by
  refine mv_pure gg fun hr a1 k => ?_
  obtain ⟨kd, hsd, hw⟩ := mv_link C (args := args) hl
  obtain ⟨tg, z⟩ := q
  have hq : tg = 27 := hq
  subst hq
  have hw : ∀ w ∈ [Cond.classLink N.1.cls j "[B"], w.before args s = true := hw
  obtain ⟨hab0, cA, p1, p2, p3, p4⟩ := hr.2.2.2 b _ hc0
  have p3' : va_RA s cA .byte := p3.moved (mv_alike C)
  have hnm : s.vm.findClass "[B" = some cA := va_nm_byte p3'
  intro T hT Y
  obtain ⟨vm', Y', st'⟩ := Y.checkcastYes C.2.1 C.2.2.2.2.2.2.1 (hw _ List.mem_cons_self) (a := b) (cell := arrV cA n0 g0) (by rw [hT]; exact p1) rfl hnm (va_asg _ _) (g := F0 m pc _ (.ref b :: st)) rfl rfl (by rw [C.2.2.2.1]; exact dg)
  obtain ⟨t, a1, b1⟩ := k (T.setVm vm') hT Y'
  exact ⟨t, st' t a1, b1⟩
end SIMD
