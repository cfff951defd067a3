section SIMC
variable {D : va_G} {l : Launch} {s0 : State} {a0 : Array Value} {X : mv_X} {p : Program} {e : Env} {R : Room} {s : State} {m : MethodId} {args : Array Value} {below : List Frame} {meth : Method} {c : Code} {N : mv_N} {M : mv_M} {r : mv_R} {pc pc2 : Nat} {ls st st2 : List Value} {h : mv_H}
theorem mv_link (C : mv_Cx D l s0 a0 X p s m meth c N M) {j : Nat} {q : mv_L} (hl : mv_look M.2.2.2.2.1 16 j = some q) : ∃ kd, mv_sd N.1.cls j q kd = true ∧ ∀ w ∈ mv_lws N.1.cls j q kd, w.before args s = true := by
  obtain ⟨kd, hs, hw⟩ := C.2.2.2.2.2.2.2.2.2.2.1.2 j q hl
  exact ⟨kd, hs, fun w z => mv_w C (hw w z)⟩
theorem mv_sum {vs : List Value} (h : ∀ v ∈ vs, v.category = 1) : (vs.map fun v => v.category).sum = vs.length := by
  induction vs with
  | nil => rfl
  | cons v vs ih =>
    rw [List.map_cons, List.sum_cons, List.length_cons, h v List.mem_cons_self, ih fun w hw => h w (List.mem_cons_of_mem _ hw)]
    omega
theorem mv_str (C : mv_Cx D l s0 a0 X p s m meth c N M) {j : Nat} {q : mv_L} (hl : mv_look M.2.2.2.2.1 16 j = some q) (hq : q.1 = 14) : ∃ tx, vk_R N.1.cls j tx (X.2.1 q.2.1) s := by
  obtain ⟨kd, hsd, hw⟩ := mv_link C (args := #[]) hl
  obtain ⟨t, n, z⟩ := q
  have hq : t = 14 := hq
  subst hq
  have hsd : (match mv_sn n with
    | some z => decide (z.1 = N.1.cls) && Nat.beq z.2.1 j
    | none => false) = true := hsd
  cases ht : mv_sn n with
  | none => rw [ht] at hsd; cases hsd
  | some y =>
    rw [ht] at hsd
    have hsd : (decide (y.1 = N.1.cls) && Nat.beq y.2.1 j) = true := hsd
    rw [Bool.and_eq_true] at hsd
    have e1 := of_decide_eq_true hsd.1
    have e2 := Nat.eq_of_beq_eq_true hsd.2
    have := C.1.2.2.2.2.1 n y ht
    rw [e1, e2] at this
    exact ⟨_, vk_R.warm C.2.2.1 this⟩
/-- what is made costs its room -/
theorem mv_newG (C : mv_Cx D l s0 a0 X p s m meth c N M) {cl : mv_C} {sl pcn : Nat} {stx : List Value} (gg : mv_Go D s0 p l e R s m args below meth c M r pcn ls (.ref h.2.1 :: st) (mv_up h.1 h.2.1 (some cl), h.2.1 + 1, h.2.2 + sl))
    (row : ∀ {H : Heap} {locs : List Loc} {cells slots : Nat} {Q : State → Prop} {rls : Array Slot}, mv_HR D s0 h H → cells + 1 ≤ R.cells → slots + sl ≤ R.slots → (∀ H' : Heap, H'.size = H.size + 1 → (∀ q, q < H.size → H'[q]? = H[q]?) → mv_is D s0 H.size cl H' → W p l e R s m args below meth c H' locs (cells + 1) (slots + sl) Q (F0 m pcn rls (.ref H.size :: st))) → W p l e R s m args below meth c H locs cells slots Q (F0 m pc rls stx)) : mv_Go D s0 p l e R s m args below meth c M r pc ls stx h := by
  have hle : h.2.1 + 1 ≤ r.2.2.1 ∧ h.2.2 + sl ≤ r.2.2.2 := gg.1
  refine ⟨⟨by omega, by omega⟩, fun H locs cells slots mc ms rls hr a2 a3 a4 a5 a6 a7 a8 => ?_⟩
  have hz := hr.1
  refine row hr (by omega) (by omega) fun H' z1 o1 hi => ?_
  rw [hz] at hi ⊢
  exact gg.2 H' locs (cells + 1) (slots + sl) mc ms rls (mv_HR_new hr z1 o1 hi) a2 a3 (by show s.heap.size ≤ h.2.1 + 1; omega) (by show cells + 1 + (r.2.2.1 - (h.2.1 + 1)) ≤ mc; omega) (by show slots + sl + (r.2.2.2 - (h.2.2 + sl)) ≤ ms; omega) a7 a8
theorem si_new (C : mv_Cx D l s0 a0 X p s m meth c N M) {j ci : Nat} {q : mv_L} (dg : decode N.2.1 pc = .ok (.new j, 3)) (hl : mv_look M.2.2.2.2.1 16 j = some q) (hq : q.1 = 10) (hci : q.2.1 = ci) (gg : mv_Go D s0 p l e R s m args below meth c M r (pc + 3) ls (.ref h.2.1 :: st) (mv_up h.1 h.2.1 (some (.inl (ci, mv_df ci))), h.2.1 + 1, h.2.2 + (mv_df ci).length)) : mv_Go D s0 p l e R s m args below meth c M r pc ls st h := by
  refine mv_newG C gg fun hr hc hs kk => ?_
  obtain ⟨kd, hsd, hw⟩ := mv_link C (args := args) hl
  obtain ⟨t, ci', z⟩ := q
  have hq : t = 10 := hq
  have hci : ci' = ci := hci
  subst hq; subst hci
  have hsd : (match vwCl[ci']? with
    | some r => decide (r.1 = mv_cn ci') && Nat.beq r.2.2 (mv_df ci').length
    | none => false) = true := hsd
  cases h1 : vwCl[ci']? with
  | none => rw [h1] at hsd; cases hsd
  | some r0 =>
    obtain ⟨ps, hps⟩ := mv_cl_ok h1
    obtain ⟨-, hn, hlen, ⟨ty, hty⟩, -⟩ := mv_clk_ok hps
    have hKn := (mv_kk C).1 ci' r0 h1
    have hw : ∀ w ∈ [Cond.classLink N.1.cls j (mv_cn ci'), .instantiable (mv_cn ci') (mv_df ci').length, .initialized (mv_cn ci')], w.before args s = true := hw
    refine W.newcK C.2.1 C.2.2.2.1 C.2.2.2.2.2.2.1 (hw _ List.mem_cons_self) (hw _ (List.mem_cons_of_mem _ List.mem_cons_self)) (hw _ (List.mem_cons_of_mem _ (List.mem_cons_of_mem _ List.mem_cons_self))) rfl dg hc hs (by rw [hn]; exact hKn.2.1) rfl fun H1 kC hkC e1 z1 o1 => ?_
    refine kk H1 z1 o1 ⟨r0, h1, hlen, ?_⟩
    exact (u_born ty (mv_uw C (args := args) h1) (fun _ z => z) hKn hkC e1 (fun k hk => (hty k hk).1)).to fun k hk => (hty k hk).2
theorem si_newarray (C : mv_Cx D l s0 a0 X p s m meth c N M) {ty : ArrayType} {n : Int32} (dg : decode N.2.1 pc = .ok (.newarray ty, 2)) (ht : mv_nt ty = true) (h1 : 0 ≤ n.toInt) (h2 : n.toInt ≤ 65536) (gg : mv_Go D s0 p l e R s m args below meth c M r (pc + 2) ls (.ref h.2.1 :: st) (mv_up h.1 h.2.1 (some (.inr (newarray.typeOf ty, n.toInt.toNat, fun _ => defaultValue (newarray.typeOf ty)))), h.2.1 + 1, h.2.2 + n.toInt.toNat)) : mv_Go D s0 p l e R s m args below meth c M r pc ls (.int n :: st) h := by
  refine mv_newG C gg fun hr hc hs kk => ?_
  have e : n.toNatClampNeg = n.toInt.toNat := rfl
  have hb : componentBytes (newarray.typeOf ty) ≤ 8 := by cases ty <;> decide
  refine va_newaK C.2.1 C.2.2.2.1 (atype := ty) (word_at C.2.2.1 (Or.inr ⟨_, rfl⟩) (C.1.2.1 _ (mv_at_ok ht))) rfl dg rfl (mv_ge0.mpr h1) e (by
    have : n.toInt.toNat * componentBytes (newarray.typeOf ty) ≤ 65536 * 8 := Nat.mul_le_mul (by omega) hb
    omega) hc hs rfl fun H1 cA e1 z1 o1 hA hf => ?_
  refine kk H1 z1 o1 ⟨cA, e1, arrOfT_moved (mv_alike C).symm hA, ?_, fun _ j hj => ?_⟩
  · have hf' : s0.vm.findClass ("[" ++ (newarray.typeOf ty).toString) = some cA := by rw [← (mv_alike C).findClass]; exact hf
    cases ty <;> exact hf'
  · show fits (newarray.typeOf ty) (defaultValue (newarray.typeOf ty)) = true
    cases ty <;> rfl
theorem si_anewarray (C : mv_Cx D l s0 a0 X p s m meth c N M) {j : Nat} {n : Int32} {q : mv_L} (dg : decode N.2.1 pc = .ok (.anewarray j, 3)) (hl : mv_look M.2.2.2.2.1 16 j = some q) (hq : q.1 = 10) (hao : mv_ao q.2.1 = true) (h1 : 0 ≤ n.toInt) (h2 : n.toInt ≤ 65536) (gg : mv_Go D s0 p l e R s m args below meth c M r (pc + 3) ls (.ref h.2.1 :: st) (mv_up h.1 h.2.1 (some (.inr (.object (mv_cn q.2.1), n.toInt.toNat, fun _ => .null))), h.2.1 + 1, h.2.2 + n.toInt.toNat)) : mv_Go D s0 p l e R s m args below meth c M r pc ls (.int n :: st) h := by
  refine mv_newG C gg fun {H locs cells slots Q rls} hr hc hs kk => ?_
  obtain ⟨kd, hsd, hw⟩ := mv_link C (args := args) hl
  obtain ⟨t, ci, z⟩ := q
  have hq : t = 10 := hq
  subst hq
  have hao : mv_ao ci = true := hao
  have e : n.toNatClampNeg = n.toInt.toNat := rfl
  have hw : ∀ w ∈ [Cond.classLink N.1.cls j (mv_cn ci), .instantiable (mv_cn ci) (mv_df ci).length, .initialized (mv_cn ci)], w.before args s = true := hw
  have h14 : ci < 14 := by
    unfold mv_ao at hao
    split at hao <;> first | omega | cases hao
  have hover : va_AO (mv_cn ci) s := by
    rcases C.1.2.2.2.2.2.2.2.2.2 ci h14 with z | z
    · exact va_AO.moved (mv_alike C) z
    · rw [z] at hao; cases hao
  refine W.anew C.2.1 C.2.2.2.1 C.2.2.2.2.2.2.1 (hw _ List.mem_cons_self) (va_AO.use hover) rfl dg rfl (mv_ge0.mpr h1) (by omega) hc (by rw [e]; exact hs) fun cA kA comp f1 f2 f3 f4 => ?_
  generalize hH1 : H.push ({ cls := cA, slots := Array.replicate n.toNatClampNeg .null, vm := .none } : Cell) = H1
  have z1 : H1.size = H.size + 1 := by rw [← hH1, Array.size_push]
  have e1 : H1[H.size]? = some (arrV cA n.toNatClampNeg (fun _ => .null)) := by rw [← hH1, Array.getElem?_push_size, ← arrV_new]
  have o1 : ∀ q : Nat, q < H.size → H1[q]? = H[q]? := fun q hq => by rw [← hH1, Array.getElem?_push, if_neg (Nat.ne_of_lt hq)]
  have hAr : ArrOfT s cA (.object (mv_cn ci)) := fun N z => ⟨(fun k h => by cases h), kA, f2, comp, f3⟩
  have hRA : va_RA s cA (.object (mv_cn ci)) := ⟨kA, comp, f2, f3, f4, f1⟩
  exact kk H1 z1 o1 ⟨cA, e1, arrOfT_moved (mv_alike C).symm hAr, hRA.moved (mv_alike C).symm, fun z => by cases z⟩
theorem si_objinit (C : mv_Cx D l s0 a0 X p s m meth c N M) {j a : Nat} {q : mv_L} {rest : List Value} (hR : 1 ≤ R.frames ∧ 20 ≤ R.locals) (dg : decode N.2.1 pc = .ok (.invokespecial j, 3)) (hl : mv_look M.2.2.2.2.1 16 j = some q) (hq : q.1 = 23) (h8 : (rest.map fun v => v.category).sum ≤ 8) (hc : True) (gg : mv_Go D s0 p l e R s m args below meth c M r (pc + 3) ls rest h) : mv_Go D s0 p l e R s m args below meth c M r pc ls (.ref a :: rest) h := by
  refine mv_pure gg fun hr a1 k => ?_
  obtain ⟨kd, hsd, hw⟩ := mv_link C (args := args) hl
  obtain ⟨t, z⟩ := q
  have hq : t = 23 := hq
  subst hq
  have hw : ∀ w ∈ [Cond.methodLink N.1.cls j Lib.objectInit, .instanceMethod Lib.objectInit, .code Lib.objectInit ⟨#[0xb1]⟩ 1 none], w.before args s = true := hw
  exact W.objInit C.2.1 C.2.2.2.1 C.2.2.2.2.2.2.1 (hw _ List.mem_cons_self) (hw _ (List.mem_cons_of_mem _ List.mem_cons_self)) (hw _ (List.mem_cons_of_mem _ (List.mem_cons_of_mem _ List.mem_cons_self))) rfl (a1.2.1.1.trans C.2.2.2.2.1.symm) rfl dg hR.1 (by show 2 * 0 + (rest.map fun v => v.category).sum + 12 ≤ R.locals; omega) k
theorem si_ldcS (C : mv_Cx D l s0 a0 X p s m meth c N M) {j : Nat} {q : mv_L} (dg : decode N.2.1 pc = .ok (.ldc j, 2)) (hl : mv_look M.2.2.2.2.1 16 j = some q) (hq : q.1 = 14) (gg : mv_Go D s0 p l e R s m args below meth c M r (pc + 2) ls (.ref (X.2.1 q.2.1) :: st) h) : mv_Go D s0 p l e R s m args below meth c M r pc ls st h := by
  refine mv_pure gg fun hr a1 k => ?_
  obtain ⟨tx, hv⟩ := mv_str C hl hq
  exact va_ldcS C.2.1 C.2.2.2.1 C.2.2.2.2.2.2.1 hv dg k
theorem si_ldcSw (C : mv_Cx D l s0 a0 X p s m meth c N M) {j : Nat} {q : mv_L} (dg : decode N.2.1 pc = .ok (.ldc_w j, 3)) (hl : mv_look M.2.2.2.2.1 16 j = some q) (hq : q.1 = 14) (gg : mv_Go D s0 p l e R s m args below meth c M r (pc + 3) ls (.ref (X.2.1 q.2.1) :: st) h) : mv_Go D s0 p l e R s m args below meth c M r pc ls st h := by
  refine mv_pure gg fun hr a1 k => ?_
  obtain ⟨tx, hv⟩ := mv_str C hl hq
  intro T hT Y
  obtain ⟨t, a, b⟩ := k T hT Y
  exact ⟨t, Y.ldcStringW C.2.1 (own := N.1.cls) (text := tx) (index := j) (a := X.2.1 q.2.1) C.2.2.2.2.2.2.1 hv.1 hv.2 (g := F0 m pc _ st) rfl (by rw [C.2.2.2.1]; exact dg) _ a, b⟩
theorem si_ldcI (C : mv_Cx D l s0 a0 X p s m meth c N M) {j : Nat} {q : mv_L} (dg : decode N.2.1 pc = .ok (.ldc j, 2)) (hl : mv_look M.2.2.2.2.1 16 j = some q) (hq : q.1 = 15) (gg : mv_Go D s0 p l e R s m args below meth c M r (pc + 2) ls (.int (nZ (q.2.1 : Int)) :: st) h) : mv_Go D s0 p l e R s m args below meth c M r pc ls st h := by
  refine mv_pure gg fun hr a1 k => ?_
  obtain ⟨kd, hsd, hw⟩ := mv_link C (args := args) hl
  obtain ⟨t, z⟩ := q
  have hq : t = 15 := hq
  subst hq
  exact lv_ldc C.2.1 C.2.2.2.1 C.2.2.2.2.2.2.1 (hw _ List.mem_cons_self) dg k
theorem si_ldcIw (C : mv_Cx D l s0 a0 X p s m meth c N M) {j : Nat} {q : mv_L} (dg : decode N.2.1 pc = .ok (.ldc_w j, 3)) (hl : mv_look M.2.2.2.2.1 16 j = some q) (hq : q.1 = 15) (gg : mv_Go D s0 p l e R s m args below meth c M r (pc + 3) ls (.int (nZ (q.2.1 : Int)) :: st) h) : mv_Go D s0 p l e R s m args below meth c M r pc ls st h := by
  refine mv_pure gg fun hr a1 k => ?_
  obtain ⟨kd, hsd, hw⟩ := mv_link C (args := args) hl
  obtain ⟨t, z⟩ := q
  have hq : t = 15 := hq
  subst hq
  exact lv_ldcw C.2.1 C.2.2.2.1 C.2.2.2.2.2.2.1 (hw _ List.mem_cons_self) dg k
theorem lv_ldcfw {cc : ByteArray} {ls : Array Slot} {rest : List Value} {H : Heap} {locs : List Loc} {cells slots : Nat} {Q : State → Prop} (hexec : p.tables.exec = Jvm.exec) (hb : c.code = cc) {own : String} {index : Nat} {v : UInt32} (hown : s.vm.findClass own = some m.cls) (hconst : (Jvm.Cond.constantFloat own index v).before args s = true) (hdg : decode cc pc = .ok (.ldc_w index, 3)) (k : W p l e R s m args below meth c H locs cells slots Q (F0 m (pc + 3) ls (.float v :: rest))) : W p l e R s m args below meth c H locs cells slots Q (F0 m pc ls rest) := by
  intro T hT Y
  obtain ⟨t, a, b⟩ := k T hT Y
  obtain ⟨k0, cf, hk, hcf, hcp⟩ := Cond.constantFloat_spec hown hconst
  obtain ⟨k', hk', he⟩ := Y.warmed.alike.2.2 _ _ hk
  refine ⟨t, ?_, b⟩
  have hdg' : decode c.code (F0 m pc ls rest).pc = .ok (.ldc_w index, 3) := by rw [hb]; exact hdg
  jvm_step Y.here [hexec, hdg', ldc_w.wp_float (s := T) (f := F0 m pc ls rest) Y.here.top hk' (by rw [he]; exact hcf) hcp]
  exact a
theorem si_ldcF (C : mv_Cx D l s0 a0 X p s m meth c N M) {j : Nat} {q : mv_L} (dg : decode N.2.1 pc = .ok (.ldc j, 2)) (hl : mv_look M.2.2.2.2.1 16 j = some q) (hq : q.1 = 18) (gg : mv_Go D s0 p l e R s m args below meth c M r (pc + 2) ls (.float (UInt32.ofNat q.2.1) :: st) h) : mv_Go D s0 p l e R s m args below meth c M r pc ls st h := by
  refine mv_pure gg fun hr a1 k => ?_
  obtain ⟨kd, hsd, hw⟩ := mv_link C (args := args) hl
  obtain ⟨t, z⟩ := q
  have hq : t = 18 := hq
  subst hq
  exact lv_ldcf C.2.1 C.2.2.2.1 C.2.2.2.2.2.2.1 (hw _ List.mem_cons_self) dg k
theorem si_ldcFw (C : mv_Cx D l s0 a0 X p s m meth c N M) {j : Nat} {q : mv_L} (dg : decode N.2.1 pc = .ok (.ldc_w j, 3)) (hl : mv_look M.2.2.2.2.1 16 j = some q) (hq : q.1 = 18) (gg : mv_Go D s0 p l e R s m args below meth c M r (pc + 3) ls (.float (UInt32.ofNat q.2.1) :: st) h) : mv_Go D s0 p l e R s m args below meth c M r pc ls st h := by
  refine mv_pure gg fun hr a1 k => ?_
  obtain ⟨kd, hsd, hw⟩ := mv_link C (args := args) hl
  obtain ⟨t, z⟩ := q
  have hq : t = 18 := hq
  subst hq
  exact lv_ldcfw C.2.1 C.2.2.2.1 C.2.2.2.2.2.2.1 (hw _ List.mem_cons_self) dg k
theorem si_ldc2L (C : mv_Cx D l s0 a0 X p s m meth c N M) {j : Nat} {q : mv_L} (dg : decode N.2.1 pc = .ok (.ldc2_w j, 3)) (hl : mv_look M.2.2.2.2.1 16 j = some q) (hq : q.1 = 16) (gg : mv_Go D s0 p l e R s m args below meth c M r (pc + 3) ls (.long (Int64.ofNat q.2.1) :: st) h) : mv_Go D s0 p l e R s m args below meth c M r pc ls st h := by
  refine mv_pure gg fun hr a1 k => ?_
  obtain ⟨kd, hsd, hw⟩ := mv_link C (args := args) hl
  obtain ⟨t, z⟩ := q
  have hq : t = 16 := hq
  subst hq
  exact lv_ldc2 C.2.1 C.2.2.2.1 C.2.2.2.2.2.2.1 (hw _ List.mem_cons_self) dg k
theorem si_ldc2D (C : mv_Cx D l s0 a0 X p s m meth c N M) {j : Nat} {q : mv_L} (dg : decode N.2.1 pc = .ok (.ldc2_w j, 3)) (hl : mv_look M.2.2.2.2.1 16 j = some q) (hq : q.1 = 17) (gg : mv_Go D s0 p l e R s m args below meth c M r (pc + 3) ls (.double (UInt64.ofNat q.2.1) :: st) h) : mv_Go D s0 p l e R s m args below meth c M r pc ls st h := by
  refine mv_pure gg fun hr a1 k => ?_
  obtain ⟨kd, hsd, hw⟩ := mv_link C (args := args) hl
  obtain ⟨t, z⟩ := q
  have hq : t = 17 := hq
  subst hq
  exact lv_ldc2d C.2.1 C.2.2.2.1 C.2.2.2.2.2.2.1 (hw _ List.mem_cons_self) dg k
theorem mv_vaS (C : mv_Cx D l s0 a0 X p s m meth c N M) {H : Heap} {locs : List Loc} (hr : mv_HR D s0 h H) (a3 : ∀ q ∈ locs, s0.heap.size ≤ q.base) (a4 : s.heap.size ≤ h.2.1) : va_S (fun a => s0.heap.size ≤ a) s.heap H locs := by
  refine ⟨by rw [hr.1]; exact a4, fun q hq hn => ?_, a3⟩
  have hq : q < s0.heap.size := Nat.not_le.mp hn
  rw [hr.2.2.1 q hq, C.2.2.2.2.2.2.2.2.2.2.2.2 q hq]
theorem si_getstatic (C : mv_Cx D l s0 a0 X p s m meth c N M) {j : Nat} {q : mv_L} {v : Value} (dg : decode N.2.1 pc = .ok (.getstatic j, 3)) (hl : mv_look M.2.2.2.2.1 16 j = some q) (hq : q.1 = 13) (hv : X.2.2 q.2.1 = v) (gg : mv_Go D s0 p l e R s m args below meth c M r (pc + 3) ls (v :: st) h) : mv_Go D s0 p l e R s m args below meth c M r pc ls st h := by
  refine ⟨gg.1, fun H locs cells slots mc ms rls hr a2 a3 a4 a5 a6 a7 a8 => ?_⟩
  have k := gg.2 H locs cells slots mc ms rls hr a2 a3 a4 a5 a6 a7 a8
  obtain ⟨kd, hsd, hw⟩ := mv_link C (args := args) hl
  obtain ⟨t, n, z⟩ := q
  have hq : t = 13 := hq
  subst hq
  have hv : X.2.2 n = v := hv
  have hsd : (mv_tn n).isSome = true := hsd
  cases ht : mv_tn n with
  | none => rw [ht] at hsd; cases hsd
  | some y =>
    have hw : ∀ w ∈ (match mv_tn n with
      | some z => [Cond.fieldLink N.1.cls j z.1 z.2.1 z.2.2]
      | none => []), w.before args s = true := hw
    rw [ht] at hw
    have hZ := C.1.2.2.2.2.2.1 n y ht
    rw [hv] at hZ
    have hZ' := (va_Z.moved (mv_alike C) hZ).kept (H1 := s.heap) fun a _ hn => C.2.2.2.2.2.2.2.2.2.2.2.2 a (Nat.not_le.mp hn)
    exact va_gets C.2.1 C.2.2.2.1 hZ' (mv_vaS C hr a3 a4) C.2.2.2.2.2.2.1 (hw _ List.mem_cons_self) (fun _ z => z) dg k
end SIMC
