section SIMB
variable {D : va_G} {l : Launch} {s0 : State} {a0 : Array Value} {X : mv_X} {p : Program} {e : Env} {R : Room} {s : State} {m : MethodId} {args : Array Value} {below : List Frame} {meth : Method} {c : Code} {N : mv_N} {M : mv_M} {r : mv_R} {pc pc2 : Nat} {ls st st2 : List Value} {h : mv_H}
theorem mv_w (C : mv_Cx D l s0 a0 X p s m meth c N M) {w : Cond} (hw : mv_gg w = true ∧ w ∈ lw_tbl) : w.before args s = true := mv_word C.1 C.2.2.1 hw.2 hw.1
theorem mv_alike (C : mv_Cx D l s0 a0 X p s m meth c N M) : s0.vm.Alike s.vm := C.2.2.1.alike
theorem mv_kk (C : mv_Cx D l s0 a0 X p s m meth c N M) : va_K D vwCl [] s := va_K.moved (mv_alike C) C.1.2.2.1
theorem mv_arr (C : mv_Cx D l s0 a0 X p s m meth c N M) {cA : ClassId} {ty : FieldType} (h : ArrOfT s0 cA ty) : ArrOfT s cA ty := arrOfT_moved (mv_alike C) h
theorem mv_uw (C : mv_Cx D l s0 a0 X p s m meth c N M) {ci : Nat} {q : vw_C} (hq : vwCl[ci]? = some q) : ∀ w ∈ u_ws q.1 q.2.1 q.2.2, w.before args s = true := fun w hw => by
  obtain ⟨ps, hp⟩ := mv_cl_ok hq
  exact mv_w C ((mv_clk_ok hp).1 w hw)
/-- where a field stands -/
theorem mv_fld (C : mv_Cx D l s0 a0 X p s m meth c N M) {ci n : Nat} {q : vw_C} (hq : vwCl[ci]? = some q) (hn : n < q.2.2) : ∃ (cf : ClassId) (kf : Class) (fi : Nat) (f : Field), s.fieldFound? (q.2.1 n).1 (q.2.1 n).2.1 (q.2.1 n).2.2.1 = some (cf, kf, fi, f) ∧ f.slot = D.2 ci n ∧ f.isStatic = false := by
  obtain ⟨hS, hfc, kC, hkC, hkind⟩ := (mv_kk C).1 ci _ hq
  obtain ⟨cf, kf, fi, f, hi, hsl⟩ := hS n hn
  exact ⟨cf, kf, fi, f, hi, hsl, (u_facts (args := #[]) hfc hkC (u_lays (mv_uw C hq) (fun _ z => z) hn) hi).1⟩
theorem si_getfield (C : mv_Cx D l s0 a0 X p s m meth c N M) {j a : Nat} {q : mv_L} {fs : List Value} {v : Value} (dg : decode N.2.1 pc = .ok (.getfield j, 3)) (hl : mv_look M.2.2.2.2.1 16 j = some q) (hq : q.1 = 1) (hc : mv_cell X h a = some (.inl (q.2.1, fs))) (hv : fs[q.2.2.1]? = some v) (g : mv_Go D s0 p l e R s m args below meth c M r (pc + 3) ls (v :: st) h) : mv_Go D s0 p l e R s m args below meth c M r pc ls (.ref a :: st) h := by
  refine mv_pure g fun hr a1 k => ?_
  obtain ⟨kd, hs, hw⟩ := C.2.2.2.2.2.2.2.2.2.2.1.2 j q hl
  obtain ⟨r0, h1, h2, cell, q1, q2, q3, q4⟩ := mv_cell_is C.1 hr hc
  obtain ⟨t, ci, n, kk, z⟩ := q
  have hq : t = 1 := hq
  subst hq
  have h1 : vwCl[ci]? = some r0 := h1
  have h2 : fs.length ≤ r0.2.2 := h2
  have hv : fs[n]? = some v := hv
  have hn0 : n < fs.length := (List.getElem?_eq_some_iff.mp hv).1
  have hn : n < r0.2.2 := Nat.lt_of_lt_of_le hn0 h2
  obtain ⟨cf, kf, fi, f, hi, hsl, hst⟩ := mv_fld C h1 hn
  have hvs : cell.slots[f.slot]? = some v := by
    rw [hsl, q4 n hn0]
    simp [vp_V, hv]
  have hw : ∀ w ∈ (match vwCl[ci]? with
    | some r => (match kd with
      | 0 => [Cond.fieldLink N.1.cls j (r.2.1 n).1 (r.2.1 n).2.1 (r.2.1 n).2.2.1]
      | _ => [Cond.fieldLinkNest N.1.cls j (r.2.1 n).1 (r.2.1 n).2.1 (r.2.1 n).2.2.1 "BalloonHarbour"])
    | none => []), mv_gg w = true ∧ w ∈ lw_tbl := hw
  rw [h1] at hw
  cases kd with
  | zero => exact W.getf C.2.1 C.2.2.2.1 C.2.2.2.2.2.2.1 (mv_w C (hw _ List.mem_cons_self)) hi hst q1 q3.1 hvs rfl rfl dg k
  | succ kd => exact va_Wgetf C.2.1 C.2.2.2.1 C.2.2.2.2.2.2.1 (mv_w C (hw _ List.mem_cons_self)) hi hst q1 q3.1 hvs rfl rfl dg k
/-- a value that a field of kind k takes -/
theorem mv_fkI {k : Nat} {ty : FieldType} {x : Int32} (h : mv_fk k ty = true) (hx : mv_ok k x = true) : narrow ty (.int x) = .int x ∧ fits ty (.int x) = true := by
  unfold mv_fk at h
  split at h <;> first | cases h | skip
  · exact ⟨rfl, rfl⟩
  · cases hx
  · cases hx
  · have hx : (x == 0 || x == 1) = true := hx
    rw [Bool.or_eq_true] at hx
    rcases hx with hx | hx <;> (have := eq_of_beq hx; subst this; exact ⟨rfl, rfl⟩)
  · have hx : (decide (0 ≤ x) && decide (x ≤ 65535)) = true := hx
    refine ⟨?_, hx⟩
    rw [Bool.and_eq_true, decide_eq_true_eq, decide_eq_true_eq, Int32.le_iff_toInt_le, Int32.le_iff_toInt_le] at hx
    show Value.int x.toUInt32.toUInt16.toUInt32.toInt32 = .int x
    congr 1
    apply Int32.toBitVec_inj.mp
    obtain ⟨h1, h2⟩ := hx
    have h1 : 0 ≤ x.toInt := h1
    have h2 : x.toInt ≤ 65535 := h2
    apply BitVec.eq_of_toNat_eq
    have e : x.toInt = (x.toBitVec.toNat : Int) := by
      have := BitVec.toInt_eq_toNat_cond x.toBitVec
      have h3 : x.toInt = x.toBitVec.toInt := rfl
      rw [← h3] at this
      split at this <;> omega
    simp only [UInt32.toBitVec_toInt32, UInt16.toBitVec_toUInt32, UInt32.toBitVec_toUInt16, Int32.toBitVec_toUInt32, BitVec.toNat_setWidth]
    omega
  · have hx : (decide (-128 ≤ x) && decide (x ≤ 127)) = true := hx
    refine ⟨?_, hx⟩
    rw [Bool.and_eq_true, decide_eq_true_eq, decide_eq_true_eq, Int32.le_iff_toInt_le, Int32.le_iff_toInt_le] at hx
    show Value.int x.toInt8.toInt32 = .int x
    congr 1
    apply Int32.toInt_inj.mp
    obtain ⟨h1, h2⟩ := hx
    have h1 : -128 ≤ x.toInt := h1
    have h2 : x.toInt ≤ 127 := h2
    rw [Int8.toInt_toInt32, Int32.toInt_toInt8]
    simp only [Int.bmod_def]
    omega
theorem mv_fkR {k : Nat} {ty : FieldType} {x : Nat} (h : mv_fk k ty = true) (hk : k = 2) : narrow ty (.ref x) = .ref x ∧ fits ty (.ref x) = true := by
  subst hk
  cases ty <;> first | exact ⟨rfl, rfl⟩ | cases h
theorem si_putfield (C : mv_Cx D l s0 a0 X p s m meth c N M) {j a : Nat} {q : mv_L} {fs : List Value} {v : Value} {t : Nat} {sw : List (Int × Nat)} (dg : decode N.2.1 pc = .ok (.putfield j, 3)) (hx : mv_ex N M pc (.putfield j) t sw = true) (hl : mv_look M.2.2.2.2.1 16 j = some q) (hq : q.1 = 1) (hc : h.1 a = some (.inl (q.2.1, fs))) (hn0 : q.2.2.1 < fs.length)
    (hv : ∀ ty, mv_fk q.2.2.2.1 ty = true → narrow ty v = v ∧ fits ty v = true) (g : mv_Go D s0 p l e R s m args below meth c M r (pc + 3) ls st (mv_up h.1 a (some (.inl (q.2.1, fs.set q.2.2.1 v))), h.2)) : mv_Go D s0 p l e R s m args below meth c M r pc ls (v :: .ref a :: st) h := by
  refine ⟨g.1, fun H locs cells slots mc ms rls hr a2 a3 a4 a5 a6 a7 a8 => ?_⟩
  obtain ⟨kd, hs, hw⟩ := C.2.2.2.2.2.2.2.2.2.2.1.2 j q hl
  obtain ⟨hab, r0, h1, h2, cell, q1, q2, q3, q4⟩ := hr.2.2.2 a _ hc
  have hx : (match mv_look M.2.2.2.2.1 16 j with
    | some z => (match vwCl[z.2.1]? with
      | some r => !(r.2.1 z.2.2.1).2.2.2 || (N.1.name == "<init>" && (r.2.1 z.2.2.1).1 == N.1.cls)
      | none => false)
    | none => false) = true := hx
  rw [hl] at hx
  obtain ⟨t, ci, n, kk, z⟩ := q
  have hq : t = 1 := hq
  subst hq
  have h1 : vwCl[ci]? = some r0 := h1
  have h2 : fs.length = r0.2.2 := h2
  have hn0 : n < fs.length := hn0
  have hn : n < r0.2.2 := by omega
  have hx : (match vwCl[ci]? with
      | some r => !(r.2.1 n).2.2.2 || (N.1.name == "<init>" && (r.2.1 n).1 == N.1.cls)
      | none => false) = true := hx
  rw [h1] at hx
  have hx : (!(r0.2.1 n).2.2.2 || (N.1.name == "<init>" && (r0.2.1 n).1 == N.1.cls)) = true := hx
  have hs : (match vwCl[ci]? with
    | some r => Nat.blt n r.2.2 && (match parseFieldDescriptor (r.2.1 n).2.2.1 with
      | some ty => mv_fk kk ty
      | none => false) && (Nat.beq kd 0 || (r.2.1 n).1 != N.1.cls)
    | none => false) = true := hs
  rw [h1] at hs
  have hs : (Nat.blt n r0.2.2 && (match parseFieldDescriptor (r0.2.1 n).2.2.1 with
      | some ty => mv_fk kk ty
      | none => false) && (Nat.beq kd 0 || (r0.2.1 n).1 != N.1.cls)) = true := hs
  rw [Bool.and_eq_true, Bool.and_eq_true] at hs
  obtain ⟨ps, hps⟩ := mv_cl_ok h1
  obtain ⟨-, -, -, ⟨ty, hty⟩, hnm⟩ := mv_clk_ok hps
  have hfk : mv_fk kk (ty n) = true := by
    have := hs.1.2
    rw [(hty n hn).1] at this
    exact this
  obtain ⟨hnr, hft⟩ := hv (ty n) hfk
  obtain ⟨hS, hfc, kC, hkC, hkind⟩ := (mv_kk C).1 ci _ h1
  obtain ⟨cf, kf, fi, f, hi, hsl⟩ := hS n hn
  have hst := (u_facts (args := #[]) hfc hkC (u_lays (mv_uw C h1) (fun _ z => z) hn) hi).1
  have hap := va_apart (own := N.1.cls) (mv_uw C (args := args) h1) (fun _ z => z) ty (fun k hk => (hty k hk).1) hnm (mv_kk C) h1
  have hlay := mv_uw C (args := args) h1 _ (u_in_lay hn)
  have hlt : f.slot < cell.slots.size := by rw [hsl]; exact k2_hasslot (q4 n hn)
  have hw : ∀ w ∈ (match vwCl[ci]? with
    | some r => (match kd with
      | 0 => [Cond.fieldLink N.1.cls j (r.2.1 n).1 (r.2.1 n).2.1 (r.2.1 n).2.2.1]
      | _ => [Cond.fieldLinkNest N.1.cls j (r.2.1 n).1 (r.2.1 n).2.1 (r.2.1 n).2.2.1 "BalloonHarbour"])
    | none => []), mv_gg w = true ∧ w ∈ lw_tbl := hw
  rw [h1] at hw
  have fin : ∀ H' : Heap, H'[a]? = some (cell.setSlot f.slot v) → H'.size = H.size → (∀ q, q ≠ a → H'[q]? = H[q]?) → W p l e R s m args below meth c H' (locs ++ [⟨a, f.slot⟩]) cells slots (vx_MQ below (mv_Qc D s0 r) (mv_XC D s0 r) args s mc ms (fun q => s0.heap.size ≤ q)) (F0 m (pc + 3) rls st) := fun H' e1 e2 e3 => by
    rw [hsl] at e1
    refine g.2 H' _ cells slots mc ms rls (mv_HR_up hr hab e2 e3 ⟨r0, h1, by show (fs.set n v).length = _; rw [List.length_set]; exact h2, t_OB.to (V := updV (vp_V fs) n v) ⟨_, e1, q2, q3, t_set q4 hap hn v⟩ (fun j _ => vp_updV_set hn0 v j)⟩) a2 (fun z hz => ?_) a4 a5 a6 a7 a8
    rcases List.mem_append.mp hz with hz | hz
    · exact a3 z hz
    · rw [List.mem_singleton.mp hz]; exact hab
  cases hf : (r0.2.1 n).2.2.2 with
  | false =>
    unfold u_lay at hlay
    rw [if_neg (by rw [hf]; decide)] at hlay
    have h6 := u_store hfc hkC hkind hlay hi (hty n hn).1 hnr hft
    cases kd with
    | zero => exact W.putK C.2.1 C.2.2.2.1 (f := f) ⟨C.2.2.2.2.2.2.1, mv_w C (hw _ List.mem_cons_self), ⟨_, _, _, hi⟩, hst⟩ (by rw [q2]; exact h6) q1 q3 hlt rfl rfl dg fin
    | succ kd => exact va_WputK C.2.1 C.2.2.2.1 (f := f) C.2.2.2.2.2.2.1 (mv_w C (hw _ List.mem_cons_self)) hi hst (by rw [q2]; exact h6) q1 q3 hlt rfl rfl dg fin
  | true =>
    rw [hf] at hx
    have hx : (N.1.name == "<init>" && (r0.2.1 n).1 == N.1.cls) = true := by simpa using hx
    rw [Bool.and_eq_true] at hx
    have hx1 := eq_of_beq hx.1
    have hx2 := eq_of_beq hx.2
    have hkd : kd = 0 := by
      have := hs.2
      rw [hx2, Bool.or_eq_true] at this
      rcases this with h | h
      · exact Nat.eq_of_beq_eq_true h
      · simp at h
    subst hkd
    unfold u_lay at hlay
    rw [if_pos hf] at hlay
    have hcf : m.cls = cf := by
      obtain ⟨_, _, c', _, _, _, -, -, hf', -, -, -, hown2, -⟩ := Cond.laysFinal_spec hlay
      have e1 : c' = cf := by have := hi.symm.trans hf'; simp at this; exact this.1.symm
      rw [hx2] at hown2
      rw [← e1]; exact Option.some.inj (C.2.2.2.2.2.2.1.symm.trans hown2)
    have h6 := u_fits hfc hkC hkind (Or.inr hlay) hi (hty n hn).1 hnr hft
    exact W.putFinK C.2.1 C.2.2.2.1 C.2.2.2.2.2.2.1 (mv_w C (hw _ List.mem_cons_self)) hi hst hcf (C.2.2.2.2.2.2.2.2.1.trans hx1) (by rw [q2]; exact h6) q1 q3 hlt rfl rfl dg fin
theorem mv_updV {f : Nat → Value} {k : Nat} {v : Value} : updV f k v = mv_up f k v := rfl
theorem mv_nin {i : Int32} {n : Nat} (h1 : 0 ≤ i.toInt) (h2 : i.toInt < n) {cA : ClassId} {g : Nat → Value} : ¬ (i < 0 ∨ (arrV cA n g).slots.size ≤ i.toNatClampNeg) := by
  rw [arrV_size]
  rintro (z | z)
  · exact mv_ge0.mpr h1 z
  · have : i.toNatClampNeg = i.toInt.toNat := rfl
    omega
theorem mv_rd {i : Int32} {n : Nat} (h1 : 0 ≤ i.toInt) (h2 : i.toInt < n) {cA : ClassId} {g : Nat → Value} : (arrV cA n g).slots[i.toNatClampNeg]? = some (g i.toInt.toNat) := by
  have : i.toNatClampNeg = i.toInt.toNat := rfl
  rw [this, arrV_read _ _ (by omega)]
theorem mv_ninR {i : Int32} {n : Nat} (h1 : 0 ≤ i.toInt) (h2 : i.toInt < n) {cell : Cell} (hz : cell.slots.size = n) : ¬ (i < 0 ∨ cell.slots.size ≤ i.toNatClampNeg) := by
  rw [hz]
  rintro (z | z)
  · exact mv_ge0.mpr h1 z
  · have : i.toNatClampNeg = i.toInt.toNat := rfl
    omega
theorem mv_rdR {i : Int32} {n : Nat} (h1 : 0 ≤ i.toInt) (h2 : i.toInt < n) {cell : Cell} {g : Nat → Value} (hg : ∀ j, j < n → cell.slots[j]? = some (g j)) : cell.slots[i.toNatClampNeg]? = some (g i.toInt.toNat) := by
  have : i.toNatClampNeg = i.toInt.toNat := rfl
  rw [this]
  exact hg _ (by omega)
theorem mv_arrR (C : mv_Cx D l s0 a0 X p s m meth c N M) {cell : Cell} {ty : FieldType} (h : s0.isArrayOf cell ty) : s.isArrayOf cell ty := State.isArrayOf_alike (mv_alike C) h
theorem si_iaload (C : mv_Cx D l s0 a0 X p s m meth c N M) {a n : Nat} {t : FieldType} {i : Int32} {g : Nat → Value} (dg : decode N.2.1 pc = .ok (.iaload, 1)) (hc : mv_cell X h a = some (.inr (t, n, g))) (ht : mv_ak 1 t = true) (h1 : 0 ≤ i.toInt) (h2 : i.toInt < n) (gg : mv_Go D s0 p l e R s m args below meth c M r (pc + 1) ls (g i.toInt.toNat :: st) h) : mv_Go D s0 p l e R s m args below meth c M r pc ls (.int i :: .ref a :: st) h := by
  refine mv_pure gg fun hr a1 k => ?_
  obtain ⟨cell, q1, q2, q3, q4, q5⟩ := mv_cell_is C.1 hr hc
  have e : t = .int := by cases t <;> first | rfl | cases ht
  subst e
  exact W.iald C.2.1 C.2.2.2.1 q1 (mv_arrR C q2) q3 (mv_ninR h1 h2 q4) (mv_rdR h1 h2 q5) rfl rfl dg k
theorem si_caload (C : mv_Cx D l s0 a0 X p s m meth c N M) {a n : Nat} {t : FieldType} {i : Int32} {g : Nat → Value} (dg : decode N.2.1 pc = .ok (.caload, 1)) (hc : mv_cell X h a = some (.inr (t, n, g))) (ht : mv_ak 7 t = true) (h1 : 0 ≤ i.toInt) (h2 : i.toInt < n) (gg : mv_Go D s0 p l e R s m args below meth c M r (pc + 1) ls (g i.toInt.toNat :: st) h) : mv_Go D s0 p l e R s m args below meth c M r pc ls (.int i :: .ref a :: st) h := by
  refine mv_pure gg fun hr a1 k => ?_
  obtain ⟨cell, q1, q2, q3, q4, q5⟩ := mv_cell_is C.1 hr hc
  have e : t = .char := by cases t <;> first | rfl | cases ht
  subst e
  exact W.cald C.2.1 C.2.2.2.1 q1 (mv_arrR C q2) q3 (mv_ninR h1 h2 q4) (mv_rdR h1 h2 q5) rfl rfl dg k
theorem si_baload (C : mv_Cx D l s0 a0 X p s m meth c N M) {a n : Nat} {t : FieldType} {i : Int32} {g : Nat → Value} (dg : decode N.2.1 pc = .ok (.baload, 1)) (hc : mv_cell X h a = some (.inr (t, n, g))) (ht : mv_ak 8 t = true) (h1 : 0 ≤ i.toInt) (h2 : i.toInt < n) (gg : mv_Go D s0 p l e R s m args below meth c M r (pc + 1) ls (g i.toInt.toNat :: st) h) : mv_Go D s0 p l e R s m args below meth c M r pc ls (.int i :: .ref a :: st) h := by
  refine mv_pure gg fun hr a1 k => ?_
  obtain ⟨cell, q1, q2, q3, q4, q5⟩ := mv_cell_is C.1 hr hc
  have e : t = .byte := by cases t <;> first | rfl | cases ht
  subst e
  exact W.bald C.2.1 C.2.2.2.1 q1 (mv_arrR C q2) q3 (mv_ninR h1 h2 q4) (mv_rdR h1 h2 q5) rfl rfl dg k
theorem si_laload (C : mv_Cx D l s0 a0 X p s m meth c N M) {a n : Nat} {t : FieldType} {i : Int32} {g : Nat → Value} (dg : decode N.2.1 pc = .ok (.laload, 1)) (hc : mv_cell X h a = some (.inr (t, n, g))) (ht : mv_ak 3 t = true) (h1 : 0 ≤ i.toInt) (h2 : i.toInt < n) (gg : mv_Go D s0 p l e R s m args below meth c M r (pc + 1) ls (g i.toInt.toNat :: st) h) : mv_Go D s0 p l e R s m args below meth c M r pc ls (.int i :: .ref a :: st) h := by
  refine mv_pure gg fun hr a1 k => ?_
  obtain ⟨cell, q1, q2, q3, q4, q5⟩ := mv_cell_is C.1 hr hc
  have e : t = .long := by cases t <;> first | rfl | cases ht
  subst e
  exact W.lald C.2.1 C.2.2.2.1 q1 (mv_arrR C q2) q3 (mv_ninR h1 h2 q4) (mv_rdR h1 h2 q5) rfl rfl dg k
theorem si_daload (C : mv_Cx D l s0 a0 X p s m meth c N M) {a n : Nat} {t : FieldType} {i : Int32} {g : Nat → Value} (dg : decode N.2.1 pc = .ok (.daload, 1)) (hc : mv_cell X h a = some (.inr (t, n, g))) (ht : mv_ak 5 t = true) (h1 : 0 ≤ i.toInt) (h2 : i.toInt < n) (gg : mv_Go D s0 p l e R s m args below meth c M r (pc + 1) ls (g i.toInt.toNat :: st) h) : mv_Go D s0 p l e R s m args below meth c M r pc ls (.int i :: .ref a :: st) h := by
  refine mv_pure gg fun hr a1 k => ?_
  obtain ⟨cell, q1, q2, q3, q4, q5⟩ := mv_cell_is C.1 hr hc
  have e : t = .double := by cases t <;> first | rfl | cases ht
  subst e
  exact W.dald C.2.1 C.2.2.2.1 q1 (mv_arrR C q2) q3 (mv_ninR h1 h2 q4) (mv_rdR h1 h2 q5) rfl rfl dg k
theorem si_aaload (C : mv_Cx D l s0 a0 X p s m meth c N M) {a n : Nat} {t : FieldType} {i : Int32} {g : Nat → Value} (dg : decode N.2.1 pc = .ok (.aaload, 1)) (hc : mv_cell X h a = some (.inr (t, n, g))) (ht : mv_ak 2 t = true) (h1 : 0 ≤ i.toInt) (h2 : i.toInt < n) (gg : mv_Go D s0 p l e R s m args below meth c M r (pc + 1) ls (g i.toInt.toNat :: st) h) : mv_Go D s0 p l e R s m args below meth c M r pc ls (.int i :: .ref a :: st) h := by
  refine mv_pure gg fun hr a1 k => ?_
  obtain ⟨cell, q1, q2, q3, q4, q5⟩ := mv_cell_is C.1 hr hc
  obtain ⟨C0, e⟩ : ∃ C0, t = .object C0 := by cases t <;> first | exact ⟨_, rfl⟩ | cases ht
  subst e
  exact W.aald C.2.1 C.2.2.2.1 q1 (mv_arrR C q2) rfl q3 (mv_ninR h1 h2 q4) (mv_rdR h1 h2 q5) rfl rfl dg k
theorem si_alen (C : mv_Cx D l s0 a0 X p s m meth c N M) {a n : Nat} {t : FieldType} {g : Nat → Value} (dg : decode N.2.1 pc = .ok (.arraylength, 1)) (hc : mv_cell X h a = some (.inr (t, n, g))) (gg : mv_Go D s0 p l e R s m args below meth c M r (pc + 1) ls (.int (nZ n) :: st) h) : mv_Go D s0 p l e R s m args below meth c M r pc ls (.ref a :: st) h := by
  refine mv_pure gg fun hr a1 k => ?_
  obtain ⟨cell, q1, q2, q3, q4, q5⟩ := mv_cell_is C.1 hr hc
  refine W.alen C.2.1 C.2.2.2.1 q1 (mv_arrR C q2) ?_ rfl rfl dg k
  rw [q4]
  rfl
/-- one element written -/
theorem mv_asG (C : mv_Cx D l s0 a0 X p s m meth c N M) {a n : Nat} {t : FieldType} {i : Int32} {v : Value} {g : Nat → Value} {stx : List Value} (hc : h.1 a = some (.inr (t, n, g))) (h1 : 0 ≤ i.toInt) (h2 : i.toInt < n) (hf : mv_prim t = true → fits t v = true) (gg : mv_Go D s0 p l e R s m args below meth c M r (pc + 1) ls st (mv_up h.1 a (some (.inr (t, n, mv_up g i.toInt.toNat v))), h.2))
    (row : ∀ {H : Heap} {locs : List Loc} {cells slots : Nat} {Q : State → Prop} {rls : Array Slot} {cA : ClassId}, H[a]? = some (arrV cA n g) → ArrOfT s cA t → va_RA s cA t → mv_HR D s0 h H → (∀ H' : Heap, H'[a]? = some ((arrV cA n g).setSlot i.toNatClampNeg v) → H'.size = H.size → (∀ q, q ≠ a → H'[q]? = H[q]?) → W p l e R s m args below meth c H' (locs ++ [⟨a, i.toNatClampNeg⟩]) cells slots Q (F0 m (pc + 1) rls st)) → W p l e R s m args below meth c H locs cells slots Q (F0 m pc rls stx)) : mv_Go D s0 p l e R s m args below meth c M r pc ls stx h := by
  refine ⟨gg.1, fun H locs cells slots mc ms rls hr a2 a3 a4 a5 a6 a7 a8 => ?_⟩
  obtain ⟨hab, cA, q1, q2, q3, q4⟩ := hr.2.2.2 a _ hc
  refine row q1 (mv_arr C q2) (q3.moved (mv_alike C)) hr fun H' e1 e2 e3 => ?_
  rw [arrV_store, mv_updV] at e1
  refine gg.2 H' _ cells slots mc ms rls (mv_HR_up hr hab e2 e3 ⟨cA, e1, q2, q3, fun hp j hj => ?_⟩) a2 (fun z hz => ?_) a4 a5 a6 a7 a8
  · show fits t (if j = i.toInt.toNat then v else g j) = true
    split
    · exact hf hp
    · exact q4 hp j hj
  · rcases List.mem_append.mp hz with hz | hz
    · exact a3 z hz
    · rw [List.mem_singleton.mp hz]; exact hab
theorem si_iastore (C : mv_Cx D l s0 a0 X p s m meth c N M) {a n : Nat} {t : FieldType} {i : Int32} {x : Int32} {g : Nat → Value} (dg : decode N.2.1 pc = .ok (.iastore, 1)) (hc : h.1 a = some (.inr (t, n, g))) (ht : mv_ak 1 t = true) (h1 : 0 ≤ i.toInt) (h2 : i.toInt < n) (gg : mv_Go D s0 p l e R s m args below meth c M r (pc + 1) ls st (mv_up h.1 a (some (.inr (t, n, mv_up g i.toInt.toNat (.int x)))), h.2)) : mv_Go D s0 p l e R s m args below meth c M r pc ls (.int x :: .int i :: .ref a :: st) h := by
  have e : t = .int := by cases t <;> first | rfl | cases ht
  subst e
  exact mv_asG C hc h1 h2 (fun _ => rfl) gg fun q1 q2 _ _ kk => W.iast C.2.1 C.2.2.2.1 q1 (q2 n g) (fun q => by cases q) (mv_nin h1 h2) rfl rfl dg kk
theorem si_castore (C : mv_Cx D l s0 a0 X p s m meth c N M) {a n : Nat} {t : FieldType} {i : Int32} {x : Int32} {g : Nat → Value} (dg : decode N.2.1 pc = .ok (.castore, 1)) (hc : h.1 a = some (.inr (t, n, g))) (ht : mv_ak 7 t = true) (h1 : 0 ≤ i.toInt) (h2 : i.toInt < n) (gg : mv_Go D s0 p l e R s m args below meth c M r (pc + 1) ls st (mv_up h.1 a (some (.inr (t, n, mv_up g i.toInt.toNat (.int (vp_nar .char x))))), h.2)) : mv_Go D s0 p l e R s m args below meth c M r pc ls (.int x :: .int i :: .ref a :: st) h := by
  have e : t = .char := by cases t <;> first | rfl | cases ht
  subst e
  exact mv_asG C hc h1 h2 (fun z => by cases z) gg fun q1 q2 _ _ kk => W.cast C.2.1 C.2.2.2.1 q1 (q2 n g) (fun q => by cases q) (mv_nin h1 h2) rfl rfl dg kk
theorem si_bastore (C : mv_Cx D l s0 a0 X p s m meth c N M) {a n : Nat} {t : FieldType} {i : Int32} {x : Int32} {g : Nat → Value} (dg : decode N.2.1 pc = .ok (.bastore, 1)) (hc : h.1 a = some (.inr (t, n, g))) (ht : mv_ak 8 t = true) (h1 : 0 ≤ i.toInt) (h2 : i.toInt < n) (gg : mv_Go D s0 p l e R s m args below meth c M r (pc + 1) ls st (mv_up h.1 a (some (.inr (t, n, mv_up g i.toInt.toNat (.int x.toInt8.toInt32)))), h.2)) : mv_Go D s0 p l e R s m args below meth c M r pc ls (.int x :: .int i :: .ref a :: st) h := by
  have e : t = .byte := by cases t <;> first | rfl | cases ht
  subst e
  exact mv_asG C hc h1 h2 (fun _ => pk_fb x) gg fun q1 q2 _ _ kk => W.bast C.2.1 C.2.2.2.1 q1 (q2 n g) (fun q => by cases q) (mv_nin h1 h2) rfl rfl dg kk
theorem si_lastore (C : mv_Cx D l s0 a0 X p s m meth c N M) {a n : Nat} {t : FieldType} {i : Int32} {x : Int64} {g : Nat → Value} (dg : decode N.2.1 pc = .ok (.lastore, 1)) (hc : h.1 a = some (.inr (t, n, g))) (ht : mv_ak 3 t = true) (h1 : 0 ≤ i.toInt) (h2 : i.toInt < n) (gg : mv_Go D s0 p l e R s m args below meth c M r (pc + 1) ls st (mv_up h.1 a (some (.inr (t, n, mv_up g i.toInt.toNat (.long x)))), h.2)) : mv_Go D s0 p l e R s m args below meth c M r pc ls (.long x :: .int i :: .ref a :: st) h := by
  have e : t = .long := by cases t <;> first | rfl | cases ht
  subst e
  exact mv_asG C hc h1 h2 (fun z => by cases z) gg fun q1 q2 _ _ kk => W.last C.2.1 C.2.2.2.1 q1 (q2 n g) (fun q => by cases q) (mv_nin h1 h2) rfl rfl dg kk
theorem si_dastore (C : mv_Cx D l s0 a0 X p s m meth c N M) {a n : Nat} {t : FieldType} {i : Int32} {x : UInt64} {g : Nat → Value} (dg : decode N.2.1 pc = .ok (.dastore, 1)) (hc : h.1 a = some (.inr (t, n, g))) (ht : mv_ak 5 t = true) (h1 : 0 ≤ i.toInt) (h2 : i.toInt < n) (gg : mv_Go D s0 p l e R s m args below meth c M r (pc + 1) ls st (mv_up h.1 a (some (.inr (t, n, mv_up g i.toInt.toNat (.double x)))), h.2)) : mv_Go D s0 p l e R s m args below meth c M r pc ls (.double x :: .int i :: .ref a :: st) h := by
  have e : t = .double := by cases t <;> first | rfl | cases ht
  subst e
  exact mv_asG C hc h1 h2 (fun z => by cases z) gg fun q1 q2 _ _ kk => W.dast C.2.1 C.2.2.2.1 q1 (q2 n g) (fun q => by cases q) (mv_nin h1 h2) rfl rfl dg kk
theorem si_aastore (C : mv_Cx D l s0 a0 X p s m meth c N M) {a b cb n : Nat} {C0 : String} {i : Int32} {fs : List Value} {g : Nat → Value} (dg : decode N.2.1 pc = .ok (.aastore, 1)) (hb : h.1 b = some (.inl (cb, fs))) (hc : h.1 a = some (.inr (.object C0, n, g))) (hC : mv_cn cb = C0) (h1 : 0 ≤ i.toInt) (h2 : i.toInt < n) (gg : mv_Go D s0 p l e R s m args below meth c M r (pc + 1) ls st (mv_up h.1 a (some (.inr (.object C0, n, mv_up g i.toInt.toNat (.ref b)))), h.2)) : mv_Go D s0 p l e R s m args below meth c M r pc ls (.ref b :: .int i :: .ref a :: st) h := by
  refine mv_asG C hc h1 h2 (fun z => by cases z) gg fun q1 q2 q3 hr kk => ?_
  obtain ⟨-, r0, g0, g5, cellV, g1, g2, g3, -⟩ := hr.2.2.2 b _ hb
  have g0 : vwCl[cb]? = some r0 := g0
  obtain ⟨ps, hps⟩ := mv_cl_ok g0
  have hn := (mv_clk_ok hps).2.1
  have hcls := ((mv_kk C).1 cb r0 g0).2
  obtain ⟨kA, comp, k1, k2, k3, -⟩ := q3
  have hcomp : comp = D.1 cb := Option.some.inj (k3.symm.trans (by rw [← hC, hn]; exact hcls.1))
  subst hcomp
  obtain ⟨kC, hkC, -⟩ := hcls.2
  have hnn := mv_nin h1 h2 (i := i) (n := n) (cA := 0) (g := g)
  rw [arrV_size] at hnn
  exact W.aast C.2.1 C.2.2.2.1 q1 (fun q h => by cases h) (fun h => by cases h) k1 k2 rfl hkC ⟨fun z => hnn (Or.inl z), by show _ < (arrV _ _ _).slots.size; rw [arrV_size]; exact Nat.not_le.mp fun z => hnn (Or.inr z)⟩ g1 (fun q h => by rw [g3] at h; cases h) (by rw [g2]; exact hkC) (by rw [g2]; exact va_assign hcls) rfl rfl dg kk
end SIMB
