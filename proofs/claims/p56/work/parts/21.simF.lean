section SIMF
variable {D : va_G} {l : Launch} {s0 : State} {a0 : Array Value} {X : mv_X} {p : Program} {e : Env} {R : Room} {s : State} {m : MethodId} {args : Array Value} {below : List Frame} {meth : Method} {c : Code} {N : mv_N} {M : mv_M} {r : mv_R} {pc pc2 : Nat} {ls st st2 : List Value} {h : mv_H}
def mv_All : Prop := ∀ y N M, mv_look mv_mt 16 y = some N → mv_look mv_tab 16 y = some M → mv_good N M
theorem mv_cwok {N' : mv_N} {M' : mv_M} (hh : N'.2.2.2.isEmpty = true) : mv_cw N' M' = .code N'.1 N'.2.1 M'.1 N'.2.2.1 := by
  obtain ⟨a, b, c, d⟩ := N'
  cases d with
  | nil => rfl
  | cons x y => cases hh
theorem mv_13 {N' : mv_N} {M' : mv_M} (h : mv_good N' M') : M'.1 ≤ 40 := by
  have h1 := h.1
  simp only [mv_mck, Bool.and_eq_true] at h1
  exact Nat.ble_eq.mp h1.1.1.1.1
theorem mv_plY {Y : MethodName} (h : mv_plainY Y = true) : Y.cls ≠ "java/lang/invoke/MethodHandle" ∧ Y.cls ≠ "java/lang/invoke/VarHandle" := by
  unfold mv_plainY at h
  rw [Bool.and_eq_true] at h
  exact ⟨bne_iff_ne.mp h.1, bne_iff_ne.mp h.2⟩
theorem mv_nsig {Y : MethodName} {n : Nat} (h : (parseMethodDescriptor Y.desc).map (fun d => d.parameters.length) = some n) : ∀ sig, parseMethodDescriptor Y.desc = some sig → n = sig.parameters.length := fun sig hs => by
  rw [hs] at h
  exact (Option.some.inj h).symm
theorem mv_hws (C : mv_Cx D l s0 a0 X p s m meth c N M) {N' : mv_N} {M' : mv_M} (hw : mv_gg (mv_cw N' M') = true ∧ mv_cw N' M' ∈ lw_tbl) : ∀ w ∈ [mv_cw N' M'], ∀ (a' : Array Value) (U : State), s.WarmedH U.vm → w.before a' U = true := fun w hw' a' U hU => by
  rw [List.mem_singleton.mp hw']
  exact mv_gg_at hU hw.1 (mv_w C (args := #[]) hw)
theorem mv_pcU (C : mv_Cx D l s0 a0 X p s m meth c N M) {as : List Value} {H : Heap} (hr : mv_HR D s0 h H) : ∀ U : State, U.heap = H → s.WarmedH U.vm → mv_Pc D s0 as h as.toArray U := fun U hU hW => ⟨rfl, State.WarmedH.trans C.2.2.1 hW, by rw [hU]; exact hr⟩
theorem mv_blind {as : List Value} : FrameBlind (mv_Pc D s0 as h) := fun a U g mk q => q
theorem mv_w8 {rest : List Value} (h8 : (rest.map fun v => v.category).sum ≤ 8) (hc : True) : 2 * 0 + (rest.map fun v => v.category).sum ≤ 8 := by
  omega
theorem si_iv (C : mv_Cx D l s0 a0 X p s m meth c N M) (hall : mv_All) {call : mv_G} {d : Nat} (hcall : mv_CallOK D l s0 d call) (hR : d + 9 ≤ R.frames ∧ 64 * (d + 1) + 300 ≤ R.locals) {k : mv_K} (ih : ∀ pc ls st h, k pc ls st h = some r → mv_Go D s0 p l e R s m args below meth c M r pc ls st h)
    {j : Nat} {y n cr rk : Nat} (hl : mv_look M.2.2.2.2.1 16 j = some (20, y, n, cr, rk)) (ev : mv_inv X call M k pc ls st h 20 y n cr rk = some r) (dg : decode N.2.1 pc = .ok (.invokevirtual j, 3)) : mv_Go D s0 p l e R s m args below meth c M r pc ls st h := by
  obtain ⟨kd, hsd, hw⟩ := C.2.2.2.2.2.2.2.2.2.2.1.2 j _ hl
  rw [mv_inv] at ev
  obtain ⟨as, rest, rfl, hlen, h8, hca, hcr, ev⟩ := mi_args ev
  obtain ⟨b, As, fs, rfl, hcell, ev⟩ := mi_rcv ev
  have hn : As.length = n := by simpa using hlen
  have hst : (Value.ref b :: As).reverse ++ rest = As.reverse ++ .ref b :: rest := by simp
  rw [hst]
  refine mv_callG C hcall ih ev fun r1 H locs cells slots rls hc hr a2 q1 q2 => ?_
  obtain ⟨hle, ⟨M', hM'⟩, hmet⟩ := hcall _ _ _ _ hc
  have hsd : (match mv_look mv_mt 16 y with
    | some N => N.2.2.2.isEmpty && mv_plainY N.1 && decide ((parseMethodDescriptor N.1.desc).map (fun d => d.parameters.length) = some n) && Nat.blt cr 14 && (Nat.beq kd 0 || (Nat.beq kd 8 && Nat.beq n 0))
    | none => false) = true := hsd
  cases hN' : mv_look mv_mt 16 y with
  | none => rw [hN'] at hsd; cases hsd
  | some N' =>
    rw [hN'] at hsd
    have hsd : (N'.2.2.2.isEmpty && mv_plainY N'.1 && decide ((parseMethodDescriptor N'.1.desc).map (fun d => d.parameters.length) = some n) && Nat.blt cr 14 && (Nat.beq kd 0 || (Nat.beq kd 8 && Nat.beq n 0))) = true := hsd
    simp only [Bool.and_eq_true, decide_eq_true_eq] at hsd
    obtain ⟨⟨⟨⟨s1, s2⟩, s3⟩, s4⟩, s5⟩ := hsd
    rw [Bool.or_eq_true, Bool.and_eq_true] at s5
    rcases s5 with s5 | ⟨s5, s6⟩
    · have hk := Nat.eq_of_beq_eq_true s5
      subst hk
      have hM := hmet N' M' hN' hM' hca
      have h13 := mv_13 (hall y N' M' hN' hM')
      have hw : ∀ w ∈ (match mv_look mv_mt 16 y with
        | some N2 => (match mv_look mv_tab 16 y with
          | some M2 => mv_cw N2 M2 :: .initialized N2.1.cls :: (match (0 : Nat) with
            | 0 => [.methodLink N.1.cls j N2.1, .instanceMethod N2.1, .selects (mv_cn cr) N2.1 N2.1]
            | 2 => [.methodLink N.1.cls j N2.1, .sameMethod N2.1.cls N2.1.cls N2.1.name N2.1.desc, .superclass N.1.cls N2.1.cls, .instanceMethod N2.1]
            | 3 => [.methodLink N.1.cls j N2.1, .static N2.1]
            | 4 => [.methodLinkNest N.1.cls j N2.1 "BalloonHarbour", .static N2.1]
            | 6 => [.methodLink N.1.cls j N2.1, .instanceMethod N2.1]
            | 8 => [.methodLink N.1.cls j (lw_ASB "length" "()I"), .sameMethod "java/lang/AbstractStringBuilder" "java/lang/AbstractStringBuilder" "length" "()I", .instanceMethod (lw_ASB "length" "()I"), mv_cw n_J5_length_8abf5 m_J5_length_8abf5, .selects (mv_cn cr) (lw_ASB "length" "()I") N2.1, .instanceMethod N2.1]
            | _ => [.methodLinkNest N.1.cls j N2.1 "BalloonHarbour", .instanceMethod N2.1])
          | none => [])
        | none => []), mv_gg w = true ∧ w ∈ lw_tbl := hw
      rw [hN', hM'] at hw
      have hcwm := hw _ List.mem_cons_self
      have hini := mv_w C (args := args) (hw _ (List.mem_cons_of_mem _ List.mem_cons_self))
      have hcw := mv_cwok (M' := M') s1
      have hcodeb : (Cond.code N'.1 N'.2.1 M'.1 N'.2.2.1).before args s = true := by rw [← hcw]; exact mv_w C hcwm
      have hcodem : Cond.code N'.1 N'.2.1 M'.1 N'.2.2.1 ∈ [mv_cw N' M'] := by rw [hcw]; exact List.mem_singleton.mpr rfl
      have hcl := mv_cell_is C.1 hr hcell
      obtain ⟨r0, g0, g5, cellV, g1, g2, g3, -⟩ := hcl
      have g0 : vwCl[cr]? = some r0 := g0
      obtain ⟨ps, hps⟩ := mv_cl_ok g0
      have hcn := (mv_clk_ok hps).2.1
      have hCA := ((mv_kk C).1 cr r0 g0).2
      have hpre : PreV s H (mv_cn cr) b (mv_Pc D s0 (.ref b :: As) h) As := ⟨mv_blind, ⟨cellV, g1, g3.2, by rw [hcn, g2]; exact hCA.1⟩, mv_pcU C hr⟩
      exact vx_runV (Ts := []) (nL := M.1) ⟨C.2.1, C.2.2.2.1, C.2.2.2.2.1, C.2.2.2.2.2.2.1, fun w hw => nomatch hw⟩ hM ⟨⟨rfl, rfl, by show d + 8 + 1 ≤ R.frames; omega, by show 8 + (M'.1 + 11) + (64 * d + 300) ≤ R.locals; omega, mv_hws C hcwm, hcodem, hcodeb, hini, mv_plY s2, mv_nsig s3, mv_w C (hw _ (List.mem_cons_of_mem _ (List.mem_cons_of_mem _ List.mem_cons_self)))⟩, mv_w C (hw _ (List.mem_cons_of_mem _ (List.mem_cons_of_mem _ (List.mem_cons_of_mem _ List.mem_cons_self)))), mv_w C (hw _ (List.mem_cons_of_mem _ (List.mem_cons_of_mem _ (List.mem_cons_of_mem _ (List.mem_cons_of_mem _ List.mem_cons_self)))))⟩ hpre rfl hn a2.2.1.1 rfl (mv_w8 h8 hcr) dg ⟨q1, q2⟩
    · have hk := Nat.eq_of_beq_eq_true s5
      subst hk
      have hM := hmet N' M' hN' hM' hca
      have h13 := mv_13 (hall y N' M' hN' hM')
      have hw : ∀ w ∈ (match mv_look mv_mt 16 y with
        | some N2 => (match mv_look mv_tab 16 y with
          | some M2 => mv_cw N2 M2 :: .initialized N2.1.cls :: (match (8 : Nat) with
            | 0 => [.methodLink N.1.cls j N2.1, .instanceMethod N2.1, .selects (mv_cn cr) N2.1 N2.1]
            | 2 => [.methodLink N.1.cls j N2.1, .sameMethod N2.1.cls N2.1.cls N2.1.name N2.1.desc, .superclass N.1.cls N2.1.cls, .instanceMethod N2.1]
            | 3 => [.methodLink N.1.cls j N2.1, .static N2.1]
            | 4 => [.methodLinkNest N.1.cls j N2.1 "BalloonHarbour", .static N2.1]
            | 6 => [.methodLink N.1.cls j N2.1, .instanceMethod N2.1]
            | 8 => [.methodLink N.1.cls j (lw_ASB "length" "()I"), .sameMethod "java/lang/AbstractStringBuilder" "java/lang/AbstractStringBuilder" "length" "()I", .instanceMethod (lw_ASB "length" "()I"), mv_cw n_J5_length_8abf5 m_J5_length_8abf5, .selects (mv_cn cr) (lw_ASB "length" "()I") N2.1, .instanceMethod N2.1]
            | _ => [.methodLinkNest N.1.cls j N2.1 "BalloonHarbour", .instanceMethod N2.1])
          | none => [])
        | none => []), mv_gg w = true ∧ w ∈ lw_tbl := hw
      rw [hN', hM'] at hw
      have hcwm := hw _ List.mem_cons_self
      have hini := mv_w C (args := args) (hw _ (List.mem_cons_of_mem _ List.mem_cons_self))
      have hcw := mv_cwok (M' := M') s1
      have hcodeb : (Cond.code N'.1 N'.2.1 M'.1 N'.2.2.1).before args s = true := by rw [← hcw]; exact mv_w C hcwm
      have hcodem : Cond.code N'.1 N'.2.1 M'.1 N'.2.2.1 ∈ [mv_cw N' M'] := by rw [hcw]; exact List.mem_singleton.mpr rfl
      have hcl := mv_cell_is C.1 hr hcell
      obtain ⟨r0, g0, g5, cellV, g1, g2, g3, -⟩ := hcl
      have g0 : vwCl[cr]? = some r0 := g0
      obtain ⟨ps, hps⟩ := mv_cl_ok g0
      have hcn := (mv_clk_ok hps).2.1
      have hCA := ((mv_kk C).1 cr r0 g0).2
      have hpre : PreV s H (mv_cn cr) b (mv_Pc D s0 (.ref b :: As) h) As := ⟨mv_blind, ⟨cellV, g1, g3.2, by rw [hcn, g2]; exact hCA.1⟩, mv_pcU C hr⟩
      have hw8 : ∀ w ∈ [Cond.methodLink N.1.cls j (lw_ASB "length" "()I"), .sameMethod "java/lang/AbstractStringBuilder" "java/lang/AbstractStringBuilder" "length" "()I", .instanceMethod (lw_ASB "length" "()I"), mv_cw n_J5_length_8abf5 m_J5_length_8abf5, .selects (mv_cn cr) (lw_ASB "length" "()I") N'.1, .instanceMethod N'.1], w.before args s = true := fun w h => mv_w C (hw w (List.mem_cons_of_mem _ (List.mem_cons_of_mem _ h)))
      have h8c : (Cond.code (lw_ASB "length" "()I") n_J5_length_8abf5.2.1 m_J5_length_8abf5.1 n_J5_length_8abf5.2.2.1).before args s = true := hw8 _ (by simp only [List.mem_cons]; exact Or.inr (Or.inr (Or.inr (Or.inl rfl))))
      have hin : As.length = 0 := by rw [hn]; exact Nat.eq_of_beq_eq_true s6
      exact vx_runU (Ts := []) (nL := M.1) (x := lw_ASB "length" "()I") (owner := "java/lang/AbstractStringBuilder") ⟨C.2.1, C.2.2.2.1, C.2.2.2.2.1, C.2.2.2.2.2.2.1, fun w hw => nomatch hw⟩ hM ⟨⟨rfl, rfl, by show d + 8 + 1 ≤ R.frames; omega, by show 8 + (M'.1 + 11) + (64 * d + 300) ≤ R.locals; omega, mv_hws C hcwm, hcodem⟩, hcodeb, hini, ⟨by decide +kernel, by decide +kernel⟩, mv_nsig (by decide +kernel), hw8 _ List.mem_cons_self, hw8 _ (List.mem_cons_of_mem _ List.mem_cons_self), va_Decl.of (hw8 _ (List.mem_cons_of_mem _ (List.mem_cons_of_mem _ List.mem_cons_self))) h8c, hw8 _ (List.mem_cons_of_mem _ (List.mem_cons_of_mem _ (List.mem_cons_of_mem _ (List.mem_cons_of_mem _ List.mem_cons_self)))), hw8 _ (List.mem_cons_of_mem _ (List.mem_cons_of_mem _ (List.mem_cons_of_mem _ (List.mem_cons_of_mem _ (List.mem_cons_of_mem _ List.mem_cons_self)))))⟩ hpre rfl hin a2.2.1.1 rfl (mv_w8 h8 hcr) dg ⟨q1, q2⟩
theorem si_iu (C : mv_Cx D l s0 a0 X p s m meth c N M) (hall : mv_All) {call : mv_G} {d : Nat} (hcall : mv_CallOK D l s0 d call) (hR : d + 9 ≤ R.frames ∧ 64 * (d + 1) + 300 ≤ R.locals) {k : mv_K} (ih : ∀ pc ls st h, k pc ls st h = some r → mv_Go D s0 p l e R s m args below meth c M r pc ls st h)
    {j : Nat} {y n cr rk : Nat} (hl : mv_look M.2.2.2.2.1 16 j = some (25, y, n, cr, rk)) (ev : mv_inv X call M k pc ls st h 25 y n cr rk = some r) (dg : decode N.2.1 pc = .ok (.invokespecial j, 3)) : mv_Go D s0 p l e R s m args below meth c M r pc ls st h := by
  obtain ⟨kd, hsd, hw⟩ := C.2.2.2.2.2.2.2.2.2.2.1.2 j _ hl
  rw [mv_inv] at ev
  obtain ⟨as, rest, rfl, hlen, h8, hca, hcr, ev⟩ := mi_args ev
  obtain ⟨b, As, fs, rfl, hcell, ev⟩ := mi_rcv ev
  have hn : As.length = n := by simpa using hlen
  have hst : (Value.ref b :: As).reverse ++ rest = As.reverse ++ .ref b :: rest := by simp
  rw [hst]
  refine mv_callG C hcall ih ev fun r1 H locs cells slots rls hc hr a2 q1 q2 => ?_
  obtain ⟨hle, ⟨M', hM'⟩, hmet⟩ := hcall _ _ _ _ hc
  have hsd : (match mv_look mv_mt 16 y with
    | some N => N.2.2.2.isEmpty && mv_plainY N.1 && decide ((parseMethodDescriptor N.1.desc).map (fun d => d.parameters.length) = some n) && Nat.blt cr 14 && Nat.beq kd 2 && N.1.name != "<init>"
    | none => false) = true := hsd
  cases hN' : mv_look mv_mt 16 y with
  | none => rw [hN'] at hsd; cases hsd
  | some N' =>
    rw [hN'] at hsd
    have hsd : (N'.2.2.2.isEmpty && mv_plainY N'.1 && decide ((parseMethodDescriptor N'.1.desc).map (fun d => d.parameters.length) = some n) && Nat.blt cr 14 && Nat.beq kd 2 && N'.1.name != "<init>") = true := hsd
    simp only [Bool.and_eq_true, decide_eq_true_eq] at hsd
    obtain ⟨⟨⟨⟨⟨s1, s2⟩, s3⟩, s4⟩, s5⟩, s6⟩ := hsd
    have hk := Nat.eq_of_beq_eq_true s5
    subst hk
    have hM := hmet N' M' hN' hM' hca
    have h13 := mv_13 (hall y N' M' hN' hM')
    have hw : ∀ w ∈ (match mv_look mv_mt 16 y with
      | some N2 => (match mv_look mv_tab 16 y with
        | some M2 => mv_cw N2 M2 :: .initialized N2.1.cls :: (match (2 : Nat) with
          | 0 => [.methodLink N.1.cls j N2.1, .instanceMethod N2.1, .selects (mv_cn cr) N2.1 N2.1]
          | 2 => [.methodLink N.1.cls j N2.1, .sameMethod N2.1.cls N2.1.cls N2.1.name N2.1.desc, .superclass N.1.cls N2.1.cls, .instanceMethod N2.1]
          | 3 => [.methodLink N.1.cls j N2.1, .static N2.1]
          | 4 => [.methodLinkNest N.1.cls j N2.1 "BalloonHarbour", .static N2.1]
          | 6 => [.methodLink N.1.cls j N2.1, .instanceMethod N2.1]
          | 8 => [.methodLink N.1.cls j (lw_ASB "length" "()I"), .sameMethod "java/lang/AbstractStringBuilder" "java/lang/AbstractStringBuilder" "length" "()I", .instanceMethod (lw_ASB "length" "()I"), mv_cw n_J5_length_8abf5 m_J5_length_8abf5, .selects (mv_cn cr) (lw_ASB "length" "()I") N2.1, .instanceMethod N2.1]
          | _ => [.methodLinkNest N.1.cls j N2.1 "BalloonHarbour", .instanceMethod N2.1])
        | none => [])
      | none => []), mv_gg w = true ∧ w ∈ lw_tbl := hw
    rw [hN', hM'] at hw
    have hcwm := hw _ List.mem_cons_self
    have hini := mv_w C (args := args) (hw _ (List.mem_cons_of_mem _ List.mem_cons_self))
    have hcw := mv_cwok (M' := M') s1
    have hcodeb : (Cond.code N'.1 N'.2.1 M'.1 N'.2.2.1).before args s = true := by rw [← hcw]; exact mv_w C hcwm
    have hcodem : Cond.code N'.1 N'.2.1 M'.1 N'.2.2.1 ∈ [mv_cw N' M'] := by rw [hcw]; exact List.mem_singleton.mpr rfl
    have hcl := mv_cell_is C.1 hr hcell
    obtain ⟨r0, g0, g5, cellV, g1, g2, g3, -⟩ := hcl
    have g0 : vwCl[cr]? = some r0 := g0
    obtain ⟨ps, hps⟩ := mv_cl_ok g0
    have hcn := (mv_clk_ok hps).2.1
    have hCA := ((mv_kk C).1 cr r0 g0).2
    have hpre : PreV s H (mv_cn cr) b (mv_Pc D s0 (.ref b :: As) h) As := ⟨mv_blind, ⟨cellV, g1, g3.2, by rw [hcn, g2]; exact hCA.1⟩, mv_pcU C hr⟩
    exact vx_runSU (Ts := []) (nL := M.1) (C := mv_cn cr) (by rw [hcn]; exact hCA) ⟨C.2.1, C.2.2.2.1, C.2.2.2.2.1, C.2.2.2.2.2.2.1, fun w hw => nomatch hw⟩ hM ⟨⟨rfl, rfl, by show d + 8 + 1 ≤ R.frames; omega, by show 8 + (M'.1 + 11) + (64 * d + 300) ≤ R.locals; omega, mv_hws C hcwm, hcodem⟩, mv_w C (hw _ (List.mem_cons_of_mem _ (List.mem_cons_of_mem _ List.mem_cons_self))), mv_w C (hw _ (List.mem_cons_of_mem _ (List.mem_cons_of_mem _ (List.mem_cons_of_mem _ List.mem_cons_self)))), mv_w C (hw _ (List.mem_cons_of_mem _ (List.mem_cons_of_mem _ (List.mem_cons_of_mem _ (List.mem_cons_of_mem _ List.mem_cons_self))))), mv_w C (hw _ (List.mem_cons_of_mem _ (List.mem_cons_of_mem _ (List.mem_cons_of_mem _ (List.mem_cons_of_mem _ (List.mem_cons_of_mem _ List.mem_cons_self)))))), hini, hcodeb, bne_iff_ne.mp s6, mv_nsig s3⟩ hpre rfl hn a2.2.1.1 rfl (mv_w8 h8 hcr) dg ⟨q1, q2⟩
theorem si_ist (C : mv_Cx D l s0 a0 X p s m meth c N M) (hall : mv_All) {call : mv_G} {d : Nat} (hcall : mv_CallOK D l s0 d call) (hR : d + 9 ≤ R.frames ∧ 64 * (d + 1) + 300 ≤ R.locals) {k : mv_K} (ih : ∀ pc ls st h, k pc ls st h = some r → mv_Go D s0 p l e R s m args below meth c M r pc ls st h)
    {j : Nat} {y n cr rk : Nat} (hl : mv_look M.2.2.2.2.1 16 j = some (21, y, n, cr, rk)) (ev : mv_inv X call M k pc ls st h 21 y n cr rk = some r) (dg : decode N.2.1 pc = .ok (.invokestatic j, 3)) : mv_Go D s0 p l e R s m args below meth c M r pc ls st h := by
  obtain ⟨kd, hsd, hw⟩ := C.2.2.2.2.2.2.2.2.2.2.1.2 j _ hl
  rw [mv_inv] at ev
  obtain ⟨as, rest, rfl, hlen, h8, hca, hcr, ev⟩ := mi_args ev
  refine mv_callG C hcall ih ev fun r1 H locs cells slots rls hc hr a2 q1 q2 => ?_
  obtain ⟨hle, ⟨M', hM'⟩, hmet⟩ := hcall _ _ _ _ hc
  have hsd : (match mv_look mv_mt 16 y with
    | some N => mv_plainY N.1 && decide ((parseMethodDescriptor N.1.desc).map (fun d => d.parameters.length) = some n) && (Nat.beq kd 3 || (Nat.beq kd 4 && N.2.2.2.isEmpty))
    | none => false) = true := hsd
  cases hN' : mv_look mv_mt 16 y with
  | none => rw [hN'] at hsd; cases hsd
  | some N' =>
    rw [hN'] at hsd
    have hsd : (mv_plainY N'.1 && decide ((parseMethodDescriptor N'.1.desc).map (fun d => d.parameters.length) = some n) && (Nat.beq kd 3 || (Nat.beq kd 4 && N'.2.2.2.isEmpty))) = true := hsd
    simp only [Bool.and_eq_true, Bool.or_eq_true, decide_eq_true_eq] at hsd
    obtain ⟨⟨s2, s3⟩, s5⟩ := hsd
    have hM := hmet N' M' hN' hM' hca
    have h13 := mv_13 (hall y N' M' hN' hM')
    have hpre : PreS s H (mv_Pc D s0 as h) as := ⟨mv_blind, mv_pcU C hr⟩
    rcases s5 with s5 | ⟨s5, s1⟩
    · have hk := Nat.eq_of_beq_eq_true s5
      subst hk
      have hw : ∀ w ∈ (match mv_look mv_mt 16 y with
        | some N2 => (match mv_look mv_tab 16 y with
          | some M2 => mv_cw N2 M2 :: .initialized N2.1.cls :: (match (3 : Nat) with
            | 0 => [.methodLink N.1.cls j N2.1, .instanceMethod N2.1, .selects (mv_cn cr) N2.1 N2.1]
            | 2 => [.methodLink N.1.cls j N2.1, .sameMethod N2.1.cls N2.1.cls N2.1.name N2.1.desc, .superclass N.1.cls N2.1.cls, .instanceMethod N2.1]
            | 3 => [.methodLink N.1.cls j N2.1, .static N2.1]
            | 4 => [.methodLinkNest N.1.cls j N2.1 "BalloonHarbour", .static N2.1]
            | 6 => [.methodLink N.1.cls j N2.1, .instanceMethod N2.1]
            | 8 => [.methodLink N.1.cls j (lw_ASB "length" "()I"), .sameMethod "java/lang/AbstractStringBuilder" "java/lang/AbstractStringBuilder" "length" "()I", .instanceMethod (lw_ASB "length" "()I"), mv_cw n_J5_length_8abf5 m_J5_length_8abf5, .selects (mv_cn cr) (lw_ASB "length" "()I") N2.1, .instanceMethod N2.1]
            | _ => [.methodLinkNest N.1.cls j N2.1 "BalloonHarbour", .instanceMethod N2.1])
          | none => [])
        | none => []), mv_gg w = true ∧ w ∈ lw_tbl := hw
      rw [hN', hM'] at hw
      have hcwm := hw _ List.mem_cons_self
      have hini := mv_w C (args := args) (hw _ (List.mem_cons_of_mem _ List.mem_cons_self))
      obtain ⟨Y', cc', ret', hh'⟩ := N'
      cases hh' with
      | nil =>
        have hcodeb : (Cond.code Y' cc' M'.1 ret').before args s = true := mv_w C hcwm
        have hcodem : Cond.code Y' cc' M'.1 ret' ∈ [mv_cw (Y', cc', ret', []) M'] := List.mem_singleton.mpr rfl
        exact vx_runS (Ts := []) (nL := M.1) ⟨C.2.1, C.2.2.2.1, C.2.2.2.2.1, C.2.2.2.2.2.2.1, fun w hw => nomatch hw⟩ hM ⟨⟨rfl, rfl, by show d + 8 + 1 ≤ R.frames; omega, by show 8 + (M'.1 + 11) + (64 * d + 300) ≤ R.locals; omega, mv_hws C hcwm, hcodem, hcodeb, hini, mv_plY s2, mv_nsig s3, mv_w C (hw _ (List.mem_cons_of_mem _ (List.mem_cons_of_mem _ List.mem_cons_self)))⟩, mv_w C (hw _ (List.mem_cons_of_mem _ (List.mem_cons_of_mem _ (List.mem_cons_of_mem _ List.mem_cons_self))))⟩ hpre rfl hlen a2.2.1.1 rfl (mv_w8 h8 hcr) dg ⟨q1, q2⟩
      | cons x z =>
        have hcodeb : (Cond.codeWith Y' cc' M'.1 ret' (x :: z)).before args s = true := mv_w C hcwm
        have hcodem : Cond.codeWith Y' cc' M'.1 ret' (x :: z) ∈ [mv_cw (Y', cc', ret', x :: z) M'] := List.mem_singleton.mpr rfl
        exact vx_runSX (Ts := []) (nL := M.1) ⟨C.2.1, C.2.2.2.1, C.2.2.2.2.1, C.2.2.2.2.2.2.1, fun w hw => nomatch hw⟩ hM ⟨⟨rfl, rfl, by show d + 8 + 1 ≤ R.frames; omega, by show 8 + (M'.1 + 11) + (64 * d + 300) ≤ R.locals; omega, mv_hws C hcwm, hcodem⟩, hcodeb, hini, mv_plY s2, mv_nsig s3, mv_w C (hw _ (List.mem_cons_of_mem _ (List.mem_cons_of_mem _ List.mem_cons_self))), mv_w C (hw _ (List.mem_cons_of_mem _ (List.mem_cons_of_mem _ (List.mem_cons_of_mem _ List.mem_cons_self))))⟩ hpre rfl hlen a2.2.1.1 rfl (mv_w8 h8 hcr) dg ⟨q1, q2⟩
    · have hk := Nat.eq_of_beq_eq_true s5
      subst hk
      have hw : ∀ w ∈ (match mv_look mv_mt 16 y with
        | some N2 => (match mv_look mv_tab 16 y with
          | some M2 => mv_cw N2 M2 :: .initialized N2.1.cls :: (match (4 : Nat) with
            | 0 => [.methodLink N.1.cls j N2.1, .instanceMethod N2.1, .selects (mv_cn cr) N2.1 N2.1]
            | 2 => [.methodLink N.1.cls j N2.1, .sameMethod N2.1.cls N2.1.cls N2.1.name N2.1.desc, .superclass N.1.cls N2.1.cls, .instanceMethod N2.1]
            | 3 => [.methodLink N.1.cls j N2.1, .static N2.1]
            | 4 => [.methodLinkNest N.1.cls j N2.1 "BalloonHarbour", .static N2.1]
            | 6 => [.methodLink N.1.cls j N2.1, .instanceMethod N2.1]
            | 8 => [.methodLink N.1.cls j (lw_ASB "length" "()I"), .sameMethod "java/lang/AbstractStringBuilder" "java/lang/AbstractStringBuilder" "length" "()I", .instanceMethod (lw_ASB "length" "()I"), mv_cw n_J5_length_8abf5 m_J5_length_8abf5, .selects (mv_cn cr) (lw_ASB "length" "()I") N2.1, .instanceMethod N2.1]
            | _ => [.methodLinkNest N.1.cls j N2.1 "BalloonHarbour", .instanceMethod N2.1])
          | none => [])
        | none => []), mv_gg w = true ∧ w ∈ lw_tbl := hw
      rw [hN', hM'] at hw
      have hcwm := hw _ List.mem_cons_self
      have hini := mv_w C (args := args) (hw _ (List.mem_cons_of_mem _ List.mem_cons_self))
      have hcw := mv_cwok (M' := M') s1
      have hcodeb : (Cond.code N'.1 N'.2.1 M'.1 N'.2.2.1).before args s = true := by rw [← hcw]; exact mv_w C hcwm
      have hcodem : Cond.code N'.1 N'.2.1 M'.1 N'.2.2.1 ∈ [mv_cw N' M'] := by rw [hcw]; exact List.mem_singleton.mpr rfl
      exact vx_runSN (Ts := []) (nL := M.1) ⟨C.2.1, C.2.2.2.1, C.2.2.2.2.1, C.2.2.2.2.2.2.1, fun w hw => nomatch hw⟩ hM ⟨⟨⟨rfl, rfl, by show d + 8 + 1 ≤ R.frames; omega, by show 8 + (M'.1 + 11) + (64 * d + 300) ≤ R.locals; omega, mv_hws C hcwm, hcodem⟩, hcodeb, hini, mv_plY s2, mv_nsig s3, mv_w C (hw _ (List.mem_cons_of_mem _ (List.mem_cons_of_mem _ List.mem_cons_self)))⟩, mv_w C (hw _ (List.mem_cons_of_mem _ (List.mem_cons_of_mem _ (List.mem_cons_of_mem _ List.mem_cons_self)))), trivial⟩ hpre rfl hlen a2.2.1.1 rfl (mv_w8 h8 hcr) dg ⟨q1, q2⟩
theorem si_ii (C : mv_Cx D l s0 a0 X p s m meth c N M) (hall : mv_All) {call : mv_G} {d : Nat} (hcall : mv_CallOK D l s0 d call) (hR : d + 9 ≤ R.frames ∧ 64 * (d + 1) + 300 ≤ R.locals) {k : mv_K} (ih : ∀ pc ls st h, k pc ls st h = some r → mv_Go D s0 p l e R s m args below meth c M r pc ls st h)
    {j : Nat} {y n cr rk : Nat} (hl : mv_look M.2.2.2.2.1 16 j = some (22, y, n, cr, rk)) (ev : mv_inv X call M k pc ls st h 22 y n cr rk = some r) (dg : decode N.2.1 pc = .ok (.invokespecial j, 3)) : mv_Go D s0 p l e R s m args below meth c M r pc ls st h := by
  obtain ⟨kd, hsd, hw⟩ := C.2.2.2.2.2.2.2.2.2.2.1.2 j _ hl
  rw [mv_inv] at ev
  obtain ⟨as, rest, rfl, hlen, h8, hca, hcr, ev⟩ := mi_args ev
  obtain ⟨b, As, rfl, ev⟩ := mi_isr ev
  have hn : As.length = n := by simpa using hlen
  have hst : (Value.ref b :: As).reverse ++ rest = As.reverse ++ .ref b :: rest := by simp
  rw [hst]
  refine mv_callG C hcall ih ev fun r1 H locs cells slots rls hc hr a2 q1 q2 => ?_
  obtain ⟨hle, ⟨M', hM'⟩, hmet⟩ := hcall _ _ _ _ hc
  have hsd : (match mv_look mv_mt 16 y with
    | some N => N.2.2.2.isEmpty && mv_plainY N.1 && decide ((parseMethodDescriptor N.1.desc).map (fun d => d.parameters.length) = some n) && (Nat.beq kd 6 || Nat.beq kd 7) && N.1.name == "<init>" && N.2.2.1.isNone
    | none => false) = true := hsd
  cases hN' : mv_look mv_mt 16 y with
  | none => rw [hN'] at hsd; cases hsd
  | some N' =>
    rw [hN'] at hsd
    have hsd : (N'.2.2.2.isEmpty && mv_plainY N'.1 && decide ((parseMethodDescriptor N'.1.desc).map (fun d => d.parameters.length) = some n) && (Nat.beq kd 6 || Nat.beq kd 7) && N'.1.name == "<init>" && N'.2.2.1.isNone) = true := hsd
    simp only [Bool.and_eq_true, Bool.or_eq_true, decide_eq_true_eq, beq_iff_eq] at hsd
    obtain ⟨⟨⟨⟨⟨s1, s2⟩, s3⟩, s5⟩, s6⟩, s7⟩ := hsd
    have s7 : N'.2.2.1 = none := Option.isNone_iff_eq_none.mp s7
    have hM := hmet N' M' hN' hM' hca
    have h13 := mv_13 (hall y N' M' hN' hM')
    have hpre : PreS s H (mv_Pc D s0 (.ref b :: As) h) (.ref b :: As) := ⟨mv_blind, mv_pcU C hr⟩
    rcases s5 with s5 | s5
    · have hk := Nat.eq_of_beq_eq_true s5
      subst hk
      have hw : ∀ w ∈ (match mv_look mv_mt 16 y with
        | some N2 => (match mv_look mv_tab 16 y with
          | some M2 => mv_cw N2 M2 :: .initialized N2.1.cls :: (match (6 : Nat) with
            | 0 => [.methodLink N.1.cls j N2.1, .instanceMethod N2.1, .selects (mv_cn cr) N2.1 N2.1]
            | 2 => [.methodLink N.1.cls j N2.1, .sameMethod N2.1.cls N2.1.cls N2.1.name N2.1.desc, .superclass N.1.cls N2.1.cls, .instanceMethod N2.1]
            | 3 => [.methodLink N.1.cls j N2.1, .static N2.1]
            | 4 => [.methodLinkNest N.1.cls j N2.1 "BalloonHarbour", .static N2.1]
            | 6 => [.methodLink N.1.cls j N2.1, .instanceMethod N2.1]
            | 8 => [.methodLink N.1.cls j (lw_ASB "length" "()I"), .sameMethod "java/lang/AbstractStringBuilder" "java/lang/AbstractStringBuilder" "length" "()I", .instanceMethod (lw_ASB "length" "()I"), mv_cw n_J5_length_8abf5 m_J5_length_8abf5, .selects (mv_cn cr) (lw_ASB "length" "()I") N2.1, .instanceMethod N2.1]
            | _ => [.methodLinkNest N.1.cls j N2.1 "BalloonHarbour", .instanceMethod N2.1])
          | none => [])
        | none => []), mv_gg w = true ∧ w ∈ lw_tbl := hw
      rw [hN', hM'] at hw
      have hcwm := hw _ List.mem_cons_self
      have hini := mv_w C (args := args) (hw _ (List.mem_cons_of_mem _ List.mem_cons_self))
      have hcw := mv_cwok (M' := M') s1
      have hcodeb : (Cond.code N'.1 N'.2.1 M'.1 N'.2.2.1).before args s = true := by rw [← hcw]; exact mv_w C hcwm
      have hcodem : Cond.code N'.1 N'.2.1 M'.1 N'.2.2.1 ∈ [mv_cw N' M'] := by rw [hcw]; exact List.mem_singleton.mpr rfl
      rw [s7] at hcodeb hcodem
      exact vx_runI (Ts := []) (nL := M.1) ⟨C.2.1, C.2.2.2.1, C.2.2.2.2.1, C.2.2.2.2.2.2.1, fun w hw => nomatch hw⟩ hM ⟨⟨rfl, rfl, by show d + 8 + 1 ≤ R.frames; omega, by show 8 + (M'.1 + 11) + (64 * d + 300) ≤ R.locals; omega, mv_hws C hcwm, hcodem, hcodeb, hini, mv_plY s2, mv_nsig s3, mv_w C (hw _ (List.mem_cons_of_mem _ (List.mem_cons_of_mem _ List.mem_cons_self)))⟩, s6, mv_w C (hw _ (List.mem_cons_of_mem _ (List.mem_cons_of_mem _ (List.mem_cons_of_mem _ List.mem_cons_self))))⟩ hpre rfl hn a2.2.1.1 rfl (mv_w8 h8 hcr) dg ⟨q1, q2⟩
    · have hk := Nat.eq_of_beq_eq_true s5
      subst hk
      have hw : ∀ w ∈ (match mv_look mv_mt 16 y with
        | some N2 => (match mv_look mv_tab 16 y with
          | some M2 => mv_cw N2 M2 :: .initialized N2.1.cls :: (match (7 : Nat) with
            | 0 => [.methodLink N.1.cls j N2.1, .instanceMethod N2.1, .selects (mv_cn cr) N2.1 N2.1]
            | 2 => [.methodLink N.1.cls j N2.1, .sameMethod N2.1.cls N2.1.cls N2.1.name N2.1.desc, .superclass N.1.cls N2.1.cls, .instanceMethod N2.1]
            | 3 => [.methodLink N.1.cls j N2.1, .static N2.1]
            | 4 => [.methodLinkNest N.1.cls j N2.1 "BalloonHarbour", .static N2.1]
            | 6 => [.methodLink N.1.cls j N2.1, .instanceMethod N2.1]
            | 8 => [.methodLink N.1.cls j (lw_ASB "length" "()I"), .sameMethod "java/lang/AbstractStringBuilder" "java/lang/AbstractStringBuilder" "length" "()I", .instanceMethod (lw_ASB "length" "()I"), mv_cw n_J5_length_8abf5 m_J5_length_8abf5, .selects (mv_cn cr) (lw_ASB "length" "()I") N2.1, .instanceMethod N2.1]
            | _ => [.methodLinkNest N.1.cls j N2.1 "BalloonHarbour", .instanceMethod N2.1])
          | none => [])
        | none => []), mv_gg w = true ∧ w ∈ lw_tbl := hw
      rw [hN', hM'] at hw
      have hcwm := hw _ List.mem_cons_self
      have hini := mv_w C (args := args) (hw _ (List.mem_cons_of_mem _ List.mem_cons_self))
      have hcw := mv_cwok (M' := M') s1
      have hcodeb : (Cond.code N'.1 N'.2.1 M'.1 N'.2.2.1).before args s = true := by rw [← hcw]; exact mv_w C hcwm
      have hcodem : Cond.code N'.1 N'.2.1 M'.1 N'.2.2.1 ∈ [mv_cw N' M'] := by rw [hcw]; exact List.mem_singleton.mpr rfl
      rw [s7] at hcodeb hcodem
      exact vx_runIN (Ts := []) (nL := M.1) ⟨C.2.1, C.2.2.2.1, C.2.2.2.2.1, C.2.2.2.2.2.2.1, fun w hw => nomatch hw⟩ hM ⟨⟨⟨rfl, rfl, by show d + 8 + 1 ≤ R.frames; omega, by show 8 + (M'.1 + 11) + (64 * d + 300) ≤ R.locals; omega, mv_hws C hcwm, hcodem⟩, hcodeb, hini, mv_plY s2, mv_nsig s3, mv_w C (hw _ (List.mem_cons_of_mem _ (List.mem_cons_of_mem _ List.mem_cons_self)))⟩, s6, mv_w C (hw _ (List.mem_cons_of_mem _ (List.mem_cons_of_mem _ (List.mem_cons_of_mem _ List.mem_cons_self))))⟩ hpre rfl hn a2.2.1.1 rfl (mv_w8 h8 hcr) dg ⟨q1, q2⟩
end SIMF
