section SIMG
variable {D : va_G} {l : Launch} {s0 : State} {a0 : Array Value} {X : mv_X} {p : Program} {e : Env} {R : Room} {s : State} {m : MethodId} {args : Array Value} {below : List Frame} {meth : Method} {c : Code} {N : mv_N} {M : mv_M} {r : mv_R} {pc pc2 : Nat} {ls st st2 : List Value} {h : mv_H}
/-- where a switch goes -/
def mv_swt (x : Int32) (t : Nat) : List (Int × Nat) → Nat
  | [] => t
  | q :: r => if x = nZ q.1 then q.2 else mv_swt x t r
theorem mi_sw {x : Int32} {t : Nat} {f : Nat → Option mv_R} {r : mv_R} : ∀ {sw : List (Int × Nat)}, mv_sw x t f sw = some r → ∃ tg, mv_swt x t sw = tg ∧ f tg = some r
  | [], e => ⟨t, rfl, e⟩
  | q :: sw, e => by
    have e : (if x = nZ q.1 then f q.2 else mv_sw x t f sw) = some r := e
    by_cases hx : x = nZ q.1
    · rw [if_pos hx] at e
      exact ⟨q.2, if_pos hx, e⟩
    · rw [if_neg hx] at e
      obtain ⟨tg, h1, h2⟩ := mi_sw e
      exact ⟨tg, (if_neg hx).trans h1, h2⟩
theorem nZ_toInt {z : Int} (h1 : -2147483648 ≤ z) (h2 : z < 2147483648) : (nZ z).toInt = z := by
  unfold nZ
  rw [Int32.toInt_ofInt]
  simp only [Int.bmod_def, Int32.size]
  omega
theorem nZ_eta (x : Int32) : nZ x.toInt = x := Int32.ofInt_toInt x
theorem nZ_eq {x : Int32} {z : Int} (h1 : -2147483648 ≤ z) (h2 : z < 2147483648) : x = nZ z ↔ x.toInt = z := by
  constructor
  · rintro rfl; exact nZ_toInt h1 h2
  · intro h; rw [← h, nZ_eta]
theorem mv_swt_in {x : Int32} {t : Nat} : ∀ {sw : List (Int × Nat)} {lo : Int} {k : Nat}, (∀ j, j < sw.length → ∃ tg, sw[j]? = some (lo + (k + j : Nat), tg) ∧ -2147483648 ≤ lo + (k + j : Nat) ∧ lo + (k + j : Nat) < 2147483648) → ∀ j, j < sw.length → x.toInt = lo + (k + j : Nat) → ∃ tg, sw[j]? = some (lo + (k + j : Nat), tg) ∧ mv_swt x t sw = tg
  | [], lo, k, h, j, hj, _ => absurd hj (Nat.not_lt_zero j)
  | q :: sw, lo, k, h, 0, hj, hx => by
    obtain ⟨tg, h1, h2, h3⟩ := h 0 hj
    refine ⟨tg, h1, ?_⟩
    simp only [List.getElem?_cons_zero, Option.some.injEq] at h1
    subst h1
    exact if_pos ((nZ_eq h2 h3).mpr hx)
  | q :: sw, lo, k, h, j + 1, hj, hx => by
    have h' : ∀ i, i < sw.length → ∃ tg, sw[i]? = some (lo + (k + 1 + i : Nat), tg) ∧ -2147483648 ≤ lo + (k + 1 + i : Nat) ∧ lo + (k + 1 + i : Nat) < 2147483648 := fun i hi => by
      obtain ⟨tg, h1, h2⟩ := h (i + 1) (by simpa using hi)
      refine ⟨tg, ?_, ?_⟩
      · rw [List.getElem?_cons_succ] at h1
        rw [h1]
        congr 3
        omega
      · rw [show k + 1 + i = k + (i + 1) by omega]; exact h2
    obtain ⟨tg, h1, h2⟩ := mv_swt_in (x := x) (t := t) h' j (by simpa using hj) (by rw [hx]; congr 2; omega)
    refine ⟨tg, ?_, ?_⟩
    · rw [List.getElem?_cons_succ, h1]
      congr 3
      omega
    · obtain ⟨t0, g1, g2, g3⟩ := h 0 (Nat.zero_lt_succ _)
      simp only [List.getElem?_cons_zero, Option.some.injEq] at g1
      subst g1
      refine (if_neg fun he => ?_).trans h2
      have := (nZ_eq g2 g3).mp he
      omega
theorem mv_swt_out {x : Int32} {t : Nat} : ∀ {sw : List (Int × Nat)}, (∀ q ∈ sw, x ≠ nZ q.1) → mv_swt x t sw = t
  | [], _ => rfl
  | q :: sw, h => (if_neg (h q List.mem_cons_self)).trans (mv_swt_out fun z hz => h z (List.mem_cons_of_mem _ hz))
theorem si_tsw (C : mv_Cx D l s0 a0 X p s m meth c N M) {d lo hi : Int} {offs : Array Int} {t n tg : Nat} {sw : List (Int × Nat)} {x : Int32} (dg : decode N.2.1 pc = .ok (.tableswitch d lo hi offs, n)) (hx : mv_ex N M pc (.tableswitch d lo hi offs) t sw = true) (ht : mv_swt x t sw = tg) (g : mv_Go D s0 p l e R s m args below meth c M r tg ls st h) : mv_Go D s0 p l e R s m args below meth c M r pc ls (.int x :: st) h := by
  have hx : (decide ((pc : Int) + d = (t : Int)) && decide (-2147483648 ≤ lo) && decide (hi < 2147483648) && decide (hi + 1 = lo + sw.length) &&
      (List.range sw.length).all fun j => decide (sw[j]? = (offs[j]?).map fun o => (lo + j, ((pc : Int) + o).toNat)) && (match offs[j]? with
        | some o => decide (0 ≤ (pc : Int) + o)
        | none => false)) = true := hx
  simp only [Bool.and_eq_true, decide_eq_true_eq, List.all_eq_true, List.mem_range] at hx
  obtain ⟨⟨⟨⟨h1, h2⟩, h3⟩, h4⟩, h5⟩ := hx
  have h6 : ∀ j, j < sw.length → ∃ o, offs[j]? = some o ∧ sw[j]? = some (lo + (j : Nat), ((pc : Int) + o).toNat) ∧ 0 ≤ (pc : Int) + o := fun j hj => by
    obtain ⟨g1, g2⟩ := h5 j hj
    cases ho : offs[j]? with
    | none => rw [ho] at g2; cases g2
    | some o =>
      rw [ho] at g1 g2
      exact ⟨o, rfl, g1, of_decide_eq_true g2⟩
  by_cases hin : lo ≤ x.toInt ∧ x.toInt ≤ hi
  · have hj : (x.toInt - lo).toNat < sw.length := by omega
    have he : x.toInt = lo + ((x.toInt - lo).toNat : Nat) := by omega
    obtain ⟨tg2, q1, q2⟩ := mv_swt_in (x := x) (t := t) (sw := sw) (lo := lo) (k := 0) (fun j hj => by
      obtain ⟨o, -, g2, g3⟩ := h6 j hj
      refine ⟨_, by rw [Nat.zero_add]; exact g2, by omega, by omega⟩) _ hj (by rw [Nat.zero_add]; exact he)
    obtain ⟨o, g1, g2, g3⟩ := h6 _ hj
    rw [Nat.zero_add] at q1
    have e1 : tg2 = ((pc : Int) + o).toNat := by
      have := q1.symm.trans g2
      simp only [Option.some.injEq, Prod.mk.injEq] at this
      exact this.2
    have e2 : tg = tg2 := ht.symm.trans q2
    exact mv_pure g fun _ a k => lv_tableIn C.2.1 C.2.2.2.1 dg (by omega) (by omega) g1 (by rw [e2, e1]; omega) k
  · have e1 : tg = t := ht.symm.trans (mv_swt_out fun q hq => by
      obtain ⟨j, hj⟩ := List.mem_iff_getElem?.mp hq
      have hlt := (List.getElem?_eq_some_iff.mp hj).1
      obtain ⟨o, g1, g2, g3⟩ := h6 j hlt
      have := hj.symm.trans g2
      cases this
      intro he
      have := (nZ_eq (by omega) (by omega)).mp he
      omega)
    exact mv_pure g fun _ a k => lv_tableOut C.2.1 C.2.2.2.1 dg (by omega) (by rw [e1]; exact h1) k
theorem mv_lsw {x : Int32} {pc t : Nat} {d : Int} (hd : (pc : Int) + d = (t : Int)) : ∀ (ps : List (Int × Int)), (∀ a ∈ ps, 0 ≤ (pc : Int) + a.2 ∧ -2147483648 ≤ a.1 ∧ a.1 < 2147483648) → (pc : Int) + Op.lookupswitch.offset ps d x.toInt = (mv_swt x t (ps.map fun a => (a.1, ((pc : Int) + a.2).toNat)) : Int)
  | [], _ => hd
  | a :: ps, h => by
    have ih := mv_lsw (x := x) hd ps fun z hz => h z (List.mem_cons_of_mem _ hz)
    obtain ⟨h1, h2, h3⟩ := h a List.mem_cons_self
    show (pc : Int) + Op.lookupswitch.offset (a :: ps) d x.toInt = ((if x = nZ a.1 then ((pc : Int) + a.2).toNat else mv_swt x t (ps.map fun a => (a.1, ((pc : Int) + a.2).toNat)) : Nat) : Int)
    obtain ⟨a1, a2⟩ := a
    show (pc : Int) + (if a1 = x.toInt then a2 else Op.lookupswitch.offset ps d x.toInt) = _
    by_cases hx : x = nZ a1
    · rw [if_pos ((nZ_eq h2 h3).mp hx).symm, if_pos hx]
      have h1 : 0 ≤ (pc : Int) + a2 := h1
      show _ = (((pc : Int) + a2).toNat : Int)
      omega
    · rw [if_neg fun e => hx ((nZ_eq h2 h3).mpr e.symm), if_neg hx]
      exact ih
theorem si_lsw (C : mv_Cx D l s0 a0 X p s m meth c N M) {d : Int} {ps : Array (Int × Int)} {t n tg : Nat} {sw : List (Int × Nat)} {x : Int32} (dg : decode N.2.1 pc = .ok (.lookupswitch d ps, n)) (hx : mv_ex N M pc (.lookupswitch d ps) t sw = true) (ht : mv_swt x t sw = tg) (g : mv_Go D s0 p l e R s m args below meth c M r tg ls st h) : mv_Go D s0 p l e R s m args below meth c M r pc ls (.int x :: st) h := by
  have hx : (decide ((pc : Int) + d = (t : Int)) && (ps.toList.zip (ps.toList.drop 1)).all (fun (a, next) => a.1 < next.1) && decide (sw = ps.toList.map fun a => (a.1, ((pc : Int) + a.2).toNat)) &&
      ps.toList.all fun a => decide (0 ≤ (pc : Int) + a.2) && decide (-2147483648 ≤ a.1) && decide (a.1 < 2147483648)) = true := hx
  rw [Bool.and_eq_true, Bool.and_eq_true, Bool.and_eq_true] at hx
  obtain ⟨⟨⟨h1, h2⟩, h3⟩, h4⟩ := hx
  have h1 := of_decide_eq_true h1
  have h3 := of_decide_eq_true h3
  subst h3
  have := mv_lsw (x := x) h1 ps.toList fun a ha => by
    have := List.all_eq_true.mp h4 a ha
    simp only [Bool.and_eq_true, decide_eq_true_eq] at this
    exact ⟨this.1.1, this.1.2, this.2⟩
  rw [ht] at this
  exact mv_pure g fun _ a k => lv_lookup C.2.1 C.2.2.2.1 dg h2 rfl this k
set_option maxHeartbeats 4000000 in
theorem mv_simE (C : mv_Cx D l s0 a0 X p s m meth c N M) (hall : mv_All) {call : mv_G} {d : Nat} (hcall : mv_CallOK D l s0 d call) (hR : d + 9 ≤ R.frames ∧ 64 * (d + 1) + 300 ≤ R.locals) {k : mv_K} (ih : ∀ pc ls st h, k pc ls st h = some r → mv_Go D s0 p l e R s m args below meth c M r pc ls st h)
    {i : Instr} {t : Nat} {sw : List (Int × Nat)} (hl : mv_look M.2.2.2.1 32 pc = some (i, t, sw)) (ev : mv_E X call M k i t sw pc ls st h = some r) : mv_Go D s0 p l e R s m args below meth c M r pc ls st h := by
  obtain ⟨⟨n, hd, hn⟩, hx⟩ := mv_good_d C.2.2.2.2.2.2.2.2.2.2.1 hl
  cases i with
  | iload_n j =>
    have dg := mv_dg hd hn
    obtain ⟨v, h1, ev1⟩ := mi_ld ev
    obtain ⟨x, rfl, ev2⟩ := mi_int ev1
    exact si_iload_n C h1 dg (ih _ _ _ _ ev2)
  | aload_n j =>
    have dg := mv_dg hd hn
    obtain ⟨v, h1, ev3⟩ := mi_ld ev
    obtain ⟨x, rfl, ev4⟩ := mi_ref ev3
    exact si_aload_n C h1 dg (ih _ _ _ _ ev4)
  | iload j =>
    have dg := mv_dg hd hn
    obtain ⟨v, h1, ev5⟩ := mi_ld ev
    obtain ⟨x, rfl, ev6⟩ := mi_int ev5
    exact si_iload C h1 dg (ih _ _ _ _ ev6)
  | aload j =>
    have dg := mv_dg hd hn
    obtain ⟨v, h1, ev7⟩ := mi_ld ev
    obtain ⟨x, rfl, ev8⟩ := mi_ref ev7
    exact si_aload C h1 dg (ih _ _ _ _ ev8)
  | fload j =>
    have dg := mv_dg hd hn
    obtain ⟨v, h1, ev9⟩ := mi_ld ev
    obtain ⟨x, rfl, ev10⟩ := mi_flt ev9
    exact si_fload C h1 dg (ih _ _ _ _ ev10)
  | dload j =>
    have dg := mv_dg hd hn
    obtain ⟨v, h1, ev11⟩ := mi_ld ev
    obtain ⟨x, rfl, ev12⟩ := mi_dbl ev11
    exact si_dload C h1 dg (ih _ _ _ _ ev12)
  | lload_n j =>
    have dg := mv_dg hd hn
    obtain ⟨v, h1, ev301⟩ := mi_ld ev
    obtain ⟨x, rfl, ev302⟩ := mi_lng ev301
    exact si_lload_n C h1 dg (ih _ _ _ _ ev302)
  | lload j =>
    have dg := mv_dg hd hn
    obtain ⟨v, h1, ev303⟩ := mi_ld ev
    obtain ⟨x, rfl, ev304⟩ := mi_lng ev303
    exact si_lload C h1 dg (ih _ _ _ _ ev304)
  | lstore_n j =>
    have dg := mv_dg hd hn
    obtain ⟨x, st, rfl, ev305⟩ := mi_popL ev
    obtain ⟨h1, h2, h3, ev306⟩ := mi_st2 ev305
    exact si_lstore_n C dg h1 h2 h3 (ih _ _ _ _ ev306)
  | lstore j =>
    have dg := mv_dg hd hn
    obtain ⟨x, st, rfl, ev307⟩ := mi_popL ev
    obtain ⟨h1, h2, h3, ev308⟩ := mi_st2 ev307
    exact si_lstore C dg h1 h2 h3 (ih _ _ _ _ ev308)
  | ladd =>
    have dg := mv_dg hd hn
    obtain ⟨y, st, rfl, ev309⟩ := mi_popL ev
    obtain ⟨x, st, rfl, ev310⟩ := mi_popL ev309
    exact si_ladd C dg (ih _ _ _ _ ev310)
  | lmul =>
    have dg := mv_dg hd hn
    obtain ⟨y, st, rfl, ev311⟩ := mi_popL ev
    obtain ⟨x, st, rfl, ev312⟩ := mi_popL ev311
    exact si_lmul C dg (ih _ _ _ _ ev312)
  | fmul =>
    have dg := mv_dg hd hn
    obtain ⟨y, st, rfl, ev313⟩ := mi_popF ev
    obtain ⟨x, st, rfl, ev314⟩ := mi_popF ev313
    obtain ⟨h1, ev315⟩ := mi_chk ev314
    exact si_fmul C (id (of_decide_eq_true h1 : FP.fmul x y &&& 0x7fffffff ≤ 0x7f800000)) dg (ih _ _ _ _ ev315)
  | f2l =>
    have dg := mv_dg hd hn
    obtain ⟨x, st, rfl, ev316⟩ := mi_popF ev
    exact si_f2l C dg (ih _ _ _ _ ev316)
  | aconst_null =>
    have dg := mv_dg hd hn
    exact si_null C dg (ih _ _ _ _ ev)
  | ifnonnull o =>
    have dg := mv_dg hd hn
    obtain ⟨x, st, rfl, ev317⟩ := mi_popR ev
    exact si_ifnn C dg (of_decide_eq_true hx) (ih _ _ _ _ ev317)
  | checkcast j =>
    have dg := mv_dg hd hn
    obtain ⟨a, st, rfl, ev318⟩ := mi_popR ev
    obtain ⟨q, hk, ev319⟩ := mi_lk ev318
    obtain ⟨h1, ev320⟩ := mi_chk ev319
    obtain ⟨n1, g1, h2, ev321⟩ := mi_isB ev320
    exact si_castB C dg hk (Nat.eq_of_beq_eq_true h1) h2 (ih _ _ _ _ ev321)
  | ldc2_w j =>
    have dg := mv_dg hd hn
    obtain ⟨q, hk, ev330⟩ := mi_lk ev
    have ev331 : (match q.1 with
      | 16 => k (pc + 3) ls (.long (Int64.ofNat q.2.1) :: st) h
      | 17 => k (pc + 3) ls (.double (UInt64.ofNat q.2.1) :: st) h
      | _ => none) = some r := ev330
    split at ev331
    · next he => exact si_ldc2L C dg hk he (ih _ _ _ _ ev331)
    · next he => exact si_ldc2D C dg hk he (ih _ _ _ _ ev331)
    · cases ev331
  | lreturn =>
    have dg := mv_dg hd hn
    obtain ⟨x, st, rfl, ev340⟩ := mi_popL ev
    obtain ⟨h1, ev341⟩ := mi_chk ev340
    rw [Bool.and_eq_true] at h1
    have he := List.isEmpty_iff.mp h1.1
    subst he
    exact si_lreturn C dg (Nat.eq_of_beq_eq_true h1.2) (Option.some.inj ev341).symm
  | istore_n j =>
    have dg := mv_dg hd hn
    obtain ⟨x, st, rfl, ev13⟩ := mi_popI ev
    obtain ⟨h1, h2, ev14⟩ := mi_st ev13
    exact si_istore_n C h1 h2 dg (ih _ _ _ _ ev14)
  | istore j =>
    have dg := mv_dg hd hn
    obtain ⟨x, st, rfl, ev15⟩ := mi_popI ev
    obtain ⟨h1, h2, ev16⟩ := mi_st ev15
    exact si_istore C h1 h2 dg (ih _ _ _ _ ev16)
  | astore_n j =>
    have dg := mv_dg hd hn
    obtain ⟨x, st, rfl, ev17⟩ := mi_popR ev
    obtain ⟨h1, h2, ev18⟩ := mi_st ev17
    exact si_astore_n C h1 h2 dg (ih _ _ _ _ ev18)
  | astore j =>
    have dg := mv_dg hd hn
    obtain ⟨x, st, rfl, ev19⟩ := mi_popR ev
    obtain ⟨h1, h2, ev20⟩ := mi_st ev19
    exact si_astore C h1 h2 dg (ih _ _ _ _ ev20)
  | fstore j =>
    have dg := mv_dg hd hn
    obtain ⟨x, st, rfl, ev21⟩ := mi_popF ev
    obtain ⟨h1, h2, ev22⟩ := mi_st ev21
    exact si_fstore C h1 h2 dg (ih _ _ _ _ ev22)
  | dstore j =>
    have dg := mv_dg hd hn
    obtain ⟨x, st, rfl, ev23⟩ := mi_popD ev
    obtain ⟨h1, h2, h3, ev24⟩ := mi_st2 ev23
    exact si_dstore C dg h1 h2 h3 (ih _ _ _ _ ev24)
  | iinc j n =>
    have dg := mv_dg hd hn
    obtain ⟨v, h1, ev25⟩ := mi_ld ev
    obtain ⟨x, rfl, ev26⟩ := mi_int ev25
    obtain ⟨h2, h3, ev27⟩ := mi_st ev26
    exact si_iinc C dg h1 h2 h3 (ih _ _ _ _ ev27)
  | iconst n =>
    have dg := mv_dg hd hn
    exact si_iconst C dg (ih _ _ _ _ ev)
  | bipush n =>
    have dg := mv_dg hd hn
    have hx : (decide (-128 ≤ n) && decide (n ≤ 127)) = true := hx
    rw [Bool.and_eq_true, decide_eq_true_eq, decide_eq_true_eq] at hx
    exact si_bipush C hx.1 hx.2 dg (ih _ _ _ _ ev)
  | sipush n =>
    have dg := mv_dg hd hn
    have hx : (decide (-32768 ≤ n) && decide (n ≤ 32767)) = true := hx
    rw [Bool.and_eq_true, decide_eq_true_eq, decide_eq_true_eq] at hx
    exact si_sipush C hx.1 hx.2 dg (ih _ _ _ _ ev)
  | lconst n =>
    have dg := mv_dg hd hn
    exact si_lconst C dg (ih _ _ _ _ ev)
  | fconst n =>
    have dg := mv_dg hd hn
    have hx : decide (n = 0 ∨ n = 1) = true := hx
    exact si_fconst C (of_decide_eq_true hx) dg (ih _ _ _ _ ev)
  | dconst n =>
    have dg := mv_dg hd hn
    have hx : decide (n = 0) = true := hx
    rw [decide_eq_true_eq] at hx
    subst hx
    exact si_dconst C dg (ih _ _ _ _ ev)
  | ldc j =>
    have dg := mv_dg hd hn
    cases sw with
    | cons q sw =>
      have hx : (match mv_look M.2.2.2.2.1 16 j with
        | some z => Nat.beq z.1 15 && decide (q.1 = (z.2.1 : Int))
        | none => false) = true := hx
      cases hk : mv_look M.2.2.2.2.1 16 j with
      | none => rw [hk] at hx; cases hx
      | some z =>
        rw [hk] at hx
        have hx : (Nat.beq z.1 15 && decide (q.1 = (z.2.1 : Int))) = true := hx
        rw [Bool.and_eq_true, decide_eq_true_eq] at hx
        have G := ih _ _ _ _ ev
        rw [hx.2] at G
        exact si_ldcI C dg hk (Nat.eq_of_beq_eq_true hx.1) G
    | nil =>
      obtain ⟨q, hk, ev28⟩ := mi_lk ev
      have ev29 : (match q.1 with
        | 14 => k (pc + 2) ls (.ref (X.2.1 q.2.1) :: st) h
        | 18 => k (pc + 2) ls (.float (UInt32.ofNat q.2.1) :: st) h
        | _ => none) = some r := ev28
      split at ev29
      · next he => exact si_ldcS C dg hk he (ih _ _ _ _ ev29)
      · next he => exact si_ldcF C dg hk he (ih _ _ _ _ ev29)
      · cases ev29
  | ldc_w j =>
    have dg := mv_dg hd hn
    cases sw with
    | cons q sw =>
      have hx : (match mv_look M.2.2.2.2.1 16 j with
        | some z => Nat.beq z.1 15 && decide (q.1 = (z.2.1 : Int))
        | none => false) = true := hx
      cases hk : mv_look M.2.2.2.2.1 16 j with
      | none => rw [hk] at hx; cases hx
      | some z =>
        rw [hk] at hx
        have hx : (Nat.beq z.1 15 && decide (q.1 = (z.2.1 : Int))) = true := hx
        rw [Bool.and_eq_true, decide_eq_true_eq] at hx
        have G := ih _ _ _ _ ev
        rw [hx.2] at G
        exact si_ldcIw C dg hk (Nat.eq_of_beq_eq_true hx.1) G
    | nil =>
      obtain ⟨q, hk, ev30⟩ := mi_lk ev
      have ev31 : (match q.1 with
        | 14 => k (pc + 3) ls (.ref (X.2.1 q.2.1) :: st) h
        | 18 => k (pc + 3) ls (.float (UInt32.ofNat q.2.1) :: st) h
        | _ => none) = some r := ev30
      split at ev31
      · next he => exact si_ldcSw C dg hk he (ih _ _ _ _ ev31)
      · next he => exact si_ldcFw C dg hk he (ih _ _ _ _ ev31)
      · cases ev31
  | iadd =>
    have dg := mv_dg hd hn
    obtain ⟨y, st, rfl, ev32⟩ := mi_popI ev
    obtain ⟨x, st, rfl, ev33⟩ := mi_popI ev32
    exact si_iadd C dg (ih _ _ _ _ ev33)
  | isub =>
    have dg := mv_dg hd hn
    obtain ⟨y, st, rfl, ev34⟩ := mi_popI ev
    obtain ⟨x, st, rfl, ev35⟩ := mi_popI ev34
    exact si_isub C dg (ih _ _ _ _ ev35)
  | imul =>
    have dg := mv_dg hd hn
    obtain ⟨y, st, rfl, ev36⟩ := mi_popI ev
    obtain ⟨x, st, rfl, ev37⟩ := mi_popI ev36
    exact si_imul C dg (ih _ _ _ _ ev37)
  | iand =>
    have dg := mv_dg hd hn
    obtain ⟨y, st, rfl, ev38⟩ := mi_popI ev
    obtain ⟨x, st, rfl, ev39⟩ := mi_popI ev38
    exact si_iand C dg (ih _ _ _ _ ev39)
  | ior =>
    have dg := mv_dg hd hn
    obtain ⟨y, st, rfl, ev40⟩ := mi_popI ev
    obtain ⟨x, st, rfl, ev41⟩ := mi_popI ev40
    exact si_ior C dg (ih _ _ _ _ ev41)
  | ixor =>
    have dg := mv_dg hd hn
    obtain ⟨y, st, rfl, ev42⟩ := mi_popI ev
    obtain ⟨x, st, rfl, ev43⟩ := mi_popI ev42
    exact si_ixor C dg (ih _ _ _ _ ev43)
  | ishl =>
    have dg := mv_dg hd hn
    obtain ⟨y, st, rfl, ev44⟩ := mi_popI ev
    obtain ⟨x, st, rfl, ev45⟩ := mi_popI ev44
    exact si_ishl C dg (ih _ _ _ _ ev45)
  | ishr =>
    have dg := mv_dg hd hn
    obtain ⟨y, st, rfl, ev46⟩ := mi_popI ev
    obtain ⟨x, st, rfl, ev47⟩ := mi_popI ev46
    exact si_ishr C dg (ih _ _ _ _ ev47)
  | iushr =>
    have dg := mv_dg hd hn
    obtain ⟨y, st, rfl, ev48⟩ := mi_popI ev
    obtain ⟨x, st, rfl, ev49⟩ := mi_popI ev48
    exact si_iushr C dg (ih _ _ _ _ ev49)
  | idiv =>
    have dg := mv_dg hd hn
    obtain ⟨y, st, rfl, ev50⟩ := mi_popI ev
    obtain ⟨x, st, rfl, ev51⟩ := mi_popI ev50
    by_cases hy : y = 0
    · rw [if_pos hy] at ev51; cases ev51
    · rw [if_neg hy] at ev51; exact si_idiv C hy dg (ih _ _ _ _ ev51)
  | irem =>
    have dg := mv_dg hd hn
    obtain ⟨y, st, rfl, ev52⟩ := mi_popI ev
    obtain ⟨x, st, rfl, ev53⟩ := mi_popI ev52
    by_cases hy : y = 0
    · rw [if_pos hy] at ev53; cases ev53
    · rw [if_neg hy] at ev53; exact si_irem C hy dg (ih _ _ _ _ ev53)
  | ineg =>
    have dg := mv_dg hd hn
    obtain ⟨x, st, rfl, ev54⟩ := mi_popI ev
    exact si_ineg C dg (ih _ _ _ _ ev54)
  | i2l =>
    have dg := mv_dg hd hn
    obtain ⟨x, st, rfl, ev55⟩ := mi_popI ev
    exact si_i2l C dg (ih _ _ _ _ ev55)
  | i2b =>
    have dg := mv_dg hd hn
    obtain ⟨x, st, rfl, ev56⟩ := mi_popI ev
    exact si_i2b C dg (ih _ _ _ _ ev56)
  | i2c =>
    have dg := mv_dg hd hn
    obtain ⟨x, st, rfl, ev57⟩ := mi_popI ev
    exact si_i2c C dg (ih _ _ _ _ ev57)
  | i2d =>
    have dg := mv_dg hd hn
    obtain ⟨x, st, rfl, ev58⟩ := mi_popI ev
    exact si_i2d C dg (ih _ _ _ _ ev58)
  | i2f =>
    have dg := mv_dg hd hn
    obtain ⟨x, st, rfl, ev59⟩ := mi_popI ev
    exact si_i2f C dg (ih _ _ _ _ ev59)
  | f2d =>
    have dg := mv_dg hd hn
    obtain ⟨x, st, rfl, ev60⟩ := mi_popF ev
    obtain ⟨h1, ev61⟩ := mi_chk ev60
    exact si_f2d C (id (of_decide_eq_true h1 : FP.f2d x &&& 0x7fffffffffffffff ≤ 0x7ff0000000000000)) dg (ih _ _ _ _ ev61)
  | ddiv =>
    have dg := mv_dg hd hn
    obtain ⟨y, st, rfl, ev62⟩ := mi_popD ev
    obtain ⟨x, st, rfl, ev63⟩ := mi_popD ev62
    obtain ⟨h1, ev64⟩ := mi_chk ev63
    exact si_ddiv C (id (of_decide_eq_true h1 : FP.ddiv x y &&& 0x7fffffffffffffff ≤ 0x7ff0000000000000)) dg (ih _ _ _ _ ev64)
  | fdiv =>
    have dg := mv_dg hd hn
    obtain ⟨y, st, rfl, ev65⟩ := mi_popF ev
    obtain ⟨x, st, rfl, ev66⟩ := mi_popF ev65
    obtain ⟨h1, ev67⟩ := mi_chk ev66
    exact si_fdiv C (id (of_decide_eq_true h1 : FP.fdiv x y &&& 0x7fffffff ≤ 0x7f800000)) dg (ih _ _ _ _ ev67)
  | lcmp =>
    have dg := mv_dg hd hn
    obtain ⟨y, st, rfl, ev68⟩ := mi_popL ev
    obtain ⟨x, st, rfl, ev69⟩ := mi_popL ev68
    exact si_lcmp C dg (ih _ _ _ _ ev69)
  | dcmp o =>
    have dg := mv_dg hd hn
    obtain ⟨y, st, rfl, ev70⟩ := mi_popD ev
    obtain ⟨x, st, rfl, ev71⟩ := mi_popD ev70
    exact si_dcmp C dg (ih _ _ _ _ ev71)
  | fcmp o =>
    have dg := mv_dg hd hn
    obtain ⟨y, st, rfl, ev72⟩ := mi_popF ev
    obtain ⟨x, st, rfl, ev73⟩ := mi_popF ev72
    exact si_fcmp C dg (ih _ _ _ _ ev73)
  | dup =>
    have dg := mv_dg hd hn
    obtain ⟨v, st, rfl, h1, ev74⟩ := mi_pop1 ev
    exact si_dup C h1 dg (ih _ _ _ _ ev74)
  | pop =>
    have dg := mv_dg hd hn
    obtain ⟨v, st, rfl, h1, ev75⟩ := mi_pop1 ev
    exact si_pop C h1 dg (ih _ _ _ _ ev75)
  | dup_x1 =>
    have dg := mv_dg hd hn
    obtain ⟨v, st, rfl, h1, ev76⟩ := mi_pop1 ev
    obtain ⟨w, st, rfl, h2, ev77⟩ := mi_pop1 ev76
    exact si_dup_x1 C h1 h2 dg (ih _ _ _ _ ev77)
  | dup2 =>
    have dg := mv_dg hd hn
    obtain ⟨v, st, rfl, h1, ev78⟩ := mi_pop1 ev
    obtain ⟨w, st, rfl, h2, ev79⟩ := mi_pop1 ev78
    exact si_dup2 C h1 h2 dg (ih _ _ _ _ ev79)
  | goto o =>
    have dg := mv_dg hd hn
    exact si_goto C dg (of_decide_eq_true hx) (ih _ _ _ _ ev)
  | ifCond cd o =>
    have dg := mv_dg hd hn
    obtain ⟨x, st, rfl, ev80⟩ := mi_popI ev
    have hx1 : (pc : Int) + o = (t : Int) := of_decide_eq_true hx
    cases cd with
    | eq =>
      by_cases hc : x = 0
      · have ev81 : (if x = 0 then _ else _) = some r := ev80
        rw [if_pos hc] at ev81; exact si_if_eq_t C hc dg hx1 (ih _ _ _ _ ev81)
      · have ev82 : (if x = 0 then _ else _) = some r := ev80
        rw [if_neg hc] at ev82; exact si_if_eq_f C hc dg hx1 (ih _ _ _ _ ev82)
    | ne =>
      by_cases hc : x = 0
      · have ev83 : (if x = 0 then _ else _) = some r := ev80
        rw [if_pos hc] at ev83; exact si_if_ne_f C hc dg hx1 (ih _ _ _ _ ev83)
      · have ev84 : (if x = 0 then _ else _) = some r := ev80
        rw [if_neg hc] at ev84; exact si_if_ne_t C hc dg hx1 (ih _ _ _ _ ev84)
    | lt =>
      by_cases hc : x < 0
      · have ev85 : (if x < 0 then _ else _) = some r := ev80
        rw [if_pos hc] at ev85; exact si_if_lt_t C hc dg hx1 (ih _ _ _ _ ev85)
      · have ev86 : (if x < 0 then _ else _) = some r := ev80
        rw [if_neg hc] at ev86; exact si_if_lt_f C hc dg hx1 (ih _ _ _ _ ev86)
    | ge =>
      by_cases hc : 0 ≤ x
      · have ev87 : (if 0 ≤ x then _ else _) = some r := ev80
        rw [if_pos hc] at ev87; exact si_if_ge_t C hc dg hx1 (ih _ _ _ _ ev87)
      · have ev88 : (if 0 ≤ x then _ else _) = some r := ev80
        rw [if_neg hc] at ev88; exact si_if_ge_f C hc dg hx1 (ih _ _ _ _ ev88)
    | gt =>
      by_cases hc : 0 < x
      · have ev89 : (if 0 < x then _ else _) = some r := ev80
        rw [if_pos hc] at ev89; exact si_if_gt_t C hc dg hx1 (ih _ _ _ _ ev89)
      · have ev90 : (if 0 < x then _ else _) = some r := ev80
        rw [if_neg hc] at ev90; exact si_if_gt_f C hc dg hx1 (ih _ _ _ _ ev90)
    | le =>
      by_cases hc : x ≤ 0
      · have ev91 : (if x ≤ 0 then _ else _) = some r := ev80
        rw [if_pos hc] at ev91; exact si_if_le_t C hc dg hx1 (ih _ _ _ _ ev91)
      · have ev92 : (if x ≤ 0 then _ else _) = some r := ev80
        rw [if_neg hc] at ev92; exact si_if_le_f C hc dg hx1 (ih _ _ _ _ ev92)
  | if_icmp cd o =>
    have dg := mv_dg hd hn
    obtain ⟨y, st, rfl, ev93⟩ := mi_popI ev
    obtain ⟨x, st, rfl, ev94⟩ := mi_popI ev93
    have hx1 : (pc : Int) + o = (t : Int) := of_decide_eq_true hx
    cases cd with
    | eq =>
      by_cases hc : x = y
      · have ev95 : (if x = y then _ else _) = some r := ev94
        rw [if_pos hc] at ev95; exact si_icmp_eq_t C hc dg hx1 (ih _ _ _ _ ev95)
      · have ev96 : (if x = y then _ else _) = some r := ev94
        rw [if_neg hc] at ev96; exact si_icmp_eq_f C hc dg hx1 (ih _ _ _ _ ev96)
    | ne =>
      by_cases hc : x = y
      · have ev97 : (if x = y then _ else _) = some r := ev94
        rw [if_pos hc] at ev97; exact si_icmp_ne_f C hc dg hx1 (ih _ _ _ _ ev97)
      · have ev98 : (if x = y then _ else _) = some r := ev94
        rw [if_neg hc] at ev98; exact si_icmp_ne_t C hc dg hx1 (ih _ _ _ _ ev98)
    | lt =>
      by_cases hc : x < y
      · have ev99 : (if x < y then _ else _) = some r := ev94
        rw [if_pos hc] at ev99; exact si_icmp_lt_t C hc dg hx1 (ih _ _ _ _ ev99)
      · have ev100 : (if x < y then _ else _) = some r := ev94
        rw [if_neg hc] at ev100; exact si_icmp_lt_f C hc dg hx1 (ih _ _ _ _ ev100)
    | ge =>
      by_cases hc : y ≤ x
      · have ev101 : (if y ≤ x then _ else _) = some r := ev94
        rw [if_pos hc] at ev101; exact si_icmp_ge_t C hc dg hx1 (ih _ _ _ _ ev101)
      · have ev102 : (if y ≤ x then _ else _) = some r := ev94
        rw [if_neg hc] at ev102; exact si_icmp_ge_f C hc dg hx1 (ih _ _ _ _ ev102)
    | gt =>
      by_cases hc : y < x
      · have ev103 : (if y < x then _ else _) = some r := ev94
        rw [if_pos hc] at ev103; exact si_icmp_gt_t C hc dg hx1 (ih _ _ _ _ ev103)
      · have ev104 : (if y < x then _ else _) = some r := ev94
        rw [if_neg hc] at ev104; exact si_icmp_gt_f C hc dg hx1 (ih _ _ _ _ ev104)
    | le =>
      by_cases hc : x ≤ y
      · have ev105 : (if x ≤ y then _ else _) = some r := ev94
        rw [if_pos hc] at ev105; exact si_icmp_le_t C hc dg hx1 (ih _ _ _ _ ev105)
      · have ev106 : (if x ≤ y then _ else _) = some r := ev94
        rw [if_neg hc] at ev106; exact si_icmp_le_f C hc dg hx1 (ih _ _ _ _ ev106)
  | tableswitch d lo hi offs =>
    obtain ⟨x, st, rfl, ev107⟩ := mi_popI ev
    obtain ⟨tg, ht, ev108⟩ := mi_sw ev107
    exact si_tsw C hd hx ht (ih _ _ _ _ ev108)
  | lookupswitch d ps =>
    obtain ⟨x, st, rfl, ev109⟩ := mi_popI ev
    obtain ⟨tg, ht, ev110⟩ := mi_sw ev109
    exact si_lsw C hd hx ht (ih _ _ _ _ ev110)
  | getfield j =>
    have dg := mv_dg hd hn
    obtain ⟨a, st, rfl, ev111⟩ := mi_popR ev
    obtain ⟨q, hk, ev112⟩ := mi_lk ev111
    obtain ⟨h1, ev113⟩ := mi_chk ev112
    have h1 := Nat.eq_of_beq_eq_true h1
    have ev114 : (match q.2.2.2.1 with
      | 2 => mv_gR X h a q.2.1 q.2.2.1 fun x => k (pc + 3) ls (.ref x :: st) h
      | _ => mv_gI X h a q.2.1 q.2.2.1 fun x => k (pc + 3) ls (.int x :: st) h) = some r := ev113
    split at ev114
    · obtain ⟨fs, v, h2, h3, ev115⟩ := mi_gf ev114
      obtain ⟨x, rfl, ev116⟩ := mi_ref ev115
      exact si_getfield C dg hk h1 h2 h3 (ih _ _ _ _ ev116)
    · obtain ⟨fs, v, h2, h3, ev117⟩ := mi_gf ev114
      obtain ⟨x, rfl, ev118⟩ := mi_int ev117
      exact si_getfield C dg hk h1 h2 h3 (ih _ _ _ _ ev118)
  | putfield j =>
    have dg := mv_dg hd hn
    obtain ⟨q, hk, ev119⟩ := mi_lk ev
    obtain ⟨h1, ev120⟩ := mi_chk ev119
    have h1 := Nat.eq_of_beq_eq_true h1
    have ev121 : (match q.2.2.2.1 with
      | 2 => mv_popR st fun x st => mv_popR st fun a st => mv_pf h a q.2.1 q.2.2.1 (.ref x) fun h => k (pc + 3) ls st h
      | t => mv_popI st fun x st => mv_popR st fun a st => mv_chk (mv_ok t x) (mv_pf h a q.2.1 q.2.2.1 (.int x) fun h => k (pc + 3) ls st h)) = some r := ev120
    split at ev121
    · next he =>
      obtain ⟨x, st, rfl, ev122⟩ := mi_popR ev121
      obtain ⟨a, st, rfl, ev123⟩ := mi_popR ev122
      obtain ⟨fs, h2, h3, ev124⟩ := mi_pf ev123
      exact si_putfield C dg hx hk h1 h2 h3 (fun ty hty => mv_fkR hty he) (ih _ _ _ _ ev124)
    · obtain ⟨x, st, rfl, ev125⟩ := mi_popI ev121
      obtain ⟨a, st, rfl, ev126⟩ := mi_popR ev125
      obtain ⟨h4, ev127⟩ := mi_chk ev126
      obtain ⟨fs, h2, h3, ev128⟩ := mi_pf ev127
      exact si_putfield C dg hx hk h1 h2 h3 (fun ty hty => mv_fkI hty h4) (ih _ _ _ _ ev128)
  | getstatic j =>
    have dg := mv_dg hd hn
    obtain ⟨q, hk, ev129⟩ := mi_lk ev
    obtain ⟨h1, ev130⟩ := mi_chk ev129
    have h1 := Nat.eq_of_beq_eq_true h1
    have ev131 : (match q.2.2.1 with
      | 2 => mv_ref (X.2.2 q.2.1) fun x => k (pc + 3) ls (.ref x :: st) h
      | 9 => mv_chk (mv_nr (X.2.2 q.2.1)) (k (pc + 3) ls (X.2.2 q.2.1 :: st) h)
      | _ => mv_int (X.2.2 q.2.1) fun x => k (pc + 3) ls (.int x :: st) h) = some r := ev130
    split at ev131
    · obtain ⟨x, hv, ev132⟩ := mi_ref ev131
      exact si_getstatic C dg hk h1 hv (ih _ _ _ _ ev132)
    · obtain ⟨-, ev132b⟩ := mi_chk ev131
      exact si_getstatic C dg hk h1 rfl (ih _ _ _ _ ev132b)
    · obtain ⟨x, hv, ev133⟩ := mi_int ev131
      exact si_getstatic C dg hk h1 hv (ih _ _ _ _ ev133)
  | iaload =>
    have dg := mv_dg hd hn
    obtain ⟨i, st, rfl, ev134⟩ := mi_popI ev
    obtain ⟨a, st, rfl, ev135⟩ := mi_popR ev134
    obtain ⟨t1, n1, g1, h1, h2, h3, h4, ev136⟩ := mi_ar ev135
    obtain ⟨x, hv, ev137⟩ := mi_int ev136
    exact si_iaload C dg h1 h2 h3 h4 (hv ▸ ih _ _ _ _ ev137)
  | caload =>
    have dg := mv_dg hd hn
    obtain ⟨i, st, rfl, ev138⟩ := mi_popI ev
    obtain ⟨a, st, rfl, ev139⟩ := mi_popR ev138
    obtain ⟨t1, n1, g1, h1, h2, h3, h4, ev140⟩ := mi_ar ev139
    obtain ⟨x, hv, ev141⟩ := mi_int ev140
    exact si_caload C dg h1 h2 h3 h4 (hv ▸ ih _ _ _ _ ev141)
  | baload =>
    have dg := mv_dg hd hn
    obtain ⟨i, st, rfl, ev142⟩ := mi_popI ev
    obtain ⟨a, st, rfl, ev143⟩ := mi_popR ev142
    obtain ⟨t1, n1, g1, h1, h2, h3, h4, ev144⟩ := mi_ar ev143
    obtain ⟨x, hv, ev145⟩ := mi_int ev144
    exact si_baload C dg h1 h2 h3 h4 (hv ▸ ih _ _ _ _ ev145)
  | aaload =>
    have dg := mv_dg hd hn
    obtain ⟨i, st, rfl, ev146⟩ := mi_popI ev
    obtain ⟨a, st, rfl, ev147⟩ := mi_popR ev146
    obtain ⟨t1, n1, g1, h1, h2, h3, h4, ev148⟩ := mi_ar ev147
    obtain ⟨x, hv, ev149⟩ := mi_ref ev148
    exact si_aaload C dg h1 h2 h3 h4 (hv ▸ ih _ _ _ _ ev149)
  | laload =>
    have dg := mv_dg hd hn
    obtain ⟨i, st, rfl, ev150⟩ := mi_popI ev
    obtain ⟨a, st, rfl, ev151⟩ := mi_popR ev150
    obtain ⟨t1, n1, g1, h1, h2, h3, h4, ev152⟩ := mi_ar ev151
    obtain ⟨x, hv, ev153⟩ := mi_lng ev152
    exact si_laload C dg h1 h2 h3 h4 (hv ▸ ih _ _ _ _ ev153)
  | daload =>
    have dg := mv_dg hd hn
    obtain ⟨i, st, rfl, ev154⟩ := mi_popI ev
    obtain ⟨a, st, rfl, ev155⟩ := mi_popR ev154
    obtain ⟨t1, n1, g1, h1, h2, h3, h4, ev156⟩ := mi_ar ev155
    obtain ⟨x, hv, ev157⟩ := mi_dbl ev156
    exact si_daload C dg h1 h2 h3 h4 (hv ▸ ih _ _ _ _ ev157)
  | iastore =>
    have dg := mv_dg hd hn
    obtain ⟨x, st, rfl, ev158⟩ := mi_popI ev
    obtain ⟨i, st, rfl, ev159⟩ := mi_popI ev158
    obtain ⟨a, st, rfl, ev160⟩ := mi_popR ev159
    obtain ⟨t1, n1, g1, h1, h2, h3, h4, ev161⟩ := mi_as ev160
    exact si_iastore C dg h1 h2 h3 h4 (ih _ _ _ _ ev161)
  | castore =>
    have dg := mv_dg hd hn
    obtain ⟨x, st, rfl, ev162⟩ := mi_popI ev
    obtain ⟨i, st, rfl, ev163⟩ := mi_popI ev162
    obtain ⟨a, st, rfl, ev164⟩ := mi_popR ev163
    obtain ⟨t1, n1, g1, h1, h2, h3, h4, ev165⟩ := mi_as ev164
    exact si_castore C dg h1 h2 h3 h4 (ih _ _ _ _ ev165)
  | bastore =>
    have dg := mv_dg hd hn
    obtain ⟨x, st, rfl, ev166⟩ := mi_popI ev
    obtain ⟨i, st, rfl, ev167⟩ := mi_popI ev166
    obtain ⟨a, st, rfl, ev168⟩ := mi_popR ev167
    obtain ⟨t1, n1, g1, h1, h2, h3, h4, ev169⟩ := mi_as ev168
    exact si_bastore C dg h1 h2 h3 h4 (ih _ _ _ _ ev169)
  | lastore =>
    have dg := mv_dg hd hn
    obtain ⟨x, st, rfl, ev170⟩ := mi_popL ev
    obtain ⟨i, st, rfl, ev171⟩ := mi_popI ev170
    obtain ⟨a, st, rfl, ev172⟩ := mi_popR ev171
    obtain ⟨t1, n1, g1, h1, h2, h3, h4, ev173⟩ := mi_as ev172
    exact si_lastore C dg h1 h2 h3 h4 (ih _ _ _ _ ev173)
  | dastore =>
    have dg := mv_dg hd hn
    obtain ⟨x, st, rfl, ev174⟩ := mi_popD ev
    obtain ⟨i, st, rfl, ev175⟩ := mi_popI ev174
    obtain ⟨a, st, rfl, ev176⟩ := mi_popR ev175
    obtain ⟨t1, n1, g1, h1, h2, h3, h4, ev177⟩ := mi_as ev176
    exact si_dastore C dg h1 h2 h3 h4 (ih _ _ _ _ ev177)
  | aastore =>
    have dg := mv_dg hd hn
    obtain ⟨b, st, rfl, ev178⟩ := mi_popR ev
    obtain ⟨i, st, rfl, ev179⟩ := mi_popI ev178
    obtain ⟨a, st, rfl, ev180⟩ := mi_popR ev179
    obtain ⟨c1, fs, C1, n1, g1, h1, h2, h3, h4, h5, ev181⟩ := mi_aa ev180
    exact si_aastore C dg h1 h2 h3 h4 h5 (ih _ _ _ _ ev181)
  | arraylength =>
    have dg := mv_dg hd hn
    obtain ⟨a, st, rfl, ev182⟩ := mi_popR ev
    obtain ⟨t1, n1, g1, h1, ev183⟩ := mi_len ev182
    exact si_alen C dg h1 (ih _ _ _ _ ev183)
  | new j =>
    have dg := mv_dg hd hn
    obtain ⟨q, hk, ev184⟩ := mi_lk ev
    have ev185 : (match q.1 with
      | 10 => mv_new h (.inl (q.2.1, mv_df q.2.1)) (mv_df q.2.1).length fun a h => k (pc + 3) ls (.ref a :: st) h
      | 11 => mv_chk (Nat.blt 0 t && Nat.ble st.length 8 && (st.all fun v => Nat.beq v.category 1) && M.2.2.2.2.2.isEmpty) (mv_raise q.2.1 h.2.1 (h.1, h.2.1 + 1, h.2.2 + 6))
      | _ => none) = some r := ev184
    split at ev185
    · next he => exact si_new C dg hk he rfl (ih _ _ _ _ ev185)
    · next he =>
      obtain ⟨h1, ev186⟩ := mi_chk ev185
      simp only [Bool.and_eq_true, Nat.ble_eq, Nat.blt_eq, List.all_eq_true] at h1
      exact si_exc C ⟨by omega, by omega⟩ dg hx h1.1.1.1 hk he h1.1.1.2 (fun v hv => Nat.eq_of_beq_eq_true (h1.1.2 v hv)) (List.isEmpty_iff.mp h1.2) (Option.some.inj ev186).symm
    · cases ev185
  | newarray ty =>
    have dg := mv_dg hd hn
    obtain ⟨n1, st, rfl, ev187⟩ := mi_popI ev
    obtain ⟨h1, h2, ev188⟩ := mi_newa ev187
    exact si_newarray C dg hx h1 h2 (ih _ _ _ _ ev188)
  | anewarray j =>
    have dg := mv_dg hd hn
    obtain ⟨n1, st, rfl, ev189⟩ := mi_popI ev
    obtain ⟨q, hk, ev190⟩ := mi_lk ev189
    obtain ⟨h0, ev191⟩ := mi_chk ev190
    obtain ⟨h1, h2, ev192⟩ := mi_newa ev191
    have hx : (match mv_look M.2.2.2.2.1 16 j with
      | some z => mv_ao z.2.1
      | none => false) = true := hx
    rw [hk] at hx
    exact si_anewarray C dg hk (Nat.eq_of_beq_eq_true h0) hx h1 h2 (ih _ _ _ _ ev192)
  | invokevirtual j =>
    have dg := mv_dg hd hn
    obtain ⟨q, hk, ev193⟩ := mi_lk ev
    have hx : (match mv_look M.2.2.2.2.1 16 j with
      | some z => Nat.beq z.1 20 || Nat.beq z.1 26
      | none => true) = true := hx
    rw [hk] at hx
    obtain ⟨tg, y, n1, cr, rk⟩ := q
    have hx : (Nat.beq tg 20 || Nat.beq tg 26) = true := hx
    rw [Bool.or_eq_true] at hx
    rcases hx with hx | hx
    · have e1 : tg = 20 := Nat.eq_of_beq_eq_true hx
      subst e1
      exact si_iv C hall hcall hR ih hk ev193 dg
    · have e1 : tg = 26 := Nat.eq_of_beq_eq_true hx
      subst e1
      have ev350 : mv_inv X call M k pc ls st h 26 y n1 cr rk = some r := ev193
      rw [mv_inv] at ev350
      obtain ⟨as, rest, rfl, hlen, h8, hca, hcr, ev351⟩ := mi_args ev350
      split at ev351
      · obtain ⟨n2, g2, c1, ev352⟩ := mi_cln ev351
        exact si_cln C ⟨by omega, by omega⟩ dg hk rfl c1 h8 (ih _ _ _ _ ev352)
      · cases ev351
  | invokestatic j =>
    have dg := mv_dg hd hn
    obtain ⟨q, hk, ev194⟩ := mi_lk ev
    have hx : (match mv_look M.2.2.2.2.1 16 j with
      | some z => Nat.beq z.1 21 || Nat.beq z.1 24
      | none => true) = true := hx
    rw [hk] at hx
    obtain ⟨tg, y, n1, cr, rk⟩ := q
    have hx : (Nat.beq tg 21 || Nat.beq tg 24) = true := hx
    rw [Bool.or_eq_true] at hx
    rcases hx with hx | hx
    · have e1 : tg = 21 := Nat.eq_of_beq_eq_true hx
      subst e1
      exact si_ist C hall hcall hR ih hk ev194 dg
    · have e1 : tg = 24 := Nat.eq_of_beq_eq_true hx
      subst e1
      have ev195 : mv_inv X call M k pc ls st h 24 y n1 cr rk = some r := ev194
      rw [mv_inv] at ev195
      obtain ⟨as, rest, rfl, hlen, h8, hca, hcr, ev196⟩ := mi_args ev195
      split at ev196
      · obtain ⟨t1, m0, g0, m1, g1, c1, c2, c3, c4, c5, c6, c7, c8, c9, ev197⟩ := mi_cpy ev196
        exact si_cpy C ⟨by omega, by omega⟩ dg hk rfl c1 c2 c3 c4 c5 c6 c7 c8 c9 h8 hcr (ih _ _ _ _ ev197)
      · cases ev196
  | invokespecial j =>
    have dg := mv_dg hd hn
    obtain ⟨q, hk, ev198⟩ := mi_lk ev
    have hx : (match mv_look M.2.2.2.2.1 16 j with
      | some z => Nat.beq z.1 22 || Nat.beq z.1 23 || Nat.beq z.1 25
      | none => true) = true := hx
    rw [hk] at hx
    obtain ⟨tg, y, n1, cr, rk⟩ := q
    have hx : (Nat.beq tg 22 || Nat.beq tg 23 || Nat.beq tg 25) = true := hx
    rw [Bool.or_eq_true, Bool.or_eq_true] at hx
    rcases hx with (hx | hx) | hx
    · have e1 : tg = 22 := Nat.eq_of_beq_eq_true hx
      subst e1
      exact si_ii C hall hcall hR ih hk ev198 dg
    · have e1 : tg = 23 := Nat.eq_of_beq_eq_true hx
      subst e1
      have ev199 : mv_inv X call M k pc ls st h 23 y n1 cr rk = some r := ev198
      rw [mv_inv] at ev199
      obtain ⟨as, rest, rfl, hlen, h8, hca, hcr, ev200⟩ := mi_args ev199
      split at ev200
      · exact si_objinit C ⟨by omega, by omega⟩ dg hk rfl h8 hcr (ih _ _ _ _ ev200)
      · cases ev200
    · have e1 : tg = 25 := Nat.eq_of_beq_eq_true hx
      subst e1
      exact si_iu C hall hcall hR ih hk ev198 dg
  | ireturn =>
    have dg := mv_dg hd hn
    obtain ⟨x, st, rfl, ev201⟩ := mi_popI ev
    obtain ⟨h1, ev202⟩ := mi_chk ev201
    rw [Bool.and_eq_true] at h1
    have he := List.isEmpty_iff.mp h1.1
    subst he
    exact si_iret C dg h1.2 (Option.some.inj ev202).symm
  | areturn =>
    have dg := mv_dg hd hn
    obtain ⟨x, st, rfl, ev203⟩ := mi_popR ev
    obtain ⟨h1, ev204⟩ := mi_chk ev203
    rw [Bool.and_eq_true] at h1
    have he := List.isEmpty_iff.mp h1.1
    subst he
    exact si_areturn C dg (Nat.eq_of_beq_eq_true h1.2) (Option.some.inj ev204).symm
  | freturn =>
    have dg := mv_dg hd hn
    obtain ⟨x, st, rfl, ev205⟩ := mi_popF ev
    obtain ⟨h1, ev206⟩ := mi_chk ev205
    rw [Bool.and_eq_true] at h1
    have he := List.isEmpty_iff.mp h1.1
    subst he
    exact si_freturn C dg (Nat.eq_of_beq_eq_true h1.2) (Option.some.inj ev206).symm
  | dreturn =>
    have dg := mv_dg hd hn
    obtain ⟨x, st, rfl, ev207⟩ := mi_popD ev
    obtain ⟨h1, ev208⟩ := mi_chk ev207
    rw [Bool.and_eq_true] at h1
    have he := List.isEmpty_iff.mp h1.1
    subst he
    exact si_dreturn C dg (Nat.eq_of_beq_eq_true h1.2) (Option.some.inj ev208).symm
  | return_ =>
    have dg := mv_dg hd hn
    obtain ⟨h1, ev209⟩ := mi_chk ev
    rw [Bool.and_eq_true] at h1
    have he := List.isEmpty_iff.mp h1.1
    subst he
    exact si_ret C dg (Nat.eq_of_beq_eq_true h1.2) (Option.some.inj ev209).symm
  | _ => exact absurd ev (by intro z; have z : (none : Option mv_R) = some r := z; cases z)
theorem mv_simF (C : mv_Cx D l s0 a0 X p s m meth c N M) (hall : mv_All) {call : mv_G} {d : Nat} (hcall : mv_CallOK D l s0 d call) (hR : d + 9 ≤ R.frames ∧ 64 * (d + 1) + 300 ≤ R.locals) : ∀ (n pc : Nat) (ls st : List Value) (h : mv_H), mv_fu X call M n pc ls st h = some r → mv_Go D s0 p l e R s m args below meth c M r pc ls st h := by
  intro n
  induction n with
  | zero => intro pc ls st h e; cases e
  | succ n ih =>
    intro pc ls st h ev
    have ev : mv_F X call M (mv_fu X call M n) pc ls st h = some r := ev
    unfold mv_F at ev
    split at ev
    · cases ev
    · next q hq =>
      obtain ⟨i, t, sw⟩ := q
      exact mv_simE C hall hcall hR ih hq ev
end SIMG
