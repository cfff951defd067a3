/-! WHAT IS CHECKED OF A METHOD BY PROGRAM: its code against the real bytes, its links against the tables' words -/
/-- words that every warmed state keeps -/
def mv_nst : Cond → Bool
  | .fieldLinkNest .. => true
  | .methodLinkNest .. => true
  | _ => false
def mv_gg (w : Cond) : Bool := goodWord w || mv_nst w
def mv_il (i : Instr) : Nat := match i with
  | .iload _ | .aload _ | .fload _ | .dload _ | .istore _ | .astore _ | .fstore _ | .dstore _ | .lload _ | .lstore _ | .bipush _ | .ldc _ | .newarray _ => 2
  | .iinc _ _ | .sipush _ | .ldc_w _ | .goto _ | .ifCond _ _ | .if_icmp _ _ | .getfield _ | .putfield _ | .getstatic _ | .new _ | .anewarray _ | .invokevirtual _ | .invokespecial _ | .invokestatic _ | .checkcast _ | .ldc2_w _ | .ifnonnull _ => 3
  | _ => 1
def mv_lno (i : Instr) (n : Nat) : Bool := match i with
  | .tableswitch _ _ _ _ | .lookupswitch _ _ => true
  | _ => Nat.beq n (mv_il i)
def mv_cw (q : mv_N) (M : mv_M) : Cond := match q.2.2.2 with
  | [] => .code q.1 q.2.1 M.1 q.2.2.1
  | z :: r => .codeWith q.1 q.2.1 M.1 q.2.2.1 (z :: r)
/-- a link's words -/
def mv_lws (own : String) (j : Nat) (q : mv_L) (kd : Nat) : List Cond := match q.1 with
  | 1 => (match vwCl[q.2.1]? with
    | some r => (match kd with
      | 0 => [.fieldLink own j (r.2.1 q.2.2.1).1 (r.2.1 q.2.2.1).2.1 (r.2.1 q.2.2.1).2.2.1]
      | _ => [.fieldLinkNest own j (r.2.1 q.2.2.1).1 (r.2.1 q.2.2.1).2.1 (r.2.1 q.2.2.1).2.2.1 "BalloonHarbour"])
    | none => [])
  | 10 => [.classLink own j (mv_cn q.2.1), .instantiable (mv_cn q.2.1) (mv_df q.2.1).length, .initialized (mv_cn q.2.1)]
  | 11 => [.classLink own j (mv_en q.2.1), .initialized (mv_en q.2.1)]
  | 13 => (match mv_tn q.2.1 with
    | some z => [.fieldLink own j z.1 z.2.1 z.2.2]
    | none => [])
  | 15 => [.constant own j (nZ q.2.1)]
  | 16 => [.constantLong own j (Int64.ofNat q.2.1)]
  | 17 => [.constantDouble own j (UInt64.ofNat q.2.1)]
  | 18 => [.constantFloat own j (UInt32.ofNat q.2.1)]
  | 26 => [.methodLink own j ⟨"[B", "clone", "()Ljava/lang/Object;"⟩, .sameMethod "[B" "java/lang/Object" "clone" "()Ljava/lang/Object;", .native ⟨"java/lang/Object", "clone", "()Ljava/lang/Object;"⟩, .instanceMethod ⟨"java/lang/Object", "clone", "()Ljava/lang/Object;"⟩, .selects "[B" ⟨"[B", "clone", "()Ljava/lang/Object;"⟩ ⟨"java/lang/Object", "clone", "()Ljava/lang/Object;"⟩]
  | 27 => [.classLink own j "[B"]
  | 23 => [.methodLink own j Lib.objectInit, .instanceMethod Lib.objectInit, .code Lib.objectInit ⟨#[0xb1]⟩ 1 none]
  | 24 => [.methodLink own j arraycopyName, .native arraycopyName, .static arraycopyName, .initialized "java/lang/System"]
  | 14 => []
  | _ => (match mv_look mv_mt 16 q.2.1 with
    | some N => (match mv_look mv_tab 16 q.2.1 with
      | some M => mv_cw N M :: .initialized N.1.cls :: (match kd with
        | 0 => [.methodLink own j N.1, .instanceMethod N.1, .selects (mv_cn q.2.2.2.1) N.1 N.1]
        | 2 => [.methodLink own j N.1, .sameMethod N.1.cls N.1.cls N.1.name N.1.desc, .superclass own N.1.cls, .instanceMethod N.1]
        | 3 => [.methodLink own j N.1, .static N.1]
        | 4 => [.methodLinkNest own j N.1 "BalloonHarbour", .static N.1]
        | 6 => [.methodLink own j N.1, .instanceMethod N.1]
        | 8 => [.methodLink own j (lw_ASB "length" "()I"), .sameMethod "java/lang/AbstractStringBuilder" "java/lang/AbstractStringBuilder" "length" "()I", .instanceMethod (lw_ASB "length" "()I"), mv_cw n_J5_length_8abf5 m_J5_length_8abf5, .selects (mv_cn q.2.2.2.1) (lw_ASB "length" "()I") N.1, .instanceMethod N.1]
        | _ => [.methodLinkNest own j N.1 "BalloonHarbour", .instanceMethod N.1])
      | none => [])
    | none => [])
def mv_fk (k : Nat) (t : FieldType) : Bool := match k, t with
  | 1, .int => true
  | 2, .object _ => true
  | 2, .array _ => true
  | 6, .boolean => true
  | 7, .char => true
  | 8, .byte => true
  | _, _ => false
def mv_plainY (Y : MethodName) : Bool := Y.cls != "java/lang/invoke/MethodHandle" && Y.cls != "java/lang/invoke/VarHandle"
/-- .. and what else is asked of it -/
def mv_sd (own : String) (j : Nat) (q : mv_L) (kd : Nat) : Bool := match q.1 with
  | 1 => (match vwCl[q.2.1]? with
    | some r => Nat.blt q.2.2.1 r.2.2 && (match parseFieldDescriptor (r.2.1 q.2.2.1).2.2.1 with
      | some ty => mv_fk q.2.2.2.1 ty
      | none => false) && (Nat.beq kd 0 || (r.2.1 q.2.2.1).1 != own)
    | none => false)
  | 10 => (match vwCl[q.2.1]? with
    | some r => decide (r.1 = mv_cn q.2.1) && Nat.beq r.2.2 (mv_df q.2.1).length
    | none => false)
  | 11 => Nat.blt q.2.1 6
  | 13 => (mv_tn q.2.1).isSome
  | 14 => (match mv_sn q.2.1 with
    | some z => decide (z.1 = own) && Nat.beq z.2.1 j
    | none => false)
  | 15 => Nat.blt q.2.1 2147483648
  | 23 => true
  | 24 => true
  | 16 => true
  | 17 => true
  | 18 => true
  | 26 => true
  | 27 => true
  | 20 => (match mv_look mv_mt 16 q.2.1 with
    | some N => N.2.2.2.isEmpty && mv_plainY N.1 && decide ((parseMethodDescriptor N.1.desc).map (fun d => d.parameters.length) = some q.2.2.1) && Nat.blt q.2.2.2.1 14 && (Nat.beq kd 0 || (Nat.beq kd 8 && Nat.beq q.2.2.1 0))
    | none => false)
  | 25 => (match mv_look mv_mt 16 q.2.1 with
    | some N => N.2.2.2.isEmpty && mv_plainY N.1 && decide ((parseMethodDescriptor N.1.desc).map (fun d => d.parameters.length) = some q.2.2.1) && Nat.blt q.2.2.2.1 14 && Nat.beq kd 2 && N.1.name != "<init>"
    | none => false)
  | 21 => (match mv_look mv_mt 16 q.2.1 with
    | some N => mv_plainY N.1 && decide ((parseMethodDescriptor N.1.desc).map (fun d => d.parameters.length) = some q.2.2.1) && (Nat.beq kd 3 || (Nat.beq kd 4 && N.2.2.2.isEmpty))
    | none => false)
  | 22 => (match mv_look mv_mt 16 q.2.1 with
    | some N => N.2.2.2.isEmpty && mv_plainY N.1 && decide ((parseMethodDescriptor N.1.desc).map (fun d => d.parameters.length) = some q.2.2.1) && (Nat.beq kd 6 || Nat.beq kd 7) && N.1.name == "<init>" && N.2.2.1.isNone
    | none => false)
  | _ => false
/-- a link checked: its kind, the places of its words -/
def mv_lck (own : String) (j : Nat) (q : mv_L) (kd : Nat) (ps : List Nat) : Bool :=
  mv_sd own j q kd && Nat.beq (mv_lws own j q kd).length ps.length && ((mv_lws own j q kd).zip ps).all (fun z => mv_gg z.1 && decide (lw_tbl[z.2]? = some z.1))
def mv_lok (own : String) (j : Nat) (q : mv_L) : Prop := ∃ kd, mv_sd own j q kd = true ∧ ∀ w ∈ mv_lws own j q kd, mv_gg w = true ∧ w ∈ lw_tbl
theorem mv_lok_of {own : String} {j : Nat} {q : mv_L} {kd : Nat} {ps : List Nat} (h : mv_lck own j q kd ps = true) : mv_lok own j q := by
  simp only [mv_lck, Bool.and_eq_true, List.all_eq_true] at h
  obtain ⟨⟨h1, h2⟩, h3⟩ := h
  refine ⟨kd, h1, fun w hw => ?_⟩
  obtain ⟨i, hi⟩ := List.mem_iff_getElem?.mp hw
  have hl := Nat.eq_of_beq_eq_true h2
  have hlt : i < (mv_lws own j q kd).length := (List.getElem?_eq_some_iff.mp hi).1
  have hp : ps[i]? = some (ps[i]'(by omega)) := List.getElem?_eq_getElem (by omega)
  have hz : ((mv_lws own j q kd).zip ps)[i]? = some (w, ps[i]'(by omega)) := by
    rw [List.getElem?_zip_eq_some]
    exact ⟨hi, hp⟩
  have := h3 _ (List.mem_of_getElem? hz)
  simp only [decide_eq_true_eq] at this
  exact ⟨this.1, List.mem_of_getElem? this.2⟩
def mv_xc (e : Nat) : Nat := match e with
  | 0 => 97
  | 1 => 131
  | 2 => 142
  | 3 => 292
  | 4 => 260
  | _ => 246
def mv_xn : List String := ["java/lang/RuntimeException", "java/lang/Exception"]
def mv_nt (t : ArrayType) : Bool := match t with
  | .int | .byte | .char | .long => true
  | _ => false
/-- what is asked of an instruction beside its bytes -/
def mv_ex (N : mv_N) (M : mv_M) (pc : Nat) (i : Instr) (t : Nat) (sw : List (Int × Nat)) : Bool := match i with
  | .goto o => decide ((pc : Int) + o = (t : Int))
  | .ifCond _ o => decide ((pc : Int) + o = (t : Int))
  | .if_icmp _ o => decide ((pc : Int) + o = (t : Int))
  | .bipush n => decide (-128 ≤ n) && decide (n ≤ 127)
  | .sipush n => decide (-32768 ≤ n) && decide (n ≤ 32767)
  | .fconst n => decide (n = 0 ∨ n = 1)
  | .ifnonnull o => decide ((pc : Int) + o = (t : Int))
  | .dconst n => decide (n = 0)
  | .tableswitch d lo hi offs => decide ((pc : Int) + d = (t : Int)) && decide (-2147483648 ≤ lo) && decide (hi < 2147483648) && decide (hi + 1 = lo + sw.length) &&
      (List.range sw.length).all fun j => decide (sw[j]? = (offs[j]?).map fun o => (lo + j, ((pc : Int) + o).toNat)) && (match offs[j]? with
        | some o => decide (0 ≤ (pc : Int) + o)
        | none => false)
  | .lookupswitch d ps => decide ((pc : Int) + d = (t : Int)) && (ps.toList.zip (ps.toList.drop 1)).all (fun (a, next) => a.1 < next.1) && decide (sw = ps.toList.map fun a => (a.1, ((pc : Int) + a.2).toNat)) &&
      ps.toList.all fun a => decide (0 ≤ (pc : Int) + a.2) && decide (-2147483648 ≤ a.1) && decide (a.1 < 2147483648)
  | .ldc j => (match sw with
    | [] => true
    | q :: _ => (match mv_look M.2.2.2.2.1 16 j with
      | some z => Nat.beq z.1 15 && decide (q.1 = (z.2.1 : Int))
      | none => false))
  | .ldc_w j => (match sw with
    | [] => true
    | q :: _ => (match mv_look M.2.2.2.2.1 16 j with
      | some z => Nat.beq z.1 15 && decide (q.1 = (z.2.1 : Int))
      | none => false))
  | .putfield j => (match mv_look M.2.2.2.2.1 16 j with
    | some z => (match vwCl[z.2.1]? with
      | some r => !(r.2.1 z.2.2.1).2.2.2 || (N.1.name == "<init>" && (r.2.1 z.2.2.1).1 == N.1.cls)
      | none => false)
    | none => false)
  | .invokevirtual j => (match mv_look M.2.2.2.2.1 16 j with
    | some z => Nat.beq z.1 20 || Nat.beq z.1 26
    | none => true)
  | .invokespecial j => (match mv_look M.2.2.2.2.1 16 j with
    | some z => Nat.beq z.1 22 || Nat.beq z.1 23 || Nat.beq z.1 25
    | none => true)
  | .invokestatic j => (match mv_look M.2.2.2.2.1 16 j with
    | some z => Nat.beq z.1 21 || Nat.beq z.1 24
    | none => true)
  | .newarray t => mv_nt t
  | .anewarray j => (match mv_look M.2.2.2.2.1 16 j with
    | some z => mv_ao z.2.1
    | none => false)
  | .new j => (match t with
    | 0 => true
    | 1 => (match mv_look M.2.2.2.2.1 16 j, decode N.2.1 (pc + 4) with
      | some z, .ok (.ldc s, 2) => (match mv_look M.2.2.2.2.1 16 s with
        | some y => Nat.beq y.1 14 && N.1.cls == "BalloonHarbour" && Nat.beq z.1 11 && Nat.blt z.2.1 6 && decide (decode N.2.1 (pc + 3) = .ok (.dup, 1)) && decide (decode N.2.1 (pc + 6) = .ok (.invokespecial (mv_xc z.2.1), 3)) && decide (decode N.2.1 (pc + 9) = .ok (.athrow, 1))
        | none => false)
      | _, _ => false)
    | _ => (match mv_look M.2.2.2.2.1 16 j, decode N.2.1 (pc + 4) with
      | some z, .ok (.ldc_w s, 3) => (match mv_look M.2.2.2.2.1 16 s with
        | some y => Nat.beq y.1 14 && N.1.cls == "BalloonHarbour" && Nat.beq z.1 11 && Nat.blt z.2.1 6 && decide (decode N.2.1 (pc + 3) = .ok (.dup, 1)) && decide (decode N.2.1 (pc + 7) = .ok (.invokespecial (mv_xc z.2.1), 3)) && decide (decode N.2.1 (pc + 10) = .ok (.athrow, 1))
        | none => false)
      | _, _ => false))
  | _ => true
def mv_dck (N : mv_N) (M : mv_M) (pc : Nat) (q : mv_I) : Bool :=
  (match decode N.2.1 pc with
    | .ok z => decide (z.1 = q.1) && mv_lno q.1 z.2
    | .error _ => false) && mv_ex N M pc q.1 q.2.1 q.2.2
def mv_rkok (k : Nat) (t : Option FieldType) : Bool := match k, t with
  | 0, none => true
  | 1, some .int => true
  | 2, some (.object _) => true
  | 2, some (.array _) => true
  | 3, some .long => true
  | 4, some .float => true
  | 5, some .double => true
  | 6, some .boolean => true
  | 7, some .char => true
  | 8, some .byte => true
  | _, _ => false
/-- a handler against the real table -/
def mv_hck (N : mv_N) (M : mv_M) (x : Nat × Nat × Nat × Nat) (z : Nat × Nat × Nat × Nat × Nat) : Bool :=
  Nat.beq x.1 z.1 && Nat.beq x.2.1 z.2.1 && !(Nat.beq x.2.2.2 0) && Nat.blt z.2.2.2.2 M.1 && !M.2.1 && Nat.blt z.2.2.2.1 6 && (match mv_look M.2.2.2.2.1 16 x.2.2.2 with
    | some y => Nat.beq y.1 11 && Nat.beq y.2.1 z.2.2.2.1
    | none => false) && (match decode N.2.1 x.2.2.1 with
    | .ok (.astore_n k, 1) => Nat.beq k z.2.2.2.2 && Nat.beq z.2.2.1 (x.2.2.1 + 1)
    | .ok (.astore k, 2) => Nat.beq k z.2.2.2.2 && Nat.beq z.2.2.1 (x.2.2.1 + 2)
    | _ => false)
def mv_mck (N : mv_N) (M : mv_M) : Bool :=
  Nat.ble M.1 40 && mv_rkok M.2.2.1 N.2.2.1 && Nat.beq N.2.2.2.length M.2.2.2.2.2.length && (N.2.2.2.zip M.2.2.2.2.2).all (fun z => mv_hck N M z.1 z.2) && M.2.2.2.1.all (fun l => l.all fun q => mv_dck N M q.1 q.2)
/-- all that the walk wants of a method -/
def mv_good (N : mv_N) (M : mv_M) : Prop := mv_mck N M = true ∧ ∀ j q, mv_look M.2.2.2.2.1 16 j = some q → mv_lok N.1.cls j q
theorem mv_good_d {N : mv_N} {M : mv_M} (h : mv_good N M) {pc t : Nat} {i : Instr} {sw : List (Int × Nat)} (hl : mv_look M.2.2.2.1 32 pc = some (i, t, sw)) : (∃ n, decode N.2.1 pc = .ok (i, n) ∧ mv_lno i n = true) ∧ mv_ex N M pc i t sw = true := by
  have h1 := h.1
  simp only [mv_mck, Bool.and_eq_true, List.all_eq_true] at h1
  obtain ⟨l, hl1, hl2⟩ := mi_look hl
  have h2 := h1.2 l hl1 _ hl2
  simp only [mv_dck, Bool.and_eq_true] at h2
  refine ⟨?_, h2.2⟩
  have h3 := h2.1
  split at h3
  · next z hz =>
    rw [Bool.and_eq_true, decide_eq_true_eq] at h3
    obtain ⟨a, b⟩ := z
    obtain ⟨e, h4⟩ := h3
    have e : a = i := e
    subst e
    exact ⟨b, hz, h4⟩
  · cases h3
/-- a class, checked: the places of its words -/
def mv_clk (ci : Nat) (r : vw_C) (ps : List Nat) : Bool :=
  Nat.beq (u_ws r.1 r.2.1 r.2.2).length ps.length && ((u_ws r.1 r.2.1 r.2.2).zip ps).all (fun z => mv_gg z.1 && decide (lw_tbl[z.2]? = some z.1)) && decide (mv_cn ci = r.1) && Nat.beq (mv_df ci).length r.2.2 &&
  (List.range r.2.2).all (fun k => (match parseFieldDescriptor (r.2.1 k).2.2.1 with
    | some ty => decide (defaultValue ty = vp_V (mv_df ci) k)
    | none => false) && (List.range r.2.2).all fun b => Nat.beq k b || decide ((r.2.1 k).2.1 ≠ (r.2.1 b).2.1))
theorem mv_zip_ok {ws : List Cond} {ps : List Nat} (h2 : Nat.beq ws.length ps.length = true) (h3 : (ws.zip ps).all (fun z => mv_gg z.1 && decide (lw_tbl[z.2]? = some z.1)) = true) : ∀ w ∈ ws, mv_gg w = true ∧ w ∈ lw_tbl := by
  intro w hw
  obtain ⟨i, hi⟩ := List.mem_iff_getElem?.mp hw
  have hl := Nat.eq_of_beq_eq_true h2
  have hlt : i < ws.length := (List.getElem?_eq_some_iff.mp hi).1
  have hp : ps[i]? = some (ps[i]'(by omega)) := List.getElem?_eq_getElem (by omega)
  have hz : (ws.zip ps)[i]? = some (w, ps[i]'(by omega)) := by
    rw [List.getElem?_zip_eq_some]
    exact ⟨hi, hp⟩
  have := List.all_eq_true.mp h3 _ (List.mem_of_getElem? hz)
  simp only [Bool.and_eq_true, decide_eq_true_eq] at this
  exact ⟨this.1, List.mem_of_getElem? this.2⟩
theorem mv_clk_ok {ci : Nat} {r : vw_C} {ps : List Nat} (h : mv_clk ci r ps = true) : (∀ w ∈ u_ws r.1 r.2.1 r.2.2, mv_gg w = true ∧ w ∈ lw_tbl) ∧ mv_cn ci = r.1 ∧ (mv_df ci).length = r.2.2 ∧ (∃ ty : Nat → FieldType, ∀ k, k < r.2.2 → parseFieldDescriptor (r.2.1 k).2.2.1 = some (ty k) ∧ defaultValue (ty k) = vp_V (mv_df ci) k) ∧ ∀ a, a < r.2.2 → ∀ b, b < r.2.2 → a ≠ b → (r.2.1 a).2.1 ≠ (r.2.1 b).2.1 := by
  simp only [mv_clk, Bool.and_eq_true] at h
  obtain ⟨⟨⟨⟨h1, h2⟩, h3⟩, h4⟩, h5⟩ := h
  rw [List.all_eq_true] at h5
  refine ⟨mv_zip_ok h1 h2, of_decide_eq_true h3, Nat.eq_of_beq_eq_true h4, ⟨fun k => (parseFieldDescriptor (r.2.1 k).2.2.1).getD .int, fun k hk => ?_⟩, fun a ha b hb hab => ?_⟩
  · have := h5 k (List.mem_range.mpr hk)
    rw [Bool.and_eq_true] at this
    have := this.1
    split at this
    · next ty hty =>
      have e : (parseFieldDescriptor (r.2.1 k).2.2.1).getD .int = ty := by rw [hty]; rfl
      show _ = some ((parseFieldDescriptor (r.2.1 k).2.2.1).getD .int) ∧ defaultValue ((parseFieldDescriptor (r.2.1 k).2.2.1).getD .int) = _
      rw [e]
      exact ⟨hty, of_decide_eq_true this⟩
    · cases this
  · have := h5 a (List.mem_range.mpr ha)
    rw [Bool.and_eq_true, List.all_eq_true] at this
    have := this.2 b (List.mem_range.mpr hb)
    rw [Bool.or_eq_true] at this
    rcases this with h | h
    · exact absurd (Nat.eq_of_beq_eq_true h) hab
    · exact of_decide_eq_true h
def mv_clks : List (vw_C × List Nat) → Nat → Bool
  | [], _ => true
  | q :: r, n => mv_clk n q.1 q.2 && mv_clks r (n + 1)
theorem mv_clks_ok : ∀ {L : List (vw_C × List Nat)} {n : Nat}, mv_clks L n = true → ∀ (k : Nat) (r : vw_C), (L.map (·.1))[k]? = some r → ∃ ps, mv_clk (n + k) r ps = true
  | [], n, _, k, r, h => by simp at h
  | q :: L, n, h0, k, r, h => by
    have h0 : (mv_clk n q.1 q.2 && mv_clks L (n + 1)) = true := h0
    rw [Bool.and_eq_true] at h0
    cases k with
    | zero =>
      simp only [List.map_cons, List.getElem?_cons_zero] at h
      cases h
      exact ⟨q.2, h0.1⟩
    | succ k =>
      simp only [List.map_cons, List.getElem?_cons_succ] at h
      have := mv_clks_ok h0.2 k r h
      rw [show n + (k + 1) = n + 1 + k by omega]
      exact this
