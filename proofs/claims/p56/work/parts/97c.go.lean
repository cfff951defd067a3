/-! THE CLAIM OUT OF ONE WALK OF THE LAW'S BODY. Your part is whole_start (and what it stands on); all else here is the same for every law, but numbers. -/
def R_law : String := "BalloonHarbourLaw"
def lw_P (b : Addr) (xs : List Int32) (args : Array Value) (s : State) : Prop := args = #[.ref b] ∧ s.IntsAt b xs ∧ xs.length ≤ 260 ∧ (Jvm.Cond.and given_1 narrow_1).before args s = true
/-- what a walk over the start with the record d0 says of its end, said of the start itself -/
theorem lw_closed {s t : State} {o : Outcome} {d0 : Drawn} {L : List Loc} {k n : Nat} (hd0 : s.drawn.sameBut d0 lw_cs) (hv : ∃ v, o = .returned v) (hW : (s.setDrawn d0).WarmedH t.vm) (hs : (s.setDrawn d0).sameButNew ({ t with vm := s.vm } : State) L k n) : State.butDraws s t lw_cs (fun t1 => Framed s o t1 L k n) := by
  have h2 : t.drawn = d0 := congrArg State.drawn hs.1
  refine ⟨⟨hv, hW, State.sameButNew.setDrawn hs s.drawn⟩, ?_, by decide⟩
  rw [h2]
  exact hd0
def lw_Q (_ : Array Value) (s : State) (o : Outcome) (t : State) : Prop := o = .returned (some (.int 1)) ∧ State.butDraws s t lw_cs (fun t1 => Framed s o t1 [] 864245 6499946)
def lw_Z (below : List Frame) (a : Array Value) (s : State) : State → Prop := fun t => ∃ o, t.status = .running ∧ Ended t below o ∧ lw_Q a s o t
/-- what was written in cells that are new need not be told -/
theorem lw_forget {s t : State} {L : List Loc} {k n : Nat} (h : s.sameButNew t L k n) (hL : ∀ z ∈ L, s.heap.size ≤ z.base) : s.sameButNew t [] k n :=
  ⟨h.1, h.2.1, h.2.2.1, h.2.2.2.1, h.2.2.2.2.1, fun a c ha => by
    obtain ⟨c', q1, q2, q3, q4⟩ := h.2.2.2.2.2 a c ha
    refine ⟨c', q1, q2, q3, fun i _ => q4 i fun hm => ?_⟩
    have h1 : s.heap.size ≤ a := hL _ hm
    have h2 := (Array.getElem?_eq_some_iff.mp ha).1
    omega⟩
/-- what holds at the law's entry: the machine, the code, the tables' words (any of lw_tbl by 'hts w (by decide +kernel)'), the script of L ints xs at the cell b, what the Statement gives of the start (any of its parts by flat_of_before) -/
def lw_At (p : Program) (s : State) (m : MethodId) (meth : Method) (c : Code) (b L : Nat) (xs : Nat → Int32) : Prop :=
  p.tables.exec = Jvm.exec ∧ c.code = code ∧ meth.sig.returnType = ret ∧ c.maxLocals = 30 ∧ s.vm.findClass R_law = some m.cls ∧ (∀ w ∈ lw_tbl, w.before #[Value.ref b] s = true) ∧ va_X b L xs s s.heap ∧ b < s.heap.size ∧ meth.locks = false ∧ (Jvm.Cond.and given_1 narrow_1).before #[Value.ref b] s = true ∧ c.exceptionTable.toList = [] ∧ meth.name = "law"
/-- the law's walk out of what the small machine answers -/
theorem lw_go {D : va_G} {X : mv_X} {p : Program} {e : Env} {s : State} {m : MethodId} {below : List Frame} {meth : Method} {c : Code} {l : Launch} {b L d : Nat} {xs : Nat → Int32} (hall : mv_All) (hpl : mv_Len) (hgl : mv_good n_L_law m_L_law) (C0 : lw_At p s m meth c b L xs) (G : mv_GL D l s #[Value.ref b] X) (hd : d ≤ 1000)
    {h' : mv_H} (hrun : mv_run X (mv_call X d) m_L_law 0 ([Value.ref b] ++ List.replicate 29 (.retAddr 0)) [] ((fun _ => none), s.heap.size, 0) = some (.inl (some (.int 1)), h')) (hc : h'.2.1 ≤ s.heap.size + 864245) (hs : h'.2.2 ≤ 6499946) :
    W p l e room_1 s m #[Value.ref b] below meth c s.heap [] 0 0 (lw_Z below #[Value.ref b] s) (entryFrame m ([Value.ref b] : List Value).toArray 30) := by
  obtain ⟨n, hrun⟩ := mv_run_iff.mp hrun
  obtain ⟨c1, c2, c3, c4, c5, c6, c7, c8, c9, c10, c11, c12⟩ := C0
  have C : mv_Cx D l s #[Value.ref b] X p s m meth c n_L_law m_L_law := ⟨G, c1, State.WarmedH.refl s, c2, c4, c3, c5, c9, c12, c11, hgl, Nat.le_refl _, fun _ _ => rfl⟩
  have hg := mv_simF (R := room_1) (e := e) (args := #[Value.ref b]) (below := below) C hall (mv_simM G hall hpl d) ⟨by show d + 9 ≤ 2048; omega, by show 64 * (d + 1) + 300 ≤ 94400; omega⟩ n 0 _ [] _ hrun
  have hw := hg.2 s.heap [] 0 0 864245 6499946 _ ⟨rfl, Nat.le_refl _, fun _ _ => rfl, fun a c h => by cases h⟩ (mv_lr0 (as := [Value.ref b]) (n := 30) (w := m_L_law.2.1) (by show 1 ≤ 30; omega) (by intro v hv; rw [List.mem_singleton.mp hv]; rfl)) (fun q hq => nomatch hq) (Nat.le_refl _) (by show 0 + (h'.2.1 - s.heap.size) ≤ 864245; omega) (by show 0 + (h'.2.2 - 0) ≤ 6499946; omega) (Nat.le_refl _) (Nat.le_refl _)
  rw [lg_entry_eq]
  refine W.mono' (fun t ht => ?_) hw
  obtain ⟨o, h1, h2, h3⟩ := ht
  refine ⟨o, h1, h2, ?_⟩
  rcases h3 with ⟨⟨v, hv, ho, -⟩, Lx, hE, hfree⟩ | ⟨q, -, E, ce, Lx, ⟨x, q2, hx, -⟩, -⟩
  · have hv : (Sum.inl (some (Value.int 1)) : (Option Value) ⊕ (Nat × Nat)) = .inl v := hv
    cases hv
    subst ho
    obtain ⟨he1, he2, he3⟩ := hE
    exact ⟨rfl, lw_closed (d0 := s.drawn) (Drawn.sameBut.refl s.drawn lw_cs) ⟨_, rfl⟩ he2 (lw_forget he3 hfree)⟩
  · cases hx
