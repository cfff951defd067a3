/-! THE START: classes -/
theorem lw_inst : ∀ (c : Nat) (q : vw_C), vwCl[c]? = some q → ∃ n, Cond.instantiable q.1 n ∈ lw_tbl
  | 0, q, h => by
    cases (h : some (RJ0, TJ0, 4) = some q)
    exact ⟨4, List.mem_of_getElem? (i := 869) (by decide +kernel)⟩
  | 1, q, h => by
    cases (h : some (RJ4, TJ4, 4) = some q)
    exact ⟨4, List.mem_of_getElem? (i := 255) (by decide +kernel)⟩
  | 2, q, h => by
    cases (h : some (RJx00060, TJx00060, 6) = some q)
    exact ⟨6, List.mem_of_getElem? (i := 854) (by decide +kernel)⟩
  | 3, q, h => by
    cases (h : some (RJx7c733, TJx7c733, 6) = some q)
    exact ⟨6, List.mem_of_getElem? (i := 1356) (by decide +kernel)⟩
  | 4, q, h => by
    cases (h : some (RX0, TX0, 7) = some q)
    exact ⟨7, List.mem_of_getElem? (i := 86) (by decide +kernel)⟩
  | 5, q, h => by
    cases (h : some (RX1, TX1, 3) = some q)
    exact ⟨3, List.mem_of_getElem? (i := 207) (by decide +kernel)⟩
  | 6, q, h => by
    cases (h : some (RX2, TX2, 3) = some q)
    exact ⟨3, List.mem_of_getElem? (i := 301) (by decide +kernel)⟩
  | 7, q, h => by
    cases (h : some (RX3, TX3, 12) = some q)
    exact ⟨12, List.mem_of_getElem? (i := 77) (by decide +kernel)⟩
  | 8, q, h => by
    cases (h : some (RX4, TX4, 3) = some q)
    exact ⟨3, List.mem_of_getElem? (i := 187) (by decide +kernel)⟩
  | 9, q, h => by
    cases (h : some (RX5, TX5, 3) = some q)
    exact ⟨3, List.mem_of_getElem? (i := 123) (by decide +kernel)⟩
  | 10, q, h => by
    cases (h : some (RX6, TX6, 5) = some q)
    exact ⟨5, List.mem_of_getElem? (i := 225) (by decide +kernel)⟩
  | 11, q, h => by
    cases (h : some (RX7, TX7, 2) = some q)
    exact ⟨2, List.mem_of_getElem? (i := 288) (by decide +kernel)⟩
  | 12, q, h => by
    cases (h : some (RX8, TX8, 14) = some q)
    exact ⟨14, List.mem_of_getElem? (i := 69) (by decide +kernel)⟩
  | c + 13, q, h => by simp at h
theorem lw_kn {args : Array Value} {s : State} (hts : ∀ w ∈ lw_tbl, w.before args s = true) {c : Nat} {q : vw_C} (h : vwCl[c]? = some q) : ∃ (cC : ClassId) (iS : Nat → Nat), u_Kn s q.1 q.2.1 q.2.2 cC iS := by
  obtain ⟨ps, hps⟩ := mv_cl_ok h
  have hin := (mv_clk_ok hps).1
  obtain ⟨n, hi⟩ := lw_inst c q h
  exact u_known (ws := lw_tbl) hts (fun w hw => (hin w hw).2) (hts _ hi)
theorem lw_D {args : Array Value} {s : State} (hts : ∀ w ∈ lw_tbl, w.before args s = true) : ∃ D : va_G, va_K D vwCl [] s := by
  have h2 : ∀ c : Nat, ∃ p : ClassId × (Nat → Nat), ∀ q : vw_C, vwCl[c]? = some q → u_Kn s q.1 q.2.1 q.2.2 p.1 p.2 := fun c => by
    cases hq : vwCl[c]? with
    | none => exact ⟨(default, fun _ => 0), fun q h => by cases h⟩
    | some q =>
      obtain ⟨cC, iS, h⟩ := lw_kn hts hq
      exact ⟨(cC, iS), fun q' h' => by cases h'; exact h⟩
  obtain ⟨f, hf⟩ := Classical.axiomOfChoice h2
  exact ⟨(fun c => (f c).1, fun c => (f c).2), fun c q h => hf c q h, fun k q h => by simp at h⟩
