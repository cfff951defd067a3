/-! WHAT STANDS OUTSIDE AT THE START: strings, digits, statics -/
def lw_nw : List Cond := flatC (Jvm.Cond.and given_1 narrow_1)
/-- what is said of a text -/
def lw_se (C : String) (k : Nat) (l : List Int32) : List Cond := Cond.exactly (.string C k) "java/lang/String" :: Cond.eq (.field (.string C k) "java/lang/String" "coder" "B") (.int 0) :: Cond.arrayOf (.field (.string C k) "java/lang/String" "value" "[B") .byte :: Cond.eq (.length (.field (.string C k) "java/lang/String" "value" "[B")) (.int (Int32.ofNat l.length)) :: (List.range l.length).map fun j => Cond.eq (.elem (.field (.string C k) "java/lang/String" "value" "[B") (.int (Int32.ofNat j))) (.int (l.getD j 0))
/-- what is said of a row of bytes -/
def lw_sd (d : String) (l : List Int32) : List Cond := Cond.arrayOf (.static "java/lang/Integer" d "[B") .byte :: Cond.eq (.length (.static "java/lang/Integer" d "[B")) (.int (Int32.ofNat l.length)) :: (List.range l.length).map fun j => Cond.eq (.elem (.static "java/lang/Integer" d "[B") (.int (Int32.ofNat j))) (.int (l.getD j 0))
theorem lw_in {base n : Nat} {e : List Cond} (h : (lw_nw.drop base).take n = e) : ∀ w ∈ e, w ∈ lw_nw := fun w hw => List.mem_of_mem_drop (List.mem_of_mem_take (by rw [h]; exact hw))
section ENV
variable {args : Array Value} {s : State}
theorem lw_sg {C : String} {k base n a : Nat} {l : List Int32} (hs : ∀ w ∈ lw_nw, w.before args s = true) (hn : l.length ≤ 100) (hc : (lw_nw.drop base).take n = lw_se C k l) (ha : (Term.string C k).eval args s none [] s = some (.ref a)) :
    ∃ v : Nat, va_O "java/lang/String" a (fun q => s.heap.size ≤ q) s s.heap ∧ va_OF "java/lang/String" "coder" "B" (.int 0) a (fun q => s.heap.size ≤ q) s s.heap ∧ va_OF "java/lang/String" "value" "[B" (.ref v) a (fun q => s.heap.size ≤ q) s s.heap ∧ va_T .byte v l.length (fun j => .int (l.getD j 0)) (fun q => s.heap.size ≤ q) s s.heap := by
  have hA : ∀ q : Nat, q < s.heap.size → ¬ s.heap.size ≤ q := fun q hq => Nat.not_le.mpr hq
  have hw := lw_in hc
  have h1 := hs _ (hw (Cond.exactly (.string C k) "java/lang/String") List.mem_cons_self)
  have h2 := hs _ (hw _ (List.mem_cons_of_mem _ List.mem_cons_self))
  have h3 := hs _ (hw _ (List.mem_cons_of_mem _ (List.mem_cons_of_mem _ List.mem_cons_self)))
  have h4 := hs _ (hw _ (List.mem_cons_of_mem _ (List.mem_cons_of_mem _ (List.mem_cons_of_mem _ List.mem_cons_self))))
  have h5 : ∀ j : Nat, j < l.length → (Cond.eq (.elem (.field (.string C k) "java/lang/String" "value" "[B") (.int (Int32.ofNat j))) (.int (l.getD j 0))).before args s = true := fun j hj => hs _ (hw _ (List.mem_cons_of_mem _ (List.mem_cons_of_mem _ (List.mem_cons_of_mem _ (List.mem_cons_of_mem _ (List.mem_map.mpr ⟨j, List.mem_range.mpr hj, rfl⟩))))))
  obtain ⟨v, hv, hT⟩ := va_Tof (f := fun j => .int (l.getD j 0)) (A := fun q => s.heap.size ≤ q) (show l.length < 2 ^ 31 by omega) h3 (va_eqt h4) (fun j hj => va_eqt (h5 j hj)) hA
  exact ⟨v, va_Oof h1 ha hA, vk_OFof ha (va_eqt h2) hA, vk_OFof ha hv hA, hT⟩
theorem lw_dg {d : String} {base n : Nat} {l : List Int32} (hs : ∀ w ∈ lw_nw, w.before args s = true) (hn : l.length ≤ 100) (hc : (lw_nw.drop base).take n = lw_sd d l) :
    ∃ v : Nat, (Term.static "java/lang/Integer" d "[B").eval args s none [] s = some (.ref v) ∧ va_T .byte v l.length (fun j => .int (l.getD j 0)) (fun q => s.heap.size ≤ q) s s.heap := by
  have hA : ∀ q : Nat, q < s.heap.size → ¬ s.heap.size ≤ q := fun q hq => Nat.not_le.mpr hq
  have hw := lw_in hc
  have h3 := hs _ (hw _ List.mem_cons_self)
  have h4 := hs _ (hw _ (List.mem_cons_of_mem _ List.mem_cons_self))
  have h5 : ∀ j : Nat, j < l.length → (Cond.eq (.elem (.static "java/lang/Integer" d "[B") (.int (Int32.ofNat j))) (.int (l.getD j 0))).before args s = true := fun j hj => hs _ (hw _ (List.mem_cons_of_mem _ (List.mem_cons_of_mem _ (List.mem_map.mpr ⟨j, List.mem_range.mpr hj, rfl⟩))))
  obtain ⟨v, hv, hT⟩ := va_Tof (f := fun j => .int (l.getD j 0)) (A := fun q => s.heap.size ≤ q) (show l.length < 2 ^ 31 by omega) h3 (va_eqt h4) (fun j hj => va_eqt (h5 j hj)) hA
  exact ⟨v, hv, hT⟩
/-- a text stands for itself -/
theorem lw_ev {t : Term} {c : String} (h : (Cond.exactly t c).before args s = true) : ∃ a : Nat, t.eval args s none [] s = some (.ref a) := by
  obtain ⟨a, c, cA, kA, q1, -⟩ := Cond.exactly_spec (args := args) (first := s) (o := none) (s := s) (idx := []) (t := t) (cls := c) h
  exact ⟨a, q1⟩
theorem lw_ss (hs : ∀ w ∈ lw_nw, w.before args s = true) : ∀ (n : Nat) (q : String × Nat × String), mv_sn n = some q → ∃ a : Nat, (Term.string q.1 q.2.1).eval args s none [] s = some (.ref a)
  | 0, q, e => by
    cases (show some ("BalloonHarbour", 95, "no such berth") = some q from e)
    exact lw_ev (t := .string "BalloonHarbour" 95) (c := "java/lang/String") (hs _ (List.mem_of_getElem? (i := 399) (by decide +kernel)))
  | 1, q, e => by
    cases (show some ("BalloonHarbour", 129, "no such rank") = some q from e)
    exact lw_ev (t := .string "BalloonHarbour" 129) (c := "java/lang/String") (hs _ (List.mem_of_getElem? (i := 974) (by decide +kernel)))
  | 2, q, e => by
    cases (show some ("BalloonHarbour", 140, "no such bag") = some q from e)
    exact lw_ev (t := .string "BalloonHarbour" 140) (c := "java/lang/String") (hs _ (List.mem_of_getElem? (i := 830) (by decide +kernel)))
  | 3, q, e => by
    cases (show some ("BalloonHarbour", 154, "no drop set") = some q from e)
    exact lw_ev (t := .string "BalloonHarbour" 154) (c := "java/lang/String") (hs _ (List.mem_of_getElem? (i := 476) (by decide +kernel)))
  | 4, q, e => by
    cases (show some ("BalloonHarbour", 168, "no such hour") = some q from e)
    exact lw_ev (t := .string "BalloonHarbour" 168) (c := "java/lang/String") (hs _ (List.mem_of_getElem? (i := 845) (by decide +kernel)))
  | 5, q, e => by
    cases (show some ("BalloonHarbour", 244, "no balloons") = some q from e)
    exact lw_ev (t := .string "BalloonHarbour" 244) (c := "java/lang/String") (hs _ (List.mem_of_getElem? (i := 1022) (by decide +kernel)))
  | 6, q, e => by
    cases (show some ("BalloonHarbour", 258, "the text buffer is full") = some q from e)
    exact lw_ev (t := .string "BalloonHarbour" 258) (c := "java/lang/String") (hs _ (List.mem_of_getElem? (i := 634) (by decide +kernel)))
  | 7, q, e => by
    cases (show some ("BalloonHarbour", 271, "the text does not match the grammar") = some q from e)
    exact lw_ev (t := .string "BalloonHarbour" 271) (c := "java/lang/String") (hs _ (List.mem_of_getElem? (i := 771) (by decide +kernel)))
  | 8, q, e => by
    cases (show some ("BalloonHarbour", 290, "a command failed") = some q from e)
    exact lw_ev (t := .string "BalloonHarbour" 290) (c := "java/lang/String") (hs _ (List.mem_of_getElem? (i := 810) (by decide +kernel)))
  | 9, q, e => by
    cases (show none = some q from e)
  | 10, q, e => by
    cases (show some ("BalloonHarbour", 315, "no such index") = some q from e)
    exact lw_ev (t := .string "BalloonHarbour" 315) (c := "java/lang/String") (hs _ (List.mem_of_getElem? (i := 544) (by decide +kernel)))
  | 11, q, e => by
    cases (show none = some q from e)
  | 12, q, e => by
    cases (show some ("BalloonHarbour", 329, "nothing can be undone") = some q from e)
    exact lw_ev (t := .string "BalloonHarbour" 329) (c := "java/lang/String") (hs _ (List.mem_of_getElem? (i := 1037) (by decide +kernel)))
  | 13, q, e => by
    cases (show some ("BalloonHarbour", 334, "there is no snapshot") = some q from e)
    exact lw_ev (t := .string "BalloonHarbour" 334) (c := "java/lang/String") (hs _ (List.mem_of_getElem? (i := 1062) (by decide +kernel)))
  | 14, q, e => by
    cases (show some ("BalloonHarbour", 343, "a parameter is out of range") = some q from e)
    exact lw_ev (t := .string "BalloonHarbour" 343) (c := "java/lang/String") (hs _ (List.mem_of_getElem? (i := 513) (by decide +kernel)))
  | 15, q, e => by
    cases (show some ("BalloonHarbour", 345, "no balloon is moored there") = some q from e)
    exact lw_ev (t := .string "BalloonHarbour" 345) (c := "java/lang/String") (hs _ (List.mem_of_getElem? (i := 416) (by decide +kernel)))
  | 16, q, e => by
    cases (show some ("BalloonHarbour", 351, "denied") = some q from e)
    exact lw_ev (t := .string "BalloonHarbour" 351) (c := "java/lang/String") (hs _ (List.mem_of_getElem? (i := 561) (by decide +kernel)))
  | 17, q, e => by
    cases (show some ("BalloonHarbour", 360, "no such pilot") = some q from e)
    exact lw_ev (t := .string "BalloonHarbour" 360) (c := "java/lang/String") (hs _ (List.mem_of_getElem? (i := 861) (by decide +kernel)))
  | 18, q, e => by
    cases (show some ("BalloonHarbour", 362, "nothing was denied") = some q from e)
    exact lw_ev (t := .string "BalloonHarbour" 362) (c := "java/lang/String") (hs _ (List.mem_of_getElem? (i := 491) (by decide +kernel)))
  | 19, q, e => by
    cases (show some ("BalloonHarbour", 364, "the height is out of range") = some q from e)
    exact lw_ev (t := .string "BalloonHarbour" 364) (c := "java/lang/String") (hs _ (List.mem_of_getElem? (i := 446) (by decide +kernel)))
  | 20, q, e => by
    cases (show some ("BalloonHarbour", 366, "the strength is out of range") = some q from e)
    exact lw_ev (t := .string "BalloonHarbour" 366) (c := "java/lang/String") (hs _ (List.mem_of_getElem? (i := 990) (by decide +kernel)))
  | 21, q, e => by
    cases (show some ("BalloonHarbour$Text", 71, "moor D N N N") = some q from e)
    exact lw_ev (t := .string "BalloonHarbour$Text" 71) (c := "java/lang/String") (hs _ (List.mem_of_getElem? (i := 661) (by decide +kernel)))
  | 22, q, e => by
    cases (show some ("BalloonHarbour$Text", 73, "cast D") = some q from e)
    exact lw_ev (t := .string "BalloonHarbour$Text" 73) (c := "java/lang/String") (hs _ (List.mem_of_getElem? (i := 677) (by decide +kernel)))
  | 23, q, e => by
    cases (show some ("BalloonHarbour$Text", 75, "load D N") = some q from e)
    exact lw_ev (t := .string "BalloonHarbour$Text" 75) (c := "java/lang/String") (hs _ (List.mem_of_getElem? (i := 687) (by decide +kernel)))
  | 24, q, e => by
    cases (show some ("BalloonHarbour$Text", 77, "drop D D") = some q from e)
    exact lw_ev (t := .string "BalloonHarbour$Text" 77) (c := "java/lang/String") (hs _ (List.mem_of_getElem? (i := 699) (by decide +kernel)))
  | 25, q, e => by
    cases (show some ("BalloonHarbour$Text", 79, "rise D N") = some q from e)
    exact lw_ev (t := .string "BalloonHarbour$Text" 79) (c := "java/lang/String") (hs _ (List.mem_of_getElem? (i := 711) (by decide +kernel)))
  | 26, q, e => by
    cases (show some ("BalloonHarbour$Text", 81, "wind N=S") = some q from e)
    exact lw_ev (t := .string "BalloonHarbour$Text" 81) (c := "java/lang/String") (hs _ (List.mem_of_getElem? (i := 723) (by decide +kernel)))
  | 27, q, e => by
    cases (show some ("BalloonHarbour$Text", 83, "wait N") = some q from e)
    exact lw_ev (t := .string "BalloonHarbour$Text" 83) (c := "java/lang/String") (hs _ (List.mem_of_getElem? (i := 735) (by decide +kernel)))
  | 28, q, e => by
    cases (show some ("BalloonHarbour$Text", 85, "pilot N N-N") = some q from e)
    exact lw_ev (t := .string "BalloonHarbour$Text" 85) (c := "java/lang/String") (hs _ (List.mem_of_getElem? (i := 745) (by decide +kernel)))
  | 29, q, e => by
    cases (show some ("BalloonHarbour$Text", 87, "leave D") = some q from e)
    exact lw_ev (t := .string "BalloonHarbour$Text" 87) (c := "java/lang/String") (hs _ (List.mem_of_getElem? (i := 760) (by decide +kernel)))
  | 30, q, e => by
    cases (show none = some q from e)
  | 31, q, e => by
    cases (show none = some q from e)
  | 32, q, e => by
    cases (show none = some q from e)
  | 33, q, e => by
    cases (show none = some q from e)
  | 34, q, e => by
    cases (show none = some q from e)
  | 35, q, e => by
    cases (show none = some q from e)
  | 36, q, e => by
    cases (show none = some q from e)
  | 37, q, e => by
    cases (show none = some q from e)
  | 38, q, e => by
    cases (show none = some q from e)
  | 39, q, e => by
    cases (show none = some q from e)
  | 40, q, e => by
    cases (show none = some q from e)
  | 41, q, e => by
    cases (show none = some q from e)
  | 42, q, e => by
    cases (show none = some q from e)
  | 43, q, e => by
    cases (show some ("BalloonHarbourLaw", 267, "load ") = some q from e)
    exact lw_ev (t := .string "BalloonHarbourLaw" 267) (c := "java/lang/String") (hs _ (List.mem_of_getElem? (i := 571) (by decide +kernel)))
  | 44, q, e => by
    cases (show some ("BalloonHarbourLaw", 276, " ") = some q from e)
    exact lw_ev (t := .string "BalloonHarbourLaw" 276) (c := "java/lang/String") (hs _ (List.mem_of_getElem? (i := 580) (by decide +kernel)))
  | 45, q, e => by
    cases (show some ("BalloonHarbourLaw", 278, ";wait 1") = some q from e)
    exact lw_ev (t := .string "BalloonHarbourLaw" 278) (c := "java/lang/String") (hs _ (List.mem_of_getElem? (i := 585) (by decide +kernel)))
  | 46, q, e => by
    cases (show some ("BalloonHarbourLaw", 280, ";drop ") = some q from e)
    exact lw_ev (t := .string "BalloonHarbourLaw" 280) (c := "java/lang/String") (hs _ (List.mem_of_getElem? (i := 596) (by decide +kernel)))
  | 47, q, e => by
    cases (show some ("BalloonHarbourLaw", 282, " 0") = some q from e)
    exact lw_ev (t := .string "BalloonHarbourLaw" 282) (c := "java/lang/String") (hs _ (List.mem_of_getElem? (i := 606) (by decide +kernel)))
  | 48, q, e => by
    cases (show some ("BalloonHarbourLaw", 288, ";rise ") = some q from e)
    exact lw_ev (t := .string "BalloonHarbourLaw" 288) (c := "java/lang/String") (hs _ (List.mem_of_getElem? (i := 619) (by decide +kernel)))
  | 49, q, e => by
    cases (show some ("BalloonHarbourLaw", 290, ";") = some q from e)
    exact lw_ev (t := .string "BalloonHarbourLaw" 290) (c := "java/lang/String") (hs _ (List.mem_of_getElem? (i := 629) (by decide +kernel)))
  | 50, q, e => by
    cases (show some ("java/util/Arrays", 337, " > ") = some q from e)
    exact lw_ev (t := .string "java/util/Arrays" 337) (c := "java/lang/String") (hs _ (List.mem_of_getElem? (i := 612) (by decide +kernel)))
  | n + 51, q, e => by
    cases (show none = some q from e)
theorem lw_sr (h : ∀ w ∈ lw_tbl, w.before args s = true) : ∀ (n : Nat) (q : String × Nat × String), mv_sn n = some q → (Cond.stringRef q.1 q.2.1 q.2.2).before args s = true
  | 0, q, e => by
    cases (show some ("BalloonHarbour", 95, "no such berth") = some q from e)
    show (Cond.stringRef "BalloonHarbour" 95 "no such berth").before args s = true
    exact h _ (List.mem_of_getElem? (i := 529) (by decide +kernel))
  | 1, q, e => by
    cases (show some ("BalloonHarbour", 129, "no such rank") = some q from e)
    show (Cond.stringRef "BalloonHarbour" 129 "no such rank").before args s = true
    exact h _ (List.mem_of_getElem? (i := 1434) (by decide +kernel))
  | 2, q, e => by
    cases (show some ("BalloonHarbour", 140, "no such bag") = some q from e)
    show (Cond.stringRef "BalloonHarbour" 140 "no such bag").before args s = true
    exact h _ (List.mem_of_getElem? (i := 1264) (by decide +kernel))
  | 3, q, e => by
    cases (show some ("BalloonHarbour", 154, "no drop set") = some q from e)
    show (Cond.stringRef "BalloonHarbour" 154 "no drop set").before args s = true
    exact h _ (List.mem_of_getElem? (i := 625) (by decide +kernel))
  | 4, q, e => by
    cases (show some ("BalloonHarbour", 168, "no such hour") = some q from e)
    show (Cond.stringRef "BalloonHarbour" 168 "no such hour").before args s = true
    exact h _ (List.mem_of_getElem? (i := 1272) (by decide +kernel))
  | 5, q, e => by
    cases (show some ("BalloonHarbour", 244, "no balloons") = some q from e)
    show (Cond.stringRef "BalloonHarbour" 244 "no balloons").before args s = true
    exact h _ (List.mem_of_getElem? (i := 1525) (by decide +kernel))
  | 6, q, e => by
    cases (show some ("BalloonHarbour", 258, "the text buffer is full") = some q from e)
    show (Cond.stringRef "BalloonHarbour" 258 "the text buffer is full").before args s = true
    exact h _ (List.mem_of_getElem? (i := 1171) (by decide +kernel))
  | 7, q, e => by
    cases (show some ("BalloonHarbour", 271, "the text does not match the grammar") = some q from e)
    show (Cond.stringRef "BalloonHarbour" 271 "the text does not match the grammar").before args s = true
    exact h _ (List.mem_of_getElem? (i := 1231) (by decide +kernel))
  | 8, q, e => by
    cases (show some ("BalloonHarbour", 290, "a command failed") = some q from e)
    show (Cond.stringRef "BalloonHarbour" 290 "a command failed").before args s = true
    exact h _ (List.mem_of_getElem? (i := 1232) (by decide +kernel))
  | 9, q, e => by
    cases (show none = some q from e)
  | 10, q, e => by
    cases (show some ("BalloonHarbour", 315, "no such index") = some q from e)
    show (Cond.stringRef "BalloonHarbour" 315 "no such index").before args s = true
    exact h _ (List.mem_of_getElem? (i := 749) (by decide +kernel))
  | 11, q, e => by
    cases (show none = some q from e)
  | 12, q, e => by
    cases (show some ("BalloonHarbour", 329, "nothing can be undone") = some q from e)
    show (Cond.stringRef "BalloonHarbour" 329 "nothing can be undone").before args s = true
    exact h _ (List.mem_of_getElem? (i := 1576) (by decide +kernel))
  | 13, q, e => by
    cases (show some ("BalloonHarbour", 334, "there is no snapshot") = some q from e)
    show (Cond.stringRef "BalloonHarbour" 334 "there is no snapshot").before args s = true
    exact h _ (List.mem_of_getElem? (i := 1588) (by decide +kernel))
  | 14, q, e => by
    cases (show some ("BalloonHarbour", 343, "a parameter is out of range") = some q from e)
    show (Cond.stringRef "BalloonHarbour" 343 "a parameter is out of range").before args s = true
    exact h _ (List.mem_of_getElem? (i := 739) (by decide +kernel))
  | 15, q, e => by
    cases (show some ("BalloonHarbour", 345, "no balloon is moored there") = some q from e)
    show (Cond.stringRef "BalloonHarbour" 345 "no balloon is moored there").before args s = true
    exact h _ (List.mem_of_getElem? (i := 577) (by decide +kernel))
  | 16, q, e => by
    cases (show some ("BalloonHarbour", 351, "denied") = some q from e)
    show (Cond.stringRef "BalloonHarbour" 351 "denied").before args s = true
    exact h _ (List.mem_of_getElem? (i := 773) (by decide +kernel))
  | 17, q, e => by
    cases (show some ("BalloonHarbour", 360, "no such pilot") = some q from e)
    show (Cond.stringRef "BalloonHarbour" 360 "no such pilot").before args s = true
    exact h _ (List.mem_of_getElem? (i := 1286) (by decide +kernel))
  | 18, q, e => by
    cases (show some ("BalloonHarbour", 362, "nothing was denied") = some q from e)
    show (Cond.stringRef "BalloonHarbour" 362 "nothing was denied").before args s = true
    exact h _ (List.mem_of_getElem? (i := 662) (by decide +kernel))
  | 19, q, e => by
    cases (show some ("BalloonHarbour", 364, "the height is out of range") = some q from e)
    show (Cond.stringRef "BalloonHarbour" 364 "the height is out of range").before args s = true
    exact h _ (List.mem_of_getElem? (i := 612) (by decide +kernel))
  | 20, q, e => by
    cases (show some ("BalloonHarbour", 366, "the strength is out of range") = some q from e)
    show (Cond.stringRef "BalloonHarbour" 366 "the strength is out of range").before args s = true
    exact h _ (List.mem_of_getElem? (i := 1445) (by decide +kernel))
  | 21, q, e => by
    cases (show some ("BalloonHarbour$Text", 71, "moor D N N N") = some q from e)
    show (Cond.stringRef "BalloonHarbour$Text" 71 "moor D N N N").before args s = true
    exact h _ (List.mem_of_getElem? (i := 1204) (by decide +kernel))
  | 22, q, e => by
    cases (show some ("BalloonHarbour$Text", 73, "cast D") = some q from e)
    show (Cond.stringRef "BalloonHarbour$Text" 73 "cast D").before args s = true
    exact h _ (List.mem_of_getElem? (i := 1205) (by decide +kernel))
  | 23, q, e => by
    cases (show some ("BalloonHarbour$Text", 75, "load D N") = some q from e)
    show (Cond.stringRef "BalloonHarbour$Text" 75 "load D N").before args s = true
    exact h _ (List.mem_of_getElem? (i := 1206) (by decide +kernel))
  | 24, q, e => by
    cases (show some ("BalloonHarbour$Text", 77, "drop D D") = some q from e)
    show (Cond.stringRef "BalloonHarbour$Text" 77 "drop D D").before args s = true
    exact h _ (List.mem_of_getElem? (i := 1207) (by decide +kernel))
  | 25, q, e => by
    cases (show some ("BalloonHarbour$Text", 79, "rise D N") = some q from e)
    show (Cond.stringRef "BalloonHarbour$Text" 79 "rise D N").before args s = true
    exact h _ (List.mem_of_getElem? (i := 1208) (by decide +kernel))
  | 26, q, e => by
    cases (show some ("BalloonHarbour$Text", 81, "wind N=S") = some q from e)
    show (Cond.stringRef "BalloonHarbour$Text" 81 "wind N=S").before args s = true
    exact h _ (List.mem_of_getElem? (i := 1209) (by decide +kernel))
  | 27, q, e => by
    cases (show some ("BalloonHarbour$Text", 83, "wait N") = some q from e)
    show (Cond.stringRef "BalloonHarbour$Text" 83 "wait N").before args s = true
    exact h _ (List.mem_of_getElem? (i := 1210) (by decide +kernel))
  | 28, q, e => by
    cases (show some ("BalloonHarbour$Text", 85, "pilot N N-N") = some q from e)
    show (Cond.stringRef "BalloonHarbour$Text" 85 "pilot N N-N").before args s = true
    exact h _ (List.mem_of_getElem? (i := 1211) (by decide +kernel))
  | 29, q, e => by
    cases (show some ("BalloonHarbour$Text", 87, "leave D") = some q from e)
    show (Cond.stringRef "BalloonHarbour$Text" 87 "leave D").before args s = true
    exact h _ (List.mem_of_getElem? (i := 1212) (by decide +kernel))
  | 30, q, e => by
    cases (show none = some q from e)
  | 31, q, e => by
    cases (show none = some q from e)
  | 32, q, e => by
    cases (show none = some q from e)
  | 33, q, e => by
    cases (show none = some q from e)
  | 34, q, e => by
    cases (show none = some q from e)
  | 35, q, e => by
    cases (show none = some q from e)
  | 36, q, e => by
    cases (show none = some q from e)
  | 37, q, e => by
    cases (show none = some q from e)
  | 38, q, e => by
    cases (show none = some q from e)
  | 39, q, e => by
    cases (show none = some q from e)
  | 40, q, e => by
    cases (show none = some q from e)
  | 41, q, e => by
    cases (show none = some q from e)
  | 42, q, e => by
    cases (show none = some q from e)
  | 43, q, e => by
    cases (show some ("BalloonHarbourLaw", 267, "load ") = some q from e)
    show (Cond.stringRef "BalloonHarbourLaw" 267 "load ").before args s = true
    exact h _ (List.mem_of_getElem? (i := 915) (by decide +kernel))
  | 44, q, e => by
    cases (show some ("BalloonHarbourLaw", 276, " ") = some q from e)
    show (Cond.stringRef "BalloonHarbourLaw" 276 " ").before args s = true
    exact h _ (List.mem_of_getElem? (i := 1057) (by decide +kernel))
  | 45, q, e => by
    cases (show some ("BalloonHarbourLaw", 278, ";wait 1") = some q from e)
    show (Cond.stringRef "BalloonHarbourLaw" 278 ";wait 1").before args s = true
    exact h _ (List.mem_of_getElem? (i := 1058) (by decide +kernel))
  | 46, q, e => by
    cases (show some ("BalloonHarbourLaw", 280, ";drop ") = some q from e)
    show (Cond.stringRef "BalloonHarbourLaw" 280 ";drop ").before args s = true
    exact h _ (List.mem_of_getElem? (i := 1059) (by decide +kernel))
  | 47, q, e => by
    cases (show some ("BalloonHarbourLaw", 282, " 0") = some q from e)
    show (Cond.stringRef "BalloonHarbourLaw" 282 " 0").before args s = true
    exact h _ (List.mem_of_getElem? (i := 1060) (by decide +kernel))
  | 48, q, e => by
    cases (show some ("BalloonHarbourLaw", 288, ";rise ") = some q from e)
    show (Cond.stringRef "BalloonHarbourLaw" 288 ";rise ").before args s = true
    exact h _ (List.mem_of_getElem? (i := 1124) (by decide +kernel))
  | 49, q, e => by
    cases (show some ("BalloonHarbourLaw", 290, ";") = some q from e)
    show (Cond.stringRef "BalloonHarbourLaw" 290 ";").before args s = true
    exact h _ (List.mem_of_getElem? (i := 1125) (by decide +kernel))
  | 50, q, e => by
    cases (show some ("java/util/Arrays", 337, " > ") = some q from e)
    show (Cond.stringRef "java/util/Arrays" 337 " > ").before args s = true
    exact h _ (List.mem_of_getElem? (i := 1100) (by decide +kernel))
  | n + 51, q, e => by
    cases (show none = some q from e)
theorem lw_nc (hs : ∀ w ∈ lw_nw, w.before args s = true) : ∀ e e2 : Nat, e < 6 → e2 < 6 → e ≠ e2 → va_Nc (mv_en e) (mv_en e2) s := by
  intro e e2 he he2 hne
  have c1 : e = 0 ∨ e = 1 ∨ e = 2 ∨ e = 3 ∨ e = 4 ∨ e = 5 := by omega
  have c2 : e2 = 0 ∨ e2 = 1 ∨ e2 = 2 ∨ e2 = 3 ∨ e2 = 4 ∨ e2 = 5 := by omega
  rcases c1 with rfl | rfl | rfl | rfl | rfl | rfl <;> rcases c2 with rfl | rfl | rfl | rfl | rfl | rfl
  · exact absurd rfl hne
  · exact va_Nc.of (hs _ (List.mem_of_getElem? (i := 247) (by decide +kernel)))
  · exact va_Nc.of (hs _ (List.mem_of_getElem? (i := 282) (by decide +kernel)))
  · exact va_Nc.of (hs _ (List.mem_of_getElem? (i := 266) (by decide +kernel)))
  · exact va_Nc.of (hs _ (List.mem_of_getElem? (i := 300) (by decide +kernel)))
  · exact va_Nc.of (hs _ (List.mem_of_getElem? (i := 318) (by decide +kernel)))
  · exact va_Nc.of (hs _ (List.mem_of_getElem? (i := 227) (by decide +kernel)))
  · exact absurd rfl hne
  · exact va_Nc.of (hs _ (List.mem_of_getElem? (i := 281) (by decide +kernel)))
  · exact va_Nc.of (hs _ (List.mem_of_getElem? (i := 263) (by decide +kernel)))
  · exact va_Nc.of (hs _ (List.mem_of_getElem? (i := 297) (by decide +kernel)))
  · exact va_Nc.of (hs _ (List.mem_of_getElem? (i := 315) (by decide +kernel)))
  · exact va_Nc.of (hs _ (List.mem_of_getElem? (i := 229) (by decide +kernel)))
  · exact va_Nc.of (hs _ (List.mem_of_getElem? (i := 246) (by decide +kernel)))
  · exact absurd rfl hne
  · exact va_Nc.of (hs _ (List.mem_of_getElem? (i := 265) (by decide +kernel)))
  · exact va_Nc.of (hs _ (List.mem_of_getElem? (i := 299) (by decide +kernel)))
  · exact va_Nc.of (hs _ (List.mem_of_getElem? (i := 317) (by decide +kernel)))
  · exact va_Nc.of (hs _ (List.mem_of_getElem? (i := 230) (by decide +kernel)))
  · exact va_Nc.of (hs _ (List.mem_of_getElem? (i := 248) (by decide +kernel)))
  · exact va_Nc.of (hs _ (List.mem_of_getElem? (i := 283) (by decide +kernel)))
  · exact absurd rfl hne
  · exact va_Nc.of (hs _ (List.mem_of_getElem? (i := 301) (by decide +kernel)))
  · exact va_Nc.of (hs _ (List.mem_of_getElem? (i := 319) (by decide +kernel)))
  · exact va_Nc.of (hs _ (List.mem_of_getElem? (i := 232) (by decide +kernel)))
  · exact va_Nc.of (hs _ (List.mem_of_getElem? (i := 250) (by decide +kernel)))
  · exact va_Nc.of (hs _ (List.mem_of_getElem? (i := 285) (by decide +kernel)))
  · exact va_Nc.of (hs _ (List.mem_of_getElem? (i := 268) (by decide +kernel)))
  · exact absurd rfl hne
  · exact va_Nc.of (hs _ (List.mem_of_getElem? (i := 321) (by decide +kernel)))
  · exact va_Nc.of (hs _ (List.mem_of_getElem? (i := 234) (by decide +kernel)))
  · exact va_Nc.of (hs _ (List.mem_of_getElem? (i := 252) (by decide +kernel)))
  · exact va_Nc.of (hs _ (List.mem_of_getElem? (i := 286) (by decide +kernel)))
  · exact va_Nc.of (hs _ (List.mem_of_getElem? (i := 270) (by decide +kernel)))
  · exact va_Nc.of (hs _ (List.mem_of_getElem? (i := 304) (by decide +kernel)))
  · exact absurd rfl hne
theorem lw_ao (h : ∀ w ∈ lw_tbl, w.before args s = true) : ∀ n : Nat, n < 14 → va_AO (mv_cn n) s ∨ mv_ao n = false
  | 0, _ => Or.inr rfl
  | 1, _ => Or.inr rfl
  | 2, _ => Or.inr rfl
  | 3, _ => Or.inr rfl
  | 4, _ => Or.inl (va_AO.of (h _ (List.mem_of_getElem? (i := 83) (by decide +kernel))))
  | 5, _ => Or.inl (va_AO.of (h _ (List.mem_of_getElem? (i := 231) (by decide +kernel))))
  | 6, _ => Or.inr rfl
  | 7, _ => Or.inl (va_AO.of (h _ (List.mem_of_getElem? (i := 193) (by decide +kernel))))
  | 8, _ => Or.inr rfl
  | 9, _ => Or.inl (va_AO.of (h _ (List.mem_of_getElem? (i := 85) (by decide +kernel))))
  | 10, _ => Or.inr rfl
  | 11, _ => Or.inr rfl
  | 12, _ => Or.inr rfl
  | 13, _ => Or.inr rfl
  | n + 14, hn => absurd hn (by omega)
theorem lw_us (h : ∀ w ∈ lw_tbl, w.before args s = true) (hs : ∀ w ∈ lw_nw, w.before args s = true) : vx_Zq Bundle.tN "UNASSIGNED_STACK" Bundle.steD (fun q => s.heap.size ≤ q) s s.heap ∧ vx_Zq Bundle.tN "SUPPRESSED_SENTINEL" Bundle.listD (fun q => s.heap.size ≤ q) s s.heap := by
  have hA : ∀ q : Nat, q < s.heap.size → ¬ s.heap.size ≤ q := fun q hq => Nat.not_le.mpr hq
  exact ⟨vx_Zqof (h _ (List.mem_of_getElem? (i := 510) (by decide +kernel))) (h _ (List.mem_of_getElem? (i := 49) (by decide +kernel))) (hs _ (List.mem_of_getElem? (i := 5) (by decide +kernel))) hA, vx_Zqof (h _ (List.mem_of_getElem? (i := 512) (by decide +kernel))) (h _ (List.mem_of_getElem? (i := 49) (by decide +kernel))) (hs _ (List.mem_of_getElem? (i := 6) (by decide +kernel))) hA⟩
def lw_lDigitOnes : List Int32 := [48, 49, 50, 51, 52, 53, 54, 55, 56, 57, 48, 49, 50, 51, 52, 53, 54, 55, 56, 57, 48, 49, 50, 51, 52, 53, 54, 55, 56, 57, 48, 49, 50, 51, 52, 53, 54, 55, 56, 57, 48, 49, 50, 51, 52, 53, 54, 55, 56, 57, 48, 49, 50, 51, 52, 53, 54, 55, 56, 57, 48, 49, 50, 51, 52, 53, 54, 55, 56, 57, 48, 49, 50, 51, 52, 53, 54, 55, 56, 57, 48, 49, 50, 51, 52, 53, 54, 55, 56, 57, 48, 49, 50, 51, 52, 53, 54, 55, 56, 57]
theorem lw_cDigitOnes : (lw_nw.drop 12).take 102 = lw_sd "DigitOnes" lw_lDigitOnes := by decide +kernel
def lw_lDigitTens : List Int32 := [48, 48, 48, 48, 48, 48, 48, 48, 48, 48, 49, 49, 49, 49, 49, 49, 49, 49, 49, 49, 50, 50, 50, 50, 50, 50, 50, 50, 50, 50, 51, 51, 51, 51, 51, 51, 51, 51, 51, 51, 52, 52, 52, 52, 52, 52, 52, 52, 52, 52, 53, 53, 53, 53, 53, 53, 53, 53, 53, 53, 54, 54, 54, 54, 54, 54, 54, 54, 54, 54, 55, 55, 55, 55, 55, 55, 55, 55, 55, 55, 56, 56, 56, 56, 56, 56, 56, 56, 56, 56, 57, 57, 57, 57, 57, 57, 57, 57, 57, 57]
theorem lw_cDigitTens : (lw_nw.drop 115).take 102 = lw_sd "DigitTens" lw_lDigitTens := by decide +kernel
theorem lw_stt (h : ∀ w ∈ lw_tbl, w.before args s = true) (hs : ∀ w ∈ lw_nw, w.before args s = true) : ∃ f : Nat → Value, (∀ (n : Nat) (q : String × String × String), mv_tn n = some q → va_Z q.1 q.2.1 q.2.2 (f n) (fun a => s.heap.size ≤ a) s s.heap) ∧ f 0 = .int 1 ∧ (∃ v : Nat, f 1 = .ref v ∧ va_T .byte v 100 (fun j => .int (lw_lDigitOnes.getD j 0)) (fun q => s.heap.size ≤ q) s s.heap) ∧ (∃ v : Nat, f 2 = .ref v ∧ va_T .byte v 100 (fun j => .int (lw_lDigitTens.getD j 0)) (fun q => s.heap.size ≤ q) s s.heap) ∧ mv_nr (f 3) = true := by
  have hA : ∀ q : Nat, q < s.heap.size → ¬ s.heap.size ≤ q := fun q hq => Nat.not_le.mpr hq
  have z0 : va_Z "java/lang/String" "COMPACT_STRINGS" "Z" (.int 1) (fun a => s.heap.size ≤ a) s s.heap := va_Zof (h _ (List.mem_of_getElem? (i := 264) (by decide +kernel))) (h _ (List.mem_of_getElem? (i := 45) (by decide +kernel))) (va_eqi (hs _ (List.mem_of_getElem? (i := 4) (by decide +kernel)))) hA
  obtain ⟨v1, e1, T1⟩ := lw_dg (l := lw_lDigitOnes) hs (by decide) lw_cDigitOnes
  obtain ⟨v2, e2, T2⟩ := lw_dg (l := lw_lDigitTens) hs (by decide) lw_cDigitTens
  have z1 : va_Z "java/lang/Integer" "DigitOnes" "[B" (.ref v1) (fun a => s.heap.size ≤ a) s s.heap := va_Zof (h _ (List.mem_of_getElem? (i := 1046) (by decide +kernel))) (h _ (List.mem_of_getElem? (i := 57) (by decide +kernel))) e1 hA
  have z2 : va_Z "java/lang/Integer" "DigitTens" "[B" (.ref v2) (fun a => s.heap.size ≤ a) s s.heap := va_Zof (h _ (List.mem_of_getElem? (i := 1048) (by decide +kernel))) (h _ (List.mem_of_getElem? (i := 57) (by decide +kernel))) e2 hA
  have z3 : ∃ u : Value, mv_nr u = true ∧ va_Z "jdk/internal/util/Preconditions" "SIOOBE_FORMATTER" "Ljava/util/function/BiFunction;" u (fun a => s.heap.size ≤ a) s s.heap := by
    rcases va_Zqof (C := "jdk/internal/util/Preconditions") (n := "SIOOBE_FORMATTER") (d := "Ljava/util/function/BiFunction;") (h _ (List.mem_of_getElem? (i := 976) (by decide +kernel))) (h _ (List.mem_of_getElem? (i := 63) (by decide +kernel))) (hs _ (List.mem_of_getElem? (i := 7) (by decide +kernel))) hA with k | ⟨t, k⟩
    · exact ⟨.null, rfl, k⟩
    · exact ⟨.ref t, rfl, k⟩
  obtain ⟨u, hu, z3⟩ := z3
  refine ⟨fun n => if n = 0 then .int 1 else if n = 1 then .ref v1 else if n = 2 then .ref v2 else u, ?_, rfl, ⟨v1, rfl, T1⟩, ⟨v2, rfl, T2⟩, hu⟩
  intro n q e
  match n, e with
  | 0, e => cases (show some ("java/lang/String", "COMPACT_STRINGS", "Z") = some q from e); exact z0
  | 1, e => cases (show some ("java/lang/Integer", "DigitOnes", "[B") = some q from e); exact z1
  | 2, e => cases (show some ("java/lang/Integer", "DigitTens", "[B") = some q from e); exact z2
  | 3, e => cases (show some ("jdk/internal/util/Preconditions", "SIOOBE_FORMATTER", "Ljava/util/function/BiFunction;") = some q from e); exact z3
  | n + 4, e => cases (show none = some q from e)
theorem lw_k21 : (lw_nw.drop 661).take 16 = lw_se "BalloonHarbour$Text" 71 [109, 111, 111, 114, 32, 68, 32, 78, 32, 78, 32, 78] := by decide +kernel
theorem lw_k22 : (lw_nw.drop 677).take 10 = lw_se "BalloonHarbour$Text" 73 [99, 97, 115, 116, 32, 68] := by decide +kernel
theorem lw_k23 : (lw_nw.drop 687).take 12 = lw_se "BalloonHarbour$Text" 75 [108, 111, 97, 100, 32, 68, 32, 78] := by decide +kernel
theorem lw_k24 : (lw_nw.drop 699).take 12 = lw_se "BalloonHarbour$Text" 77 [100, 114, 111, 112, 32, 68, 32, 68] := by decide +kernel
theorem lw_k25 : (lw_nw.drop 711).take 12 = lw_se "BalloonHarbour$Text" 79 [114, 105, 115, 101, 32, 68, 32, 78] := by decide +kernel
theorem lw_k26 : (lw_nw.drop 723).take 12 = lw_se "BalloonHarbour$Text" 81 [119, 105, 110, 100, 32, 78, 61, 83] := by decide +kernel
theorem lw_k27 : (lw_nw.drop 735).take 10 = lw_se "BalloonHarbour$Text" 83 [119, 97, 105, 116, 32, 78] := by decide +kernel
theorem lw_k28 : (lw_nw.drop 745).take 15 = lw_se "BalloonHarbour$Text" 85 [112, 105, 108, 111, 116, 32, 78, 32, 78, 45, 78] := by decide +kernel
theorem lw_k29 : (lw_nw.drop 760).take 11 = lw_se "BalloonHarbour$Text" 87 [108, 101, 97, 118, 101, 32, 68] := by decide +kernel
theorem lw_k43 : (lw_nw.drop 571).take 9 = lw_se "BalloonHarbourLaw" 267 [108, 111, 97, 100, 32] := by decide +kernel
theorem lw_k44 : (lw_nw.drop 580).take 5 = lw_se "BalloonHarbourLaw" 276 [32] := by decide +kernel
theorem lw_k45 : (lw_nw.drop 585).take 11 = lw_se "BalloonHarbourLaw" 278 [59, 119, 97, 105, 116, 32, 49] := by decide +kernel
theorem lw_k46 : (lw_nw.drop 596).take 10 = lw_se "BalloonHarbourLaw" 280 [59, 100, 114, 111, 112, 32] := by decide +kernel
theorem lw_k47 : (lw_nw.drop 606).take 6 = lw_se "BalloonHarbourLaw" 282 [32, 48] := by decide +kernel
theorem lw_k48 : (lw_nw.drop 619).take 10 = lw_se "BalloonHarbourLaw" 288 [59, 114, 105, 115, 101, 32] := by decide +kernel
theorem lw_k49 : (lw_nw.drop 629).take 5 = lw_se "BalloonHarbourLaw" 290 [59] := by decide +kernel
end ENV
