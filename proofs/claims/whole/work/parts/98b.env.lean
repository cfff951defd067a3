/-! WHAT STANDS OUTSIDE AT THE START: strings, digits, statics -/
def lw_nw : List Cond := flatC (Jvm.Cond.and given_1 narrow_1)
/-- what is said of a text -/
def lw_se (C : String) (k : Nat) (l : List Int32) : List Cond := Cond.exactly (.string C k) "java/lang/String" :: Cond.eq (.field (.string C k) "java/lang/String" "coder" "B") (.int 0) :: Cond.arrayOf (.field (.string C k) "java/lang/String" "value" "[B") .byte :: Cond.eq (.length (.field (.string C k) "java/lang/String" "value" "[B")) (.int (Int32.ofNat l.length)) :: (List.range l.length).map fun j => Cond.eq (.elem (.field (.string C k) "java/lang/String" "value" "[B") (.int (Int32.ofNat j))) (.int (l.getD j 0))
/-- what is said of a row of bytes -/
def lw_sd (d : String) (l : List Int32) : List Cond := Cond.arrayOf (.static "java/lang/Integer" d "[B") .byte :: Cond.eq (.length (.static "java/lang/Integer" d "[B")) (.int (Int32.ofNat l.length)) :: (List.range l.length).map fun j => Cond.eq (.elem (.static "java/lang/Integer" d "[B") (.int (Int32.ofNat j))) (.int (l.getD j 0))
theorem lw_in {base n : Nat} {e : List Cond} (h : (lw_nw.drop base).take n = e) : ∀ w ∈ e, w ∈ lw_nw := fun w hw => List.mem_of_mem_drop (List.mem_of_mem_take (by rw [h]; exact hw))
section ENV
variable {args : Array Value} {s : State}
theorem lw_sg {C : String} {k base n a : Nat} {l : List Int32} (hs : ∀ w ∈ lw_nw, w.before args s = true) (hn : l.length ≤ 100) (hc : (lw_nw.drop base).take n = lw_se C k l) (ha : (Term.string C k).eval args s none [] s = some (.ref a)) :
    ∃ v : Nat, va_O "java/lang/String" a (fun q => s.heap.size ≤ q) s s.heap ∧ va_OF "java/lang/String" "coder" "B" (.int 0) a (fun q => s.heap.size ≤ q) s s.heap ∧ va_OF "java/lang/String" "value" "[B" (.ref v) a (fun q => s.heap.size ≤ q) s s.heap ∧ va_T .byte v l.length (fun j => .int (l.getD j 0)) (fun q => s.heap.size ≤ q) s s.heap := by
  have hA : ∀ q : Nat, q < s.heap.size → ¬ s.heap.size ≤ q := fun q hq => Nat.not_le.mpr hq
  have hw := lw_in hc
  have h1 := hs _ (hw (Cond.exactly (.string C k) "java/lang/String") List.mem_cons_self)
  have h2 := hs _ (hw _ (List.mem_cons_of_mem _ List.mem_cons_self))
  have h3 := hs _ (hw _ (List.mem_cons_of_mem _ (List.mem_cons_of_mem _ List.mem_cons_self)))
  have h4 := hs _ (hw _ (List.mem_cons_of_mem _ (List.mem_cons_of_mem _ (List.mem_cons_of_mem _ List.mem_cons_self))))
  have h5 : ∀ j : Nat, j < l.length → (Cond.eq (.elem (.field (.string C k) "java/lang/String" "value" "[B") (.int (Int32.ofNat j))) (.int (l.getD j 0))).before args s = true := fun j hj => hs _ (hw _ (List.mem_cons_of_mem _ (List.mem_cons_of_mem _ (List.mem_cons_of_mem _ (List.mem_cons_of_mem _ (List.mem_map.mpr ⟨j, List.mem_range.mpr hj, rfl⟩))))))
  obtain ⟨v, hv, hT⟩ := va_Tof (f := fun j => .int (l.getD j 0)) (A := fun q => s.heap.size ≤ q) (show l.length < 2 ^ 31 by omega) h3 (va_eqt h4) (fun j hj => va_eqt (h5 j hj)) hA
  exact ⟨v, va_Oof h1 ha hA, vk_OFof ha (va_eqt h2) hA, vk_OFof ha hv hA, hT⟩
theorem lw_dg {d : String} {base n : Nat} {l : List Int32} (hs : ∀ w ∈ lw_nw, w.before args s = true) (hn : l.length ≤ 100) (hc : (lw_nw.drop base).take n = lw_sd d l) :
    ∃ v : Nat, (Term.static "java/lang/Integer" d "[B").eval args s none [] s = some (.ref v) ∧ va_T .byte v l.length (fun j => .int (l.getD j 0)) (fun q => s.heap.size ≤ q) s s.heap := by
  have hA : ∀ q : Nat, q < s.heap.size → ¬ s.heap.size ≤ q := fun q hq => Nat.not_le.mpr hq
  have hw := lw_in hc
  have h3 := hs _ (hw _ List.mem_cons_self)
  have h4 := hs _ (hw _ (List.mem_cons_of_mem _ List.mem_cons_self))
  have h5 : ∀ j : Nat, j < l.length → (Cond.eq (.elem (.static "java/lang/Integer" d "[B") (.int (Int32.ofNat j))) (.int (l.getD j 0))).before args s = true := fun j hj => hs _ (hw _ (List.mem_cons_of_mem _ (List.mem_cons_of_mem _ (List.mem_map.mpr ⟨j, List.mem_range.mpr hj, rfl⟩))))
  obtain ⟨v, hv, hT⟩ := va_Tof (f := fun j => .int (l.getD j 0)) (A := fun q => s.heap.size ≤ q) (show l.length < 2 ^ 31 by omega) h3 (va_eqt h4) (fun j hj => va_eqt (h5 j hj)) hA
  exact ⟨v, hv, hT⟩
/-- a text stands for itself -/
theorem lw_ev {t : Term} {c : String} (h : (Cond.exactly t c).before args s = true) : ∃ a : Nat, t.eval args s none [] s = some (.ref a) := by
  obtain ⟨a, c, cA, kA, q1, -⟩ := Cond.exactly_spec (args := args) (first := s) (o := none) (s := s) (idx := []) (t := t) (cls := c) h
  exact ⟨a, q1⟩
theorem lw_ss (hs : ∀ w ∈ lw_nw, w.before args s = true) : ∀ (n : Nat) (q : String × Nat × String), mv_sn n = some q → ∃ a : Nat, (Term.string q.1 q.2.1).eval args s none [] s = some (.ref a)
  | 0, q, e => by
    cases (show some ("BalloonHarbour", 95, "no such berth") = some q from e)
    exact lw_ev (t := .string "BalloonHarbour" 95) (c := "java/lang/String") (hs _ (List.mem_of_getElem? (i := 497) (by decide +kernel)))
  | 1, q, e => by
    cases (show some ("BalloonHarbour", 129, "no such rank") = some q from e)
    exact lw_ev (t := .string "BalloonHarbour" 129) (c := "java/lang/String") (hs _ (List.mem_of_getElem? (i := 514) (by decide +kernel)))
  | 2, q, e => by
    cases (show some ("BalloonHarbour", 140, "no such bag") = some q from e)
    exact lw_ev (t := .string "BalloonHarbour" 140) (c := "java/lang/String") (hs _ (List.mem_of_getElem? (i := 530) (by decide +kernel)))
  | 3, q, e => by
    cases (show some ("BalloonHarbour", 154, "no drop set") = some q from e)
    exact lw_ev (t := .string "BalloonHarbour" 154) (c := "java/lang/String") (hs _ (List.mem_of_getElem? (i := 575) (by decide +kernel)))
  | 4, q, e => by
    cases (show some ("BalloonHarbour", 168, "no such hour") = some q from e)
    exact lw_ev (t := .string "BalloonHarbour" 168) (c := "java/lang/String") (hs _ (List.mem_of_getElem? (i := 590) (by decide +kernel)))
  | 5, q, e => by
    cases (show some ("BalloonHarbour", 244, "no balloons") = some q from e)
    exact lw_ev (t := .string "BalloonHarbour" 244) (c := "java/lang/String") (hs _ (List.mem_of_getElem? (i := 655) (by decide +kernel)))
  | 6, q, e => by
    cases (show some ("BalloonHarbour", 258, "the text buffer is full") = some q from e)
    exact lw_ev (t := .string "BalloonHarbour" 258) (c := "java/lang/String") (hs _ (List.mem_of_getElem? (i := 670) (by decide +kernel)))
  | 7, q, e => by
    cases (show some ("BalloonHarbour", 271, "the text does not match the grammar") = some q from e)
    exact lw_ev (t := .string "BalloonHarbour" 271) (c := "java/lang/String") (hs _ (List.mem_of_getElem? (i := 807) (by decide +kernel)))
  | 8, q, e => by
    cases (show some ("BalloonHarbour", 290, "a command failed") = some q from e)
    exact lw_ev (t := .string "BalloonHarbour" 290) (c := "java/lang/String") (hs _ (List.mem_of_getElem? (i := 846) (by decide +kernel)))
  | 9, q, e => by
    cases (show some ("BalloonHarbour", 299, "no fault position was kept") = some q from e)
    exact lw_ev (t := .string "BalloonHarbour" 299) (c := "java/lang/String") (hs _ (List.mem_of_getElem? (i := 866) (by decide +kernel)))
  | 10, q, e => by
    cases (show some ("BalloonHarbour", 315, "no such index") = some q from e)
    exact lw_ev (t := .string "BalloonHarbour" 315) (c := "java/lang/String") (hs _ (List.mem_of_getElem? (i := 470) (by decide +kernel)))
  | 11, q, e => by
    cases (show some ("BalloonHarbour", 324, "the latest denial has no cause") = some q from e)
    exact lw_ev (t := .string "BalloonHarbour" 324) (c := "java/lang/String") (hs _ (List.mem_of_getElem? (i := 1021) (by decide +kernel)))
  | 12, q, e => by
    cases (show some ("BalloonHarbour", 329, "nothing can be undone") = some q from e)
    exact lw_ev (t := .string "BalloonHarbour" 329) (c := "java/lang/String") (hs _ (List.mem_of_getElem? (i := 1055) (by decide +kernel)))
  | 13, q, e => by
    cases (show some ("BalloonHarbour", 334, "there is no snapshot") = some q from e)
    exact lw_ev (t := .string "BalloonHarbour" 334) (c := "java/lang/String") (hs _ (List.mem_of_getElem? (i := 1080) (by decide +kernel)))
  | 14, q, e => by
    cases (show some ("BalloonHarbour", 343, "a parameter is out of range") = some q from e)
    exact lw_ev (t := .string "BalloonHarbour" 343) (c := "java/lang/String") (hs _ (List.mem_of_getElem? (i := 409) (by decide +kernel)))
  | 15, q, e => by
    cases (show some ("BalloonHarbour", 345, "no balloon is moored there") = some q from e)
    exact lw_ev (t := .string "BalloonHarbour" 345) (c := "java/lang/String") (hs _ (List.mem_of_getElem? (i := 440) (by decide +kernel)))
  | 16, q, e => by
    cases (show some ("BalloonHarbour", 351, "denied") = some q from e)
    exact lw_ev (t := .string "BalloonHarbour" 351) (c := "java/lang/String") (hs _ (List.mem_of_getElem? (i := 487) (by decide +kernel)))
  | 17, q, e => by
    cases (show some ("BalloonHarbour", 360, "no such pilot") = some q from e)
    exact lw_ev (t := .string "BalloonHarbour" 360) (c := "java/lang/String") (hs _ (List.mem_of_getElem? (i := 638) (by decide +kernel)))
  | 18, q, e => by
    cases (show some ("BalloonHarbour", 362, "nothing was denied") = some q from e)
    exact lw_ev (t := .string "BalloonHarbour" 362) (c := "java/lang/String") (hs _ (List.mem_of_getElem? (i := 999) (by decide +kernel)))
  | 19, q, e => by
    cases (show some ("BalloonHarbour", 364, "the height is out of range") = some q from e)
    exact lw_ev (t := .string "BalloonHarbour" 364) (c := "java/lang/String") (hs _ (List.mem_of_getElem? (i := 545) (by decide +kernel)))
  | 20, q, e => by
    cases (show some ("BalloonHarbour", 366, "the strength is out of range") = some q from e)
    exact lw_ev (t := .string "BalloonHarbour" 366) (c := "java/lang/String") (hs _ (List.mem_of_getElem? (i := 606) (by decide +kernel)))
  | 21, q, e => by
    cases (show some ("BalloonHarbour$Text", 71, "moor D N N N") = some q from e)
    exact lw_ev (t := .string "BalloonHarbour$Text" 71) (c := "java/lang/String") (hs _ (List.mem_of_getElem? (i := 697) (by decide +kernel)))
  | 22, q, e => by
    cases (show some ("BalloonHarbour$Text", 73, "cast D") = some q from e)
    exact lw_ev (t := .string "BalloonHarbour$Text" 73) (c := "java/lang/String") (hs _ (List.mem_of_getElem? (i := 713) (by decide +kernel)))
  | 23, q, e => by
    cases (show some ("BalloonHarbour$Text", 75, "load D N") = some q from e)
    exact lw_ev (t := .string "BalloonHarbour$Text" 75) (c := "java/lang/String") (hs _ (List.mem_of_getElem? (i := 723) (by decide +kernel)))
  | 24, q, e => by
    cases (show some ("BalloonHarbour$Text", 77, "drop D D") = some q from e)
    exact lw_ev (t := .string "BalloonHarbour$Text" 77) (c := "java/lang/String") (hs _ (List.mem_of_getElem? (i := 735) (by decide +kernel)))
  | 25, q, e => by
    cases (show some ("BalloonHarbour$Text", 79, "rise D N") = some q from e)
    exact lw_ev (t := .string "BalloonHarbour$Text" 79) (c := "java/lang/String") (hs _ (List.mem_of_getElem? (i := 747) (by decide +kernel)))
  | 26, q, e => by
    cases (show some ("BalloonHarbour$Text", 81, "wind N=S") = some q from e)
    exact lw_ev (t := .string "BalloonHarbour$Text" 81) (c := "java/lang/String") (hs _ (List.mem_of_getElem? (i := 759) (by decide +kernel)))
  | 27, q, e => by
    cases (show some ("BalloonHarbour$Text", 83, "wait N") = some q from e)
    exact lw_ev (t := .string "BalloonHarbour$Text" 83) (c := "java/lang/String") (hs _ (List.mem_of_getElem? (i := 771) (by decide +kernel)))
  | 28, q, e => by
    cases (show some ("BalloonHarbour$Text", 85, "pilot N N-N") = some q from e)
    exact lw_ev (t := .string "BalloonHarbour$Text" 85) (c := "java/lang/String") (hs _ (List.mem_of_getElem? (i := 781) (by decide +kernel)))
  | 29, q, e => by
    cases (show some ("BalloonHarbour$Text", 87, "leave D") = some q from e)
    exact lw_ev (t := .string "BalloonHarbour$Text" 87) (c := "java/lang/String") (hs _ (List.mem_of_getElem? (i := 796) (by decide +kernel)))
  | 30, q, e => by
    cases (show some ("BalloonHarbourModel", 258, "wind ") = some q from e)
    exact lw_ev (t := .string "BalloonHarbourModel" 258) (c := "java/lang/String") (hs _ (List.mem_of_getElem? (i := 1173) (by decide +kernel)))
  | 31, q, e => by
    cases (show some ("BalloonHarbourModel", 264, "=") = some q from e)
    exact lw_ev (t := .string "BalloonHarbourModel" 264) (c := "java/lang/String") (hs _ (List.mem_of_getElem? (i := 1182) (by decide +kernel)))
  | 32, q, e => by
    cases (show some ("BalloonHarbourModel", 266, "-") = some q from e)
    exact lw_ev (t := .string "BalloonHarbourModel" 266) (c := "java/lang/String") (hs _ (List.mem_of_getElem? (i := 1187) (by decide +kernel)))
  | 33, q, e => by
    cases (show some ("BalloonHarbourModel", 268, "") = some q from e)
    exact lw_ev (t := .string "BalloonHarbourModel" 268) (c := "java/lang/String") (hs _ (List.mem_of_getElem? (i := 1192) (by decide +kernel)))
  | 34, q, e => by
    cases (show some ("BalloonHarbourModel", 270, "moor ") = some q from e)
    exact lw_ev (t := .string "BalloonHarbourModel" 270) (c := "java/lang/String") (hs _ (List.mem_of_getElem? (i := 1104) (by decide +kernel)))
  | 35, q, e => by
    cases (show some ("BalloonHarbourModel", 272, " ") = some q from e)
    exact lw_ev (t := .string "BalloonHarbourModel" 272) (c := "java/lang/String") (hs _ (List.mem_of_getElem? (i := 1113) (by decide +kernel)))
  | 36, q, e => by
    cases (show some ("BalloonHarbourModel", 274, "cast ") = some q from e)
    exact lw_ev (t := .string "BalloonHarbourModel" 274) (c := "java/lang/String") (hs _ (List.mem_of_getElem? (i := 1118) (by decide +kernel)))
  | 37, q, e => by
    cases (show some ("BalloonHarbourModel", 276, "leave ") = some q from e)
    exact lw_ev (t := .string "BalloonHarbourModel" 276) (c := "java/lang/String") (hs _ (List.mem_of_getElem? (i := 1127) (by decide +kernel)))
  | 38, q, e => by
    cases (show some ("BalloonHarbourModel", 278, "load ") = some q from e)
    exact lw_ev (t := .string "BalloonHarbourModel" 278) (c := "java/lang/String") (hs _ (List.mem_of_getElem? (i := 1137) (by decide +kernel)))
  | 39, q, e => by
    cases (show some ("BalloonHarbourModel", 280, "drop ") = some q from e)
    exact lw_ev (t := .string "BalloonHarbourModel" 280) (c := "java/lang/String") (hs _ (List.mem_of_getElem? (i := 1146) (by decide +kernel)))
  | 40, q, e => by
    cases (show some ("BalloonHarbourModel", 282, "rise ") = some q from e)
    exact lw_ev (t := .string "BalloonHarbourModel" 282) (c := "java/lang/String") (hs _ (List.mem_of_getElem? (i := 1155) (by decide +kernel)))
  | 41, q, e => by
    cases (show some ("BalloonHarbourModel", 284, "wait ") = some q from e)
    exact lw_ev (t := .string "BalloonHarbourModel" 284) (c := "java/lang/String") (hs _ (List.mem_of_getElem? (i := 1164) (by decide +kernel)))
  | 42, q, e => by
    cases (show some ("BalloonHarbourModel", 289, "pilot ") = some q from e)
    exact lw_ev (t := .string "BalloonHarbourModel" 289) (c := "java/lang/String") (hs _ (List.mem_of_getElem? (i := 1196) (by decide +kernel)))
  | n + 43, q, e => by
    cases (show none = some q from e)
theorem lw_sr (h : ∀ w ∈ lw_tbl, w.before args s = true) : ∀ (n : Nat) (q : String × Nat × String), mv_sn n = some q → (Cond.stringRef q.1 q.2.1 q.2.2).before args s = true
  | 0, q, e => by
    cases (show some ("BalloonHarbour", 95, "no such berth") = some q from e)
    show (Cond.stringRef "BalloonHarbour" 95 "no such berth").before args s = true
    exact h _ (List.mem_of_getElem? (i := 885) (by decide +kernel))
  | 1, q, e => by
    cases (show some ("BalloonHarbour", 129, "no such rank") = some q from e)
    show (Cond.stringRef "BalloonHarbour" 129 "no such rank").before args s = true
    exact h _ (List.mem_of_getElem? (i := 940) (by decide +kernel))
  | 2, q, e => by
    cases (show some ("BalloonHarbour", 140, "no such bag") = some q from e)
    show (Cond.stringRef "BalloonHarbour" 140 "no such bag").before args s = true
    exact h _ (List.mem_of_getElem? (i := 998) (by decide +kernel))
  | 3, q, e => by
    cases (show some ("BalloonHarbour", 154, "no drop set") = some q from e)
    show (Cond.stringRef "BalloonHarbour" 154 "no drop set").before args s = true
    exact h _ (List.mem_of_getElem? (i := 1018) (by decide +kernel))
  | 4, q, e => by
    cases (show some ("BalloonHarbour", 168, "no such hour") = some q from e)
    show (Cond.stringRef "BalloonHarbour" 168 "no such hour").before args s = true
    exact h _ (List.mem_of_getElem? (i := 1053) (by decide +kernel))
  | 5, q, e => by
    cases (show some ("BalloonHarbour", 244, "no balloons") = some q from e)
    show (Cond.stringRef "BalloonHarbour" 244 "no balloons").before args s = true
    exact h _ (List.mem_of_getElem? (i := 1158) (by decide +kernel))
  | 6, q, e => by
    cases (show some ("BalloonHarbour", 258, "the text buffer is full") = some q from e)
    show (Cond.stringRef "BalloonHarbour" 258 "the text buffer is full").before args s = true
    exact h _ (List.mem_of_getElem? (i := 1188) (by decide +kernel))
  | 7, q, e => by
    cases (show some ("BalloonHarbour", 271, "the text does not match the grammar") = some q from e)
    show (Cond.stringRef "BalloonHarbour" 271 "the text does not match the grammar").before args s = true
    exact h _ (List.mem_of_getElem? (i := 1293) (by decide +kernel))
  | 8, q, e => by
    cases (show some ("BalloonHarbour", 290, "a command failed") = some q from e)
    show (Cond.stringRef "BalloonHarbour" 290 "a command failed").before args s = true
    exact h _ (List.mem_of_getElem? (i := 1294) (by decide +kernel))
  | 9, q, e => by
    cases (show some ("BalloonHarbour", 299, "no fault position was kept") = some q from e)
    show (Cond.stringRef "BalloonHarbour" 299 "no fault position was kept").before args s = true
    exact h _ (List.mem_of_getElem? (i := 1302) (by decide +kernel))
  | 10, q, e => by
    cases (show some ("BalloonHarbour", 315, "no such index") = some q from e)
    show (Cond.stringRef "BalloonHarbour" 315 "no such index").before args s = true
    exact h _ (List.mem_of_getElem? (i := 770) (by decide +kernel))
  | 11, q, e => by
    cases (show some ("BalloonHarbour", 324, "the latest denial has no cause") = some q from e)
    show (Cond.stringRef "BalloonHarbour" 324 "the latest denial has no cause").before args s = true
    exact h _ (List.mem_of_getElem? (i := 1597) (by decide +kernel))
  | 12, q, e => by
    cases (show some ("BalloonHarbour", 329, "nothing can be undone") = some q from e)
    show (Cond.stringRef "BalloonHarbour" 329 "nothing can be undone").before args s = true
    exact h _ (List.mem_of_getElem? (i := 1605) (by decide +kernel))
  | 13, q, e => by
    cases (show some ("BalloonHarbour", 334, "there is no snapshot") = some q from e)
    show (Cond.stringRef "BalloonHarbour" 334 "there is no snapshot").before args s = true
    exact h _ (List.mem_of_getElem? (i := 1617) (by decide +kernel))
  | 14, q, e => by
    cases (show some ("BalloonHarbour", 343, "a parameter is out of range") = some q from e)
    show (Cond.stringRef "BalloonHarbour" 343 "a parameter is out of range").before args s = true
    exact h _ (List.mem_of_getElem? (i := 719) (by decide +kernel))
  | 15, q, e => by
    cases (show some ("BalloonHarbour", 345, "no balloon is moored there") = some q from e)
    show (Cond.stringRef "BalloonHarbour" 345 "no balloon is moored there").before args s = true
    exact h _ (List.mem_of_getElem? (i := 754) (by decide +kernel))
  | 16, q, e => by
    cases (show some ("BalloonHarbour", 351, "denied") = some q from e)
    show (Cond.stringRef "BalloonHarbour" 351 "denied").before args s = true
    exact h _ (List.mem_of_getElem? (i := 794) (by decide +kernel))
  | 17, q, e => by
    cases (show some ("BalloonHarbour", 360, "no such pilot") = some q from e)
    show (Cond.stringRef "BalloonHarbour" 360 "no such pilot").before args s = true
    exact h _ (List.mem_of_getElem? (i := 1119) (by decide +kernel))
  | 18, q, e => by
    cases (show some ("BalloonHarbour", 362, "nothing was denied") = some q from e)
    show (Cond.stringRef "BalloonHarbour" 362 "nothing was denied").before args s = true
    exact h _ (List.mem_of_getElem? (i := 1582) (by decide +kernel))
  | 19, q, e => by
    cases (show some ("BalloonHarbour", 364, "the height is out of range") = some q from e)
    show (Cond.stringRef "BalloonHarbour" 364 "the height is out of range").before args s = true
    exact h _ (List.mem_of_getElem? (i := 1009) (by decide +kernel))
  | 20, q, e => by
    cases (show some ("BalloonHarbour", 366, "the strength is out of range") = some q from e)
    show (Cond.stringRef "BalloonHarbour" 366 "the strength is out of range").before args s = true
    exact h _ (List.mem_of_getElem? (i := 1072) (by decide +kernel))
  | 21, q, e => by
    cases (show some ("BalloonHarbour$Text", 71, "moor D N N N") = some q from e)
    show (Cond.stringRef "BalloonHarbour$Text" 71 "moor D N N N").before args s = true
    exact h _ (List.mem_of_getElem? (i := 1221) (by decide +kernel))
  | 22, q, e => by
    cases (show some ("BalloonHarbour$Text", 73, "cast D") = some q from e)
    show (Cond.stringRef "BalloonHarbour$Text" 73 "cast D").before args s = true
    exact h _ (List.mem_of_getElem? (i := 1222) (by decide +kernel))
  | 23, q, e => by
    cases (show some ("BalloonHarbour$Text", 75, "load D N") = some q from e)
    show (Cond.stringRef "BalloonHarbour$Text" 75 "load D N").before args s = true
    exact h _ (List.mem_of_getElem? (i := 1223) (by decide +kernel))
  | 24, q, e => by
    cases (show some ("BalloonHarbour$Text", 77, "drop D D") = some q from e)
    show (Cond.stringRef "BalloonHarbour$Text" 77 "drop D D").before args s = true
    exact h _ (List.mem_of_getElem? (i := 1224) (by decide +kernel))
  | 25, q, e => by
    cases (show some ("BalloonHarbour$Text", 79, "rise D N") = some q from e)
    show (Cond.stringRef "BalloonHarbour$Text" 79 "rise D N").before args s = true
    exact h _ (List.mem_of_getElem? (i := 1225) (by decide +kernel))
  | 26, q, e => by
    cases (show some ("BalloonHarbour$Text", 81, "wind N=S") = some q from e)
    show (Cond.stringRef "BalloonHarbour$Text" 81 "wind N=S").before args s = true
    exact h _ (List.mem_of_getElem? (i := 1226) (by decide +kernel))
  | 27, q, e => by
    cases (show some ("BalloonHarbour$Text", 83, "wait N") = some q from e)
    show (Cond.stringRef "BalloonHarbour$Text" 83 "wait N").before args s = true
    exact h _ (List.mem_of_getElem? (i := 1227) (by decide +kernel))
  | 28, q, e => by
    cases (show some ("BalloonHarbour$Text", 85, "pilot N N-N") = some q from e)
    show (Cond.stringRef "BalloonHarbour$Text" 85 "pilot N N-N").before args s = true
    exact h _ (List.mem_of_getElem? (i := 1228) (by decide +kernel))
  | 29, q, e => by
    cases (show some ("BalloonHarbour$Text", 87, "leave D") = some q from e)
    show (Cond.stringRef "BalloonHarbour$Text" 87 "leave D").before args s = true
    exact h _ (List.mem_of_getElem? (i := 1229) (by decide +kernel))
  | 30, q, e => by
    cases (show some ("BalloonHarbourModel", 258, "wind ") = some q from e)
    show (Cond.stringRef "BalloonHarbourModel" 258 "wind ").before args s = true
    exact h _ (List.mem_of_getElem? (i := 2085) (by decide +kernel))
  | 31, q, e => by
    cases (show some ("BalloonHarbourModel", 264, "=") = some q from e)
    show (Cond.stringRef "BalloonHarbourModel" 264 "=").before args s = true
    exact h _ (List.mem_of_getElem? (i := 2086) (by decide +kernel))
  | 32, q, e => by
    cases (show some ("BalloonHarbourModel", 266, "-") = some q from e)
    show (Cond.stringRef "BalloonHarbourModel" 266 "-").before args s = true
    exact h _ (List.mem_of_getElem? (i := 2087) (by decide +kernel))
  | 33, q, e => by
    cases (show some ("BalloonHarbourModel", 268, "") = some q from e)
    show (Cond.stringRef "BalloonHarbourModel" 268 "").before args s = true
    exact h _ (List.mem_of_getElem? (i := 2088) (by decide +kernel))
  | 34, q, e => by
    cases (show some ("BalloonHarbourModel", 270, "moor ") = some q from e)
    show (Cond.stringRef "BalloonHarbourModel" 270 "moor ").before args s = true
    exact h _ (List.mem_of_getElem? (i := 2063) (by decide +kernel))
  | 35, q, e => by
    cases (show some ("BalloonHarbourModel", 272, " ") = some q from e)
    show (Cond.stringRef "BalloonHarbourModel" 272 " ").before args s = true
    exact h _ (List.mem_of_getElem? (i := 2074) (by decide +kernel))
  | 36, q, e => by
    cases (show some ("BalloonHarbourModel", 274, "cast ") = some q from e)
    show (Cond.stringRef "BalloonHarbourModel" 274 "cast ").before args s = true
    exact h _ (List.mem_of_getElem? (i := 2075) (by decide +kernel))
  | 37, q, e => by
    cases (show some ("BalloonHarbourModel", 276, "leave ") = some q from e)
    show (Cond.stringRef "BalloonHarbourModel" 276 "leave ").before args s = true
    exact h _ (List.mem_of_getElem? (i := 2076) (by decide +kernel))
  | 38, q, e => by
    cases (show some ("BalloonHarbourModel", 278, "load ") = some q from e)
    show (Cond.stringRef "BalloonHarbourModel" 278 "load ").before args s = true
    exact h _ (List.mem_of_getElem? (i := 2077) (by decide +kernel))
  | 39, q, e => by
    cases (show some ("BalloonHarbourModel", 280, "drop ") = some q from e)
    show (Cond.stringRef "BalloonHarbourModel" 280 "drop ").before args s = true
    exact h _ (List.mem_of_getElem? (i := 2078) (by decide +kernel))
  | 40, q, e => by
    cases (show some ("BalloonHarbourModel", 282, "rise ") = some q from e)
    show (Cond.stringRef "BalloonHarbourModel" 282 "rise ").before args s = true
    exact h _ (List.mem_of_getElem? (i := 2079) (by decide +kernel))
  | 41, q, e => by
    cases (show some ("BalloonHarbourModel", 284, "wait ") = some q from e)
    show (Cond.stringRef "BalloonHarbourModel" 284 "wait ").before args s = true
    exact h _ (List.mem_of_getElem? (i := 2080) (by decide +kernel))
  | 42, q, e => by
    cases (show some ("BalloonHarbourModel", 289, "pilot ") = some q from e)
    show (Cond.stringRef "BalloonHarbourModel" 289 "pilot ").before args s = true
    exact h _ (List.mem_of_getElem? (i := 2089) (by decide +kernel))
  | n + 43, q, e => by
    cases (show none = some q from e)
theorem lw_nc (hs : ∀ w ∈ lw_nw, w.before args s = true) : ∀ e e2 : Nat, e < 6 → e2 < 6 → e ≠ e2 → va_Nc (mv_en e) (mv_en e2) s := by
  intro e e2 he he2 hne
  have c1 : e = 0 ∨ e = 1 ∨ e = 2 ∨ e = 3 ∨ e = 4 ∨ e = 5 := by omega
  have c2 : e2 = 0 ∨ e2 = 1 ∨ e2 = 2 ∨ e2 = 3 ∨ e2 = 4 ∨ e2 = 5 := by omega
  rcases c1 with rfl | rfl | rfl | rfl | rfl | rfl <;> rcases c2 with rfl | rfl | rfl | rfl | rfl | rfl
  · exact absurd rfl hne
  · exact va_Nc.of (hs _ (List.mem_of_getElem? (i := 266) (by decide +kernel)))
  · exact va_Nc.of (hs _ (List.mem_of_getElem? (i := 285) (by decide +kernel)))
  · exact va_Nc.of (hs _ (List.mem_of_getElem? (i := 247) (by decide +kernel)))
  · exact va_Nc.of (hs _ (List.mem_of_getElem? (i := 321) (by decide +kernel)))
  · exact va_Nc.of (hs _ (List.mem_of_getElem? (i := 302) (by decide +kernel)))
  · exact va_Nc.of (hs _ (List.mem_of_getElem? (i := 228) (by decide +kernel)))
  · exact absurd rfl hne
  · exact va_Nc.of (hs _ (List.mem_of_getElem? (i := 286) (by decide +kernel)))
  · exact va_Nc.of (hs _ (List.mem_of_getElem? (i := 248) (by decide +kernel)))
  · exact va_Nc.of (hs _ (List.mem_of_getElem? (i := 322) (by decide +kernel)))
  · exact va_Nc.of (hs _ (List.mem_of_getElem? (i := 303) (by decide +kernel)))
  · exact va_Nc.of (hs _ (List.mem_of_getElem? (i := 229) (by decide +kernel)))
  · exact va_Nc.of (hs _ (List.mem_of_getElem? (i := 267) (by decide +kernel)))
  · exact absurd rfl hne
  · exact va_Nc.of (hs _ (List.mem_of_getElem? (i := 249) (by decide +kernel)))
  · exact va_Nc.of (hs _ (List.mem_of_getElem? (i := 323) (by decide +kernel)))
  · exact va_Nc.of (hs _ (List.mem_of_getElem? (i := 304) (by decide +kernel)))
  · exact va_Nc.of (hs _ (List.mem_of_getElem? (i := 230) (by decide +kernel)))
  · exact va_Nc.of (hs _ (List.mem_of_getElem? (i := 268) (by decide +kernel)))
  · exact va_Nc.of (hs _ (List.mem_of_getElem? (i := 287) (by decide +kernel)))
  · exact absurd rfl hne
  · exact va_Nc.of (hs _ (List.mem_of_getElem? (i := 324) (by decide +kernel)))
  · exact va_Nc.of (hs _ (List.mem_of_getElem? (i := 305) (by decide +kernel)))
  · exact va_Nc.of (hs _ (List.mem_of_getElem? (i := 233) (by decide +kernel)))
  · exact va_Nc.of (hs _ (List.mem_of_getElem? (i := 271) (by decide +kernel)))
  · exact va_Nc.of (hs _ (List.mem_of_getElem? (i := 289) (by decide +kernel)))
  · exact va_Nc.of (hs _ (List.mem_of_getElem? (i := 252) (by decide +kernel)))
  · exact absurd rfl hne
  · exact va_Nc.of (hs _ (List.mem_of_getElem? (i := 307) (by decide +kernel)))
  · exact va_Nc.of (hs _ (List.mem_of_getElem? (i := 232) (by decide +kernel)))
  · exact va_Nc.of (hs _ (List.mem_of_getElem? (i := 270) (by decide +kernel)))
  · exact va_Nc.of (hs _ (List.mem_of_getElem? (i := 288) (by decide +kernel)))
  · exact va_Nc.of (hs _ (List.mem_of_getElem? (i := 251) (by decide +kernel)))
  · exact va_Nc.of (hs _ (List.mem_of_getElem? (i := 326) (by decide +kernel)))
  · exact absurd rfl hne
theorem lw_ao (h : ∀ w ∈ lw_tbl, w.before args s = true) : ∀ n : Nat, n < 14 → va_AO (mv_cn n) s ∨ mv_ao n = false
  | 0, _ => Or.inr rfl
  | 1, _ => Or.inr rfl
  | 2, _ => Or.inr rfl
  | 3, _ => Or.inr rfl
  | 4, _ => Or.inl (va_AO.of (h _ (List.mem_of_getElem? (i := 131) (by decide +kernel))))
  | 5, _ => Or.inl (va_AO.of (h _ (List.mem_of_getElem? (i := 279) (by decide +kernel))))
  | 6, _ => Or.inr rfl
  | 7, _ => Or.inl (va_AO.of (h _ (List.mem_of_getElem? (i := 241) (by decide +kernel))))
  | 8, _ => Or.inr rfl
  | 9, _ => Or.inl (va_AO.of (h _ (List.mem_of_getElem? (i := 133) (by decide +kernel))))
  | 10, _ => Or.inr rfl
  | 11, _ => Or.inr rfl
  | 12, _ => Or.inr rfl
  | 13, _ => Or.inr rfl
  | n + 14, hn => absurd hn (by omega)
theorem lw_us (h : ∀ w ∈ lw_tbl, w.before args s = true) (hs : ∀ w ∈ lw_nw, w.before args s = true) : vx_Zq Bundle.tN "UNASSIGNED_STACK" Bundle.steD (fun q => s.heap.size ≤ q) s s.heap ∧ vx_Zq Bundle.tN "SUPPRESSED_SENTINEL" Bundle.listD (fun q => s.heap.size ≤ q) s s.heap := by
  have hA : ∀ q : Nat, q < s.heap.size → ¬ s.heap.size ≤ q := fun q hq => Nat.not_le.mpr hq
  exact ⟨vx_Zqof (h _ (List.mem_of_getElem? (i := 700) (by decide +kernel))) (h _ (List.mem_of_getElem? (i := 97) (by decide +kernel))) (hs _ (List.mem_of_getElem? (i := 5) (by decide +kernel))) hA, vx_Zqof (h _ (List.mem_of_getElem? (i := 702) (by decide +kernel))) (h _ (List.mem_of_getElem? (i := 97) (by decide +kernel))) (hs _ (List.mem_of_getElem? (i := 6) (by decide +kernel))) hA⟩
def lw_lDigitOnes : List Int32 := [48, 49, 50, 51, 52, 53, 54, 55, 56, 57, 48, 49, 50, 51, 52, 53, 54, 55, 56, 57, 48, 49, 50, 51, 52, 53, 54, 55, 56, 57, 48, 49, 50, 51, 52, 53, 54, 55, 56, 57, 48, 49, 50, 51, 52, 53, 54, 55, 56, 57, 48, 49, 50, 51, 52, 53, 54, 55, 56, 57, 48, 49, 50, 51, 52, 53, 54, 55, 56, 57, 48, 49, 50, 51, 52, 53, 54, 55, 56, 57, 48, 49, 50, 51, 52, 53, 54, 55, 56, 57, 48, 49, 50, 51, 52, 53, 54, 55, 56, 57]
theorem lw_cDigitOnes : (lw_nw.drop 12).take 102 = lw_sd "DigitOnes" lw_lDigitOnes := by decide +kernel
def lw_lDigitTens : List Int32 := [48, 48, 48, 48, 48, 48, 48, 48, 48, 48, 49, 49, 49, 49, 49, 49, 49, 49, 49, 49, 50, 50, 50, 50, 50, 50, 50, 50, 50, 50, 51, 51, 51, 51, 51, 51, 51, 51, 51, 51, 52, 52, 52, 52, 52, 52, 52, 52, 52, 52, 53, 53, 53, 53, 53, 53, 53, 53, 53, 53, 54, 54, 54, 54, 54, 54, 54, 54, 54, 54, 55, 55, 55, 55, 55, 55, 55, 55, 55, 55, 56, 56, 56, 56, 56, 56, 56, 56, 56, 56, 57, 57, 57, 57, 57, 57, 57, 57, 57, 57]
theorem lw_cDigitTens : (lw_nw.drop 115).take 102 = lw_sd "DigitTens" lw_lDigitTens := by decide +kernel
theorem lw_stt (h : ∀ w ∈ lw_tbl, w.before args s = true) (hs : ∀ w ∈ lw_nw, w.before args s = true) : ∃ f : Nat → Value, (∀ (n : Nat) (q : String × String × String), mv_tn n = some q → va_Z q.1 q.2.1 q.2.2 (f n) (fun a => s.heap.size ≤ a) s s.heap) ∧ f 0 = .int 1 ∧ (∃ v : Nat, f 1 = .ref v ∧ va_T .byte v 100 (fun j => .int (lw_lDigitOnes.getD j 0)) (fun q => s.heap.size ≤ q) s s.heap) ∧ (∃ v : Nat, f 2 = .ref v ∧ va_T .byte v 100 (fun j => .int (lw_lDigitTens.getD j 0)) (fun q => s.heap.size ≤ q) s s.heap) ∧ mv_nr (f 3) = true := by
  have hA : ∀ q : Nat, q < s.heap.size → ¬ s.heap.size ≤ q := fun q hq => Nat.not_le.mpr hq
  have z0 : va_Z "java/lang/String" "COMPACT_STRINGS" "Z" (.int 1) (fun a => s.heap.size ≤ a) s s.heap := va_Zof (h _ (List.mem_of_getElem? (i := 312) (by decide +kernel))) (h _ (List.mem_of_getElem? (i := 92) (by decide +kernel))) (va_eqi (hs _ (List.mem_of_getElem? (i := 4) (by decide +kernel)))) hA
  obtain ⟨v1, e1, T1⟩ := lw_dg (l := lw_lDigitOnes) hs (by decide) lw_cDigitOnes
  obtain ⟨v2, e2, T2⟩ := lw_dg (l := lw_lDigitTens) hs (by decide) lw_cDigitTens
  have z1 : va_Z "java/lang/Integer" "DigitOnes" "[B" (.ref v1) (fun a => s.heap.size ≤ a) s s.heap := va_Zof (h _ (List.mem_of_getElem? (i := 1434) (by decide +kernel))) (h _ (List.mem_of_getElem? (i := 107) (by decide +kernel))) e1 hA
  have z2 : va_Z "java/lang/Integer" "DigitTens" "[B" (.ref v2) (fun a => s.heap.size ≤ a) s s.heap := va_Zof (h _ (List.mem_of_getElem? (i := 1436) (by decide +kernel))) (h _ (List.mem_of_getElem? (i := 107) (by decide +kernel))) e2 hA
  have z3 : ∃ u : Value, mv_nr u = true ∧ va_Z "jdk/internal/util/Preconditions" "SIOOBE_FORMATTER" "Ljava/util/function/BiFunction;" u (fun a => s.heap.size ≤ a) s s.heap := by
    rcases va_Zqof (C := "jdk/internal/util/Preconditions") (n := "SIOOBE_FORMATTER") (d := "Ljava/util/function/BiFunction;") (h _ (List.mem_of_getElem? (i := 1255) (by decide +kernel))) (h _ (List.mem_of_getElem? (i := 113) (by decide +kernel))) (hs _ (List.mem_of_getElem? (i := 7) (by decide +kernel))) hA with k | ⟨t, k⟩
    · exact ⟨.null, rfl, k⟩
    · exact ⟨.ref t, rfl, k⟩
  obtain ⟨u, hu, z3⟩ := z3
  refine ⟨fun n => if n = 0 then .int 1 else if n = 1 then .ref v1 else if n = 2 then .ref v2 else u, ?_, rfl, ⟨v1, rfl, T1⟩, ⟨v2, rfl, T2⟩, hu⟩
  intro n q e
  match n, e with
  | 0, e => cases (show some ("java/lang/String", "COMPACT_STRINGS", "Z") = some q from e); exact z0
  | 1, e => cases (show some ("java/lang/Integer", "DigitOnes", "[B") = some q from e); exact z1
  | 2, e => cases (show some ("java/lang/Integer", "DigitTens", "[B") = some q from e); exact z2
  | 3, e => cases (show some ("jdk/internal/util/Preconditions", "SIOOBE_FORMATTER", "Ljava/util/function/BiFunction;") = some q from e); exact z3
  | n + 4, e => cases (show none = some q from e)
theorem lw_k21 : (lw_nw.drop 697).take 16 = lw_se "BalloonHarbour$Text" 71 [109, 111, 111, 114, 32, 68, 32, 78, 32, 78, 32, 78] := by decide +kernel
theorem lw_k22 : (lw_nw.drop 713).take 10 = lw_se "BalloonHarbour$Text" 73 [99, 97, 115, 116, 32, 68] := by decide +kernel
theorem lw_k23 : (lw_nw.drop 723).take 12 = lw_se "BalloonHarbour$Text" 75 [108, 111, 97, 100, 32, 68, 32, 78] := by decide +kernel
theorem lw_k24 : (lw_nw.drop 735).take 12 = lw_se "BalloonHarbour$Text" 77 [100, 114, 111, 112, 32, 68, 32, 68] := by decide +kernel
theorem lw_k25 : (lw_nw.drop 747).take 12 = lw_se "BalloonHarbour$Text" 79 [114, 105, 115, 101, 32, 68, 32, 78] := by decide +kernel
theorem lw_k26 : (lw_nw.drop 759).take 12 = lw_se "BalloonHarbour$Text" 81 [119, 105, 110, 100, 32, 78, 61, 83] := by decide +kernel
theorem lw_k27 : (lw_nw.drop 771).take 10 = lw_se "BalloonHarbour$Text" 83 [119, 97, 105, 116, 32, 78] := by decide +kernel
theorem lw_k28 : (lw_nw.drop 781).take 15 = lw_se "BalloonHarbour$Text" 85 [112, 105, 108, 111, 116, 32, 78, 32, 78, 45, 78] := by decide +kernel
theorem lw_k29 : (lw_nw.drop 796).take 11 = lw_se "BalloonHarbour$Text" 87 [108, 101, 97, 118, 101, 32, 68] := by decide +kernel
theorem lw_k30 : (lw_nw.drop 1173).take 9 = lw_se "BalloonHarbourModel" 258 [119, 105, 110, 100, 32] := by decide +kernel
theorem lw_k31 : (lw_nw.drop 1182).take 5 = lw_se "BalloonHarbourModel" 264 [61] := by decide +kernel
theorem lw_k32 : (lw_nw.drop 1187).take 5 = lw_se "BalloonHarbourModel" 266 [45] := by decide +kernel
theorem lw_k33 : (lw_nw.drop 1192).take 4 = lw_se "BalloonHarbourModel" 268 [] := by decide +kernel
theorem lw_k34 : (lw_nw.drop 1104).take 9 = lw_se "BalloonHarbourModel" 270 [109, 111, 111, 114, 32] := by decide +kernel
theorem lw_k35 : (lw_nw.drop 1113).take 5 = lw_se "BalloonHarbourModel" 272 [32] := by decide +kernel
theorem lw_k36 : (lw_nw.drop 1118).take 9 = lw_se "BalloonHarbourModel" 274 [99, 97, 115, 116, 32] := by decide +kernel
theorem lw_k37 : (lw_nw.drop 1127).take 10 = lw_se "BalloonHarbourModel" 276 [108, 101, 97, 118, 101, 32] := by decide +kernel
theorem lw_k38 : (lw_nw.drop 1137).take 9 = lw_se "BalloonHarbourModel" 278 [108, 111, 97, 100, 32] := by decide +kernel
theorem lw_k39 : (lw_nw.drop 1146).take 9 = lw_se "BalloonHarbourModel" 280 [100, 114, 111, 112, 32] := by decide +kernel
theorem lw_k40 : (lw_nw.drop 1155).take 9 = lw_se "BalloonHarbourModel" 282 [114, 105, 115, 101, 32] := by decide +kernel
theorem lw_k41 : (lw_nw.drop 1164).take 9 = lw_se "BalloonHarbourModel" 284 [119, 97, 105, 116, 32] := by decide +kernel
theorem lw_k42 : (lw_nw.drop 1196).take 10 = lw_se "BalloonHarbourModel" 289 [112, 105, 108, 111, 116, 32] := by decide +kernel
end ENV
