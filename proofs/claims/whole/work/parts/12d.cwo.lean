/-! CERTIFICATES: every method's bytes and links, checked by program -/
def mv_CW : Prop := ∀ y N M, mv_look mv_mt 16 y = some N → mv_look mv_tab 16 y = some M → N.1.cls ≠ "BalloonHarbourLaw" ∨ N.1.name ≠ "law" → mv_gg (mv_cw N M) = true ∧ mv_cw N M ∈ lw_tbl
def mv_iscl (t : Nat) : Bool := Nat.beq t 20 || Nat.beq t 21 || Nat.beq t 22 || Nat.beq t 25
def mv_lwt (own : String) (j : Nat) (q : mv_L) (kd : Nat) : List Cond := bif mv_iscl q.1 then (mv_lws own j q kd).drop 1 else mv_lws own j q kd
def mv_lnl (q : mv_L) : Bool := bif mv_iscl q.1 then (match mv_look mv_mt 16 q.2.1 with
  | some N => N.1.cls != "BalloonHarbourLaw" || N.1.name != "law"
  | none => false) else true
def mv_lc2 (own : String) (j : Nat) (q : mv_L) (kd : Nat) (ps : List Nat) : Bool :=
  mv_sd own j q kd && mv_lnl q && Nat.beq (mv_lwt own j q kd).length ps.length && ((mv_lwt own j q kd).zip ps).all (fun z => mv_gg z.1 && decide (lw_tbl[z.2]? = some z.1))
theorem mv_lok_2 (hcw : mv_CW) {own : String} {j : Nat} {q : mv_L} {kd : Nat} {ps : List Nat} (h : mv_lc2 own j q kd ps = true) : mv_lok own j q := by
  simp only [mv_lc2, Bool.and_eq_true] at h
  obtain ⟨⟨⟨h1, h4⟩, h2⟩, h3⟩ := h
  have hz := mv_zip_ok h2 h3
  refine ⟨kd, h1, fun w hw => ?_⟩
  cases hc : mv_iscl q.1 with
  | false =>
    unfold mv_lwt at hz
    rw [hc] at hz
    exact hz w hw
  | true =>
    unfold mv_lwt at hz
    rw [hc] at hz
    unfold mv_lnl at h4
    rw [hc] at h4
    have hz : ∀ w ∈ (mv_lws own j q kd).drop 1, mv_gg w = true ∧ w ∈ lw_tbl := hz
    cases hN : mv_look mv_mt 16 q.2.1 with
    | none => rw [hN] at h4; cases h4
    | some N =>
      rw [hN] at h4
      have h4 : (N.1.cls != "BalloonHarbourLaw" || N.1.name != "law") = true := h4
      rw [Bool.or_eq_true, bne_iff_ne, bne_iff_ne] at h4
      cases hM : mv_look mv_tab 16 q.2.1 with
      | none =>
        exfalso
        obtain ⟨t, rest⟩ := q
        simp only [mv_iscl, Bool.or_eq_true, Nat.beq_eq] at hc
        have hw2 := hw
        rcases hc with ((hc | hc) | hc) | hc <;> · subst hc; simp [mv_lws, hN, hM] at hw2
      | some M =>
        have e : ∃ rest, mv_lws own j q kd = mv_cw N M :: rest := by
          obtain ⟨t, rest⟩ := q
          simp only [mv_iscl, Bool.or_eq_true, Nat.beq_eq] at hc
          rcases hc with ((hc | hc) | hc) | hc <;> · subst hc; exact ⟨_, by simp only [mv_lws, hN, hM]; rfl⟩
        obtain ⟨rest, e⟩ := e
        rw [e] at hw hz
        rcases List.mem_cons.mp hw with rfl | hw
        · exact hcw _ N M hN hM h4
        · exact hz w hw
def mv_lkr (own : String) : List (Nat × mv_L) → List (Nat × List Nat) → Bool
  | [], [] => true
  | e :: r, z :: zs => mv_lc2 own e.1 e.2 z.1 z.2 && mv_lkr own r zs
  | _, _ => false
theorem mv_lkr_ok (hcw : mv_CW) {own : String} : ∀ {l : List (Nat × mv_L)} {z : List (Nat × List Nat)}, mv_lkr own l z = true → ∀ j q, (j, q) ∈ l → mv_lok own j q
  | [], _, _, j, q, hm => absurd hm List.not_mem_nil
  | e :: r, [], h, _, _, _ => by cases h
  | e :: r, z :: zs, h, j, q, hm => by
    have h : (mv_lc2 own e.1 e.2 z.1 z.2 && mv_lkr own r zs) = true := h
    rw [Bool.and_eq_true] at h
    rcases List.mem_cons.mp hm with rfl | hm
    · exact mv_lok_2 hcw h.1
    · exact mv_lkr_ok hcw h.2 j q hm
theorem mv_lkl {own : String} {L : List (List (Nat × mv_L))} (h : ∀ l ∈ L, ∀ j q, (j, q) ∈ l → mv_lok own j q) : ∀ j q, mv_look L 16 j = some q → mv_lok own j q := fun j q e => by
  obtain ⟨l, h1, h2⟩ := mi_look e
  exact h l h1 j q h2
def mv_gp (N : mv_N) (M : mv_M) : Prop := mv_good N M ∧ plainFor N.1 = true
def mv_G1 : List (Nat × mv_N) → List (Nat × mv_M) → Prop
  | [], [] => True
  | a :: r, b :: s => a.1 = b.1 ∧ mv_gp a.2 b.2 ∧ mv_G1 r s
  | _, _ => False
theorem mv_G1_ok {i : Nat} {N : mv_N} {M : mv_M} : ∀ {l : List (Nat × mv_N)} {k : List (Nat × mv_M)}, mv_G1 l k → mv_find l i = some N → mv_find k i = some M → mv_gp N M
  | [], _, _, h, _ => by cases h
  | a :: r, [], g, _, _ => g.elim
  | (a, x) :: r, (b, y) :: s, g, h1, h2 => by
    obtain ⟨g1, g2, g3⟩ := g
    have g1 : a = b := g1
    subst g1
    unfold mv_find at h1 h2
    cases hb : Nat.beq a i with
    | true =>
      simp only [hb, cond_true, Option.some.injEq] at h1 h2
      subst h1; subst h2
      exact g2
    | false =>
      simp only [hb, cond_false] at h1 h2
      exact mv_G1_ok g3 h1 h2

set_option maxRecDepth 1000000 in
theorem mw_X0_init : mv_gg (mv_cw n_X0_init m_X0_init) = true ∧ mv_cw n_X0_init m_X0_init ∈ lw_tbl := ⟨rfl, List.mem_of_getElem? (i := 137) rfl⟩
set_option maxRecDepth 1000000 in
theorem mw_X0_copyFrom : mv_gg (mv_cw n_X0_copyFrom m_X0_copyFrom) = true ∧ mv_cw n_X0_copyFrom m_X0_copyFrom ∈ lw_tbl := ⟨rfl, List.mem_of_getElem? (i := 531) rfl⟩
set_option maxRecDepth 1000000 in
theorem mw_X0_begin : mv_gg (mv_cw n_X0_begin m_X0_begin) = true ∧ mv_cw n_X0_begin m_X0_begin ∈ lw_tbl := ⟨rfl, List.mem_of_getElem? (i := 820) rfl⟩
set_option maxRecDepth 1000000 in
theorem mw_X0_spareLift : mv_gg (mv_cw n_X0_spareLift m_X0_spareLift) = true ∧ mv_cw n_X0_spareLift m_X0_spareLift ∈ lw_tbl := ⟨rfl, List.mem_of_getElem? (i := 498) rfl⟩
set_option maxRecDepth 1000000 in
theorem mw_X0_heightWith : mv_gg (mv_cw n_X0_heightWith m_X0_heightWith) = true ∧ mv_cw n_X0_heightWith m_X0_heightWith ∈ lw_tbl := ⟨rfl, List.mem_of_getElem? (i := 442) rfl⟩
set_option maxRecDepth 1000000 in
theorem mw_X0_presentHeight : mv_gg (mv_cw n_X0_presentHeight m_X0_presentHeight) = true ∧ mv_cw n_X0_presentHeight m_X0_presentHeight ∈ lw_tbl := ⟨rfl, List.mem_of_getElem? (i := 438) rfl⟩
set_option maxRecDepth 1000000 in
theorem mw_X0_isOverstrained : mv_gg (mv_cw n_X0_isOverstrained m_X0_isOverstrained) = true ∧ mv_cw n_X0_isOverstrained m_X0_isOverstrained ∈ lw_tbl := ⟨rfl, List.mem_of_getElem? (i := 565) rfl⟩
set_option maxRecDepth 1000000 in
theorem mw_X0_changeLift : mv_gg (mv_cw n_X0_changeLift m_X0_changeLift) = true ∧ mv_cw n_X0_changeLift m_X0_changeLift ∈ lw_tbl := ⟨rfl, List.mem_of_getElem? (i := 552) rfl⟩
set_option maxRecDepth 1000000 in
theorem mw_X0_hasBag : mv_gg (mv_cw n_X0_hasBag m_X0_hasBag) = true ∧ mv_cw n_X0_hasBag m_X0_hasBag ∈ lw_tbl := ⟨rfl, List.mem_of_getElem? (i := 577) rfl⟩
set_option maxRecDepth 1000000 in
theorem mw_X0_addBag : mv_gg (mv_cw n_X0_addBag m_X0_addBag) = true ∧ mv_cw n_X0_addBag m_X0_addBag ∈ lw_tbl := ⟨rfl, List.mem_of_getElem? (i := 832) rfl⟩
set_option maxRecDepth 1000000 in
theorem mw_X0_removeBag : mv_gg (mv_cw n_X0_removeBag m_X0_removeBag) = true ∧ mv_cw n_X0_removeBag m_X0_removeBag ∈ lw_tbl := ⟨rfl, List.mem_of_getElem? (i := 573) rfl⟩
set_option maxRecDepth 1000000 in
theorem mw_X0_weightOf : mv_gg (mv_cw n_X0_weightOf m_X0_weightOf) = true ∧ mv_cw n_X0_weightOf m_X0_weightOf ∈ lw_tbl := ⟨rfl, List.mem_of_getElem? (i := 848) rfl⟩
set_option maxRecDepth 1000000 in
theorem mw_X0_bestDropSet : mv_gg (mv_cw n_X0_bestDropSet m_X0_bestDropSet) = true ∧ mv_cw n_X0_bestDropSet m_X0_bestDropSet ∈ lw_tbl := ⟨rfl, List.mem_of_getElem? (i := 844) rfl⟩
set_option maxRecDepth 1000000 in
theorem mw_X0_isBetter : mv_gg (mv_cw n_X0_isBetter m_X0_isBetter) = true ∧ mv_cw n_X0_isBetter m_X0_isBetter ∈ lw_tbl := ⟨rfl, List.mem_of_getElem? (i := 852) rfl⟩
set_option maxRecDepth 1000000 in
theorem mw_X0_fewestBagsByWeight : mv_gg (mv_cw n_X0_fewestBagsByWeight m_X0_fewestBagsByWeight) = true ∧ mv_cw n_X0_fewestBagsByWeight m_X0_fewestBagsByWeight ∈ lw_tbl := ⟨rfl, List.mem_of_getElem? (i := 1013) rfl⟩
set_option maxRecDepth 1000000 in
theorem mw_X0_heaviestOutside : mv_gg (mv_cw n_X0_heaviestOutside m_X0_heaviestOutside) = true ∧ mv_cw n_X0_heaviestOutside m_X0_heaviestOutside ∈ lw_tbl := ⟨rfl, List.mem_of_getElem? (i := 1017) rfl⟩
set_option maxRecDepth 1000000 in
theorem mw_X1_init : mv_gg (mv_cw n_X1_init m_X1_init) = true ∧ mv_cw n_X1_init m_X1_init ∈ lw_tbl := ⟨rfl, List.mem_of_getElem? (i := 258) rfl⟩
set_option maxRecDepth 1000000 in
theorem mw_X1_begin : mv_gg (mv_cw n_X1_begin m_X1_begin) = true ∧ mv_cw n_X1_begin m_X1_begin ∈ lw_tbl := ⟨rfl, List.mem_of_getElem? (i := 634) rfl⟩
set_option maxRecDepth 1000000 in
theorem mw_X1_add : mv_gg (mv_cw n_X1_add m_X1_add) = true ∧ mv_cw n_X1_add m_X1_add ∈ lw_tbl := ⟨rfl, List.mem_of_getElem? (i := 638) rfl⟩
set_option maxRecDepth 1000000 in
theorem mw_X1_set : mv_gg (mv_cw n_X1_set m_X1_set) = true ∧ mv_cw n_X1_set m_X1_set ∈ lw_tbl := ⟨rfl, List.mem_of_getElem? (i := 630) rfl⟩
set_option maxRecDepth 1000000 in
theorem mw_X2_init : mv_gg (mv_cw n_X2_init m_X2_init) = true ∧ mv_cw n_X2_init m_X2_init ∈ lw_tbl := ⟨rfl, List.mem_of_getElem? (i := 352) rfl⟩
set_option maxRecDepth 1000000 in
theorem mw_X2_mostByChanging : mv_gg (mv_cw n_X2_mostByChanging m_X2_mostByChanging) = true ∧ mv_cw n_X2_mostByChanging m_X2_mostByChanging ∈ lw_tbl := ⟨rfl, List.mem_of_getElem? (i := 475) rfl⟩
set_option maxRecDepth 1000000 in
theorem mw_X2_findsBalloon : mv_gg (mv_cw n_X2_findsBalloon m_X2_findsBalloon) = true ∧ mv_cw n_X2_findsBalloon m_X2_findsBalloon ∈ lw_tbl := ⟨rfl, List.mem_of_getElem? (i := 481) rfl⟩
set_option maxRecDepth 1000000 in
theorem mw_X2_mostBySets : mv_gg (mv_cw n_X2_mostBySets m_X2_mostBySets) = true ∧ mv_cw n_X2_mostBySets m_X2_mostBySets ∈ lw_tbl := ⟨rfl, List.mem_of_getElem? (i := 506) rfl⟩
set_option maxRecDepth 1000000 in
theorem mw_X2_giveToOnePilot : mv_gg (mv_cw n_X2_giveToOnePilot m_X2_giveToOnePilot) = true ∧ mv_cw n_X2_giveToOnePilot m_X2_giveToOnePilot ∈ lw_tbl := ⟨rfl, List.mem_of_getElem? (i := 510) rfl⟩
set_option maxRecDepth 1000000 in
theorem mw_X3_init : mv_gg (mv_cw n_X3_init m_X3_init) = true ∧ mv_cw n_X3_init m_X3_init ∈ lw_tbl := ⟨rfl, List.mem_of_getElem? (i := 128) rfl⟩
set_option maxRecDepth 1000000 in
theorem mw_X3_copyFrom : mv_gg (mv_cw n_X3_copyFrom m_X3_copyFrom) = true ∧ mv_cw n_X3_copyFrom m_X3_copyFrom ∈ lw_tbl := ⟨rfl, List.mem_of_getElem? (i := 527) rfl⟩
set_option maxRecDepth 1000000 in
theorem mw_X3_hasBalloon : mv_gg (mv_cw n_X3_hasBalloon m_X3_hasBalloon) = true ∧ mv_cw n_X3_hasBalloon m_X3_hasBalloon ∈ lw_tbl := ⟨rfl, List.mem_of_getElem? (i := 430) rfl⟩
set_option maxRecDepth 1000000 in
theorem mw_X3_hasPilot : mv_gg (mv_cw n_X3_hasPilot m_X3_hasPilot) = true ∧ mv_cw n_X3_hasPilot m_X3_hasPilot ∈ lw_tbl := ⟨rfl, List.mem_of_getElem? (i := 489) rfl⟩
set_option maxRecDepth 1000000 in
theorem mw_X3_hourOfDay : mv_gg (mv_cw n_X3_hourOfDay m_X3_hourOfDay) = true ∧ mv_cw n_X3_hourOfDay m_X3_hourOfDay ∈ lw_tbl := ⟨rfl, List.mem_of_getElem? (i := 446) rfl⟩
set_option maxRecDepth 1000000 in
theorem mw_X3_countBalloons : mv_gg (mv_cw n_X3_countBalloons m_X3_countBalloons) = true ∧ mv_cw n_X3_countBalloons m_X3_countBalloons ∈ lw_tbl := ⟨rfl, List.mem_of_getElem? (i := 414) rfl⟩
set_option maxRecDepth 1000000 in
theorem mw_X3_weightAboard : mv_gg (mv_cw n_X3_weightAboard m_X3_weightAboard) = true ∧ mv_cw n_X3_weightAboard m_X3_weightAboard ∈ lw_tbl := ⟨rfl, List.mem_of_getElem? (i := 597) rfl⟩
set_option maxRecDepth 1000000 in
theorem mw_X3_sumOfHeights : mv_gg (mv_cw n_X3_sumOfHeights m_X3_sumOfHeights) = true ∧ mv_cw n_X3_sumOfHeights m_X3_sumOfHeights ∈ lw_tbl := ⟨rfl, List.mem_of_getElem? (i := 1163) rfl⟩
set_option maxRecDepth 1000000 in
theorem mw_X3_berthAtRank : mv_gg (mv_cw n_X3_berthAtRank m_X3_berthAtRank) = true ∧ mv_cw n_X3_berthAtRank m_X3_berthAtRank ∈ lw_tbl := ⟨rfl, List.mem_of_getElem? (i := 931) rfl⟩
set_option maxRecDepth 1000000 in
theorem mw_X3_countAhead : mv_gg (mv_cw n_X3_countAhead m_X3_countAhead) = true ∧ mv_cw n_X3_countAhead m_X3_countAhead ∈ lw_tbl := ⟨rfl, List.mem_of_getElem? (i := 935) rfl⟩
set_option maxRecDepth 1000000 in
theorem mw_X3_isAhead : mv_gg (mv_cw n_X3_isAhead m_X3_isAhead) = true ∧ mv_cw n_X3_isAhead m_X3_isAhead ∈ lw_tbl := ⟨rfl, List.mem_of_getElem? (i := 939) rfl⟩
set_option maxRecDepth 1000000 in
theorem mw_X3_topOf : mv_gg (mv_cw n_X3_topOf m_X3_topOf) = true ∧ mv_cw n_X3_topOf m_X3_topOf ∈ lw_tbl := ⟨rfl, List.mem_of_getElem? (i := 434) rfl⟩
set_option maxRecDepth 1000000 in
theorem mw_X3_calmOfTwoDays : mv_gg (mv_cw n_X3_calmOfTwoDays m_X3_calmOfTwoDays) = true ∧ mv_cw n_X3_calmOfTwoDays m_X3_calmOfTwoDays ∈ lw_tbl := ⟨rfl, List.mem_of_getElem? (i := 1076) rfl⟩
set_option maxRecDepth 1000000 in
theorem mw_X3_calmByTrying : mv_gg (mv_cw n_X3_calmByTrying m_X3_calmByTrying) = true ∧ mv_cw n_X3_calmByTrying m_X3_calmByTrying ∈ lw_tbl := ⟨rfl, List.mem_of_getElem? (i := 1092) rfl⟩
set_option maxRecDepth 1000000 in
theorem mw_X3_fitsCrew : mv_gg (mv_cw n_X3_fitsCrew m_X3_fitsCrew) = true ∧ mv_cw n_X3_fitsCrew m_X3_fitsCrew ∈ lw_tbl := ⟨rfl, List.mem_of_getElem? (i := 485) rfl⟩
set_option maxRecDepth 1000000 in
theorem mw_X3_refusalOf : mv_gg (mv_cw n_X3_refusalOf m_X3_refusalOf) = true ∧ mv_cw n_X3_refusalOf m_X3_refusalOf ∈ lw_tbl := ⟨rfl, List.mem_of_getElem? (i := 642) rfl⟩
set_option maxRecDepth 1000000 in
theorem mw_X3_refusalToMoor : mv_gg (mv_cw n_X3_refusalToMoor m_X3_refusalToMoor) = true ∧ mv_cw n_X3_refusalToMoor m_X3_refusalToMoor ∈ lw_tbl := ⟨rfl, List.mem_of_getElem? (i := 646) rfl⟩
set_option maxRecDepth 1000000 in
theorem mw_X3_refusalToLoad : mv_gg (mv_cw n_X3_refusalToLoad m_X3_refusalToLoad) = true ∧ mv_cw n_X3_refusalToLoad m_X3_refusalToLoad ∈ lw_tbl := ⟨rfl, List.mem_of_getElem? (i := 650) rfl⟩
set_option maxRecDepth 1000000 in
theorem mw_X3_refusalToDrop : mv_gg (mv_cw n_X3_refusalToDrop m_X3_refusalToDrop) = true ∧ mv_cw n_X3_refusalToDrop m_X3_refusalToDrop ∈ lw_tbl := ⟨rfl, List.mem_of_getElem? (i := 654) rfl⟩
set_option maxRecDepth 1000000 in
theorem mw_X3_refusalToRise : mv_gg (mv_cw n_X3_refusalToRise m_X3_refusalToRise) = true ∧ mv_cw n_X3_refusalToRise m_X3_refusalToRise ∈ lw_tbl := ⟨rfl, List.mem_of_getElem? (i := 659) rfl⟩
set_option maxRecDepth 1000000 in
theorem mw_X3_refusalOfWind : mv_gg (mv_cw n_X3_refusalOfWind m_X3_refusalOfWind) = true ∧ mv_cw n_X3_refusalOfWind m_X3_refusalOfWind ∈ lw_tbl := ⟨rfl, List.mem_of_getElem? (i := 664) rfl⟩
set_option maxRecDepth 1000000 in
theorem mw_X3_refusalOfPilot : mv_gg (mv_cw n_X3_refusalOfPilot m_X3_refusalOfPilot) = true ∧ mv_cw n_X3_refusalOfPilot m_X3_refusalOfPilot ∈ lw_tbl := ⟨rfl, List.mem_of_getElem? (i := 668) rfl⟩
set_option maxRecDepth 1000000 in
theorem mw_X3_detailOf : mv_gg (mv_cw n_X3_detailOf m_X3_detailOf) = true ∧ mv_cw n_X3_detailOf m_X3_detailOf ∈ lw_tbl := ⟨rfl, List.mem_of_getElem? (i := 780) rfl⟩
set_option maxRecDepth 1000000 in
theorem mw_X3_carryOut : mv_gg (mv_cw n_X3_carryOut m_X3_carryOut) = true ∧ mv_cw n_X3_carryOut m_X3_carryOut ∈ lw_tbl := ⟨rfl, List.mem_of_getElem? (i := 812) rfl⟩
set_option maxRecDepth 1000000 in
theorem mw_X3_putBalloon : mv_gg (mv_cw n_X3_putBalloon m_X3_putBalloon) = true ∧ mv_cw n_X3_putBalloon m_X3_putBalloon ∈ lw_tbl := ⟨rfl, List.mem_of_getElem? (i := 816) rfl⟩
set_option maxRecDepth 1000000 in
theorem mw_X3_removeBalloon : mv_gg (mv_cw n_X3_removeBalloon m_X3_removeBalloon) = true ∧ mv_cw n_X3_removeBalloon m_X3_removeBalloon ∈ lw_tbl := ⟨rfl, List.mem_of_getElem? (i := 824) rfl⟩
set_option maxRecDepth 1000000 in
theorem mw_X3_loadBag : mv_gg (mv_cw n_X3_loadBag m_X3_loadBag) = true ∧ mv_cw n_X3_loadBag m_X3_loadBag ∈ lw_tbl := ⟨rfl, List.mem_of_getElem? (i := 828) rfl⟩
set_option maxRecDepth 1000000 in
theorem mw_X3_dropBag : mv_gg (mv_cw n_X3_dropBag m_X3_dropBag) = true ∧ mv_cw n_X3_dropBag m_X3_dropBag ∈ lw_tbl := ⟨rfl, List.mem_of_getElem? (i := 836) rfl⟩
set_option maxRecDepth 1000000 in
theorem mw_X3_dropBestSet : mv_gg (mv_cw n_X3_dropBestSet m_X3_dropBestSet) = true ∧ mv_cw n_X3_dropBestSet m_X3_dropBestSet ∈ lw_tbl := ⟨rfl, List.mem_of_getElem? (i := 840) rfl⟩
set_option maxRecDepth 1000000 in
theorem mw_X3_replaceWind : mv_gg (mv_cw n_X3_replaceWind m_X3_replaceWind) = true ∧ mv_cw n_X3_replaceWind m_X3_replaceWind ∈ lw_tbl := ⟨rfl, List.mem_of_getElem? (i := 858) rfl⟩
set_option maxRecDepth 1000000 in
theorem mw_X3_putPilot : mv_gg (mv_cw n_X3_putPilot m_X3_putPilot) = true ∧ mv_cw n_X3_putPilot m_X3_putPilot ∈ lw_tbl := ⟨rfl, List.mem_of_getElem? (i := 863) rfl⟩
set_option maxRecDepth 1000000 in
theorem mw_X3_takePilot : mv_gg (mv_cw n_X3_takePilot m_X3_takePilot) = true ∧ mv_cw n_X3_takePilot m_X3_takePilot ∈ lw_tbl := ⟨rfl, List.mem_of_getElem? (i := 868) rfl⟩
set_option maxRecDepth 1000000 in
theorem mw_X3_passHours : mv_gg (mv_cw n_X3_passHours m_X3_passHours) = true ∧ mv_cw n_X3_passHours m_X3_passHours ∈ lw_tbl := ⟨rfl, List.mem_of_getElem? (i := 545) rfl⟩
set_option maxRecDepth 1000000 in
theorem mw_X3_burstBalloons : mv_gg (mv_cw n_X3_burstBalloons m_X3_burstBalloons) = true ∧ mv_cw n_X3_burstBalloons m_X3_burstBalloons ∈ lw_tbl := ⟨rfl, List.mem_of_getElem? (i := 557) rfl⟩
set_option maxRecDepth 1000000 in
theorem mw_X3_shake : mv_gg (mv_cw n_X3_shake m_X3_shake) = true ∧ mv_cw n_X3_shake m_X3_shake ∈ lw_tbl := ⟨rfl, List.mem_of_getElem? (i := 569) rfl⟩
set_option maxRecDepth 1000000 in
theorem mw_X3_queueIfOverstrained : mv_gg (mv_cw n_X3_queueIfOverstrained m_X3_queueIfOverstrained) = true ∧ mv_cw n_X3_queueIfOverstrained m_X3_queueIfOverstrained ∈ lw_tbl := ⟨rfl, List.mem_of_getElem? (i := 561) rfl⟩
set_option maxRecDepth 1000000 in
theorem mw_X4_init : mv_gg (mv_cw n_X4_init m_X4_init) = true ∧ mv_cw n_X4_init m_X4_init ∈ lw_tbl := ⟨rfl, List.mem_of_getElem? (i := 238) rfl⟩
set_option maxRecDepth 1000000 in
theorem mw_X4_remember : mv_gg (mv_cw n_X4_remember m_X4_remember) = true ∧ mv_cw n_X4_remember m_X4_remember ∈ lw_tbl := ⟨rfl, List.mem_of_getElem? (i := 804) rfl⟩
set_option maxRecDepth 1000000 in
theorem mw_X4_bringBack : mv_gg (mv_cw n_X4_bringBack m_X4_bringBack) = true ∧ mv_cw n_X4_bringBack m_X4_bringBack ∈ lw_tbl := ⟨rfl, List.mem_of_getElem? (i := 1609) rfl⟩
set_option maxRecDepth 1000000 in
theorem mw_X5_init : mv_gg (mv_cw n_X5_init m_X5_init) = true ∧ mv_cw n_X5_init m_X5_init ∈ lw_tbl := ⟨rfl, List.mem_of_getElem? (i := 174) rfl⟩
set_option maxRecDepth 1000000 in
theorem mw_X5_set : mv_gg (mv_cw n_X5_set m_X5_set) = true ∧ mv_cw n_X5_set m_X5_set ∈ lw_tbl := ⟨rfl, List.mem_of_getElem? (i := 541) rfl⟩
set_option maxRecDepth 1000000 in
theorem mw_X5_copyFrom : mv_gg (mv_cw n_X5_copyFrom m_X5_copyFrom) = true ∧ mv_cw n_X5_copyFrom m_X5_copyFrom ∈ lw_tbl := ⟨rfl, List.mem_of_getElem? (i := 537) rfl⟩
set_option maxRecDepth 1000000 in
theorem mw_X5_worksAt : mv_gg (mv_cw n_X5_worksAt m_X5_worksAt) = true ∧ mv_cw n_X5_worksAt m_X5_worksAt ∈ lw_tbl := ⟨rfl, List.mem_of_getElem? (i := 494) rfl⟩
set_option maxRecDepth 1000000 in
theorem mw_X6_init : mv_gg (mv_cw n_X6_init m_X6_init) = true ∧ mv_cw n_X6_init m_X6_init ∈ lw_tbl := ⟨rfl, List.mem_of_getElem? (i := 276) rfl⟩
set_option maxRecDepth 1000000 in
theorem mw_X6_append : mv_gg (mv_cw n_X6_append m_X6_append) = true ∧ mv_cw n_X6_append m_X6_append ∈ lw_tbl := ⟨rfl, List.mem_of_getElem? (i := 1198) rfl⟩
set_option maxRecDepth 1000000 in
theorem mw_X6_read : mv_gg (mv_cw n_X6_read m_X6_read) = true ∧ mv_cw n_X6_read m_X6_read ∈ lw_tbl := ⟨rfl, List.mem_of_getElem? (i := 1209) rfl⟩
set_option maxRecDepth 1000000 in
theorem mw_X6_readCommand : mv_gg (mv_cw n_X6_readCommand m_X6_readCommand) = true ∧ mv_cw n_X6_readCommand m_X6_readCommand ∈ lw_tbl := ⟨rfl, List.mem_of_getElem? (i := 1213) rfl⟩
set_option maxRecDepth 1000000 in
theorem mw_X6_readAs : mv_gg (mv_cw n_X6_readAs m_X6_readAs) = true ∧ mv_cw n_X6_readAs m_X6_readAs ∈ lw_tbl := ⟨rfl, List.mem_of_getElem? (i := 1217) rfl⟩
set_option maxRecDepth 1000000 in
theorem mw_X6_formOf : mv_gg (mv_cw n_X6_formOf m_X6_formOf) = true ∧ mv_cw n_X6_formOf m_X6_formOf ∈ lw_tbl := ⟨rfl, List.mem_of_getElem? (i := 1220) rfl⟩
set_option maxRecDepth 1000000 in
theorem mw_X6_readPart : mv_gg (mv_cw n_X6_readPart m_X6_readPart) = true ∧ mv_cw n_X6_readPart m_X6_readPart ∈ lw_tbl := ⟨rfl, List.mem_of_getElem? (i := 1281) rfl⟩
set_option maxRecDepth 1000000 in
theorem mw_X6_readNumber : mv_gg (mv_cw n_X6_readNumber m_X6_readNumber) = true ∧ mv_cw n_X6_readNumber m_X6_readNumber ∈ lw_tbl := ⟨rfl, List.mem_of_getElem? (i := 1285) rfl⟩
set_option maxRecDepth 1000000 in
theorem mw_X6_readCharacter : mv_gg (mv_cw n_X6_readCharacter m_X6_readCharacter) = true ∧ mv_cw n_X6_readCharacter m_X6_readCharacter ∈ lw_tbl := ⟨rfl, List.mem_of_getElem? (i := 1291) rfl⟩
set_option maxRecDepth 1000000 in
theorem mw_X7_init : mv_gg (mv_cw n_X7_init m_X7_init) = true ∧ mv_cw n_X7_init m_X7_init ∈ lw_tbl := ⟨rfl, List.mem_of_getElem? (i := 339) rfl⟩
set_option maxRecDepth 1000000 in
theorem mw_X7_collect : mv_gg (mv_cw n_X7_collect m_X7_collect) = true ∧ mv_cw n_X7_collect m_X7_collect ∈ lw_tbl := ⟨rfl, List.mem_of_getElem? (i := 426) rfl⟩
set_option maxRecDepth 1000000 in
theorem mw_X7_tangledByPairs : mv_gg (mv_cw n_X7_tangledByPairs m_X7_tangledByPairs) = true ∧ mv_cw n_X7_tangledByPairs m_X7_tangledByPairs ∈ lw_tbl := ⟨rfl, List.mem_of_getElem? (i := 422) rfl⟩
set_option maxRecDepth 1000000 in
theorem mw_X7_tangledByMerging : mv_gg (mv_cw n_X7_tangledByMerging m_X7_tangledByMerging) = true ∧ mv_cw n_X7_tangledByMerging m_X7_tangledByMerging ∈ lw_tbl := ⟨rfl, List.mem_of_getElem? (i := 454) rfl⟩
set_option maxRecDepth 1000000 in
theorem mw_X7_sortAndCount : mv_gg (mv_cw n_X7_sortAndCount m_X7_sortAndCount) = true ∧ mv_cw n_X7_sortAndCount m_X7_sortAndCount ∈ lw_tbl := ⟨rfl, List.mem_of_getElem? (i := 457) rfl⟩
set_option maxRecDepth 1000000 in
theorem mw_X7_mergeAndCount : mv_gg (mv_cw n_X7_mergeAndCount m_X7_mergeAndCount) = true ∧ mv_cw n_X7_mergeAndCount m_X7_mergeAndCount ∈ lw_tbl := ⟨rfl, List.mem_of_getElem? (i := 460) rfl⟩
set_option maxRecDepth 1000000 in
theorem mw_X8_init : mv_gg (mv_cw n_X8_init m_X8_init) = true ∧ mv_cw n_X8_init m_X8_init ∈ lw_tbl := ⟨rfl, List.mem_of_getElem? (i := 120) rfl⟩
set_option maxRecDepth 1000000 in
theorem mw_X8_moor : mv_gg (mv_cw n_X8_moor m_X8_moor) = true ∧ mv_cw n_X8_moor m_X8_moor ∈ lw_tbl := ⟨rfl, List.mem_of_getElem? (i := 622) rfl⟩
set_option maxRecDepth 1000000 in
theorem mw_X8_castOff : mv_gg (mv_cw n_X8_castOff m_X8_castOff) = true ∧ mv_cw n_X8_castOff m_X8_castOff ∈ lw_tbl := ⟨rfl, List.mem_of_getElem? (i := 876) rfl⟩
set_option maxRecDepth 1000000 in
theorem mw_X8_balloonCount : mv_gg (mv_cw n_X8_balloonCount m_X8_balloonCount) = true ∧ mv_cw n_X8_balloonCount m_X8_balloonCount ∈ lw_tbl := ⟨rfl, List.mem_of_getElem? (i := 410) rfl⟩
set_option maxRecDepth 1000000 in
theorem mw_X8_isMoored : mv_gg (mv_cw n_X8_isMoored m_X8_isMoored) = true ∧ mv_cw n_X8_isMoored m_X8_isMoored ∈ lw_tbl := ⟨rfl, List.mem_of_getElem? (i := 883) rfl⟩
set_option maxRecDepth 1000000 in
theorem mw_X8_lift : mv_gg (mv_cw n_X8_lift m_X8_lift) = true ∧ mv_cw n_X8_lift m_X8_lift ∈ lw_tbl := ⟨rfl, List.mem_of_getElem? (i := 893) rfl⟩
set_option maxRecDepth 1000000 in
theorem mw_X8_ballast : mv_gg (mv_cw n_X8_ballast m_X8_ballast) = true ∧ mv_cw n_X8_ballast m_X8_ballast ∈ lw_tbl := ⟨rfl, List.mem_of_getElem? (i := 904) rfl⟩
set_option maxRecDepth 1000000 in
theorem mw_X8_height : mv_gg (mv_cw n_X8_height m_X8_height) = true ∧ mv_cw n_X8_height m_X8_height ∈ lw_tbl := ⟨rfl, List.mem_of_getElem? (i := 911) rfl⟩
set_option maxRecDepth 1000000 in
theorem mw_X8_isBursting : mv_gg (mv_cw n_X8_isBursting m_X8_isBursting) = true ∧ mv_cw n_X8_isBursting m_X8_isBursting ∈ lw_tbl := ⟨rfl, List.mem_of_getElem? (i := 919) rfl⟩
set_option maxRecDepth 1000000 in
theorem mw_X8_berthByHeight : mv_gg (mv_cw n_X8_berthByHeight m_X8_berthByHeight) = true ∧ mv_cw n_X8_berthByHeight m_X8_berthByHeight ∈ lw_tbl := ⟨rfl, List.mem_of_getElem? (i := 927) rfl⟩
set_option maxRecDepth 1000000 in
theorem mw_X8_load : mv_gg (mv_cw n_X8_load m_X8_load) = true ∧ mv_cw n_X8_load m_X8_load ∈ lw_tbl := ⟨rfl, List.mem_of_getElem? (i := 947) rfl⟩
set_option maxRecDepth 1000000 in
theorem mw_X8_drop : mv_gg (mv_cw n_X8_drop m_X8_drop) = true ∧ mv_cw n_X8_drop m_X8_drop ∈ lw_tbl := ⟨rfl, List.mem_of_getElem? (i := 975) rfl⟩
set_option maxRecDepth 1000000 in
theorem mw_X8_rise : mv_gg (mv_cw n_X8_rise m_X8_rise) = true ∧ mv_cw n_X8_rise m_X8_rise ∈ lw_tbl := ⟨rfl, List.mem_of_getElem? (i := 982) rfl⟩
set_option maxRecDepth 1000000 in
theorem mw_X8_bagCount : mv_gg (mv_cw n_X8_bagCount m_X8_bagCount) = true ∧ mv_cw n_X8_bagCount m_X8_bagCount ∈ lw_tbl := ⟨rfl, List.mem_of_getElem? (i := 989) rfl⟩
set_option maxRecDepth 1000000 in
theorem mw_X8_bagWeight : mv_gg (mv_cw n_X8_bagWeight m_X8_bagWeight) = true ∧ mv_cw n_X8_bagWeight m_X8_bagWeight ∈ lw_tbl := ⟨rfl, List.mem_of_getElem? (i := 996) rfl⟩
set_option maxRecDepth 1000000 in
theorem mw_X8_fewestDrops : mv_gg (mv_cw n_X8_fewestDrops m_X8_fewestDrops) = true ∧ mv_cw n_X8_fewestDrops m_X8_fewestDrops ∈ lw_tbl := ⟨rfl, List.mem_of_getElem? (i := 1005) rfl⟩
set_option maxRecDepth 1000000 in
theorem mw_X8_fewestDropsBySets : mv_gg (mv_cw n_X8_fewestDropsBySets m_X8_fewestDropsBySets) = true ∧ mv_cw n_X8_fewestDropsBySets m_X8_fewestDropsBySets ∈ lw_tbl := ⟨rfl, List.mem_of_getElem? (i := 1025) rfl⟩
set_option maxRecDepth 1000000 in
theorem mw_X8_dropWeight : mv_gg (mv_cw n_X8_dropWeight m_X8_dropWeight) = true ∧ mv_cw n_X8_dropWeight m_X8_dropWeight ∈ lw_tbl := ⟨rfl, List.mem_of_getElem? (i := 1037) rfl⟩
set_option maxRecDepth 1000000 in
theorem mw_X8_setWind : mv_gg (mv_cw n_X8_setWind m_X8_setWind) = true ∧ mv_cw n_X8_setWind m_X8_setWind ∈ lw_tbl := ⟨rfl, List.mem_of_getElem? (i := 1045) rfl⟩
set_option maxRecDepth 1000000 in
theorem mw_X8_wind : mv_gg (mv_cw n_X8_wind m_X8_wind) = true ∧ mv_cw n_X8_wind m_X8_wind ∈ lw_tbl := ⟨rfl, List.mem_of_getElem? (i := 1052) rfl⟩
set_option maxRecDepth 1000000 in
theorem mw_X8_top : mv_gg (mv_cw n_X8_top m_X8_top) = true ∧ mv_cw n_X8_top m_X8_top ∈ lw_tbl := ⟨rfl, List.mem_of_getElem? (i := 1060) rfl⟩
set_option maxRecDepth 1000000 in
theorem mw_X8_tangles : mv_gg (mv_cw n_X8_tangles m_X8_tangles) = true ∧ mv_cw n_X8_tangles m_X8_tangles ∈ lw_tbl := ⟨rfl, List.mem_of_getElem? (i := 418) rfl⟩
set_option maxRecDepth 1000000 in
theorem mw_X8_tanglesByMerging : mv_gg (mv_cw n_X8_tanglesByMerging m_X8_tanglesByMerging) = true ∧ mv_cw n_X8_tanglesByMerging m_X8_tanglesByMerging ∈ lw_tbl := ⟨rfl, List.mem_of_getElem? (i := 450) rfl⟩
set_option maxRecDepth 1000000 in
theorem mw_X8_longestCalm : mv_gg (mv_cw n_X8_longestCalm m_X8_longestCalm) = true ∧ mv_cw n_X8_longestCalm m_X8_longestCalm ∈ lw_tbl := ⟨rfl, List.mem_of_getElem? (i := 1068) rfl⟩
set_option maxRecDepth 1000000 in
theorem mw_X8_longestCalmByTrying : mv_gg (mv_cw n_X8_longestCalmByTrying m_X8_longestCalmByTrying) = true ∧ mv_cw n_X8_longestCalmByTrying m_X8_longestCalmByTrying ∈ lw_tbl := ⟨rfl, List.mem_of_getElem? (i := 1088) rfl⟩
set_option maxRecDepth 1000000 in
theorem mw_X8_addPilot : mv_gg (mv_cw n_X8_addPilot m_X8_addPilot) = true ∧ mv_cw n_X8_addPilot m_X8_addPilot ∈ lw_tbl := ⟨rfl, List.mem_of_getElem? (i := 1099) rfl⟩
set_option maxRecDepth 1000000 in
theorem mw_X8_removePilot : mv_gg (mv_cw n_X8_removePilot m_X8_removePilot) = true ∧ mv_cw n_X8_removePilot m_X8_removePilot ∈ lw_tbl := ⟨rfl, List.mem_of_getElem? (i := 1106) rfl⟩
set_option maxRecDepth 1000000 in
theorem mw_X8_pilotCount : mv_gg (mv_cw n_X8_pilotCount m_X8_pilotCount) = true ∧ mv_cw n_X8_pilotCount m_X8_pilotCount ∈ lw_tbl := ⟨rfl, List.mem_of_getElem? (i := 467) rfl⟩
set_option maxRecDepth 1000000 in
theorem mw_X8_isOnDuty : mv_gg (mv_cw n_X8_isOnDuty m_X8_isOnDuty) = true ∧ mv_cw n_X8_isOnDuty m_X8_isOnDuty ∈ lw_tbl := ⟨rfl, List.mem_of_getElem? (i := 1113) rfl⟩
set_option maxRecDepth 1000000 in
theorem mw_X8_canCrew : mv_gg (mv_cw n_X8_canCrew m_X8_canCrew) = true ∧ mv_cw n_X8_canCrew m_X8_canCrew ∈ lw_tbl := ⟨rfl, List.mem_of_getElem? (i := 1127) rfl⟩
set_option maxRecDepth 1000000 in
theorem mw_X8_mostCrewed : mv_gg (mv_cw n_X8_mostCrewed m_X8_mostCrewed) = true ∧ mv_cw n_X8_mostCrewed m_X8_mostCrewed ∈ lw_tbl := ⟨rfl, List.mem_of_getElem? (i := 471) rfl⟩
set_option maxRecDepth 1000000 in
theorem mw_X8_mostCrewedBySets : mv_gg (mv_cw n_X8_mostCrewedBySets m_X8_mostCrewedBySets) = true ∧ mv_cw n_X8_mostCrewedBySets m_X8_mostCrewedBySets ∈ lw_tbl := ⟨rfl, List.mem_of_getElem? (i := 502) rfl⟩
set_option maxRecDepth 1000000 in
theorem mw_X8_pass : mv_gg (mv_cw n_X8_pass m_X8_pass) = true ∧ mv_cw n_X8_pass m_X8_pass ∈ lw_tbl := ⟨rfl, List.mem_of_getElem? (i := 1135) rfl⟩
set_option maxRecDepth 1000000 in
theorem mw_X8_burstsAhead : mv_gg (mv_cw n_X8_burstsAhead m_X8_burstsAhead) = true ∧ mv_cw n_X8_burstsAhead m_X8_burstsAhead ∈ lw_tbl := ⟨rfl, List.mem_of_getElem? (i := 523) rfl⟩
set_option maxRecDepth 1000000 in
theorem mw_X8_hour : mv_gg (mv_cw n_X8_hour m_X8_hour) = true ∧ mv_cw n_X8_hour m_X8_hour ∈ lw_tbl := ⟨rfl, List.mem_of_getElem? (i := 581) rfl⟩
set_option maxRecDepth 1000000 in
theorem mw_X8_bursts : mv_gg (mv_cw n_X8_bursts m_X8_bursts) = true ∧ mv_cw n_X8_bursts m_X8_bursts ∈ lw_tbl := ⟨rfl, List.mem_of_getElem? (i := 585) rfl⟩
set_option maxRecDepth 1000000 in
theorem mw_X8_loaded : mv_gg (mv_cw n_X8_loaded m_X8_loaded) = true ∧ mv_cw n_X8_loaded m_X8_loaded ∈ lw_tbl := ⟨rfl, List.mem_of_getElem? (i := 589) rfl⟩
set_option maxRecDepth 1000000 in
theorem mw_X8_aboard : mv_gg (mv_cw n_X8_aboard m_X8_aboard) = true ∧ mv_cw n_X8_aboard m_X8_aboard ∈ lw_tbl := ⟨rfl, List.mem_of_getElem? (i := 593) rfl⟩
set_option maxRecDepth 1000000 in
theorem mw_X8_dropped : mv_gg (mv_cw n_X8_dropped m_X8_dropped) = true ∧ mv_cw n_X8_dropped m_X8_dropped ∈ lw_tbl := ⟨rfl, List.mem_of_getElem? (i := 601) rfl⟩
set_option maxRecDepth 1000000 in
theorem mw_X8_lost : mv_gg (mv_cw n_X8_lost m_X8_lost) = true ∧ mv_cw n_X8_lost m_X8_lost ∈ lw_tbl := ⟨rfl, List.mem_of_getElem? (i := 605) rfl⟩
set_option maxRecDepth 1000000 in
theorem mw_X8_meanHeight : mv_gg (mv_cw n_X8_meanHeight m_X8_meanHeight) = true ∧ mv_cw n_X8_meanHeight m_X8_meanHeight ∈ lw_tbl := ⟨rfl, List.mem_of_getElem? (i := 1156) rfl⟩
set_option maxRecDepth 1000000 in
theorem mw_X8_strain : mv_gg (mv_cw n_X8_strain m_X8_strain) = true ∧ mv_cw n_X8_strain m_X8_strain ∈ lw_tbl := ⟨rfl, List.mem_of_getElem? (i := 1170) rfl⟩
set_option maxRecDepth 1000000 in
theorem mw_X8_feed : mv_gg (mv_cw n_X8_feed m_X8_feed) = true ∧ mv_cw n_X8_feed m_X8_feed ∈ lw_tbl := ⟨rfl, List.mem_of_getElem? (i := 1178) rfl⟩
set_option maxRecDepth 1000000 in
theorem mw_X8_execute : mv_gg (mv_cw n_X8_execute m_X8_execute) = true ∧ mv_cw n_X8_execute m_X8_execute ∈ lw_tbl := ⟨rfl, List.mem_of_getElem? (i := 1205) rfl⟩
set_option maxRecDepth 1000000 in
theorem mw_X8_faultPosition : mv_gg (mv_cw n_X8_faultPosition m_X8_faultPosition) = true ∧ mv_cw n_X8_faultPosition m_X8_faultPosition ∈ lw_tbl := ⟨rfl, List.mem_of_getElem? (i := 1301) rfl⟩
set_option maxRecDepth 1000000 in
theorem mw_X8_writeBalloon : mv_gg (mv_cw n_X8_writeBalloon m_X8_writeBalloon) = true ∧ mv_cw n_X8_writeBalloon m_X8_writeBalloon ∈ lw_tbl := ⟨rfl, List.mem_of_getElem? (i := 1309) rfl⟩
set_option maxRecDepth 1000000 in
theorem mw_X8_lineCharacter : mv_gg (mv_cw n_X8_lineCharacter m_X8_lineCharacter) = true ∧ mv_cw n_X8_lineCharacter m_X8_lineCharacter ∈ lw_tbl := ⟨rfl, List.mem_of_getElem? (i := 1560) rfl⟩
set_option maxRecDepth 1000000 in
theorem mw_X8_denial : mv_gg (mv_cw n_X8_denial m_X8_denial) = true ∧ mv_cw n_X8_denial m_X8_denial ∈ lw_tbl := ⟨rfl, List.mem_of_getElem? (i := 1577) rfl⟩
set_option maxRecDepth 1000000 in
theorem mw_X8_denialDetail : mv_gg (mv_cw n_X8_denialDetail m_X8_denialDetail) = true ∧ mv_cw n_X8_denialDetail m_X8_denialDetail ∈ lw_tbl := ⟨rfl, List.mem_of_getElem? (i := 1589) rfl⟩
set_option maxRecDepth 1000000 in
theorem mw_X8_denialCause : mv_gg (mv_cw n_X8_denialCause m_X8_denialCause) = true ∧ mv_cw n_X8_denialCause m_X8_denialCause ∈ lw_tbl := ⟨rfl, List.mem_of_getElem? (i := 1596) rfl⟩
set_option maxRecDepth 1000000 in
theorem mw_X8_undo : mv_gg (mv_cw n_X8_undo m_X8_undo) = true ∧ mv_cw n_X8_undo m_X8_undo ∈ lw_tbl := ⟨rfl, List.mem_of_getElem? (i := 1604) rfl⟩
set_option maxRecDepth 1000000 in
theorem mw_X8_undoCount : mv_gg (mv_cw n_X8_undoCount m_X8_undoCount) = true ∧ mv_cw n_X8_undoCount m_X8_undoCount ∈ lw_tbl := ⟨rfl, List.mem_of_getElem? (i := 609) rfl⟩
set_option maxRecDepth 1000000 in
theorem mw_X8_saveSnapshot : mv_gg (mv_cw n_X8_saveSnapshot m_X8_saveSnapshot) = true ∧ mv_cw n_X8_saveSnapshot m_X8_saveSnapshot ∈ lw_tbl := ⟨rfl, List.mem_of_getElem? (i := 613) rfl⟩
set_option maxRecDepth 1000000 in
theorem mw_X8_restoreSnapshot : mv_gg (mv_cw n_X8_restoreSnapshot m_X8_restoreSnapshot) = true ∧ mv_cw n_X8_restoreSnapshot m_X8_restoreSnapshot ∈ lw_tbl := ⟨rfl, List.mem_of_getElem? (i := 1616) rfl⟩
set_option maxRecDepth 1000000 in
theorem mw_X8_change : mv_gg (mv_cw n_X8_change m_X8_change) = true ∧ mv_cw n_X8_change m_X8_change ∈ lw_tbl := ⟨rfl, List.mem_of_getElem? (i := 626) rfl⟩
set_option maxRecDepth 1000000 in
theorem mw_X8_refuse : mv_gg (mv_cw n_X8_refuse m_X8_refuse) = true ∧ mv_cw n_X8_refuse m_X8_refuse ∈ lw_tbl := ⟨rfl, List.mem_of_getElem? (i := 672) rfl⟩
set_option maxRecDepth 1000000 in
theorem mw_X8_keepDenial : mv_gg (mv_cw n_X8_keepDenial m_X8_keepDenial) = true ∧ mv_cw n_X8_keepDenial m_X8_keepDenial ∈ lw_tbl := ⟨rfl, List.mem_of_getElem? (i := 784) rfl⟩
set_option maxRecDepth 1000000 in
theorem mw_X8_balloonAt : mv_gg (mv_cw n_X8_balloonAt m_X8_balloonAt) = true ∧ mv_cw n_X8_balloonAt m_X8_balloonAt ∈ lw_tbl := ⟨rfl, List.mem_of_getElem? (i := 897) rfl⟩
set_option maxRecDepth 1000000 in
theorem mw_X8_requirePilot : mv_gg (mv_cw n_X8_requirePilot m_X8_requirePilot) = true ∧ mv_cw n_X8_requirePilot m_X8_requirePilot ∈ lw_tbl := ⟨rfl, List.mem_of_getElem? (i := 1117) rfl⟩
set_option maxRecDepth 1000000 in
theorem mw_X8_requireDenial : mv_gg (mv_cw n_X8_requireDenial m_X8_requireDenial) = true ∧ mv_cw n_X8_requireDenial m_X8_requireDenial ∈ lw_tbl := ⟨rfl, List.mem_of_getElem? (i := 1581) rfl⟩
set_option maxRecDepth 1000000 in
theorem mw_X8_requireHeight : mv_gg (mv_cw n_X8_requireHeight m_X8_requireHeight) = true ∧ mv_cw n_X8_requireHeight m_X8_requireHeight ∈ lw_tbl := ⟨rfl, List.mem_of_getElem? (i := 1008) rfl⟩
set_option maxRecDepth 1000000 in
theorem mw_X8_requireWindStrength : mv_gg (mv_cw n_X8_requireWindStrength m_X8_requireWindStrength) = true ∧ mv_cw n_X8_requireWindStrength m_X8_requireWindStrength ∈ lw_tbl := ⟨rfl, List.mem_of_getElem? (i := 1071) rfl⟩
set_option maxRecDepth 1000000 in
theorem mw_X8_requireDropSet : mv_gg (mv_cw n_X8_requireDropSet m_X8_requireDropSet) = true ∧ mv_cw n_X8_requireDropSet m_X8_requireDropSet ∈ lw_tbl := ⟨rfl, List.mem_of_getElem? (i := 1028) rfl⟩
set_option maxRecDepth 1000000 in
theorem mw_X8_isWithin : mv_gg (mv_cw n_X8_isWithin m_X8_isWithin) = true ∧ mv_cw n_X8_isWithin m_X8_isWithin ∈ lw_tbl := ⟨rfl, List.mem_of_getElem? (i := 548) rfl⟩
set_option maxRecDepth 1000000 in
theorem mw_X9_init : mv_gg (mv_cw n_X9_init m_X9_init) = true ∧ mv_cw n_X9_init m_X9_init ∈ lw_tbl := ⟨rfl, List.mem_of_getElem? (i := 1622) rfl⟩
set_option maxRecDepth 1000000 in
theorem mw_X9_thrown : mv_gg (mv_cw n_X9_thrown m_X9_thrown) = true ∧ mv_cw n_X9_thrown m_X9_thrown ∈ lw_tbl := ⟨rfl, List.mem_of_getElem? (i := 1709) rfl⟩
set_option maxRecDepth 1000000 in
theorem mw_X9_fails : mv_gg (mv_cw n_X9_fails m_X9_fails) = true ∧ mv_cw n_X9_fails m_X9_fails ∈ lw_tbl := ⟨rfl, List.mem_of_getElem? (i := 1779) rfl⟩
set_option maxRecDepth 1000000 in
theorem mw_X9_in : mv_gg (mv_cw n_X9_in m_X9_in) = true ∧ mv_cw n_X9_in m_X9_in ∈ lw_tbl := ⟨rfl, List.mem_of_getElem? (i := 1727) rfl⟩
set_option maxRecDepth 1000000 in
theorem mw_X9_remembers : mv_gg (mv_cw n_X9_remembers m_X9_remembers) = true ∧ mv_cw n_X9_remembers m_X9_remembers ∈ lw_tbl := ⟨rfl, List.mem_of_getElem? (i := 1717) rfl⟩
set_option maxRecDepth 1000000 in
theorem mw_X9_changed : mv_gg (mv_cw n_X9_changed m_X9_changed) = true ∧ mv_cw n_X9_changed m_X9_changed ∈ lw_tbl := ⟨rfl, List.mem_of_getElem? (i := 1775) rfl⟩
set_option maxRecDepth 1000000 in
theorem mw_X9_done : mv_gg (mv_cw n_X9_done m_X9_done) = true ∧ mv_cw n_X9_done m_X9_done ∈ lw_tbl := ⟨rfl, List.mem_of_getElem? (i := 1767) rfl⟩
set_option maxRecDepth 1000000 in
theorem mw_X9_denied : mv_gg (mv_cw n_X9_denied m_X9_denied) = true ∧ mv_cw n_X9_denied m_X9_denied ∈ lw_tbl := ⟨rfl, List.mem_of_getElem? (i := 1755) rfl⟩
set_option maxRecDepth 1000000 in
theorem mw_X9_ends : mv_gg (mv_cw n_X9_ends m_X9_ends) = true ∧ mv_cw n_X9_ends m_X9_ends ∈ lw_tbl := ⟨rfl, List.mem_of_getElem? (i := 1771) rfl⟩
set_option maxRecDepth 1000000 in
theorem mw_X9_isBerth : mv_gg (mv_cw n_X9_isBerth m_X9_isBerth) = true ∧ mv_cw n_X9_isBerth m_X9_isBerth ∈ lw_tbl := ⟨rfl, List.mem_of_getElem? (i := 1724) rfl⟩
set_option maxRecDepth 1000000 in
theorem mw_X9_isHour : mv_gg (mv_cw n_X9_isHour m_X9_isHour) = true ∧ mv_cw n_X9_isHour m_X9_isHour ∈ lw_tbl := ⟨rfl, List.mem_of_getElem? (i := 1837) rfl⟩
set_option maxRecDepth 1000000 in
theorem mw_X9_of : mv_gg (mv_cw n_X9_of m_X9_of) = true ∧ mv_cw n_X9_of m_X9_of ∈ lw_tbl := ⟨rfl, List.mem_of_getElem? (i := 1735) rfl⟩
set_option maxRecDepth 1000000 in
theorem mw_X9_sets : mv_gg (mv_cw n_X9_sets m_X9_sets) = true ∧ mv_cw n_X9_sets m_X9_sets ∈ lw_tbl := ⟨rfl, List.mem_of_getElem? (i := 1763) rfl⟩
set_option maxRecDepth 1000000 in
theorem mw_X9_isHere : mv_gg (mv_cw n_X9_isHere m_X9_isHere) = true ∧ mv_cw n_X9_isHere m_X9_isHere ∈ lw_tbl := ⟨rfl, List.mem_of_getElem? (i := 1731) rfl⟩
set_option maxRecDepth 1000000 in
theorem mw_X9_isPilot : mv_gg (mv_cw n_X9_isPilot m_X9_isPilot) = true ∧ mv_cw n_X9_isPilot m_X9_isPilot ∈ lw_tbl := ⟨rfl, List.mem_of_getElem? (i := 1857) rfl⟩
set_option maxRecDepth 1000000 in
theorem mw_X9_pilot : mv_gg (mv_cw n_X9_pilot m_X9_pilot) = true ∧ mv_cw n_X9_pilot m_X9_pilot ∈ lw_tbl := ⟨rfl, List.mem_of_getElem? (i := 1992) rfl⟩
set_option maxRecDepth 1000000 in
theorem mw_X9_now : mv_gg (mv_cw n_X9_now m_X9_now) = true ∧ mv_cw n_X9_now m_X9_now ∈ lw_tbl := ⟨rfl, List.mem_of_getElem? (i := 1873) rfl⟩
set_option maxRecDepth 1000000 in
theorem mw_X9_ballastWithout : mv_gg (mv_cw n_X9_ballastWithout m_X9_ballastWithout) = true ∧ mv_cw n_X9_ballastWithout m_X9_ballastWithout ∈ lw_tbl := ⟨rfl, List.mem_of_getElem? (i := 1751) rfl⟩
set_option maxRecDepth 1000000 in
theorem mw_X9_spare : mv_gg (mv_cw n_X9_spare m_X9_spare) = true ∧ mv_cw n_X9_spare m_X9_spare ∈ lw_tbl := ⟨rfl, List.mem_of_getElem? (i := 1747) rfl⟩
set_option maxRecDepth 1000000 in
theorem mw_X9_highOf : mv_gg (mv_cw n_X9_highOf m_X9_highOf) = true ∧ mv_cw n_X9_highOf m_X9_highOf ∈ lw_tbl := ⟨rfl, List.mem_of_getElem? (i := 1743) rfl⟩
set_option maxRecDepth 1000000 in
theorem mw_X9_high : mv_gg (mv_cw n_X9_high m_X9_high) = true ∧ mv_cw n_X9_high m_X9_high ∈ lw_tbl := ⟨rfl, List.mem_of_getElem? (i := 1739) rfl⟩
set_option maxRecDepth 1000000 in
theorem mw_X9_isTooHigh : mv_gg (mv_cw n_X9_isTooHigh m_X9_isTooHigh) = true ∧ mv_cw n_X9_isTooHigh m_X9_isTooHigh ∈ lw_tbl := ⟨rfl, List.mem_of_getElem? (i := 1877) rfl⟩
set_option maxRecDepth 1000000 in
theorem mw_X9_topOf : mv_gg (mv_cw n_X9_topOf m_X9_topOf) = true ∧ mv_cw n_X9_topOf m_X9_topOf ∈ lw_tbl := ⟨rfl, List.mem_of_getElem? (i := 1958) rfl⟩
set_option maxRecDepth 1000000 in
theorem mw_X9_bits : mv_gg (mv_cw n_X9_bits m_X9_bits) = true ∧ mv_cw n_X9_bits m_X9_bits ∈ lw_tbl := ⟨rfl, List.mem_of_getElem? (i := 1826) rfl⟩
set_option maxRecDepth 1000000 in
theorem mw_X9_isBetter : mv_gg (mv_cw n_X9_isBetter m_X9_isBetter) = true ∧ mv_cw n_X9_isBetter m_X9_isBetter ∈ lw_tbl := ⟨rfl, List.mem_of_getElem? (i := 1823) rfl⟩
set_option maxRecDepth 1000000 in
theorem mw_X9_best : mv_gg (mv_cw n_X9_best m_X9_best) = true ∧ mv_cw n_X9_best m_X9_best ∈ lw_tbl := ⟨rfl, List.mem_of_getElem? (i := 1819) rfl⟩
set_option maxRecDepth 1000000 in
theorem mw_X9_takesBag : mv_gg (mv_cw n_X9_takesBag m_X9_takesBag) = true ∧ mv_cw n_X9_takesBag m_X9_takesBag ∈ lw_tbl := ⟨rfl, List.mem_of_getElem? (i := 1807) rfl⟩
set_option maxRecDepth 1000000 in
theorem mw_X9_clears : mv_gg (mv_cw n_X9_clears m_X9_clears) = true ∧ mv_cw n_X9_clears m_X9_clears ∈ lw_tbl := ⟨rfl, List.mem_of_getElem? (i := 1759) rfl⟩
set_option maxRecDepth 1000000 in
theorem mw_X9_waits : mv_gg (mv_cw n_X9_waits m_X9_waits) = true ∧ mv_cw n_X9_waits m_X9_waits ∈ lw_tbl := ⟨rfl, List.mem_of_getElem? (i := 1881) rfl⟩
set_option maxRecDepth 1000000 in
theorem mw_X9_shakes : mv_gg (mv_cw n_X9_shakes m_X9_shakes) = true ∧ mv_cw n_X9_shakes m_X9_shakes ∈ lw_tbl := ⟨rfl, List.mem_of_getElem? (i := 1885) rfl⟩
set_option maxRecDepth 1000000 in
theorem mw_X9_oneHour : mv_gg (mv_cw n_X9_oneHour m_X9_oneHour) = true ∧ mv_cw n_X9_oneHour m_X9_oneHour ∈ lw_tbl := ⟨rfl, List.mem_of_getElem? (i := 1869) rfl⟩
set_option maxRecDepth 1000000 in
theorem mw_X9_moors : mv_gg (mv_cw n_X9_moors m_X9_moors) = true ∧ mv_cw n_X9_moors m_X9_moors ∈ lw_tbl := ⟨rfl, List.mem_of_getElem? (i := 1721) rfl⟩
set_option maxRecDepth 1000000 in
theorem mw_X9_casts : mv_gg (mv_cw n_X9_casts m_X9_casts) = true ∧ mv_cw n_X9_casts m_X9_casts ∈ lw_tbl := ⟨rfl, List.mem_of_getElem? (i := 1787) rfl⟩
set_option maxRecDepth 1000000 in
theorem mw_X9_loads : mv_gg (mv_cw n_X9_loads m_X9_loads) = true ∧ mv_cw n_X9_loads m_X9_loads ∈ lw_tbl := ⟨rfl, List.mem_of_getElem? (i := 1795) rfl⟩
set_option maxRecDepth 1000000 in
theorem mw_X9_drops : mv_gg (mv_cw n_X9_drops m_X9_drops) = true ∧ mv_cw n_X9_drops m_X9_drops ∈ lw_tbl := ⟨rfl, List.mem_of_getElem? (i := 1803) rfl⟩
set_option maxRecDepth 1000000 in
theorem mw_X9_rises : mv_gg (mv_cw n_X9_rises m_X9_rises) = true ∧ mv_cw n_X9_rises m_X9_rises ∈ lw_tbl := ⟨rfl, List.mem_of_getElem? (i := 1815) rfl⟩
set_option maxRecDepth 1000000 in
theorem mw_X9_blows : mv_gg (mv_cw n_X9_blows m_X9_blows) = true ∧ mv_cw n_X9_blows m_X9_blows ∈ lw_tbl := ⟨rfl, List.mem_of_getElem? (i := 1834) rfl⟩
set_option maxRecDepth 1000000 in
theorem mw_X9_passes : mv_gg (mv_cw n_X9_passes m_X9_passes) = true ∧ mv_cw n_X9_passes m_X9_passes ∈ lw_tbl := ⟨rfl, List.mem_of_getElem? (i := 1865) rfl⟩
set_option maxRecDepth 1000000 in
theorem mw_X9_joins : mv_gg (mv_cw n_X9_joins m_X9_joins) = true ∧ mv_cw n_X9_joins m_X9_joins ∈ lw_tbl := ⟨rfl, List.mem_of_getElem? (i := 1845) rfl⟩
set_option maxRecDepth 1000000 in
theorem mw_X9_leaves : mv_gg (mv_cw n_X9_leaves m_X9_leaves) = true ∧ mv_cw n_X9_leaves m_X9_leaves ∈ lw_tbl := ⟨rfl, List.mem_of_getElem? (i := 1853) rfl⟩
set_option maxRecDepth 1000000 in
theorem mw_X9_moor : mv_gg (mv_cw n_X9_moor m_X9_moor) = true ∧ mv_cw n_X9_moor m_X9_moor ∈ lw_tbl := ⟨rfl, List.mem_of_getElem? (i := 1713) rfl⟩
set_option maxRecDepth 1000000 in
theorem mw_X9_castOff : mv_gg (mv_cw n_X9_castOff m_X9_castOff) = true ∧ mv_cw n_X9_castOff m_X9_castOff ∈ lw_tbl := ⟨rfl, List.mem_of_getElem? (i := 1783) rfl⟩
set_option maxRecDepth 1000000 in
theorem mw_X9_load : mv_gg (mv_cw n_X9_load m_X9_load) = true ∧ mv_cw n_X9_load m_X9_load ∈ lw_tbl := ⟨rfl, List.mem_of_getElem? (i := 1791) rfl⟩
set_option maxRecDepth 1000000 in
theorem mw_X9_drop : mv_gg (mv_cw n_X9_drop m_X9_drop) = true ∧ mv_cw n_X9_drop m_X9_drop ∈ lw_tbl := ⟨rfl, List.mem_of_getElem? (i := 1799) rfl⟩
set_option maxRecDepth 1000000 in
theorem mw_X9_rise : mv_gg (mv_cw n_X9_rise m_X9_rise) = true ∧ mv_cw n_X9_rise m_X9_rise ∈ lw_tbl := ⟨rfl, List.mem_of_getElem? (i := 1811) rfl⟩
set_option maxRecDepth 1000000 in
theorem mw_X9_setWind : mv_gg (mv_cw n_X9_setWind m_X9_setWind) = true ∧ mv_cw n_X9_setWind m_X9_setWind ∈ lw_tbl := ⟨rfl, List.mem_of_getElem? (i := 1830) rfl⟩
set_option maxRecDepth 1000000 in
theorem mw_X9_addPilot : mv_gg (mv_cw n_X9_addPilot m_X9_addPilot) = true ∧ mv_cw n_X9_addPilot m_X9_addPilot ∈ lw_tbl := ⟨rfl, List.mem_of_getElem? (i := 1841) rfl⟩
set_option maxRecDepth 1000000 in
theorem mw_X9_removePilot : mv_gg (mv_cw n_X9_removePilot m_X9_removePilot) = true ∧ mv_cw n_X9_removePilot m_X9_removePilot ∈ lw_tbl := ⟨rfl, List.mem_of_getElem? (i := 1849) rfl⟩
set_option maxRecDepth 1000000 in
theorem mw_X9_pass : mv_gg (mv_cw n_X9_pass m_X9_pass) = true ∧ mv_cw n_X9_pass m_X9_pass ∈ lw_tbl := ⟨rfl, List.mem_of_getElem? (i := 1861) rfl⟩
set_option maxRecDepth 1000000 in
theorem mw_X9_balloonCount : mv_gg (mv_cw n_X9_balloonCount m_X9_balloonCount) = true ∧ mv_cw n_X9_balloonCount m_X9_balloonCount ∈ lw_tbl := ⟨rfl, List.mem_of_getElem? (i := 1889) rfl⟩
set_option maxRecDepth 1000000 in
theorem mw_X9_isMoored : mv_gg (mv_cw n_X9_isMoored m_X9_isMoored) = true ∧ mv_cw n_X9_isMoored m_X9_isMoored ∈ lw_tbl := ⟨rfl, List.mem_of_getElem? (i := 1893) rfl⟩
set_option maxRecDepth 1000000 in
theorem mw_X9_isAsked : mv_gg (mv_cw n_X9_isAsked m_X9_isAsked) = true ∧ mv_cw n_X9_isAsked m_X9_isAsked ∈ lw_tbl := ⟨rfl, List.mem_of_getElem? (i := 1901) rfl⟩
set_option maxRecDepth 1000000 in
theorem mw_X9_lift : mv_gg (mv_cw n_X9_lift m_X9_lift) = true ∧ mv_cw n_X9_lift m_X9_lift ∈ lw_tbl := ⟨rfl, List.mem_of_getElem? (i := 1897) rfl⟩
set_option maxRecDepth 1000000 in
theorem mw_X9_ballast : mv_gg (mv_cw n_X9_ballast m_X9_ballast) = true ∧ mv_cw n_X9_ballast m_X9_ballast ∈ lw_tbl := ⟨rfl, List.mem_of_getElem? (i := 1905) rfl⟩
set_option maxRecDepth 1000000 in
theorem mw_X9_height : mv_gg (mv_cw n_X9_height m_X9_height) = true ∧ mv_cw n_X9_height m_X9_height ∈ lw_tbl := ⟨rfl, List.mem_of_getElem? (i := 1909) rfl⟩
set_option maxRecDepth 1000000 in
theorem mw_X9_isBursting : mv_gg (mv_cw n_X9_isBursting m_X9_isBursting) = true ∧ mv_cw n_X9_isBursting m_X9_isBursting ∈ lw_tbl := ⟨rfl, List.mem_of_getElem? (i := 1913) rfl⟩
set_option maxRecDepth 1000000 in
theorem mw_X9_isAhead : mv_gg (mv_cw n_X9_isAhead m_X9_isAhead) = true ∧ mv_cw n_X9_isAhead m_X9_isAhead ∈ lw_tbl := ⟨rfl, List.mem_of_getElem? (i := 1921) rfl⟩
set_option maxRecDepth 1000000 in
theorem mw_X9_berthByHeight : mv_gg (mv_cw n_X9_berthByHeight m_X9_berthByHeight) = true ∧ mv_cw n_X9_berthByHeight m_X9_berthByHeight ∈ lw_tbl := ⟨rfl, List.mem_of_getElem? (i := 1917) rfl⟩
set_option maxRecDepth 1000000 in
theorem mw_X9_bagCount : mv_gg (mv_cw n_X9_bagCount m_X9_bagCount) = true ∧ mv_cw n_X9_bagCount m_X9_bagCount ∈ lw_tbl := ⟨rfl, List.mem_of_getElem? (i := 1925) rfl⟩
set_option maxRecDepth 1000000 in
theorem mw_X9_bagWeight : mv_gg (mv_cw n_X9_bagWeight m_X9_bagWeight) = true ∧ mv_cw n_X9_bagWeight m_X9_bagWeight ∈ lw_tbl := ⟨rfl, List.mem_of_getElem? (i := 1929) rfl⟩
set_option maxRecDepth 1000000 in
theorem mw_X9_asked : mv_gg (mv_cw n_X9_asked m_X9_asked) = true ∧ mv_cw n_X9_asked m_X9_asked ∈ lw_tbl := ⟨rfl, List.mem_of_getElem? (i := 1937) rfl⟩
set_option maxRecDepth 1000000 in
theorem mw_X9_fewestDrops : mv_gg (mv_cw n_X9_fewestDrops m_X9_fewestDrops) = true ∧ mv_cw n_X9_fewestDrops m_X9_fewestDrops ∈ lw_tbl := ⟨rfl, List.mem_of_getElem? (i := 1933) rfl⟩
set_option maxRecDepth 1000000 in
theorem mw_X9_fewestDropsBySets : mv_gg (mv_cw n_X9_fewestDropsBySets m_X9_fewestDropsBySets) = true ∧ mv_cw n_X9_fewestDropsBySets m_X9_fewestDropsBySets ∈ lw_tbl := ⟨rfl, List.mem_of_getElem? (i := 1941) rfl⟩
set_option maxRecDepth 1000000 in
theorem mw_X9_dropWeight : mv_gg (mv_cw n_X9_dropWeight m_X9_dropWeight) = true ∧ mv_cw n_X9_dropWeight m_X9_dropWeight ∈ lw_tbl := ⟨rfl, List.mem_of_getElem? (i := 1946) rfl⟩
set_option maxRecDepth 1000000 in
theorem mw_X9_wind : mv_gg (mv_cw n_X9_wind m_X9_wind) = true ∧ mv_cw n_X9_wind m_X9_wind ∈ lw_tbl := ⟨rfl, List.mem_of_getElem? (i := 1950) rfl⟩
set_option maxRecDepth 1000000 in
theorem mw_X9_top : mv_gg (mv_cw n_X9_top m_X9_top) = true ∧ mv_cw n_X9_top m_X9_top ∈ lw_tbl := ⟨rfl, List.mem_of_getElem? (i := 1954) rfl⟩
set_option maxRecDepth 1000000 in
theorem mw_X9_tangles : mv_gg (mv_cw n_X9_tangles m_X9_tangles) = true ∧ mv_cw n_X9_tangles m_X9_tangles ∈ lw_tbl := ⟨rfl, List.mem_of_getElem? (i := 1962) rfl⟩
set_option maxRecDepth 1000000 in
theorem mw_X9_tanglesByMerging : mv_gg (mv_cw n_X9_tanglesByMerging m_X9_tanglesByMerging) = true ∧ mv_cw n_X9_tanglesByMerging m_X9_tanglesByMerging ∈ lw_tbl := ⟨rfl, List.mem_of_getElem? (i := 1966) rfl⟩
set_option maxRecDepth 1000000 in
theorem mw_X9_longestCalm : mv_gg (mv_cw n_X9_longestCalm m_X9_longestCalm) = true ∧ mv_cw n_X9_longestCalm m_X9_longestCalm ∈ lw_tbl := ⟨rfl, List.mem_of_getElem? (i := 1971) rfl⟩
set_option maxRecDepth 1000000 in
theorem mw_X9_longestCalmByTrying : mv_gg (mv_cw n_X9_longestCalmByTrying m_X9_longestCalmByTrying) = true ∧ mv_cw n_X9_longestCalmByTrying m_X9_longestCalmByTrying ∈ lw_tbl := ⟨rfl, List.mem_of_getElem? (i := 1975) rfl⟩
set_option maxRecDepth 1000000 in
theorem mw_X9_pilotCount : mv_gg (mv_cw n_X9_pilotCount m_X9_pilotCount) = true ∧ mv_cw n_X9_pilotCount m_X9_pilotCount ∈ lw_tbl := ⟨rfl, List.mem_of_getElem? (i := 1980) rfl⟩
set_option maxRecDepth 1000000 in
theorem mw_X9_isOn : mv_gg (mv_cw n_X9_isOn m_X9_isOn) = true ∧ mv_cw n_X9_isOn m_X9_isOn ∈ lw_tbl := ⟨rfl, List.mem_of_getElem? (i := 1988) rfl⟩
set_option maxRecDepth 1000000 in
theorem mw_X9_crews : mv_gg (mv_cw n_X9_crews m_X9_crews) = true ∧ mv_cw n_X9_crews m_X9_crews ∈ lw_tbl := ⟨rfl, List.mem_of_getElem? (i := 2000) rfl⟩
set_option maxRecDepth 1000000 in
theorem mw_X9_isOnDuty : mv_gg (mv_cw n_X9_isOnDuty m_X9_isOnDuty) = true ∧ mv_cw n_X9_isOnDuty m_X9_isOnDuty ∈ lw_tbl := ⟨rfl, List.mem_of_getElem? (i := 1984) rfl⟩
set_option maxRecDepth 1000000 in
theorem mw_X9_canCrew : mv_gg (mv_cw n_X9_canCrew m_X9_canCrew) = true ∧ mv_cw n_X9_canCrew m_X9_canCrew ∈ lw_tbl := ⟨rfl, List.mem_of_getElem? (i := 1996) rfl⟩
set_option maxRecDepth 1000000 in
theorem mw_X9_mostCrewed : mv_gg (mv_cw n_X9_mostCrewed m_X9_mostCrewed) = true ∧ mv_cw n_X9_mostCrewed m_X9_mostCrewed ∈ lw_tbl := ⟨rfl, List.mem_of_getElem? (i := 2004) rfl⟩
set_option maxRecDepth 1000000 in
theorem mw_X9_mostCrewedBySets : mv_gg (mv_cw n_X9_mostCrewedBySets m_X9_mostCrewedBySets) = true ∧ mv_cw n_X9_mostCrewedBySets m_X9_mostCrewedBySets ∈ lw_tbl := ⟨rfl, List.mem_of_getElem? (i := 2008) rfl⟩
set_option maxRecDepth 1000000 in
theorem mw_X9_burstsAhead : mv_gg (mv_cw n_X9_burstsAhead m_X9_burstsAhead) = true ∧ mv_cw n_X9_burstsAhead m_X9_burstsAhead ∈ lw_tbl := ⟨rfl, List.mem_of_getElem? (i := 2013) rfl⟩
set_option maxRecDepth 1000000 in
theorem mw_X9_hour : mv_gg (mv_cw n_X9_hour m_X9_hour) = true ∧ mv_cw n_X9_hour m_X9_hour ∈ lw_tbl := ⟨rfl, List.mem_of_getElem? (i := 2017) rfl⟩
set_option maxRecDepth 1000000 in
theorem mw_X9_bursts : mv_gg (mv_cw n_X9_bursts m_X9_bursts) = true ∧ mv_cw n_X9_bursts m_X9_bursts ∈ lw_tbl := ⟨rfl, List.mem_of_getElem? (i := 2021) rfl⟩
set_option maxRecDepth 1000000 in
theorem mw_X9_loaded : mv_gg (mv_cw n_X9_loaded m_X9_loaded) = true ∧ mv_cw n_X9_loaded m_X9_loaded ∈ lw_tbl := ⟨rfl, List.mem_of_getElem? (i := 2025) rfl⟩
set_option maxRecDepth 1000000 in
theorem mw_X9_aboard : mv_gg (mv_cw n_X9_aboard m_X9_aboard) = true ∧ mv_cw n_X9_aboard m_X9_aboard ∈ lw_tbl := ⟨rfl, List.mem_of_getElem? (i := 2029) rfl⟩
set_option maxRecDepth 1000000 in
theorem mw_X9_dropped : mv_gg (mv_cw n_X9_dropped m_X9_dropped) = true ∧ mv_cw n_X9_dropped m_X9_dropped ∈ lw_tbl := ⟨rfl, List.mem_of_getElem? (i := 2033) rfl⟩
set_option maxRecDepth 1000000 in
theorem mw_X9_lost : mv_gg (mv_cw n_X9_lost m_X9_lost) = true ∧ mv_cw n_X9_lost m_X9_lost ∈ lw_tbl := ⟨rfl, List.mem_of_getElem? (i := 2037) rfl⟩
set_option maxRecDepth 1000000 in
theorem mw_X9_meanHeight : mv_gg (mv_cw n_X9_meanHeight m_X9_meanHeight) = true ∧ mv_cw n_X9_meanHeight m_X9_meanHeight ∈ lw_tbl := ⟨rfl, List.mem_of_getElem? (i := 2041) rfl⟩
set_option maxRecDepth 1000000 in
theorem mw_X9_strain : mv_gg (mv_cw n_X9_strain m_X9_strain) = true ∧ mv_cw n_X9_strain m_X9_strain ∈ lw_tbl := ⟨rfl, List.mem_of_getElem? (i := 2046) rfl⟩
set_option maxRecDepth 1000000 in
theorem mw_X9_feed : mv_gg (mv_cw n_X9_feed m_X9_feed) = true ∧ mv_cw n_X9_feed m_X9_feed ∈ lw_tbl := ⟨rfl, List.mem_of_getElem? (i := 2050) rfl⟩
set_option maxRecDepth 1000000 in
theorem mw_X9_here : mv_gg (mv_cw n_X9_here m_X9_here) = true ∧ mv_cw n_X9_here m_X9_here ∈ lw_tbl := ⟨rfl, List.mem_of_getElem? (i := 2062) rfl⟩
set_option maxRecDepth 1000000 in
theorem mw_X9_says : mv_gg (mv_cw n_X9_says m_X9_says) = true ∧ mv_cw n_X9_says m_X9_says ∈ lw_tbl := ⟨rfl, List.mem_of_getElem? (i := 2071) rfl⟩
set_option maxRecDepth 1000000 in
theorem mw_X9_number : mv_gg (mv_cw n_X9_number m_X9_number) = true ∧ mv_cw n_X9_number m_X9_number ∈ lw_tbl := ⟨rfl, List.mem_of_getElem? (i := 2067) rfl⟩
set_option maxRecDepth 1000000 in
theorem mw_X9_readsWind : mv_gg (mv_cw n_X9_readsWind m_X9_readsWind) = true ∧ mv_cw n_X9_readsWind m_X9_readsWind ∈ lw_tbl := ⟨rfl, List.mem_of_getElem? (i := 2084) rfl⟩
set_option maxRecDepth 1000000 in
theorem mw_X9_readsOne : mv_gg (mv_cw n_X9_readsOne m_X9_readsOne) = true ∧ mv_cw n_X9_readsOne m_X9_readsOne ∈ lw_tbl := ⟨rfl, List.mem_of_getElem? (i := 2058) rfl⟩
set_option maxRecDepth 1000000 in
theorem mw_X9_does : mv_gg (mv_cw n_X9_does m_X9_does) = true ∧ mv_cw n_X9_does m_X9_does ∈ lw_tbl := ⟨rfl, List.mem_of_getElem? (i := 2093) rfl⟩
set_option maxRecDepth 1000000 in
theorem mw_X9_execute : mv_gg (mv_cw n_X9_execute m_X9_execute) = true ∧ mv_cw n_X9_execute m_X9_execute ∈ lw_tbl := ⟨rfl, List.mem_of_getElem? (i := 2054) rfl⟩
set_option maxRecDepth 1000000 in
theorem mw_X9_faultPosition : mv_gg (mv_cw n_X9_faultPosition m_X9_faultPosition) = true ∧ mv_cw n_X9_faultPosition m_X9_faultPosition ∈ lw_tbl := ⟨rfl, List.mem_of_getElem? (i := 2097) rfl⟩
set_option maxRecDepth 1000000 in
theorem mw_X9_writes : mv_gg (mv_cw n_X9_writes m_X9_writes) = true ∧ mv_cw n_X9_writes m_X9_writes ∈ lw_tbl := ⟨rfl, List.mem_of_getElem? (i := 2109) rfl⟩
set_option maxRecDepth 1000000 in
theorem mw_X9_writesNumber : mv_gg (mv_cw n_X9_writesNumber m_X9_writesNumber) = true ∧ mv_cw n_X9_writesNumber m_X9_writesNumber ∈ lw_tbl := ⟨rfl, List.mem_of_getElem? (i := 2105) rfl⟩
set_option maxRecDepth 1000000 in
theorem mw_X9_writeBalloon : mv_gg (mv_cw n_X9_writeBalloon m_X9_writeBalloon) = true ∧ mv_cw n_X9_writeBalloon m_X9_writeBalloon ∈ lw_tbl := ⟨rfl, List.mem_of_getElem? (i := 2101) rfl⟩
set_option maxRecDepth 1000000 in
theorem mw_X9_lineCharacter : mv_gg (mv_cw n_X9_lineCharacter m_X9_lineCharacter) = true ∧ mv_cw n_X9_lineCharacter m_X9_lineCharacter ∈ lw_tbl := ⟨rfl, List.mem_of_getElem? (i := 2113) rfl⟩
set_option maxRecDepth 1000000 in
theorem mw_X9_denial : mv_gg (mv_cw n_X9_denial m_X9_denial) = true ∧ mv_cw n_X9_denial m_X9_denial ∈ lw_tbl := ⟨rfl, List.mem_of_getElem? (i := 2117) rfl⟩
set_option maxRecDepth 1000000 in
theorem mw_X9_denialDetail : mv_gg (mv_cw n_X9_denialDetail m_X9_denialDetail) = true ∧ mv_cw n_X9_denialDetail m_X9_denialDetail ∈ lw_tbl := ⟨rfl, List.mem_of_getElem? (i := 2121) rfl⟩
set_option maxRecDepth 1000000 in
theorem mw_X9_denialCause : mv_gg (mv_cw n_X9_denialCause m_X9_denialCause) = true ∧ mv_cw n_X9_denialCause m_X9_denialCause ∈ lw_tbl := ⟨rfl, List.mem_of_getElem? (i := 2125) rfl⟩
set_option maxRecDepth 1000000 in
theorem mw_X9_undo : mv_gg (mv_cw n_X9_undo m_X9_undo) = true ∧ mv_cw n_X9_undo m_X9_undo ∈ lw_tbl := ⟨rfl, List.mem_of_getElem? (i := 2129) rfl⟩
set_option maxRecDepth 1000000 in
theorem mw_X9_undoCount : mv_gg (mv_cw n_X9_undoCount m_X9_undoCount) = true ∧ mv_cw n_X9_undoCount m_X9_undoCount ∈ lw_tbl := ⟨rfl, List.mem_of_getElem? (i := 2133) rfl⟩
set_option maxRecDepth 1000000 in
theorem mw_X9_saveSnapshot : mv_gg (mv_cw n_X9_saveSnapshot m_X9_saveSnapshot) = true ∧ mv_cw n_X9_saveSnapshot m_X9_saveSnapshot ∈ lw_tbl := ⟨rfl, List.mem_of_getElem? (i := 2137) rfl⟩
set_option maxRecDepth 1000000 in
theorem mw_X9_restoreSnapshot : mv_gg (mv_cw n_X9_restoreSnapshot m_X9_restoreSnapshot) = true ∧ mv_cw n_X9_restoreSnapshot m_X9_restoreSnapshot ∈ lw_tbl := ⟨rfl, List.mem_of_getElem? (i := 2141) rfl⟩
set_option maxRecDepth 1000000 in
theorem mw_J5_init_d00df : mv_gg (mv_cw n_J5_init_d00df m_J5_init_d00df) = true ∧ mv_cw n_J5_init_d00df m_J5_init_d00df ∈ lw_tbl := ⟨rfl, List.mem_of_getElem? (i := 309) rfl⟩
set_option maxRecDepth 1000000 in
theorem mw_J5_length_8abf5 : mv_gg (mv_cw n_J5_length_8abf5 m_J5_length_8abf5) = true ∧ mv_cw n_J5_length_8abf5 m_J5_length_8abf5 ∈ lw_tbl := ⟨rfl, List.mem_of_getElem? (i := 1469) rfl⟩
set_option maxRecDepth 1000000 in
theorem mw_J5_ensureCapacityInternal_d00df : mv_gg (mv_cw n_J5_ensureCapacityInternal_d00df m_J5_ensureCapacityInternal_d00df) = true ∧ mv_cw n_J5_ensureCapacityInternal_d00df m_J5_ensureCapacityInternal_d00df ∈ lw_tbl := ⟨rfl, List.mem_of_getElem? (i := 1339) rfl⟩
set_option maxRecDepth 1000000 in
theorem mw_J5_newCapacity_0f7a4 : mv_gg (mv_cw n_J5_newCapacity_0f7a4 m_J5_newCapacity_0f7a4) = true ∧ mv_cw n_J5_newCapacity_0f7a4 m_J5_newCapacity_0f7a4 ∈ lw_tbl := ⟨rfl, List.mem_of_getElem? (i := 1343) rfl⟩
set_option maxRecDepth 1000000 in
theorem mw_J5_setLength_d00df : mv_gg (mv_cw n_J5_setLength_d00df m_J5_setLength_d00df) = true ∧ mv_cw n_J5_setLength_d00df m_J5_setLength_d00df ∈ lw_tbl := ⟨rfl, List.mem_of_getElem? (i := 1316) rfl⟩
set_option maxRecDepth 1000000 in
theorem mw_J5_charAt_5068e : mv_gg (mv_cw n_J5_charAt_5068e m_J5_charAt_5068e) = true ∧ mv_cw n_J5_charAt_5068e m_J5_charAt_5068e ∈ lw_tbl := ⟨rfl, List.mem_of_getElem? (i := 1567) rfl⟩
set_option maxRecDepth 1000000 in
theorem mw_J5_append_3fe6f : mv_gg (mv_cw n_J5_append_3fe6f m_J5_append_3fe6f) = true ∧ mv_cw n_J5_append_3fe6f m_J5_append_3fe6f ∈ lw_tbl := ⟨rfl, List.mem_of_getElem? (i := 1546) rfl⟩
set_option maxRecDepth 1000000 in
theorem mw_J5_append_c97b9 : mv_gg (mv_cw n_J5_append_c97b9 m_J5_append_c97b9) = true ∧ mv_cw n_J5_append_c97b9 m_J5_append_c97b9 ∈ lw_tbl := ⟨rfl, List.mem_of_getElem? (i := 1426) rfl⟩
set_option maxRecDepth 1000000 in
theorem mw_J5_isLatin1_aae02 : mv_gg (mv_cw n_J5_isLatin1_aae02 m_J5_isLatin1_aae02) = true ∧ mv_cw n_J5_isLatin1_aae02 m_J5_isLatin1_aae02 ∈ lw_tbl := ⟨rfl, List.mem_of_getElem? (i := 1369) rfl⟩
set_option maxRecDepth 1000000 in
theorem mw_J6_getChars_ba4f3 : mv_gg (mv_cw n_J6_getChars_ba4f3 m_J6_getChars_ba4f3) = true ∧ mv_cw n_J6_getChars_ba4f3 m_J6_getChars_ba4f3 ∈ lw_tbl := ⟨rfl, List.mem_of_getElem? (i := 1432) rfl⟩
set_option maxRecDepth 1000000 in
theorem mw_J6_stringSize_0f7a4 : mv_gg (mv_cw n_J6_stringSize_0f7a4 m_J6_stringSize_0f7a4) = true ∧ mv_cw n_J6_stringSize_0f7a4 m_J6_stringSize_0f7a4 ∈ lw_tbl := ⟨rfl, List.mem_of_getElem? (i := 1429) rfl⟩
set_option maxRecDepth 1000000 in
theorem mw_J6_bitCount_0f7a4 : mv_gg (mv_cw n_J6_bitCount_0f7a4 m_J6_bitCount_0f7a4) = true ∧ mv_cw n_J6_bitCount_0f7a4 m_J6_bitCount_0f7a4 ∈ lw_tbl := ⟨rfl, List.mem_of_getElem? (i := 513) rfl⟩
set_option maxRecDepth 1000000 in
theorem mw_J9_abs_0f7a4 : mv_gg (mv_cw n_J9_abs_0f7a4 m_J9_abs_0f7a4) = true ∧ mv_cw n_J9_abs_0f7a4 m_J9_abs_0f7a4 ∈ lw_tbl := ⟨rfl, List.mem_of_getElem? (i := 1079) rfl⟩
set_option maxRecDepth 1000000 in
theorem mw_J9_max_7cf53 : mv_gg (mv_cw n_J9_max_7cf53 m_J9_max_7cf53) = true ∧ mv_cw n_J9_max_7cf53 m_J9_max_7cf53 ∈ lw_tbl := ⟨rfl, List.mem_of_getElem? (i := 519) rfl⟩
set_option maxRecDepth 1000000 in
theorem mw_J9_min_7cf53 : mv_gg (mv_cw n_J9_min_7cf53 m_J9_min_7cf53) = true ∧ mv_cw n_J9_min_7cf53 m_J9_min_7cf53 ∈ lw_tbl := ⟨rfl, List.mem_of_getElem? (i := 808) rfl⟩
set_option maxRecDepth 1000000 in
theorem mw_J0_length_8abf5 : mv_gg (mv_cw n_J0_length_8abf5 m_J0_length_8abf5) = true ∧ mv_cw n_J0_length_8abf5 m_J0_length_8abf5 ∈ lw_tbl := ⟨rfl, List.mem_of_getElem? (i := 1234) rfl⟩
set_option maxRecDepth 1000000 in
theorem mw_J0_charAt_5068e : mv_gg (mv_cw n_J0_charAt_5068e m_J0_charAt_5068e) = true ∧ mv_cw n_J0_charAt_5068e m_J0_charAt_5068e ∈ lw_tbl := ⟨rfl, List.mem_of_getElem? (i := 1243) rfl⟩
set_option maxRecDepth 1000000 in
theorem mw_J0_coder_7d493 : mv_gg (mv_cw n_J0_coder_7d493 m_J0_coder_7d493) = true ∧ mv_cw n_J0_coder_7d493 m_J0_coder_7d493 ∈ lw_tbl := ⟨rfl, List.mem_of_getElem? (i := 1238) rfl⟩
set_option maxRecDepth 1000000 in
theorem mw_J0_isLatin1_aae02 : mv_gg (mv_cw n_J0_isLatin1_aae02 m_J0_isLatin1_aae02) = true ∧ mv_cw n_J0_isLatin1_aae02 m_J0_isLatin1_aae02 ∈ lw_tbl := ⟨rfl, List.mem_of_getElem? (i := 1247) rfl⟩
set_option maxRecDepth 1000000 in
theorem mw_J0_checkIndex_df160 : mv_gg (mv_cw n_J0_checkIndex_df160 m_J0_checkIndex_df160) = true ∧ mv_cw n_J0_checkIndex_df160 m_J0_checkIndex_df160 ∈ lw_tbl := ⟨rfl, List.mem_of_getElem? (i := 1253) rfl⟩
set_option maxRecDepth 1000000 in
theorem mw_J4_init_da8c8 : mv_gg (mv_cw n_J4_init_da8c8 m_J4_init_da8c8) = true ∧ mv_cw n_J4_init_da8c8 m_J4_init_da8c8 ∈ lw_tbl := ⟨rfl, List.mem_of_getElem? (i := 306) rfl⟩
set_option maxRecDepth 1000000 in
theorem mw_J4_append_cf468 : mv_gg (mv_cw n_J4_append_cf468 m_J4_append_cf468) = true ∧ mv_cw n_J4_append_cf468 m_J4_append_cf468 ∈ lw_tbl := ⟨rfl, List.mem_of_getElem? (i := 1543) rfl⟩
set_option maxRecDepth 1000000 in
theorem mw_J4_append_bf812 : mv_gg (mv_cw n_J4_append_bf812 m_J4_append_bf812) = true ∧ mv_cw n_J4_append_bf812 m_J4_append_bf812 ∈ lw_tbl := ⟨rfl, List.mem_of_getElem? (i := 1423) rfl⟩
set_option maxRecDepth 1000000 in
theorem mw_J4_charAt_5068e : mv_gg (mv_cw n_J4_charAt_5068e m_J4_charAt_5068e) = true ∧ mv_cw n_J4_charAt_5068e m_J4_charAt_5068e ∈ lw_tbl := ⟨rfl, List.mem_of_getElem? (i := 1564) rfl⟩
set_option maxRecDepth 1000000 in
theorem mw_J4_setLength_d00df : mv_gg (mv_cw n_J4_setLength_d00df m_J4_setLength_d00df) = true ∧ mv_cw n_J4_setLength_d00df m_J4_setLength_d00df ∈ lw_tbl := ⟨rfl, List.mem_of_getElem? (i := 1313) rfl⟩
set_option maxRecDepth 1000000 in
theorem mw_J4_length_8abf5 : mv_gg (mv_cw n_J4_length_8abf5 m_J4_length_8abf5) = true ∧ mv_cw n_J4_length_8abf5 m_J4_length_8abf5 ∈ lw_tbl := ⟨rfl, List.mem_of_getElem? (i := 1467) rfl⟩
set_option maxRecDepth 1000000 in
theorem mw_J1_charAt_3b067 : mv_gg (mv_cw n_J1_charAt_3b067 m_J1_charAt_3b067) = true ∧ mv_cw n_J1_charAt_3b067 m_J1_charAt_3b067 ∈ lw_tbl := ⟨rfl, List.mem_of_getElem? (i := 1250) rfl⟩
set_option maxRecDepth 1000000 in
theorem mw_J1_canEncode_fc78d : mv_gg (mv_cw n_J1_canEncode_fc78d m_J1_canEncode_fc78d) = true ∧ mv_cw n_J1_canEncode_fc78d m_J1_canEncode_fc78d ∈ lw_tbl := ⟨rfl, List.mem_of_getElem? (i := 1549) rfl⟩
set_option maxRecDepth 1000000 in
theorem mw_J7_fill_53178 : mv_gg (mv_cw n_J7_fill_53178 m_J7_fill_53178) = true ∧ mv_cw n_J7_fill_53178 m_J7_fill_53178 ∈ lw_tbl := ⟨rfl, List.mem_of_getElem? (i := 478) rfl⟩
set_option maxRecDepth 1000000 in
theorem mw_J7_copyOf_9075b : mv_gg (mv_cw n_J7_copyOf_9075b m_J7_copyOf_9075b) = true ∧ mv_cw n_J7_copyOf_9075b m_J7_copyOf_9075b ∈ lw_tbl := ⟨rfl, List.mem_of_getElem? (i := 1355) rfl⟩
set_option maxRecDepth 1000000 in
theorem mw_J8_newLength_cabcc : mv_gg (mv_cw n_J8_newLength_cabcc m_J8_newLength_cabcc) = true ∧ mv_cw n_J8_newLength_cabcc m_J8_newLength_cabcc ∈ lw_tbl := ⟨rfl, List.mem_of_getElem? (i := 1346) rfl⟩
set_option maxRecDepth 1000000 in
theorem mw_J3_checkIndex_8e157 : mv_gg (mv_cw n_J3_checkIndex_8e157 m_J3_checkIndex_8e157) = true ∧ mv_cw n_J3_checkIndex_8e157 m_J3_checkIndex_8e157 ∈ lw_tbl := ⟨rfl, List.mem_of_getElem? (i := 1258) rfl⟩
set_option maxRecDepth 1000000 in
theorem mw_L_moor : mv_gg (mv_cw n_L_moor m_L_moor) = true ∧ mv_cw n_L_moor m_L_moor ∈ lw_tbl := ⟨rfl, List.mem_of_getElem? (i := 616) rfl⟩
set_option maxRecDepth 1000000 in
theorem mw_L_castOff : mv_gg (mv_cw n_L_castOff m_L_castOff) = true ∧ mv_cw n_L_castOff m_L_castOff ∈ lw_tbl := ⟨rfl, List.mem_of_getElem? (i := 871) rfl⟩
set_option maxRecDepth 1000000 in
theorem mw_L_isMoored : mv_gg (mv_cw n_L_isMoored m_L_isMoored) = true ∧ mv_cw n_L_isMoored m_L_isMoored ∈ lw_tbl := ⟨rfl, List.mem_of_getElem? (i := 879) rfl⟩
set_option maxRecDepth 1000000 in
theorem mw_L_lift : mv_gg (mv_cw n_L_lift m_L_lift) = true ∧ mv_cw n_L_lift m_L_lift ∈ lw_tbl := ⟨rfl, List.mem_of_getElem? (i := 889) rfl⟩
set_option maxRecDepth 1000000 in
theorem mw_L_ballast : mv_gg (mv_cw n_L_ballast m_L_ballast) = true ∧ mv_cw n_L_ballast m_L_ballast ∈ lw_tbl := ⟨rfl, List.mem_of_getElem? (i := 900) rfl⟩
set_option maxRecDepth 1000000 in
theorem mw_L_height : mv_gg (mv_cw n_L_height m_L_height) = true ∧ mv_cw n_L_height m_L_height ∈ lw_tbl := ⟨rfl, List.mem_of_getElem? (i := 907) rfl⟩
set_option maxRecDepth 1000000 in
theorem mw_L_isBursting : mv_gg (mv_cw n_L_isBursting m_L_isBursting) = true ∧ mv_cw n_L_isBursting m_L_isBursting ∈ lw_tbl := ⟨rfl, List.mem_of_getElem? (i := 915) rfl⟩
set_option maxRecDepth 1000000 in
theorem mw_L_berthByHeight : mv_gg (mv_cw n_L_berthByHeight m_L_berthByHeight) = true ∧ mv_cw n_L_berthByHeight m_L_berthByHeight ∈ lw_tbl := ⟨rfl, List.mem_of_getElem? (i := 923) rfl⟩
set_option maxRecDepth 1000000 in
theorem mw_L_load : mv_gg (mv_cw n_L_load m_L_load) = true ∧ mv_cw n_L_load m_L_load ∈ lw_tbl := ⟨rfl, List.mem_of_getElem? (i := 943) rfl⟩
set_option maxRecDepth 1000000 in
theorem mw_L_drop : mv_gg (mv_cw n_L_drop m_L_drop) = true ∧ mv_cw n_L_drop m_L_drop ∈ lw_tbl := ⟨rfl, List.mem_of_getElem? (i := 950) rfl⟩
set_option maxRecDepth 1000000 in
theorem mw_L_rise : mv_gg (mv_cw n_L_rise m_L_rise) = true ∧ mv_cw n_L_rise m_L_rise ∈ lw_tbl := ⟨rfl, List.mem_of_getElem? (i := 978) rfl⟩
set_option maxRecDepth 1000000 in
theorem mw_L_bagCount : mv_gg (mv_cw n_L_bagCount m_L_bagCount) = true ∧ mv_cw n_L_bagCount m_L_bagCount ∈ lw_tbl := ⟨rfl, List.mem_of_getElem? (i := 985) rfl⟩
set_option maxRecDepth 1000000 in
theorem mw_L_bagWeight : mv_gg (mv_cw n_L_bagWeight m_L_bagWeight) = true ∧ mv_cw n_L_bagWeight m_L_bagWeight ∈ lw_tbl := ⟨rfl, List.mem_of_getElem? (i := 992) rfl⟩
set_option maxRecDepth 1000000 in
theorem mw_L_fewestDrops : mv_gg (mv_cw n_L_fewestDrops m_L_fewestDrops) = true ∧ mv_cw n_L_fewestDrops m_L_fewestDrops ∈ lw_tbl := ⟨rfl, List.mem_of_getElem? (i := 1001) rfl⟩
set_option maxRecDepth 1000000 in
theorem mw_L_fewestDropsBySets : mv_gg (mv_cw n_L_fewestDropsBySets m_L_fewestDropsBySets) = true ∧ mv_cw n_L_fewestDropsBySets m_L_fewestDropsBySets ∈ lw_tbl := ⟨rfl, List.mem_of_getElem? (i := 1021) rfl⟩
set_option maxRecDepth 1000000 in
theorem mw_L_dropWeight : mv_gg (mv_cw n_L_dropWeight m_L_dropWeight) = true ∧ mv_cw n_L_dropWeight m_L_dropWeight ∈ lw_tbl := ⟨rfl, List.mem_of_getElem? (i := 1033) rfl⟩
set_option maxRecDepth 1000000 in
theorem mw_L_setWind : mv_gg (mv_cw n_L_setWind m_L_setWind) = true ∧ mv_cw n_L_setWind m_L_setWind ∈ lw_tbl := ⟨rfl, List.mem_of_getElem? (i := 1041) rfl⟩
set_option maxRecDepth 1000000 in
theorem mw_L_wind : mv_gg (mv_cw n_L_wind m_L_wind) = true ∧ mv_cw n_L_wind m_L_wind ∈ lw_tbl := ⟨rfl, List.mem_of_getElem? (i := 1048) rfl⟩
set_option maxRecDepth 1000000 in
theorem mw_L_top : mv_gg (mv_cw n_L_top m_L_top) = true ∧ mv_cw n_L_top m_L_top ∈ lw_tbl := ⟨rfl, List.mem_of_getElem? (i := 1056) rfl⟩
set_option maxRecDepth 1000000 in
theorem mw_L_longestCalm : mv_gg (mv_cw n_L_longestCalm m_L_longestCalm) = true ∧ mv_cw n_L_longestCalm m_L_longestCalm ∈ lw_tbl := ⟨rfl, List.mem_of_getElem? (i := 1064) rfl⟩
set_option maxRecDepth 1000000 in
theorem mw_L_longestCalmByTrying : mv_gg (mv_cw n_L_longestCalmByTrying m_L_longestCalmByTrying) = true ∧ mv_cw n_L_longestCalmByTrying m_L_longestCalmByTrying ∈ lw_tbl := ⟨rfl, List.mem_of_getElem? (i := 1084) rfl⟩
set_option maxRecDepth 1000000 in
theorem mw_L_addPilot : mv_gg (mv_cw n_L_addPilot m_L_addPilot) = true ∧ mv_cw n_L_addPilot m_L_addPilot ∈ lw_tbl := ⟨rfl, List.mem_of_getElem? (i := 1095) rfl⟩
set_option maxRecDepth 1000000 in
theorem mw_L_removePilot : mv_gg (mv_cw n_L_removePilot m_L_removePilot) = true ∧ mv_cw n_L_removePilot m_L_removePilot ∈ lw_tbl := ⟨rfl, List.mem_of_getElem? (i := 1102) rfl⟩
set_option maxRecDepth 1000000 in
theorem mw_L_isOnDuty : mv_gg (mv_cw n_L_isOnDuty m_L_isOnDuty) = true ∧ mv_cw n_L_isOnDuty m_L_isOnDuty ∈ lw_tbl := ⟨rfl, List.mem_of_getElem? (i := 1109) rfl⟩
set_option maxRecDepth 1000000 in
theorem mw_L_canCrew : mv_gg (mv_cw n_L_canCrew m_L_canCrew) = true ∧ mv_cw n_L_canCrew m_L_canCrew ∈ lw_tbl := ⟨rfl, List.mem_of_getElem? (i := 1123) rfl⟩
set_option maxRecDepth 1000000 in
theorem mw_L_pass : mv_gg (mv_cw n_L_pass m_L_pass) = true ∧ mv_cw n_L_pass m_L_pass ∈ lw_tbl := ⟨rfl, List.mem_of_getElem? (i := 1131) rfl⟩
set_option maxRecDepth 1000000 in
theorem mw_L_meanHeight : mv_gg (mv_cw n_L_meanHeight m_L_meanHeight) = true ∧ mv_cw n_L_meanHeight m_L_meanHeight ∈ lw_tbl := ⟨rfl, List.mem_of_getElem? (i := 1138) rfl⟩
set_option maxRecDepth 1000000 in
theorem mw_L_strain : mv_gg (mv_cw n_L_strain m_L_strain) = true ∧ mv_cw n_L_strain m_L_strain ∈ lw_tbl := ⟨rfl, List.mem_of_getElem? (i := 1166) rfl⟩
set_option maxRecDepth 1000000 in
theorem mw_L_feed : mv_gg (mv_cw n_L_feed m_L_feed) = true ∧ mv_cw n_L_feed m_L_feed ∈ lw_tbl := ⟨rfl, List.mem_of_getElem? (i := 1173) rfl⟩
set_option maxRecDepth 1000000 in
theorem mw_L_execute : mv_gg (mv_cw n_L_execute m_L_execute) = true ∧ mv_cw n_L_execute m_L_execute ∈ lw_tbl := ⟨rfl, List.mem_of_getElem? (i := 1201) rfl⟩
set_option maxRecDepth 1000000 in
theorem mw_L_faultPosition : mv_gg (mv_cw n_L_faultPosition m_L_faultPosition) = true ∧ mv_cw n_L_faultPosition m_L_faultPosition ∈ lw_tbl := ⟨rfl, List.mem_of_getElem? (i := 1297) rfl⟩
set_option maxRecDepth 1000000 in
theorem mw_L_writeBalloon : mv_gg (mv_cw n_L_writeBalloon m_L_writeBalloon) = true ∧ mv_cw n_L_writeBalloon m_L_writeBalloon ∈ lw_tbl := ⟨rfl, List.mem_of_getElem? (i := 1305) rfl⟩
set_option maxRecDepth 1000000 in
theorem mw_L_lineCharacter : mv_gg (mv_cw n_L_lineCharacter m_L_lineCharacter) = true ∧ mv_cw n_L_lineCharacter m_L_lineCharacter ∈ lw_tbl := ⟨rfl, List.mem_of_getElem? (i := 1556) rfl⟩
set_option maxRecDepth 1000000 in
theorem mw_L_denial : mv_gg (mv_cw n_L_denial m_L_denial) = true ∧ mv_cw n_L_denial m_L_denial ∈ lw_tbl := ⟨rfl, List.mem_of_getElem? (i := 1573) rfl⟩
set_option maxRecDepth 1000000 in
theorem mw_L_denialDetail : mv_gg (mv_cw n_L_denialDetail m_L_denialDetail) = true ∧ mv_cw n_L_denialDetail m_L_denialDetail ∈ lw_tbl := ⟨rfl, List.mem_of_getElem? (i := 1585) rfl⟩
set_option maxRecDepth 1000000 in
theorem mw_L_denialCause : mv_gg (mv_cw n_L_denialCause m_L_denialCause) = true ∧ mv_cw n_L_denialCause m_L_denialCause ∈ lw_tbl := ⟨rfl, List.mem_of_getElem? (i := 1592) rfl⟩
set_option maxRecDepth 1000000 in
theorem mw_L_undo : mv_gg (mv_cw n_L_undo m_L_undo) = true ∧ mv_cw n_L_undo m_L_undo ∈ lw_tbl := ⟨rfl, List.mem_of_getElem? (i := 1600) rfl⟩
set_option maxRecDepth 1000000 in
theorem mw_L_restoreSnapshot : mv_gg (mv_cw n_L_restoreSnapshot m_L_restoreSnapshot) = true ∧ mv_cw n_L_restoreSnapshot m_L_restoreSnapshot ∈ lw_tbl := ⟨rfl, List.mem_of_getElem? (i := 1612) rfl⟩
def mv_gw (N : mv_N) (M : mv_M) : Prop := N.1.cls ≠ "BalloonHarbourLaw" ∨ N.1.name ≠ "law" → mv_gg (mv_cw N M) = true ∧ mv_cw N M ∈ lw_tbl
def mv_W1 : List (Nat × mv_N) → List (Nat × mv_M) → Prop
  | [], [] => True
  | a :: r, b :: s => a.1 = b.1 ∧ mv_gw a.2 b.2 ∧ mv_W1 r s
  | _, _ => False
theorem mv_W1_ok {i : Nat} {N : mv_N} {M : mv_M} : ∀ {l : List (Nat × mv_N)} {k : List (Nat × mv_M)}, mv_W1 l k → mv_find l i = some N → mv_find k i = some M → mv_gw N M
  | [], _, _, h, _ => by cases h
  | a :: r, [], g, _, _ => g.elim
  | (a, x) :: r, (b, y) :: s, g, h1, h2 => by
    obtain ⟨g1, g2, g3⟩ := g
    have g1 : a = b := g1
    subst g1
    unfold mv_find at h1 h2
    cases hb : Nat.beq a i with
    | true =>
      simp only [hb, cond_true, Option.some.injEq] at h1 h2
      subst h1; subst h2
      exact g2
    | false =>
      simp only [hb, cond_false] at h1 h2
      exact mv_W1_ok g3 h1 h2
theorem mW_0 : mv_W1 [(0, n_X0_init), (1, n_X0_copyFrom), (2, n_X0_begin), (3, n_X0_spareLift), (4, n_X0_heightWith), (5, n_X0_presentHeight), (6, n_X0_isOverstrained), (7, n_X0_changeLift), (8, n_X0_hasBag), (9, n_X0_addBag), (10, n_X0_removeBag), (11, n_X0_weightOf), (12, n_X0_bestDropSet), (13, n_X0_isBetter), (14, n_X0_fewestBagsByWeight), (15, n_X0_heaviestOutside)] [(0, m_X0_init), (1, m_X0_copyFrom), (2, m_X0_begin), (3, m_X0_spareLift), (4, m_X0_heightWith), (5, m_X0_presentHeight), (6, m_X0_isOverstrained), (7, m_X0_changeLift), (8, m_X0_hasBag), (9, m_X0_addBag), (10, m_X0_removeBag), (11, m_X0_weightOf), (12, m_X0_bestDropSet), (13, m_X0_isBetter), (14, m_X0_fewestBagsByWeight), (15, m_X0_heaviestOutside)] := ⟨rfl, fun _ => mw_X0_init, ⟨rfl, fun _ => mw_X0_copyFrom, ⟨rfl, fun _ => mw_X0_begin, ⟨rfl, fun _ => mw_X0_spareLift, ⟨rfl, fun _ => mw_X0_heightWith, ⟨rfl, fun _ => mw_X0_presentHeight, ⟨rfl, fun _ => mw_X0_isOverstrained, ⟨rfl, fun _ => mw_X0_changeLift, ⟨rfl, fun _ => mw_X0_hasBag, ⟨rfl, fun _ => mw_X0_addBag, ⟨rfl, fun _ => mw_X0_removeBag, ⟨rfl, fun _ => mw_X0_weightOf, ⟨rfl, fun _ => mw_X0_bestDropSet, ⟨rfl, fun _ => mw_X0_isBetter, ⟨rfl, fun _ => mw_X0_fewestBagsByWeight, ⟨rfl, fun _ => mw_X0_heaviestOutside, trivial⟩⟩⟩⟩⟩⟩⟩⟩⟩⟩⟩⟩⟩⟩⟩⟩
theorem mW_1 : mv_W1 [(16, n_X1_init), (17, n_X1_begin), (18, n_X1_add), (19, n_X1_set), (20, n_X2_init), (21, n_X2_mostByChanging), (22, n_X2_findsBalloon), (23, n_X2_mostBySets), (24, n_X2_giveToOnePilot), (25, n_X3_init), (26, n_X3_copyFrom), (27, n_X3_hasBalloon), (28, n_X3_hasPilot), (29, n_X3_hourOfDay), (30, n_X3_countBalloons), (31, n_X3_weightAboard)] [(16, m_X1_init), (17, m_X1_begin), (18, m_X1_add), (19, m_X1_set), (20, m_X2_init), (21, m_X2_mostByChanging), (22, m_X2_findsBalloon), (23, m_X2_mostBySets), (24, m_X2_giveToOnePilot), (25, m_X3_init), (26, m_X3_copyFrom), (27, m_X3_hasBalloon), (28, m_X3_hasPilot), (29, m_X3_hourOfDay), (30, m_X3_countBalloons), (31, m_X3_weightAboard)] := ⟨rfl, fun _ => mw_X1_init, ⟨rfl, fun _ => mw_X1_begin, ⟨rfl, fun _ => mw_X1_add, ⟨rfl, fun _ => mw_X1_set, ⟨rfl, fun _ => mw_X2_init, ⟨rfl, fun _ => mw_X2_mostByChanging, ⟨rfl, fun _ => mw_X2_findsBalloon, ⟨rfl, fun _ => mw_X2_mostBySets, ⟨rfl, fun _ => mw_X2_giveToOnePilot, ⟨rfl, fun _ => mw_X3_init, ⟨rfl, fun _ => mw_X3_copyFrom, ⟨rfl, fun _ => mw_X3_hasBalloon, ⟨rfl, fun _ => mw_X3_hasPilot, ⟨rfl, fun _ => mw_X3_hourOfDay, ⟨rfl, fun _ => mw_X3_countBalloons, ⟨rfl, fun _ => mw_X3_weightAboard, trivial⟩⟩⟩⟩⟩⟩⟩⟩⟩⟩⟩⟩⟩⟩⟩⟩
theorem mW_2 : mv_W1 [(32, n_X3_sumOfHeights), (33, n_X3_berthAtRank), (34, n_X3_countAhead), (35, n_X3_isAhead), (36, n_X3_topOf), (37, n_X3_calmOfTwoDays), (38, n_X3_calmByTrying), (39, n_X3_fitsCrew), (40, n_X3_refusalOf), (41, n_X3_refusalToMoor), (42, n_X3_refusalToLoad), (43, n_X3_refusalToDrop), (44, n_X3_refusalToRise), (45, n_X3_refusalOfWind), (46, n_X3_refusalOfPilot), (47, n_X3_detailOf)] [(32, m_X3_sumOfHeights), (33, m_X3_berthAtRank), (34, m_X3_countAhead), (35, m_X3_isAhead), (36, m_X3_topOf), (37, m_X3_calmOfTwoDays), (38, m_X3_calmByTrying), (39, m_X3_fitsCrew), (40, m_X3_refusalOf), (41, m_X3_refusalToMoor), (42, m_X3_refusalToLoad), (43, m_X3_refusalToDrop), (44, m_X3_refusalToRise), (45, m_X3_refusalOfWind), (46, m_X3_refusalOfPilot), (47, m_X3_detailOf)] := ⟨rfl, fun _ => mw_X3_sumOfHeights, ⟨rfl, fun _ => mw_X3_berthAtRank, ⟨rfl, fun _ => mw_X3_countAhead, ⟨rfl, fun _ => mw_X3_isAhead, ⟨rfl, fun _ => mw_X3_topOf, ⟨rfl, fun _ => mw_X3_calmOfTwoDays, ⟨rfl, fun _ => mw_X3_calmByTrying, ⟨rfl, fun _ => mw_X3_fitsCrew, ⟨rfl, fun _ => mw_X3_refusalOf, ⟨rfl, fun _ => mw_X3_refusalToMoor, ⟨rfl, fun _ => mw_X3_refusalToLoad, ⟨rfl, fun _ => mw_X3_refusalToDrop, ⟨rfl, fun _ => mw_X3_refusalToRise, ⟨rfl, fun _ => mw_X3_refusalOfWind, ⟨rfl, fun _ => mw_X3_refusalOfPilot, ⟨rfl, fun _ => mw_X3_detailOf, trivial⟩⟩⟩⟩⟩⟩⟩⟩⟩⟩⟩⟩⟩⟩⟩⟩
theorem mW_3 : mv_W1 [(48, n_X3_carryOut), (49, n_X3_putBalloon), (50, n_X3_removeBalloon), (51, n_X3_loadBag), (52, n_X3_dropBag), (53, n_X3_dropBestSet), (54, n_X3_replaceWind), (55, n_X3_putPilot), (56, n_X3_takePilot), (57, n_X3_passHours), (58, n_X3_burstBalloons), (59, n_X3_shake), (60, n_X3_queueIfOverstrained), (61, n_X4_init), (62, n_X4_remember), (63, n_X4_bringBack)] [(48, m_X3_carryOut), (49, m_X3_putBalloon), (50, m_X3_removeBalloon), (51, m_X3_loadBag), (52, m_X3_dropBag), (53, m_X3_dropBestSet), (54, m_X3_replaceWind), (55, m_X3_putPilot), (56, m_X3_takePilot), (57, m_X3_passHours), (58, m_X3_burstBalloons), (59, m_X3_shake), (60, m_X3_queueIfOverstrained), (61, m_X4_init), (62, m_X4_remember), (63, m_X4_bringBack)] := ⟨rfl, fun _ => mw_X3_carryOut, ⟨rfl, fun _ => mw_X3_putBalloon, ⟨rfl, fun _ => mw_X3_removeBalloon, ⟨rfl, fun _ => mw_X3_loadBag, ⟨rfl, fun _ => mw_X3_dropBag, ⟨rfl, fun _ => mw_X3_dropBestSet, ⟨rfl, fun _ => mw_X3_replaceWind, ⟨rfl, fun _ => mw_X3_putPilot, ⟨rfl, fun _ => mw_X3_takePilot, ⟨rfl, fun _ => mw_X3_passHours, ⟨rfl, fun _ => mw_X3_burstBalloons, ⟨rfl, fun _ => mw_X3_shake, ⟨rfl, fun _ => mw_X3_queueIfOverstrained, ⟨rfl, fun _ => mw_X4_init, ⟨rfl, fun _ => mw_X4_remember, ⟨rfl, fun _ => mw_X4_bringBack, trivial⟩⟩⟩⟩⟩⟩⟩⟩⟩⟩⟩⟩⟩⟩⟩⟩
theorem mW_4 : mv_W1 [(64, n_X5_init), (65, n_X5_set), (66, n_X5_copyFrom), (67, n_X5_worksAt), (68, n_X6_init), (69, n_X6_append), (70, n_X6_read), (71, n_X6_readCommand), (72, n_X6_readAs), (73, n_X6_formOf), (74, n_X6_readPart), (75, n_X6_readNumber), (76, n_X6_readCharacter), (77, n_X7_init), (78, n_X7_collect), (79, n_X7_tangledByPairs)] [(64, m_X5_init), (65, m_X5_set), (66, m_X5_copyFrom), (67, m_X5_worksAt), (68, m_X6_init), (69, m_X6_append), (70, m_X6_read), (71, m_X6_readCommand), (72, m_X6_readAs), (73, m_X6_formOf), (74, m_X6_readPart), (75, m_X6_readNumber), (76, m_X6_readCharacter), (77, m_X7_init), (78, m_X7_collect), (79, m_X7_tangledByPairs)] := ⟨rfl, fun _ => mw_X5_init, ⟨rfl, fun _ => mw_X5_set, ⟨rfl, fun _ => mw_X5_copyFrom, ⟨rfl, fun _ => mw_X5_worksAt, ⟨rfl, fun _ => mw_X6_init, ⟨rfl, fun _ => mw_X6_append, ⟨rfl, fun _ => mw_X6_read, ⟨rfl, fun _ => mw_X6_readCommand, ⟨rfl, fun _ => mw_X6_readAs, ⟨rfl, fun _ => mw_X6_formOf, ⟨rfl, fun _ => mw_X6_readPart, ⟨rfl, fun _ => mw_X6_readNumber, ⟨rfl, fun _ => mw_X6_readCharacter, ⟨rfl, fun _ => mw_X7_init, ⟨rfl, fun _ => mw_X7_collect, ⟨rfl, fun _ => mw_X7_tangledByPairs, trivial⟩⟩⟩⟩⟩⟩⟩⟩⟩⟩⟩⟩⟩⟩⟩⟩
theorem mW_5 : mv_W1 [(80, n_X7_tangledByMerging), (81, n_X7_sortAndCount), (82, n_X7_mergeAndCount), (83, n_X8_init), (84, n_X8_moor), (85, n_X8_castOff), (86, n_X8_balloonCount), (87, n_X8_isMoored), (88, n_X8_lift), (89, n_X8_ballast), (90, n_X8_height), (91, n_X8_isBursting), (92, n_X8_berthByHeight), (93, n_X8_load), (94, n_X8_drop), (95, n_X8_rise)] [(80, m_X7_tangledByMerging), (81, m_X7_sortAndCount), (82, m_X7_mergeAndCount), (83, m_X8_init), (84, m_X8_moor), (85, m_X8_castOff), (86, m_X8_balloonCount), (87, m_X8_isMoored), (88, m_X8_lift), (89, m_X8_ballast), (90, m_X8_height), (91, m_X8_isBursting), (92, m_X8_berthByHeight), (93, m_X8_load), (94, m_X8_drop), (95, m_X8_rise)] := ⟨rfl, fun _ => mw_X7_tangledByMerging, ⟨rfl, fun _ => mw_X7_sortAndCount, ⟨rfl, fun _ => mw_X7_mergeAndCount, ⟨rfl, fun _ => mw_X8_init, ⟨rfl, fun _ => mw_X8_moor, ⟨rfl, fun _ => mw_X8_castOff, ⟨rfl, fun _ => mw_X8_balloonCount, ⟨rfl, fun _ => mw_X8_isMoored, ⟨rfl, fun _ => mw_X8_lift, ⟨rfl, fun _ => mw_X8_ballast, ⟨rfl, fun _ => mw_X8_height, ⟨rfl, fun _ => mw_X8_isBursting, ⟨rfl, fun _ => mw_X8_berthByHeight, ⟨rfl, fun _ => mw_X8_load, ⟨rfl, fun _ => mw_X8_drop, ⟨rfl, fun _ => mw_X8_rise, trivial⟩⟩⟩⟩⟩⟩⟩⟩⟩⟩⟩⟩⟩⟩⟩⟩
theorem mW_6 : mv_W1 [(96, n_X8_bagCount), (97, n_X8_bagWeight), (98, n_X8_fewestDrops), (99, n_X8_fewestDropsBySets), (100, n_X8_dropWeight), (101, n_X8_setWind), (102, n_X8_wind), (103, n_X8_top), (104, n_X8_tangles), (105, n_X8_tanglesByMerging), (106, n_X8_longestCalm), (107, n_X8_longestCalmByTrying), (108, n_X8_addPilot), (109, n_X8_removePilot), (110, n_X8_pilotCount), (111, n_X8_isOnDuty)] [(96, m_X8_bagCount), (97, m_X8_bagWeight), (98, m_X8_fewestDrops), (99, m_X8_fewestDropsBySets), (100, m_X8_dropWeight), (101, m_X8_setWind), (102, m_X8_wind), (103, m_X8_top), (104, m_X8_tangles), (105, m_X8_tanglesByMerging), (106, m_X8_longestCalm), (107, m_X8_longestCalmByTrying), (108, m_X8_addPilot), (109, m_X8_removePilot), (110, m_X8_pilotCount), (111, m_X8_isOnDuty)] := ⟨rfl, fun _ => mw_X8_bagCount, ⟨rfl, fun _ => mw_X8_bagWeight, ⟨rfl, fun _ => mw_X8_fewestDrops, ⟨rfl, fun _ => mw_X8_fewestDropsBySets, ⟨rfl, fun _ => mw_X8_dropWeight, ⟨rfl, fun _ => mw_X8_setWind, ⟨rfl, fun _ => mw_X8_wind, ⟨rfl, fun _ => mw_X8_top, ⟨rfl, fun _ => mw_X8_tangles, ⟨rfl, fun _ => mw_X8_tanglesByMerging, ⟨rfl, fun _ => mw_X8_longestCalm, ⟨rfl, fun _ => mw_X8_longestCalmByTrying, ⟨rfl, fun _ => mw_X8_addPilot, ⟨rfl, fun _ => mw_X8_removePilot, ⟨rfl, fun _ => mw_X8_pilotCount, ⟨rfl, fun _ => mw_X8_isOnDuty, trivial⟩⟩⟩⟩⟩⟩⟩⟩⟩⟩⟩⟩⟩⟩⟩⟩
theorem mW_7 : mv_W1 [(112, n_X8_canCrew), (113, n_X8_mostCrewed), (114, n_X8_mostCrewedBySets), (115, n_X8_pass), (116, n_X8_burstsAhead), (117, n_X8_hour), (118, n_X8_bursts), (119, n_X8_loaded), (120, n_X8_aboard), (121, n_X8_dropped), (122, n_X8_lost), (123, n_X8_meanHeight), (124, n_X8_strain), (125, n_X8_feed), (126, n_X8_execute), (127, n_X8_faultPosition)] [(112, m_X8_canCrew), (113, m_X8_mostCrewed), (114, m_X8_mostCrewedBySets), (115, m_X8_pass), (116, m_X8_burstsAhead), (117, m_X8_hour), (118, m_X8_bursts), (119, m_X8_loaded), (120, m_X8_aboard), (121, m_X8_dropped), (122, m_X8_lost), (123, m_X8_meanHeight), (124, m_X8_strain), (125, m_X8_feed), (126, m_X8_execute), (127, m_X8_faultPosition)] := ⟨rfl, fun _ => mw_X8_canCrew, ⟨rfl, fun _ => mw_X8_mostCrewed, ⟨rfl, fun _ => mw_X8_mostCrewedBySets, ⟨rfl, fun _ => mw_X8_pass, ⟨rfl, fun _ => mw_X8_burstsAhead, ⟨rfl, fun _ => mw_X8_hour, ⟨rfl, fun _ => mw_X8_bursts, ⟨rfl, fun _ => mw_X8_loaded, ⟨rfl, fun _ => mw_X8_aboard, ⟨rfl, fun _ => mw_X8_dropped, ⟨rfl, fun _ => mw_X8_lost, ⟨rfl, fun _ => mw_X8_meanHeight, ⟨rfl, fun _ => mw_X8_strain, ⟨rfl, fun _ => mw_X8_feed, ⟨rfl, fun _ => mw_X8_execute, ⟨rfl, fun _ => mw_X8_faultPosition, trivial⟩⟩⟩⟩⟩⟩⟩⟩⟩⟩⟩⟩⟩⟩⟩⟩
theorem mW_8 : mv_W1 [(128, n_X8_writeBalloon), (129, n_X8_lineCharacter), (130, n_X8_denial), (131, n_X8_denialDetail), (132, n_X8_denialCause), (133, n_X8_undo), (134, n_X8_undoCount), (135, n_X8_saveSnapshot), (136, n_X8_restoreSnapshot), (137, n_X8_change), (138, n_X8_refuse), (139, n_X8_keepDenial), (140, n_X8_balloonAt), (141, n_X8_requirePilot), (142, n_X8_requireDenial), (143, n_X8_requireHeight)] [(128, m_X8_writeBalloon), (129, m_X8_lineCharacter), (130, m_X8_denial), (131, m_X8_denialDetail), (132, m_X8_denialCause), (133, m_X8_undo), (134, m_X8_undoCount), (135, m_X8_saveSnapshot), (136, m_X8_restoreSnapshot), (137, m_X8_change), (138, m_X8_refuse), (139, m_X8_keepDenial), (140, m_X8_balloonAt), (141, m_X8_requirePilot), (142, m_X8_requireDenial), (143, m_X8_requireHeight)] := ⟨rfl, fun _ => mw_X8_writeBalloon, ⟨rfl, fun _ => mw_X8_lineCharacter, ⟨rfl, fun _ => mw_X8_denial, ⟨rfl, fun _ => mw_X8_denialDetail, ⟨rfl, fun _ => mw_X8_denialCause, ⟨rfl, fun _ => mw_X8_undo, ⟨rfl, fun _ => mw_X8_undoCount, ⟨rfl, fun _ => mw_X8_saveSnapshot, ⟨rfl, fun _ => mw_X8_restoreSnapshot, ⟨rfl, fun _ => mw_X8_change, ⟨rfl, fun _ => mw_X8_refuse, ⟨rfl, fun _ => mw_X8_keepDenial, ⟨rfl, fun _ => mw_X8_balloonAt, ⟨rfl, fun _ => mw_X8_requirePilot, ⟨rfl, fun _ => mw_X8_requireDenial, ⟨rfl, fun _ => mw_X8_requireHeight, trivial⟩⟩⟩⟩⟩⟩⟩⟩⟩⟩⟩⟩⟩⟩⟩⟩
theorem mW_9 : mv_W1 [(144, n_X8_requireWindStrength), (145, n_X8_requireDropSet), (146, n_X8_isWithin), (147, n_X9_init), (148, n_X9_thrown), (149, n_X9_fails), (150, n_X9_in), (151, n_X9_remembers), (152, n_X9_changed), (153, n_X9_done), (154, n_X9_denied), (155, n_X9_ends), (156, n_X9_isBerth), (157, n_X9_isHour), (158, n_X9_of), (159, n_X9_sets)] [(144, m_X8_requireWindStrength), (145, m_X8_requireDropSet), (146, m_X8_isWithin), (147, m_X9_init), (148, m_X9_thrown), (149, m_X9_fails), (150, m_X9_in), (151, m_X9_remembers), (152, m_X9_changed), (153, m_X9_done), (154, m_X9_denied), (155, m_X9_ends), (156, m_X9_isBerth), (157, m_X9_isHour), (158, m_X9_of), (159, m_X9_sets)] := ⟨rfl, fun _ => mw_X8_requireWindStrength, ⟨rfl, fun _ => mw_X8_requireDropSet, ⟨rfl, fun _ => mw_X8_isWithin, ⟨rfl, fun _ => mw_X9_init, ⟨rfl, fun _ => mw_X9_thrown, ⟨rfl, fun _ => mw_X9_fails, ⟨rfl, fun _ => mw_X9_in, ⟨rfl, fun _ => mw_X9_remembers, ⟨rfl, fun _ => mw_X9_changed, ⟨rfl, fun _ => mw_X9_done, ⟨rfl, fun _ => mw_X9_denied, ⟨rfl, fun _ => mw_X9_ends, ⟨rfl, fun _ => mw_X9_isBerth, ⟨rfl, fun _ => mw_X9_isHour, ⟨rfl, fun _ => mw_X9_of, ⟨rfl, fun _ => mw_X9_sets, trivial⟩⟩⟩⟩⟩⟩⟩⟩⟩⟩⟩⟩⟩⟩⟩⟩
theorem mW_10 : mv_W1 [(160, n_X9_isHere), (161, n_X9_isPilot), (162, n_X9_pilot), (163, n_X9_now), (164, n_X9_ballastWithout), (165, n_X9_spare), (166, n_X9_highOf), (167, n_X9_high), (168, n_X9_isTooHigh), (169, n_X9_topOf), (170, n_X9_bits), (171, n_X9_isBetter), (172, n_X9_best), (173, n_X9_takesBag), (174, n_X9_clears), (175, n_X9_waits)] [(160, m_X9_isHere), (161, m_X9_isPilot), (162, m_X9_pilot), (163, m_X9_now), (164, m_X9_ballastWithout), (165, m_X9_spare), (166, m_X9_highOf), (167, m_X9_high), (168, m_X9_isTooHigh), (169, m_X9_topOf), (170, m_X9_bits), (171, m_X9_isBetter), (172, m_X9_best), (173, m_X9_takesBag), (174, m_X9_clears), (175, m_X9_waits)] := ⟨rfl, fun _ => mw_X9_isHere, ⟨rfl, fun _ => mw_X9_isPilot, ⟨rfl, fun _ => mw_X9_pilot, ⟨rfl, fun _ => mw_X9_now, ⟨rfl, fun _ => mw_X9_ballastWithout, ⟨rfl, fun _ => mw_X9_spare, ⟨rfl, fun _ => mw_X9_highOf, ⟨rfl, fun _ => mw_X9_high, ⟨rfl, fun _ => mw_X9_isTooHigh, ⟨rfl, fun _ => mw_X9_topOf, ⟨rfl, fun _ => mw_X9_bits, ⟨rfl, fun _ => mw_X9_isBetter, ⟨rfl, fun _ => mw_X9_best, ⟨rfl, fun _ => mw_X9_takesBag, ⟨rfl, fun _ => mw_X9_clears, ⟨rfl, fun _ => mw_X9_waits, trivial⟩⟩⟩⟩⟩⟩⟩⟩⟩⟩⟩⟩⟩⟩⟩⟩
theorem mW_11 : mv_W1 [(176, n_X9_shakes), (177, n_X9_oneHour), (178, n_X9_moors), (179, n_X9_casts), (180, n_X9_loads), (181, n_X9_drops), (182, n_X9_rises), (183, n_X9_blows), (184, n_X9_passes), (185, n_X9_joins), (186, n_X9_leaves), (187, n_X9_moor), (188, n_X9_castOff), (189, n_X9_load), (190, n_X9_drop), (191, n_X9_rise)] [(176, m_X9_shakes), (177, m_X9_oneHour), (178, m_X9_moors), (179, m_X9_casts), (180, m_X9_loads), (181, m_X9_drops), (182, m_X9_rises), (183, m_X9_blows), (184, m_X9_passes), (185, m_X9_joins), (186, m_X9_leaves), (187, m_X9_moor), (188, m_X9_castOff), (189, m_X9_load), (190, m_X9_drop), (191, m_X9_rise)] := ⟨rfl, fun _ => mw_X9_shakes, ⟨rfl, fun _ => mw_X9_oneHour, ⟨rfl, fun _ => mw_X9_moors, ⟨rfl, fun _ => mw_X9_casts, ⟨rfl, fun _ => mw_X9_loads, ⟨rfl, fun _ => mw_X9_drops, ⟨rfl, fun _ => mw_X9_rises, ⟨rfl, fun _ => mw_X9_blows, ⟨rfl, fun _ => mw_X9_passes, ⟨rfl, fun _ => mw_X9_joins, ⟨rfl, fun _ => mw_X9_leaves, ⟨rfl, fun _ => mw_X9_moor, ⟨rfl, fun _ => mw_X9_castOff, ⟨rfl, fun _ => mw_X9_load, ⟨rfl, fun _ => mw_X9_drop, ⟨rfl, fun _ => mw_X9_rise, trivial⟩⟩⟩⟩⟩⟩⟩⟩⟩⟩⟩⟩⟩⟩⟩⟩
theorem mW_12 : mv_W1 [(192, n_X9_setWind), (193, n_X9_addPilot), (194, n_X9_removePilot), (195, n_X9_pass), (196, n_X9_balloonCount), (197, n_X9_isMoored), (198, n_X9_isAsked), (199, n_X9_lift), (200, n_X9_ballast), (201, n_X9_height), (202, n_X9_isBursting), (203, n_X9_isAhead), (204, n_X9_berthByHeight), (205, n_X9_bagCount), (206, n_X9_bagWeight), (207, n_X9_asked)] [(192, m_X9_setWind), (193, m_X9_addPilot), (194, m_X9_removePilot), (195, m_X9_pass), (196, m_X9_balloonCount), (197, m_X9_isMoored), (198, m_X9_isAsked), (199, m_X9_lift), (200, m_X9_ballast), (201, m_X9_height), (202, m_X9_isBursting), (203, m_X9_isAhead), (204, m_X9_berthByHeight), (205, m_X9_bagCount), (206, m_X9_bagWeight), (207, m_X9_asked)] := ⟨rfl, fun _ => mw_X9_setWind, ⟨rfl, fun _ => mw_X9_addPilot, ⟨rfl, fun _ => mw_X9_removePilot, ⟨rfl, fun _ => mw_X9_pass, ⟨rfl, fun _ => mw_X9_balloonCount, ⟨rfl, fun _ => mw_X9_isMoored, ⟨rfl, fun _ => mw_X9_isAsked, ⟨rfl, fun _ => mw_X9_lift, ⟨rfl, fun _ => mw_X9_ballast, ⟨rfl, fun _ => mw_X9_height, ⟨rfl, fun _ => mw_X9_isBursting, ⟨rfl, fun _ => mw_X9_isAhead, ⟨rfl, fun _ => mw_X9_berthByHeight, ⟨rfl, fun _ => mw_X9_bagCount, ⟨rfl, fun _ => mw_X9_bagWeight, ⟨rfl, fun _ => mw_X9_asked, trivial⟩⟩⟩⟩⟩⟩⟩⟩⟩⟩⟩⟩⟩⟩⟩⟩
theorem mW_13 : mv_W1 [(208, n_X9_fewestDrops), (209, n_X9_fewestDropsBySets), (210, n_X9_dropWeight), (211, n_X9_wind), (212, n_X9_top), (213, n_X9_tangles), (214, n_X9_tanglesByMerging), (215, n_X9_longestCalm), (216, n_X9_longestCalmByTrying), (217, n_X9_pilotCount), (218, n_X9_isOn), (219, n_X9_crews), (220, n_X9_isOnDuty), (221, n_X9_canCrew), (222, n_X9_mostCrewed), (223, n_X9_mostCrewedBySets)] [(208, m_X9_fewestDrops), (209, m_X9_fewestDropsBySets), (210, m_X9_dropWeight), (211, m_X9_wind), (212, m_X9_top), (213, m_X9_tangles), (214, m_X9_tanglesByMerging), (215, m_X9_longestCalm), (216, m_X9_longestCalmByTrying), (217, m_X9_pilotCount), (218, m_X9_isOn), (219, m_X9_crews), (220, m_X9_isOnDuty), (221, m_X9_canCrew), (222, m_X9_mostCrewed), (223, m_X9_mostCrewedBySets)] := ⟨rfl, fun _ => mw_X9_fewestDrops, ⟨rfl, fun _ => mw_X9_fewestDropsBySets, ⟨rfl, fun _ => mw_X9_dropWeight, ⟨rfl, fun _ => mw_X9_wind, ⟨rfl, fun _ => mw_X9_top, ⟨rfl, fun _ => mw_X9_tangles, ⟨rfl, fun _ => mw_X9_tanglesByMerging, ⟨rfl, fun _ => mw_X9_longestCalm, ⟨rfl, fun _ => mw_X9_longestCalmByTrying, ⟨rfl, fun _ => mw_X9_pilotCount, ⟨rfl, fun _ => mw_X9_isOn, ⟨rfl, fun _ => mw_X9_crews, ⟨rfl, fun _ => mw_X9_isOnDuty, ⟨rfl, fun _ => mw_X9_canCrew, ⟨rfl, fun _ => mw_X9_mostCrewed, ⟨rfl, fun _ => mw_X9_mostCrewedBySets, trivial⟩⟩⟩⟩⟩⟩⟩⟩⟩⟩⟩⟩⟩⟩⟩⟩
theorem mW_14 : mv_W1 [(224, n_X9_burstsAhead), (225, n_X9_hour), (226, n_X9_bursts), (227, n_X9_loaded), (228, n_X9_aboard), (229, n_X9_dropped), (230, n_X9_lost), (231, n_X9_meanHeight), (232, n_X9_strain), (233, n_X9_feed), (234, n_X9_here), (235, n_X9_says), (236, n_X9_number), (237, n_X9_readsWind), (238, n_X9_readsOne), (239, n_X9_does)] [(224, m_X9_burstsAhead), (225, m_X9_hour), (226, m_X9_bursts), (227, m_X9_loaded), (228, m_X9_aboard), (229, m_X9_dropped), (230, m_X9_lost), (231, m_X9_meanHeight), (232, m_X9_strain), (233, m_X9_feed), (234, m_X9_here), (235, m_X9_says), (236, m_X9_number), (237, m_X9_readsWind), (238, m_X9_readsOne), (239, m_X9_does)] := ⟨rfl, fun _ => mw_X9_burstsAhead, ⟨rfl, fun _ => mw_X9_hour, ⟨rfl, fun _ => mw_X9_bursts, ⟨rfl, fun _ => mw_X9_loaded, ⟨rfl, fun _ => mw_X9_aboard, ⟨rfl, fun _ => mw_X9_dropped, ⟨rfl, fun _ => mw_X9_lost, ⟨rfl, fun _ => mw_X9_meanHeight, ⟨rfl, fun _ => mw_X9_strain, ⟨rfl, fun _ => mw_X9_feed, ⟨rfl, fun _ => mw_X9_here, ⟨rfl, fun _ => mw_X9_says, ⟨rfl, fun _ => mw_X9_number, ⟨rfl, fun _ => mw_X9_readsWind, ⟨rfl, fun _ => mw_X9_readsOne, ⟨rfl, fun _ => mw_X9_does, trivial⟩⟩⟩⟩⟩⟩⟩⟩⟩⟩⟩⟩⟩⟩⟩⟩
theorem mW_15 : mv_W1 [(240, n_X9_execute), (241, n_X9_faultPosition), (242, n_X9_writes), (243, n_X9_writesNumber), (244, n_X9_writeBalloon), (245, n_X9_lineCharacter), (246, n_X9_denial), (247, n_X9_denialDetail), (248, n_X9_denialCause), (249, n_X9_undo), (250, n_X9_undoCount), (251, n_X9_saveSnapshot), (252, n_X9_restoreSnapshot), (253, n_J5_init_d00df), (254, n_J5_length_8abf5), (255, n_J5_ensureCapacityInternal_d00df)] [(240, m_X9_execute), (241, m_X9_faultPosition), (242, m_X9_writes), (243, m_X9_writesNumber), (244, m_X9_writeBalloon), (245, m_X9_lineCharacter), (246, m_X9_denial), (247, m_X9_denialDetail), (248, m_X9_denialCause), (249, m_X9_undo), (250, m_X9_undoCount), (251, m_X9_saveSnapshot), (252, m_X9_restoreSnapshot), (253, m_J5_init_d00df), (254, m_J5_length_8abf5), (255, m_J5_ensureCapacityInternal_d00df)] := ⟨rfl, fun _ => mw_X9_execute, ⟨rfl, fun _ => mw_X9_faultPosition, ⟨rfl, fun _ => mw_X9_writes, ⟨rfl, fun _ => mw_X9_writesNumber, ⟨rfl, fun _ => mw_X9_writeBalloon, ⟨rfl, fun _ => mw_X9_lineCharacter, ⟨rfl, fun _ => mw_X9_denial, ⟨rfl, fun _ => mw_X9_denialDetail, ⟨rfl, fun _ => mw_X9_denialCause, ⟨rfl, fun _ => mw_X9_undo, ⟨rfl, fun _ => mw_X9_undoCount, ⟨rfl, fun _ => mw_X9_saveSnapshot, ⟨rfl, fun _ => mw_X9_restoreSnapshot, ⟨rfl, fun _ => mw_J5_init_d00df, ⟨rfl, fun _ => mw_J5_length_8abf5, ⟨rfl, fun _ => mw_J5_ensureCapacityInternal_d00df, trivial⟩⟩⟩⟩⟩⟩⟩⟩⟩⟩⟩⟩⟩⟩⟩⟩
theorem mW_16 : mv_W1 [(256, n_J5_newCapacity_0f7a4), (257, n_J5_setLength_d00df), (258, n_J5_charAt_5068e), (259, n_J5_append_3fe6f), (260, n_J5_append_c97b9), (261, n_J5_isLatin1_aae02), (262, n_J6_getChars_ba4f3), (263, n_J6_stringSize_0f7a4), (264, n_J6_bitCount_0f7a4), (265, n_J9_abs_0f7a4), (266, n_J9_max_7cf53), (267, n_J9_min_7cf53), (268, n_J0_length_8abf5), (269, n_J0_charAt_5068e), (270, n_J0_coder_7d493), (271, n_J0_isLatin1_aae02)] [(256, m_J5_newCapacity_0f7a4), (257, m_J5_setLength_d00df), (258, m_J5_charAt_5068e), (259, m_J5_append_3fe6f), (260, m_J5_append_c97b9), (261, m_J5_isLatin1_aae02), (262, m_J6_getChars_ba4f3), (263, m_J6_stringSize_0f7a4), (264, m_J6_bitCount_0f7a4), (265, m_J9_abs_0f7a4), (266, m_J9_max_7cf53), (267, m_J9_min_7cf53), (268, m_J0_length_8abf5), (269, m_J0_charAt_5068e), (270, m_J0_coder_7d493), (271, m_J0_isLatin1_aae02)] := ⟨rfl, fun _ => mw_J5_newCapacity_0f7a4, ⟨rfl, fun _ => mw_J5_setLength_d00df, ⟨rfl, fun _ => mw_J5_charAt_5068e, ⟨rfl, fun _ => mw_J5_append_3fe6f, ⟨rfl, fun _ => mw_J5_append_c97b9, ⟨rfl, fun _ => mw_J5_isLatin1_aae02, ⟨rfl, fun _ => mw_J6_getChars_ba4f3, ⟨rfl, fun _ => mw_J6_stringSize_0f7a4, ⟨rfl, fun _ => mw_J6_bitCount_0f7a4, ⟨rfl, fun _ => mw_J9_abs_0f7a4, ⟨rfl, fun _ => mw_J9_max_7cf53, ⟨rfl, fun _ => mw_J9_min_7cf53, ⟨rfl, fun _ => mw_J0_length_8abf5, ⟨rfl, fun _ => mw_J0_charAt_5068e, ⟨rfl, fun _ => mw_J0_coder_7d493, ⟨rfl, fun _ => mw_J0_isLatin1_aae02, trivial⟩⟩⟩⟩⟩⟩⟩⟩⟩⟩⟩⟩⟩⟩⟩⟩
theorem mW_17 : mv_W1 [(272, n_J0_checkIndex_df160), (273, n_J4_init_da8c8), (274, n_J4_append_cf468), (275, n_J4_append_bf812), (276, n_J4_charAt_5068e), (277, n_J4_setLength_d00df), (278, n_J4_length_8abf5), (279, n_J1_charAt_3b067), (280, n_J1_canEncode_fc78d), (281, n_J7_fill_53178), (282, n_J7_copyOf_9075b), (283, n_J8_newLength_cabcc), (284, n_J3_checkIndex_8e157), (285, n_L_moor), (286, n_L_castOff), (287, n_L_isMoored)] [(272, m_J0_checkIndex_df160), (273, m_J4_init_da8c8), (274, m_J4_append_cf468), (275, m_J4_append_bf812), (276, m_J4_charAt_5068e), (277, m_J4_setLength_d00df), (278, m_J4_length_8abf5), (279, m_J1_charAt_3b067), (280, m_J1_canEncode_fc78d), (281, m_J7_fill_53178), (282, m_J7_copyOf_9075b), (283, m_J8_newLength_cabcc), (284, m_J3_checkIndex_8e157), (285, m_L_moor), (286, m_L_castOff), (287, m_L_isMoored)] := ⟨rfl, fun _ => mw_J0_checkIndex_df160, ⟨rfl, fun _ => mw_J4_init_da8c8, ⟨rfl, fun _ => mw_J4_append_cf468, ⟨rfl, fun _ => mw_J4_append_bf812, ⟨rfl, fun _ => mw_J4_charAt_5068e, ⟨rfl, fun _ => mw_J4_setLength_d00df, ⟨rfl, fun _ => mw_J4_length_8abf5, ⟨rfl, fun _ => mw_J1_charAt_3b067, ⟨rfl, fun _ => mw_J1_canEncode_fc78d, ⟨rfl, fun _ => mw_J7_fill_53178, ⟨rfl, fun _ => mw_J7_copyOf_9075b, ⟨rfl, fun _ => mw_J8_newLength_cabcc, ⟨rfl, fun _ => mw_J3_checkIndex_8e157, ⟨rfl, fun _ => mw_L_moor, ⟨rfl, fun _ => mw_L_castOff, ⟨rfl, fun _ => mw_L_isMoored, trivial⟩⟩⟩⟩⟩⟩⟩⟩⟩⟩⟩⟩⟩⟩⟩⟩
theorem mW_18 : mv_W1 [(288, n_L_lift), (289, n_L_ballast), (290, n_L_height), (291, n_L_isBursting), (292, n_L_berthByHeight), (293, n_L_load), (294, n_L_drop), (295, n_L_rise), (296, n_L_bagCount), (297, n_L_bagWeight), (298, n_L_fewestDrops), (299, n_L_fewestDropsBySets), (300, n_L_dropWeight), (301, n_L_setWind), (302, n_L_wind), (303, n_L_top)] [(288, m_L_lift), (289, m_L_ballast), (290, m_L_height), (291, m_L_isBursting), (292, m_L_berthByHeight), (293, m_L_load), (294, m_L_drop), (295, m_L_rise), (296, m_L_bagCount), (297, m_L_bagWeight), (298, m_L_fewestDrops), (299, m_L_fewestDropsBySets), (300, m_L_dropWeight), (301, m_L_setWind), (302, m_L_wind), (303, m_L_top)] := ⟨rfl, fun _ => mw_L_lift, ⟨rfl, fun _ => mw_L_ballast, ⟨rfl, fun _ => mw_L_height, ⟨rfl, fun _ => mw_L_isBursting, ⟨rfl, fun _ => mw_L_berthByHeight, ⟨rfl, fun _ => mw_L_load, ⟨rfl, fun _ => mw_L_drop, ⟨rfl, fun _ => mw_L_rise, ⟨rfl, fun _ => mw_L_bagCount, ⟨rfl, fun _ => mw_L_bagWeight, ⟨rfl, fun _ => mw_L_fewestDrops, ⟨rfl, fun _ => mw_L_fewestDropsBySets, ⟨rfl, fun _ => mw_L_dropWeight, ⟨rfl, fun _ => mw_L_setWind, ⟨rfl, fun _ => mw_L_wind, ⟨rfl, fun _ => mw_L_top, trivial⟩⟩⟩⟩⟩⟩⟩⟩⟩⟩⟩⟩⟩⟩⟩⟩
theorem mW_19 : mv_W1 [(304, n_L_longestCalm), (305, n_L_longestCalmByTrying), (306, n_L_addPilot), (307, n_L_removePilot), (308, n_L_isOnDuty), (309, n_L_canCrew), (310, n_L_pass), (311, n_L_meanHeight), (312, n_L_strain), (313, n_L_feed), (314, n_L_execute), (315, n_L_faultPosition), (316, n_L_writeBalloon), (317, n_L_lineCharacter), (318, n_L_denial), (319, n_L_denialDetail)] [(304, m_L_longestCalm), (305, m_L_longestCalmByTrying), (306, m_L_addPilot), (307, m_L_removePilot), (308, m_L_isOnDuty), (309, m_L_canCrew), (310, m_L_pass), (311, m_L_meanHeight), (312, m_L_strain), (313, m_L_feed), (314, m_L_execute), (315, m_L_faultPosition), (316, m_L_writeBalloon), (317, m_L_lineCharacter), (318, m_L_denial), (319, m_L_denialDetail)] := ⟨rfl, fun _ => mw_L_longestCalm, ⟨rfl, fun _ => mw_L_longestCalmByTrying, ⟨rfl, fun _ => mw_L_addPilot, ⟨rfl, fun _ => mw_L_removePilot, ⟨rfl, fun _ => mw_L_isOnDuty, ⟨rfl, fun _ => mw_L_canCrew, ⟨rfl, fun _ => mw_L_pass, ⟨rfl, fun _ => mw_L_meanHeight, ⟨rfl, fun _ => mw_L_strain, ⟨rfl, fun _ => mw_L_feed, ⟨rfl, fun _ => mw_L_execute, ⟨rfl, fun _ => mw_L_faultPosition, ⟨rfl, fun _ => mw_L_writeBalloon, ⟨rfl, fun _ => mw_L_lineCharacter, ⟨rfl, fun _ => mw_L_denial, ⟨rfl, fun _ => mw_L_denialDetail, trivial⟩⟩⟩⟩⟩⟩⟩⟩⟩⟩⟩⟩⟩⟩⟩⟩
theorem mW_20 : mv_W1 [(320, n_L_denialCause), (321, n_L_undo), (322, n_L_restoreSnapshot), (323, n_L_law)] [(320, m_L_denialCause), (321, m_L_undo), (322, m_L_restoreSnapshot), (323, m_L_law)] := ⟨rfl, fun _ => mw_L_denialCause, ⟨rfl, fun _ => mw_L_undo, ⟨rfl, fun _ => mw_L_restoreSnapshot, ⟨rfl, fun h => h.elim (fun q => absurd rfl q) (fun q => absurd rfl q), trivial⟩⟩⟩⟩
theorem mv_cws : mv_CW := by
  intro y N M h1 h2
  unfold mv_look at h1 h2
  generalize y / 16 = c at h1 h2
  match c, h1, h2 with
  | 0, h1, h2 => exact mv_W1_ok mW_0 h1 h2
  | 1, h1, h2 => exact mv_W1_ok mW_1 h1 h2
  | 2, h1, h2 => exact mv_W1_ok mW_2 h1 h2
  | 3, h1, h2 => exact mv_W1_ok mW_3 h1 h2
  | 4, h1, h2 => exact mv_W1_ok mW_4 h1 h2
  | 5, h1, h2 => exact mv_W1_ok mW_5 h1 h2
  | 6, h1, h2 => exact mv_W1_ok mW_6 h1 h2
  | 7, h1, h2 => exact mv_W1_ok mW_7 h1 h2
  | 8, h1, h2 => exact mv_W1_ok mW_8 h1 h2
  | 9, h1, h2 => exact mv_W1_ok mW_9 h1 h2
  | 10, h1, h2 => exact mv_W1_ok mW_10 h1 h2
  | 11, h1, h2 => exact mv_W1_ok mW_11 h1 h2
  | 12, h1, h2 => exact mv_W1_ok mW_12 h1 h2
  | 13, h1, h2 => exact mv_W1_ok mW_13 h1 h2
  | 14, h1, h2 => exact mv_W1_ok mW_14 h1 h2
  | 15, h1, h2 => exact mv_W1_ok mW_15 h1 h2
  | 16, h1, h2 => exact mv_W1_ok mW_16 h1 h2
  | 17, h1, h2 => exact mv_W1_ok mW_17 h1 h2
  | 18, h1, h2 => exact mv_W1_ok mW_18 h1 h2
  | 19, h1, h2 => exact mv_W1_ok mW_19 h1 h2
  | 20, h1, h2 => exact mv_W1_ok mW_20 h1 h2
  | c + 21, h1, h2 => exact absurd h1 (by simp [mv_mt])
