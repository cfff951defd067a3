/-! CERTIFICATES: every method's bytes and links, checked by program -/
def mv_CW : Prop := ∀ y N M, mv_look mv_mt 16 y = some N → mv_look mv_tab 16 y = some M → N.1.cls ≠ "BalloonHarbourLaw" ∨ N.1.name ≠ "law" → mv_gg (mv_cw N M) = true ∧ mv_cw N M ∈ lw_tbl
def mv_iscl (t : Nat) : Bool := Nat.beq t 20 || Nat.beq t 21 || Nat.beq t 22 || Nat.beq t 25
def mv_lwt (own : String) (j : Nat) (q : mv_L) (kd : Nat) : List Cond := bif mv_iscl q.1 then (mv_lws own j q kd).drop 1 else mv_lws own j q kd
def mv_lnl (q : mv_L) : Bool := bif mv_iscl q.1 then (match mv_look mv_mt 16 q.2.1 with
  | some N => N.1.cls != "BalloonHarbourLaw" || N.1.name != "law"
  | none => false) else true
def mv_lc2 (own : String) (j : Nat) (q : mv_L) (kd : Nat) (ps : List Nat) : Bool :=
  mv_sd own j q kd && mv_lnl q && Nat.beq (mv_lwt own j q kd).length ps.length && ((mv_lwt own j q kd).zip ps).all (fun z => mv_gg z.1 && decide (lw_tbl[z.2]? = some z.1))
theorem mv_lok_2 (hcw : mv_CW) {own : String} {j : Nat} {q : mv_L} {kd : Nat} {ps : List Nat} (h : mv_lc2 own j q kd ps = true) : mv_lok own j q := by
  simp only [mv_lc2, Bool.and_eq_true] at h
  obtain ⟨⟨⟨h1, h4⟩, h2⟩, h3⟩ := h
  have hz := mv_zip_ok h2 h3
  refine ⟨kd, h1, fun w hw => ?_⟩
  cases hc : mv_iscl q.1 with
  | false =>
    unfold mv_lwt at hz
    rw [hc] at hz
    exact hz w hw
  | true =>
    unfold mv_lwt at hz
    rw [hc] at hz
    unfold mv_lnl at h4
    rw [hc] at h4
    have hz : ∀ w ∈ (mv_lws own j q kd).drop 1, mv_gg w = true ∧ w ∈ lw_tbl := hz
    cases hN : mv_look mv_mt 16 q.2.1 with
    | none => rw [hN] at h4; cases h4
    | some N =>
      rw [hN] at h4
      have h4 : (N.1.cls != "BalloonHarbourLaw" || N.1.name != "law") = true := h4
      rw [Bool.or_eq_true, bne_iff_ne, bne_iff_ne] at h4
      cases hM : mv_look mv_tab 16 q.2.1 with
      | none =>
        exfalso
        obtain ⟨t, rest⟩ := q
        simp only [mv_iscl, Bool.or_eq_true, Nat.beq_eq] at hc
        have hw2 := hw
        rcases hc with ((hc | hc) | hc) | hc <;> · subst hc; simp [mv_lws, hN, hM] at hw2
      | some M =>
        have e : ∃ rest, mv_lws own j q kd = mv_cw N M :: rest := by
          obtain ⟨t, rest⟩ := q
          simp only [mv_iscl, Bool.or_eq_true, Nat.beq_eq] at hc
          rcases hc with ((hc | hc) | hc) | hc <;> · subst hc; exact ⟨_, by simp only [mv_lws, hN, hM]; rfl⟩
        obtain ⟨rest, e⟩ := e
        rw [e] at hw hz
        rcases List.mem_cons.mp hw with rfl | hw
        · exact hcw _ N M hN hM h4
        · exact hz w hw
def mv_lkr (own : String) : List (Nat × mv_L) → List (Nat × List Nat) → Bool
  | [], [] => true
  | e :: r, z :: zs => mv_lc2 own e.1 e.2 z.1 z.2 && mv_lkr own r zs
  | _, _ => false
theorem mv_lkr_ok (hcw : mv_CW) {own : String} : ∀ {l : List (Nat × mv_L)} {z : List (Nat × List Nat)}, mv_lkr own l z = true → ∀ j q, (j, q) ∈ l → mv_lok own j q
  | [], _, _, j, q, hm => absurd hm List.not_mem_nil
  | e :: r, [], h, _, _, _ => by cases h
  | e :: r, z :: zs, h, j, q, hm => by
    have h : (mv_lc2 own e.1 e.2 z.1 z.2 && mv_lkr own r zs) = true := h
    rw [Bool.and_eq_true] at h
    rcases List.mem_cons.mp hm with rfl | hm
    · exact mv_lok_2 hcw h.1
    · exact mv_lkr_ok hcw h.2 j q hm
theorem mv_lkl {own : String} {L : List (List (Nat × mv_L))} (h : ∀ l ∈ L, ∀ j q, (j, q) ∈ l → mv_lok own j q) : ∀ j q, mv_look L 16 j = some q → mv_lok own j q := fun j q e => by
  obtain ⟨l, h1, h2⟩ := mi_look e
  exact h l h1 j q h2
def mv_gp (N : mv_N) (M : mv_M) : Prop := mv_good N M ∧ plainFor N.1 = true
def mv_G1 : List (Nat × mv_N) → List (Nat × mv_M) → Prop
  | [], [] => True
  | a :: r, b :: s => a.1 = b.1 ∧ mv_gp a.2 b.2 ∧ mv_G1 r s
  | _, _ => False
theorem mv_G1_ok {i : Nat} {N : mv_N} {M : mv_M} : ∀ {l : List (Nat × mv_N)} {k : List (Nat × mv_M)}, mv_G1 l k → mv_find l i = some N → mv_find k i = some M → mv_gp N M
  | [], _, _, h, _ => by cases h
  | a :: r, [], g, _, _ => g.elim
  | (a, x) :: r, (b, y) :: s, g, h1, h2 => by
    obtain ⟨g1, g2, g3⟩ := g
    have g1 : a = b := g1
    subst g1
    unfold mv_find at h1 h2
    cases hb : Nat.beq a i with
    | true =>
      simp only [hb, cond_true, Option.some.injEq] at h1 h2
      subst h1; subst h2
      exact g2
    | false =>
      simp only [hb, cond_false] at h1 h2
      exact mv_G1_ok g3 h1 h2

set_option maxRecDepth 1000000 in
theorem mw_X0_init : mv_gg (mv_cw n_X0_init m_X0_init) = true ∧ mv_cw n_X0_init m_X0_init ∈ lw_tbl := ⟨rfl, List.mem_of_getElem? (i := 89) rfl⟩
set_option maxRecDepth 1000000 in
theorem mw_X0_copyFrom : mv_gg (mv_cw n_X0_copyFrom m_X0_copyFrom) = true ∧ mv_cw n_X0_copyFrom m_X0_copyFrom ∈ lw_tbl := ⟨rfl, List.mem_of_getElem? (i := 382) rfl⟩
set_option maxRecDepth 1000000 in
theorem mw_X0_begin : mv_gg (mv_cw n_X0_begin m_X0_begin) = true ∧ mv_cw n_X0_begin m_X0_begin ∈ lw_tbl := ⟨rfl, List.mem_of_getElem? (i := 799) rfl⟩
set_option maxRecDepth 1000000 in
theorem mw_X0_spareLift : mv_gg (mv_cw n_X0_spareLift m_X0_spareLift) = true ∧ mv_cw n_X0_spareLift m_X0_spareLift ∈ lw_tbl := ⟨rfl, List.mem_of_getElem? (i := 1332) rfl⟩
set_option maxRecDepth 1000000 in
theorem mw_X0_heightWith : mv_gg (mv_cw n_X0_heightWith m_X0_heightWith) = true ∧ mv_cw n_X0_heightWith m_X0_heightWith ∈ lw_tbl := ⟨rfl, List.mem_of_getElem? (i := 430) rfl⟩
set_option maxRecDepth 1000000 in
theorem mw_X0_presentHeight : mv_gg (mv_cw n_X0_presentHeight m_X0_presentHeight) = true ∧ mv_cw n_X0_presentHeight m_X0_presentHeight ∈ lw_tbl := ⟨rfl, List.mem_of_getElem? (i := 594) rfl⟩
set_option maxRecDepth 1000000 in
theorem mw_X0_isOverstrained : mv_gg (mv_cw n_X0_isOverstrained m_X0_isOverstrained) = true ∧ mv_cw n_X0_isOverstrained m_X0_isOverstrained ∈ lw_tbl := ⟨rfl, List.mem_of_getElem? (i := 426) rfl⟩
set_option maxRecDepth 1000000 in
theorem mw_X0_changeLift : mv_gg (mv_cw n_X0_changeLift m_X0_changeLift) = true ∧ mv_cw n_X0_changeLift m_X0_changeLift ∈ lw_tbl := ⟨rfl, List.mem_of_getElem? (i := 409) rfl⟩
set_option maxRecDepth 1000000 in
theorem mw_X0_hasBag : mv_gg (mv_cw n_X0_hasBag m_X0_hasBag) = true ∧ mv_cw n_X0_hasBag m_X0_hasBag ∈ lw_tbl := ⟨rfl, List.mem_of_getElem? (i := 442) rfl⟩
set_option maxRecDepth 1000000 in
theorem mw_X0_addBag : mv_gg (mv_cw n_X0_addBag m_X0_addBag) = true ∧ mv_cw n_X0_addBag m_X0_addBag ∈ lw_tbl := ⟨rfl, List.mem_of_getElem? (i := 811) rfl⟩
set_option maxRecDepth 1000000 in
theorem mw_X0_removeBag : mv_gg (mv_cw n_X0_removeBag m_X0_removeBag) = true ∧ mv_cw n_X0_removeBag m_X0_removeBag ∈ lw_tbl := ⟨rfl, List.mem_of_getElem? (i := 438) rfl⟩
set_option maxRecDepth 1000000 in
theorem mw_X0_weightOf : mv_gg (mv_cw n_X0_weightOf m_X0_weightOf) = true ∧ mv_cw n_X0_weightOf m_X0_weightOf ∈ lw_tbl := ⟨rfl, List.mem_of_getElem? (i := 620) rfl⟩
set_option maxRecDepth 1000000 in
theorem mw_X0_bestDropSet : mv_gg (mv_cw n_X0_bestDropSet m_X0_bestDropSet) = true ∧ mv_cw n_X0_bestDropSet m_X0_bestDropSet ∈ lw_tbl := ⟨rfl, List.mem_of_getElem? (i := 639) rfl⟩
set_option maxRecDepth 1000000 in
theorem mw_X0_isBetter : mv_gg (mv_cw n_X0_isBetter m_X0_isBetter) = true ∧ mv_cw n_X0_isBetter m_X0_isBetter ∈ lw_tbl := ⟨rfl, List.mem_of_getElem? (i := 643) rfl⟩
set_option maxRecDepth 1000000 in
theorem mw_X0_fewestBagsByWeight : mv_gg (mv_cw n_X0_fewestBagsByWeight m_X0_fewestBagsByWeight) = true ∧ mv_cw n_X0_fewestBagsByWeight m_X0_fewestBagsByWeight ∈ lw_tbl := ⟨rfl, List.mem_of_getElem? (i := 616) rfl⟩
set_option maxRecDepth 1000000 in
theorem mw_X0_heaviestOutside : mv_gg (mv_cw n_X0_heaviestOutside m_X0_heaviestOutside) = true ∧ mv_cw n_X0_heaviestOutside m_X0_heaviestOutside ∈ lw_tbl := ⟨rfl, List.mem_of_getElem? (i := 624) rfl⟩
set_option maxRecDepth 1000000 in
theorem mw_X1_init : mv_gg (mv_cw n_X1_init m_X1_init) = true ∧ mv_cw n_X1_init m_X1_init ∈ lw_tbl := ⟨rfl, List.mem_of_getElem? (i := 210) rfl⟩
set_option maxRecDepth 1000000 in
theorem mw_X1_begin : mv_gg (mv_cw n_X1_begin m_X1_begin) = true ∧ mv_cw n_X1_begin m_X1_begin ∈ lw_tbl := ⟨rfl, List.mem_of_getElem? (i := 695) rfl⟩
set_option maxRecDepth 1000000 in
theorem mw_X1_add : mv_gg (mv_cw n_X1_add m_X1_add) = true ∧ mv_cw n_X1_add m_X1_add ∈ lw_tbl := ⟨rfl, List.mem_of_getElem? (i := 699) rfl⟩
set_option maxRecDepth 1000000 in
theorem mw_X1_set : mv_gg (mv_cw n_X1_set m_X1_set) = true ∧ mv_cw n_X1_set m_X1_set ∈ lw_tbl := ⟨rfl, List.mem_of_getElem? (i := 691) rfl⟩
set_option maxRecDepth 1000000 in
theorem mw_X2_init : mv_gg (mv_cw n_X2_init m_X2_init) = true ∧ mv_cw n_X2_init m_X2_init ∈ lw_tbl := ⟨rfl, List.mem_of_getElem? (i := 304) rfl⟩
set_option maxRecDepth 1000000 in
theorem mw_X2_mostByChanging : mv_gg (mv_cw n_X2_mostByChanging m_X2_mostByChanging) = true ∧ mv_cw n_X2_mostByChanging m_X2_mostByChanging ∈ lw_tbl := ⟨rfl, List.mem_of_getElem? (i := 1462) rfl⟩
set_option maxRecDepth 1000000 in
theorem mw_X2_findsBalloon : mv_gg (mv_cw n_X2_findsBalloon m_X2_findsBalloon) = true ∧ mv_cw n_X2_findsBalloon m_X2_findsBalloon ∈ lw_tbl := ⟨rfl, List.mem_of_getElem? (i := 1468) rfl⟩
set_option maxRecDepth 1000000 in
theorem mw_X2_mostBySets : mv_gg (mv_cw n_X2_mostBySets m_X2_mostBySets) = true ∧ mv_cw n_X2_mostBySets m_X2_mostBySets ∈ lw_tbl := ⟨rfl, List.mem_of_getElem? (i := 1477) rfl⟩
set_option maxRecDepth 1000000 in
theorem mw_X2_giveToOnePilot : mv_gg (mv_cw n_X2_giveToOnePilot m_X2_giveToOnePilot) = true ∧ mv_cw n_X2_giveToOnePilot m_X2_giveToOnePilot ∈ lw_tbl := ⟨rfl, List.mem_of_getElem? (i := 1481) rfl⟩
set_option maxRecDepth 1000000 in
theorem mw_X3_init : mv_gg (mv_cw n_X3_init m_X3_init) = true ∧ mv_cw n_X3_init m_X3_init ∈ lw_tbl := ⟨rfl, List.mem_of_getElem? (i := 80) rfl⟩
set_option maxRecDepth 1000000 in
theorem mw_X3_copyFrom : mv_gg (mv_cw n_X3_copyFrom m_X3_copyFrom) = true ∧ mv_cw n_X3_copyFrom m_X3_copyFrom ∈ lw_tbl := ⟨rfl, List.mem_of_getElem? (i := 378) rfl⟩
set_option maxRecDepth 1000000 in
theorem mw_X3_hasBalloon : mv_gg (mv_cw n_X3_hasBalloon m_X3_hasBalloon) = true ∧ mv_cw n_X3_hasBalloon m_X3_hasBalloon ∈ lw_tbl := ⟨rfl, List.mem_of_getElem? (i := 422) rfl⟩
set_option maxRecDepth 1000000 in
theorem mw_X3_hasPilot : mv_gg (mv_cw n_X3_hasPilot m_X3_hasPilot) = true ∧ mv_cw n_X3_hasPilot m_X3_hasPilot ∈ lw_tbl := ⟨rfl, List.mem_of_getElem? (i := 734) rfl⟩
set_option maxRecDepth 1000000 in
theorem mw_X3_hourOfDay : mv_gg (mv_cw n_X3_hourOfDay m_X3_hourOfDay) = true ∧ mv_cw n_X3_hourOfDay m_X3_hourOfDay ∈ lw_tbl := ⟨rfl, List.mem_of_getElem? (i := 402) rfl⟩
set_option maxRecDepth 1000000 in
theorem mw_X3_countBalloons : mv_gg (mv_cw n_X3_countBalloons m_X3_countBalloons) = true ∧ mv_cw n_X3_countBalloons m_X3_countBalloons ∈ lw_tbl := ⟨rfl, List.mem_of_getElem? (i := 366) rfl⟩
set_option maxRecDepth 1000000 in
theorem mw_X3_weightAboard : mv_gg (mv_cw n_X3_weightAboard m_X3_weightAboard) = true ∧ mv_cw n_X3_weightAboard m_X3_weightAboard ∈ lw_tbl := ⟨rfl, List.mem_of_getElem? (i := 1502) rfl⟩
set_option maxRecDepth 1000000 in
theorem mw_X3_sumOfHeights : mv_gg (mv_cw n_X3_sumOfHeights m_X3_sumOfHeights) = true ∧ mv_cw n_X3_sumOfHeights m_X3_sumOfHeights ∈ lw_tbl := ⟨rfl, List.mem_of_getElem? (i := 1530) rfl⟩
set_option maxRecDepth 1000000 in
theorem mw_X3_berthAtRank : mv_gg (mv_cw n_X3_berthAtRank m_X3_berthAtRank) = true ∧ mv_cw n_X3_berthAtRank m_X3_berthAtRank ∈ lw_tbl := ⟨rfl, List.mem_of_getElem? (i := 1425) rfl⟩
set_option maxRecDepth 1000000 in
theorem mw_X3_countAhead : mv_gg (mv_cw n_X3_countAhead m_X3_countAhead) = true ∧ mv_cw n_X3_countAhead m_X3_countAhead ∈ lw_tbl := ⟨rfl, List.mem_of_getElem? (i := 1429) rfl⟩
set_option maxRecDepth 1000000 in
theorem mw_X3_isAhead : mv_gg (mv_cw n_X3_isAhead m_X3_isAhead) = true ∧ mv_cw n_X3_isAhead m_X3_isAhead ∈ lw_tbl := ⟨rfl, List.mem_of_getElem? (i := 1433) rfl⟩
set_option maxRecDepth 1000000 in
theorem mw_X3_topOf : mv_gg (mv_cw n_X3_topOf m_X3_topOf) = true ∧ mv_cw n_X3_topOf m_X3_topOf ∈ lw_tbl := ⟨rfl, List.mem_of_getElem? (i := 1304) rfl⟩
set_option maxRecDepth 1000000 in
theorem mw_X3_calmOfTwoDays : mv_gg (mv_cw n_X3_calmOfTwoDays m_X3_calmOfTwoDays) = true ∧ mv_cw n_X3_calmOfTwoDays m_X3_calmOfTwoDays ∈ lw_tbl := ⟨rfl, List.mem_of_getElem? (i := 1449) rfl⟩
set_option maxRecDepth 1000000 in
theorem mw_X3_calmByTrying : mv_gg (mv_cw n_X3_calmByTrying m_X3_calmByTrying) = true ∧ mv_cw n_X3_calmByTrying m_X3_calmByTrying ∈ lw_tbl := ⟨rfl, List.mem_of_getElem? (i := 1494) rfl⟩
set_option maxRecDepth 1000000 in
theorem mw_X3_fitsCrew : mv_gg (mv_cw n_X3_fitsCrew m_X3_fitsCrew) = true ∧ mv_cw n_X3_fitsCrew m_X3_fitsCrew ∈ lw_tbl := ⟨rfl, List.mem_of_getElem? (i := 1327) rfl⟩
set_option maxRecDepth 1000000 in
theorem mw_X3_refusalOf : mv_gg (mv_cw n_X3_refusalOf m_X3_refusalOf) = true ∧ mv_cw n_X3_refusalOf m_X3_refusalOf ∈ lw_tbl := ⟨rfl, List.mem_of_getElem? (i := 703) rfl⟩
set_option maxRecDepth 1000000 in
theorem mw_X3_refusalToMoor : mv_gg (mv_cw n_X3_refusalToMoor m_X3_refusalToMoor) = true ∧ mv_cw n_X3_refusalToMoor m_X3_refusalToMoor ∈ lw_tbl := ⟨rfl, List.mem_of_getElem? (i := 707) rfl⟩
set_option maxRecDepth 1000000 in
theorem mw_X3_refusalToLoad : mv_gg (mv_cw n_X3_refusalToLoad m_X3_refusalToLoad) = true ∧ mv_cw n_X3_refusalToLoad m_X3_refusalToLoad ∈ lw_tbl := ⟨rfl, List.mem_of_getElem? (i := 711) rfl⟩
set_option maxRecDepth 1000000 in
theorem mw_X3_refusalToDrop : mv_gg (mv_cw n_X3_refusalToDrop m_X3_refusalToDrop) = true ∧ mv_cw n_X3_refusalToDrop m_X3_refusalToDrop ∈ lw_tbl := ⟨rfl, List.mem_of_getElem? (i := 715) rfl⟩
set_option maxRecDepth 1000000 in
theorem mw_X3_refusalToRise : mv_gg (mv_cw n_X3_refusalToRise m_X3_refusalToRise) = true ∧ mv_cw n_X3_refusalToRise m_X3_refusalToRise ∈ lw_tbl := ⟨rfl, List.mem_of_getElem? (i := 720) rfl⟩
set_option maxRecDepth 1000000 in
theorem mw_X3_refusalOfWind : mv_gg (mv_cw n_X3_refusalOfWind m_X3_refusalOfWind) = true ∧ mv_cw n_X3_refusalOfWind m_X3_refusalOfWind ∈ lw_tbl := ⟨rfl, List.mem_of_getElem? (i := 726) rfl⟩
set_option maxRecDepth 1000000 in
theorem mw_X3_refusalOfPilot : mv_gg (mv_cw n_X3_refusalOfPilot m_X3_refusalOfPilot) = true ∧ mv_cw n_X3_refusalOfPilot m_X3_refusalOfPilot ∈ lw_tbl := ⟨rfl, List.mem_of_getElem? (i := 730) rfl⟩
set_option maxRecDepth 1000000 in
theorem mw_X3_detailOf : mv_gg (mv_cw n_X3_detailOf m_X3_detailOf) = true ∧ mv_cw n_X3_detailOf m_X3_detailOf ∈ lw_tbl := ⟨rfl, List.mem_of_getElem? (i := 759) rfl⟩
set_option maxRecDepth 1000000 in
theorem mw_X3_carryOut : mv_gg (mv_cw n_X3_carryOut m_X3_carryOut) = true ∧ mv_cw n_X3_carryOut m_X3_carryOut ∈ lw_tbl := ⟨rfl, List.mem_of_getElem? (i := 791) rfl⟩
set_option maxRecDepth 1000000 in
theorem mw_X3_putBalloon : mv_gg (mv_cw n_X3_putBalloon m_X3_putBalloon) = true ∧ mv_cw n_X3_putBalloon m_X3_putBalloon ∈ lw_tbl := ⟨rfl, List.mem_of_getElem? (i := 795) rfl⟩
set_option maxRecDepth 1000000 in
theorem mw_X3_removeBalloon : mv_gg (mv_cw n_X3_removeBalloon m_X3_removeBalloon) = true ∧ mv_cw n_X3_removeBalloon m_X3_removeBalloon ∈ lw_tbl := ⟨rfl, List.mem_of_getElem? (i := 803) rfl⟩
set_option maxRecDepth 1000000 in
theorem mw_X3_loadBag : mv_gg (mv_cw n_X3_loadBag m_X3_loadBag) = true ∧ mv_cw n_X3_loadBag m_X3_loadBag ∈ lw_tbl := ⟨rfl, List.mem_of_getElem? (i := 807) rfl⟩
set_option maxRecDepth 1000000 in
theorem mw_X3_dropBag : mv_gg (mv_cw n_X3_dropBag m_X3_dropBag) = true ∧ mv_cw n_X3_dropBag m_X3_dropBag ∈ lw_tbl := ⟨rfl, List.mem_of_getElem? (i := 815) rfl⟩
set_option maxRecDepth 1000000 in
theorem mw_X3_dropBestSet : mv_gg (mv_cw n_X3_dropBestSet m_X3_dropBestSet) = true ∧ mv_cw n_X3_dropBestSet m_X3_dropBestSet ∈ lw_tbl := ⟨rfl, List.mem_of_getElem? (i := 819) rfl⟩
set_option maxRecDepth 1000000 in
theorem mw_X3_replaceWind : mv_gg (mv_cw n_X3_replaceWind m_X3_replaceWind) = true ∧ mv_cw n_X3_replaceWind m_X3_replaceWind ∈ lw_tbl := ⟨rfl, List.mem_of_getElem? (i := 825) rfl⟩
set_option maxRecDepth 1000000 in
theorem mw_X3_putPilot : mv_gg (mv_cw n_X3_putPilot m_X3_putPilot) = true ∧ mv_cw n_X3_putPilot m_X3_putPilot ∈ lw_tbl := ⟨rfl, List.mem_of_getElem? (i := 830) rfl⟩
set_option maxRecDepth 1000000 in
theorem mw_X3_takePilot : mv_gg (mv_cw n_X3_takePilot m_X3_takePilot) = true ∧ mv_cw n_X3_takePilot m_X3_takePilot ∈ lw_tbl := ⟨rfl, List.mem_of_getElem? (i := 835) rfl⟩
set_option maxRecDepth 1000000 in
theorem mw_X3_passHours : mv_gg (mv_cw n_X3_passHours m_X3_passHours) = true ∧ mv_cw n_X3_passHours m_X3_passHours ∈ lw_tbl := ⟨rfl, List.mem_of_getElem? (i := 398) rfl⟩
set_option maxRecDepth 1000000 in
theorem mw_X3_burstBalloons : mv_gg (mv_cw n_X3_burstBalloons m_X3_burstBalloons) = true ∧ mv_cw n_X3_burstBalloons m_X3_burstBalloons ∈ lw_tbl := ⟨rfl, List.mem_of_getElem? (i := 414) rfl⟩
set_option maxRecDepth 1000000 in
theorem mw_X3_shake : mv_gg (mv_cw n_X3_shake m_X3_shake) = true ∧ mv_cw n_X3_shake m_X3_shake ∈ lw_tbl := ⟨rfl, List.mem_of_getElem? (i := 434) rfl⟩
set_option maxRecDepth 1000000 in
theorem mw_X3_queueIfOverstrained : mv_gg (mv_cw n_X3_queueIfOverstrained m_X3_queueIfOverstrained) = true ∧ mv_cw n_X3_queueIfOverstrained m_X3_queueIfOverstrained ∈ lw_tbl := ⟨rfl, List.mem_of_getElem? (i := 418) rfl⟩
set_option maxRecDepth 1000000 in
theorem mw_X4_init : mv_gg (mv_cw n_X4_init m_X4_init) = true ∧ mv_cw n_X4_init m_X4_init ∈ lw_tbl := ⟨rfl, List.mem_of_getElem? (i := 190) rfl⟩
set_option maxRecDepth 1000000 in
theorem mw_X4_remember : mv_gg (mv_cw n_X4_remember m_X4_remember) = true ∧ mv_cw n_X4_remember m_X4_remember ∈ lw_tbl := ⟨rfl, List.mem_of_getElem? (i := 783) rfl⟩
set_option maxRecDepth 1000000 in
theorem mw_X4_bringBack : mv_gg (mv_cw n_X4_bringBack m_X4_bringBack) = true ∧ mv_cw n_X4_bringBack m_X4_bringBack ∈ lw_tbl := ⟨rfl, List.mem_of_getElem? (i := 1580) rfl⟩
set_option maxRecDepth 1000000 in
theorem mw_X5_init : mv_gg (mv_cw n_X5_init m_X5_init) = true ∧ mv_cw n_X5_init m_X5_init ∈ lw_tbl := ⟨rfl, List.mem_of_getElem? (i := 126) rfl⟩
set_option maxRecDepth 1000000 in
theorem mw_X5_set : mv_gg (mv_cw n_X5_set m_X5_set) = true ∧ mv_cw n_X5_set m_X5_set ∈ lw_tbl := ⟨rfl, List.mem_of_getElem? (i := 394) rfl⟩
set_option maxRecDepth 1000000 in
theorem mw_X5_copyFrom : mv_gg (mv_cw n_X5_copyFrom m_X5_copyFrom) = true ∧ mv_cw n_X5_copyFrom m_X5_copyFrom ∈ lw_tbl := ⟨rfl, List.mem_of_getElem? (i := 390) rfl⟩
set_option maxRecDepth 1000000 in
theorem mw_X5_worksAt : mv_gg (mv_cw n_X5_worksAt m_X5_worksAt) = true ∧ mv_cw n_X5_worksAt m_X5_worksAt ∈ lw_tbl := ⟨rfl, List.mem_of_getElem? (i := 1290) rfl⟩
set_option maxRecDepth 1000000 in
theorem mw_X6_init : mv_gg (mv_cw n_X6_init m_X6_init) = true ∧ mv_cw n_X6_init m_X6_init ∈ lw_tbl := ⟨rfl, List.mem_of_getElem? (i := 228) rfl⟩
set_option maxRecDepth 1000000 in
theorem mw_X6_append : mv_gg (mv_cw n_X6_append m_X6_append) = true ∧ mv_cw n_X6_append m_X6_append ∈ lw_tbl := ⟨rfl, List.mem_of_getElem? (i := 1181) rfl⟩
set_option maxRecDepth 1000000 in
theorem mw_X6_read : mv_gg (mv_cw n_X6_read m_X6_read) = true ∧ mv_cw n_X6_read m_X6_read ∈ lw_tbl := ⟨rfl, List.mem_of_getElem? (i := 1192) rfl⟩
set_option maxRecDepth 1000000 in
theorem mw_X6_readCommand : mv_gg (mv_cw n_X6_readCommand m_X6_readCommand) = true ∧ mv_cw n_X6_readCommand m_X6_readCommand ∈ lw_tbl := ⟨rfl, List.mem_of_getElem? (i := 1196) rfl⟩
set_option maxRecDepth 1000000 in
theorem mw_X6_readAs : mv_gg (mv_cw n_X6_readAs m_X6_readAs) = true ∧ mv_cw n_X6_readAs m_X6_readAs ∈ lw_tbl := ⟨rfl, List.mem_of_getElem? (i := 1200) rfl⟩
set_option maxRecDepth 1000000 in
theorem mw_X6_formOf : mv_gg (mv_cw n_X6_formOf m_X6_formOf) = true ∧ mv_cw n_X6_formOf m_X6_formOf ∈ lw_tbl := ⟨rfl, List.mem_of_getElem? (i := 1203) rfl⟩
set_option maxRecDepth 1000000 in
theorem mw_X6_readPart : mv_gg (mv_cw n_X6_readPart m_X6_readPart) = true ∧ mv_cw n_X6_readPart m_X6_readPart ∈ lw_tbl := ⟨rfl, List.mem_of_getElem? (i := 1219) rfl⟩
set_option maxRecDepth 1000000 in
theorem mw_X6_readNumber : mv_gg (mv_cw n_X6_readNumber m_X6_readNumber) = true ∧ mv_cw n_X6_readNumber m_X6_readNumber ∈ lw_tbl := ⟨rfl, List.mem_of_getElem? (i := 1223) rfl⟩
set_option maxRecDepth 1000000 in
theorem mw_X6_readCharacter : mv_gg (mv_cw n_X6_readCharacter m_X6_readCharacter) = true ∧ mv_cw n_X6_readCharacter m_X6_readCharacter ∈ lw_tbl := ⟨rfl, List.mem_of_getElem? (i := 1229) rfl⟩
set_option maxRecDepth 1000000 in
theorem mw_X7_init : mv_gg (mv_cw n_X7_init m_X7_init) = true ∧ mv_cw n_X7_init m_X7_init ∈ lw_tbl := ⟨rfl, List.mem_of_getElem? (i := 291) rfl⟩
set_option maxRecDepth 1000000 in
theorem mw_X7_collect : mv_gg (mv_cw n_X7_collect m_X7_collect) = true ∧ mv_cw n_X7_collect m_X7_collect ∈ lw_tbl := ⟨rfl, List.mem_of_getElem? (i := 1543) rfl⟩
set_option maxRecDepth 1000000 in
theorem mw_X7_tangledByPairs : mv_gg (mv_cw n_X7_tangledByPairs m_X7_tangledByPairs) = true ∧ mv_cw n_X7_tangledByPairs m_X7_tangledByPairs ∈ lw_tbl := ⟨rfl, List.mem_of_getElem? (i := 1539) rfl⟩
set_option maxRecDepth 1000000 in
theorem mw_X7_tangledByMerging : mv_gg (mv_cw n_X7_tangledByMerging m_X7_tangledByMerging) = true ∧ mv_cw n_X7_tangledByMerging m_X7_tangledByMerging ∈ lw_tbl := ⟨rfl, List.mem_of_getElem? (i := 1553) rfl⟩
set_option maxRecDepth 1000000 in
theorem mw_X7_sortAndCount : mv_gg (mv_cw n_X7_sortAndCount m_X7_sortAndCount) = true ∧ mv_cw n_X7_sortAndCount m_X7_sortAndCount ∈ lw_tbl := ⟨rfl, List.mem_of_getElem? (i := 1556) rfl⟩
set_option maxRecDepth 1000000 in
theorem mw_X7_mergeAndCount : mv_gg (mv_cw n_X7_mergeAndCount m_X7_mergeAndCount) = true ∧ mv_cw n_X7_mergeAndCount m_X7_mergeAndCount ∈ lw_tbl := ⟨rfl, List.mem_of_getElem? (i := 1559) rfl⟩
set_option maxRecDepth 1000000 in
theorem mw_X8_init : mv_gg (mv_cw n_X8_init m_X8_init) = true ∧ mv_cw n_X8_init m_X8_init ∈ lw_tbl := ⟨rfl, List.mem_of_getElem? (i := 72) rfl⟩
set_option maxRecDepth 1000000 in
theorem mw_X8_moor : mv_gg (mv_cw n_X8_moor m_X8_moor) = true ∧ mv_cw n_X8_moor m_X8_moor ∈ lw_tbl := ⟨rfl, List.mem_of_getElem? (i := 683) rfl⟩
set_option maxRecDepth 1000000 in
theorem mw_X8_castOff : mv_gg (mv_cw n_X8_castOff m_X8_castOff) = true ∧ mv_cw n_X8_castOff m_X8_castOff ∈ lw_tbl := ⟨rfl, List.mem_of_getElem? (i := 849) rfl⟩
set_option maxRecDepth 1000000 in
theorem mw_X8_balloonCount : mv_gg (mv_cw n_X8_balloonCount m_X8_balloonCount) = true ∧ mv_cw n_X8_balloonCount m_X8_balloonCount ∈ lw_tbl := ⟨rfl, List.mem_of_getElem? (i := 362) rfl⟩
set_option maxRecDepth 1000000 in
theorem mw_X8_isMoored : mv_gg (mv_cw n_X8_isMoored m_X8_isMoored) = true ∧ mv_cw n_X8_isMoored m_X8_isMoored ∈ lw_tbl := ⟨rfl, List.mem_of_getElem? (i := 481) rfl⟩
set_option maxRecDepth 1000000 in
theorem mw_X8_lift : mv_gg (mv_cw n_X8_lift m_X8_lift) = true ∧ mv_cw n_X8_lift m_X8_lift ∈ lw_tbl := ⟨rfl, List.mem_of_getElem? (i := 1246) rfl⟩
set_option maxRecDepth 1000000 in
theorem mw_X8_ballast : mv_gg (mv_cw n_X8_ballast m_X8_ballast) = true ∧ mv_cw n_X8_ballast m_X8_ballast ∈ lw_tbl := ⟨rfl, List.mem_of_getElem? (i := 563) rfl⟩
set_option maxRecDepth 1000000 in
theorem mw_X8_height : mv_gg (mv_cw n_X8_height m_X8_height) = true ∧ mv_cw n_X8_height m_X8_height ∈ lw_tbl := ⟨rfl, List.mem_of_getElem? (i := 590) rfl⟩
set_option maxRecDepth 1000000 in
theorem mw_X8_isBursting : mv_gg (mv_cw n_X8_isBursting m_X8_isBursting) = true ∧ mv_cw n_X8_isBursting m_X8_isBursting ∈ lw_tbl := ⟨rfl, List.mem_of_getElem? (i := 1339) rfl⟩
set_option maxRecDepth 1000000 in
theorem mw_X8_berthByHeight : mv_gg (mv_cw n_X8_berthByHeight m_X8_berthByHeight) = true ∧ mv_cw n_X8_berthByHeight m_X8_berthByHeight ∈ lw_tbl := ⟨rfl, List.mem_of_getElem? (i := 1421) rfl⟩
set_option maxRecDepth 1000000 in
theorem mw_X8_load : mv_gg (mv_cw n_X8_load m_X8_load) = true ∧ mv_cw n_X8_load m_X8_load ∈ lw_tbl := ⟨rfl, List.mem_of_getElem? (i := 842) rfl⟩
set_option maxRecDepth 1000000 in
theorem mw_X8_drop : mv_gg (mv_cw n_X8_drop m_X8_drop) = true ∧ mv_cw n_X8_drop m_X8_drop ∈ lw_tbl := ⟨rfl, List.mem_of_getElem? (i := 877) rfl⟩
set_option maxRecDepth 1000000 in
theorem mw_X8_rise : mv_gg (mv_cw n_X8_rise m_X8_rise) = true ∧ mv_cw n_X8_rise m_X8_rise ∈ lw_tbl := ⟨rfl, List.mem_of_getElem? (i := 884) rfl⟩
set_option maxRecDepth 1000000 in
theorem mw_X8_bagCount : mv_gg (mv_cw n_X8_bagCount m_X8_bagCount) = true ∧ mv_cw n_X8_bagCount m_X8_bagCount ∈ lw_tbl := ⟨rfl, List.mem_of_getElem? (i := 601) rfl⟩
set_option maxRecDepth 1000000 in
theorem mw_X8_bagWeight : mv_gg (mv_cw n_X8_bagWeight m_X8_bagWeight) = true ∧ mv_cw n_X8_bagWeight m_X8_bagWeight ∈ lw_tbl := ⟨rfl, List.mem_of_getElem? (i := 1262) rfl⟩
set_option maxRecDepth 1000000 in
theorem mw_X8_fewestDrops : mv_gg (mv_cw n_X8_fewestDrops m_X8_fewestDrops) = true ∧ mv_cw n_X8_fewestDrops m_X8_fewestDrops ∈ lw_tbl := ⟨rfl, List.mem_of_getElem? (i := 608) rfl⟩
set_option maxRecDepth 1000000 in
theorem mw_X8_fewestDropsBySets : mv_gg (mv_cw n_X8_fewestDropsBySets m_X8_fewestDropsBySets) = true ∧ mv_cw n_X8_fewestDropsBySets m_X8_fewestDropsBySets ∈ lw_tbl := ⟨rfl, List.mem_of_getElem? (i := 1314) rfl⟩
set_option maxRecDepth 1000000 in
theorem mw_X8_dropWeight : mv_gg (mv_cw n_X8_dropWeight m_X8_dropWeight) = true ∧ mv_cw n_X8_dropWeight m_X8_dropWeight ∈ lw_tbl := ⟨rfl, List.mem_of_getElem? (i := 632) rfl⟩
set_option maxRecDepth 1000000 in
theorem mw_X8_setWind : mv_gg (mv_cw n_X8_setWind m_X8_setWind) = true ∧ mv_cw n_X8_setWind m_X8_setWind ∈ lw_tbl := ⟨rfl, List.mem_of_getElem? (i := 891) rfl⟩
set_option maxRecDepth 1000000 in
theorem mw_X8_wind : mv_gg (mv_cw n_X8_wind m_X8_wind) = true ∧ mv_cw n_X8_wind m_X8_wind ∈ lw_tbl := ⟨rfl, List.mem_of_getElem? (i := 1271) rfl⟩
set_option maxRecDepth 1000000 in
theorem mw_X8_top : mv_gg (mv_cw n_X8_top m_X8_top) = true ∧ mv_cw n_X8_top m_X8_top ∈ lw_tbl := ⟨rfl, List.mem_of_getElem? (i := 1300) rfl⟩
set_option maxRecDepth 1000000 in
theorem mw_X8_tangles : mv_gg (mv_cw n_X8_tangles m_X8_tangles) = true ∧ mv_cw n_X8_tangles m_X8_tangles ∈ lw_tbl := ⟨rfl, List.mem_of_getElem? (i := 1535) rfl⟩
set_option maxRecDepth 1000000 in
theorem mw_X8_tanglesByMerging : mv_gg (mv_cw n_X8_tanglesByMerging m_X8_tanglesByMerging) = true ∧ mv_cw n_X8_tanglesByMerging m_X8_tanglesByMerging ∈ lw_tbl := ⟨rfl, List.mem_of_getElem? (i := 1549) rfl⟩
set_option maxRecDepth 1000000 in
theorem mw_X8_longestCalm : mv_gg (mv_cw n_X8_longestCalm m_X8_longestCalm) = true ∧ mv_cw n_X8_longestCalm m_X8_longestCalm ∈ lw_tbl := ⟨rfl, List.mem_of_getElem? (i := 1441) rfl⟩
set_option maxRecDepth 1000000 in
theorem mw_X8_longestCalmByTrying : mv_gg (mv_cw n_X8_longestCalmByTrying m_X8_longestCalmByTrying) = true ∧ mv_cw n_X8_longestCalmByTrying m_X8_longestCalmByTrying ∈ lw_tbl := ⟨rfl, List.mem_of_getElem? (i := 1490) rfl⟩
set_option maxRecDepth 1000000 in
theorem mw_X8_addPilot : mv_gg (mv_cw n_X8_addPilot m_X8_addPilot) = true ∧ mv_cw n_X8_addPilot m_X8_addPilot ∈ lw_tbl := ⟨rfl, List.mem_of_getElem? (i := 898) rfl⟩
set_option maxRecDepth 1000000 in
theorem mw_X8_removePilot : mv_gg (mv_cw n_X8_removePilot m_X8_removePilot) = true ∧ mv_cw n_X8_removePilot m_X8_removePilot ∈ lw_tbl := ⟨rfl, List.mem_of_getElem? (i := 905) rfl⟩
set_option maxRecDepth 1000000 in
theorem mw_X8_pilotCount : mv_gg (mv_cw n_X8_pilotCount m_X8_pilotCount) = true ∧ mv_cw n_X8_pilotCount m_X8_pilotCount ∈ lw_tbl := ⟨rfl, List.mem_of_getElem? (i := 370) rfl⟩
set_option maxRecDepth 1000000 in
theorem mw_X8_isOnDuty : mv_gg (mv_cw n_X8_isOnDuty m_X8_isOnDuty) = true ∧ mv_cw n_X8_isOnDuty m_X8_isOnDuty ∈ lw_tbl := ⟨rfl, List.mem_of_getElem? (i := 1280) rfl⟩
set_option maxRecDepth 1000000 in
theorem mw_X8_canCrew : mv_gg (mv_cw n_X8_canCrew m_X8_canCrew) = true ∧ mv_cw n_X8_canCrew m_X8_canCrew ∈ lw_tbl := ⟨rfl, List.mem_of_getElem? (i := 1323) rfl⟩
set_option maxRecDepth 1000000 in
theorem mw_X8_mostCrewed : mv_gg (mv_cw n_X8_mostCrewed m_X8_mostCrewed) = true ∧ mv_cw n_X8_mostCrewed m_X8_mostCrewed ∈ lw_tbl := ⟨rfl, List.mem_of_getElem? (i := 1458) rfl⟩
set_option maxRecDepth 1000000 in
theorem mw_X8_mostCrewedBySets : mv_gg (mv_cw n_X8_mostCrewedBySets m_X8_mostCrewedBySets) = true ∧ mv_cw n_X8_mostCrewedBySets m_X8_mostCrewedBySets ∈ lw_tbl := ⟨rfl, List.mem_of_getElem? (i := 1473) rfl⟩
set_option maxRecDepth 1000000 in
theorem mw_X8_pass : mv_gg (mv_cw n_X8_pass m_X8_pass) = true ∧ mv_cw n_X8_pass m_X8_pass ∈ lw_tbl := ⟨rfl, List.mem_of_getElem? (i := 912) rfl⟩
set_option maxRecDepth 1000000 in
theorem mw_X8_burstsAhead : mv_gg (mv_cw n_X8_burstsAhead m_X8_burstsAhead) = true ∧ mv_cw n_X8_burstsAhead m_X8_burstsAhead ∈ lw_tbl := ⟨rfl, List.mem_of_getElem? (i := 374) rfl⟩
set_option maxRecDepth 1000000 in
theorem mw_X8_hour : mv_gg (mv_cw n_X8_hour m_X8_hour) = true ∧ mv_cw n_X8_hour m_X8_hour ∈ lw_tbl := ⟨rfl, List.mem_of_getElem? (i := 446) rfl⟩
set_option maxRecDepth 1000000 in
theorem mw_X8_bursts : mv_gg (mv_cw n_X8_bursts m_X8_bursts) = true ∧ mv_cw n_X8_bursts m_X8_bursts ∈ lw_tbl := ⟨rfl, List.mem_of_getElem? (i := 450) rfl⟩
set_option maxRecDepth 1000000 in
theorem mw_X8_loaded : mv_gg (mv_cw n_X8_loaded m_X8_loaded) = true ∧ mv_cw n_X8_loaded m_X8_loaded ∈ lw_tbl := ⟨rfl, List.mem_of_getElem? (i := 454) rfl⟩
set_option maxRecDepth 1000000 in
theorem mw_X8_aboard : mv_gg (mv_cw n_X8_aboard m_X8_aboard) = true ∧ mv_cw n_X8_aboard m_X8_aboard ∈ lw_tbl := ⟨rfl, List.mem_of_getElem? (i := 1498) rfl⟩
set_option maxRecDepth 1000000 in
theorem mw_X8_dropped : mv_gg (mv_cw n_X8_dropped m_X8_dropped) = true ∧ mv_cw n_X8_dropped m_X8_dropped ∈ lw_tbl := ⟨rfl, List.mem_of_getElem? (i := 458) rfl⟩
set_option maxRecDepth 1000000 in
theorem mw_X8_lost : mv_gg (mv_cw n_X8_lost m_X8_lost) = true ∧ mv_cw n_X8_lost m_X8_lost ∈ lw_tbl := ⟨rfl, List.mem_of_getElem? (i := 462) rfl⟩
set_option maxRecDepth 1000000 in
theorem mw_X8_meanHeight : mv_gg (mv_cw n_X8_meanHeight m_X8_meanHeight) = true ∧ mv_cw n_X8_meanHeight m_X8_meanHeight ∈ lw_tbl := ⟨rfl, List.mem_of_getElem? (i := 1523) rfl⟩
set_option maxRecDepth 1000000 in
theorem mw_X8_strain : mv_gg (mv_cw n_X8_strain m_X8_strain) = true ∧ mv_cw n_X8_strain m_X8_strain ∈ lw_tbl := ⟨rfl, List.mem_of_getElem? (i := 1254) rfl⟩
set_option maxRecDepth 1000000 in
theorem mw_X8_feed : mv_gg (mv_cw n_X8_feed m_X8_feed) = true ∧ mv_cw n_X8_feed m_X8_feed ∈ lw_tbl := ⟨rfl, List.mem_of_getElem? (i := 1161) rfl⟩
set_option maxRecDepth 1000000 in
theorem mw_X8_execute : mv_gg (mv_cw n_X8_execute m_X8_execute) = true ∧ mv_cw n_X8_execute m_X8_execute ∈ lw_tbl := ⟨rfl, List.mem_of_getElem? (i := 1188) rfl⟩
set_option maxRecDepth 1000000 in
theorem mw_X8_writeBalloon : mv_gg (mv_cw n_X8_writeBalloon m_X8_writeBalloon) = true ∧ mv_cw n_X8_writeBalloon m_X8_writeBalloon ∈ lw_tbl := ⟨rfl, List.mem_of_getElem? (i := 1347) rfl⟩
set_option maxRecDepth 1000000 in
theorem mw_X8_denial : mv_gg (mv_cw n_X8_denial m_X8_denial) = true ∧ mv_cw n_X8_denial m_X8_denial ∈ lw_tbl := ⟨rfl, List.mem_of_getElem? (i := 657) rfl⟩
set_option maxRecDepth 1000000 in
theorem mw_X8_denialDetail : mv_gg (mv_cw n_X8_denialDetail m_X8_denialDetail) = true ∧ mv_cw n_X8_denialDetail m_X8_denialDetail ∈ lw_tbl := ⟨rfl, List.mem_of_getElem? (i := 669) rfl⟩
set_option maxRecDepth 1000000 in
theorem mw_X8_undo : mv_gg (mv_cw n_X8_undo m_X8_undo) = true ∧ mv_cw n_X8_undo m_X8_undo ∈ lw_tbl := ⟨rfl, List.mem_of_getElem? (i := 1575) rfl⟩
set_option maxRecDepth 1000000 in
theorem mw_X8_undoCount : mv_gg (mv_cw n_X8_undoCount m_X8_undoCount) = true ∧ mv_cw n_X8_undoCount m_X8_undoCount ∈ lw_tbl := ⟨rfl, List.mem_of_getElem? (i := 466) rfl⟩
set_option maxRecDepth 1000000 in
theorem mw_X8_saveSnapshot : mv_gg (mv_cw n_X8_saveSnapshot m_X8_saveSnapshot) = true ∧ mv_cw n_X8_saveSnapshot m_X8_saveSnapshot ∈ lw_tbl := ⟨rfl, List.mem_of_getElem? (i := 1567) rfl⟩
set_option maxRecDepth 1000000 in
theorem mw_X8_restoreSnapshot : mv_gg (mv_cw n_X8_restoreSnapshot m_X8_restoreSnapshot) = true ∧ mv_cw n_X8_restoreSnapshot m_X8_restoreSnapshot ∈ lw_tbl := ⟨rfl, List.mem_of_getElem? (i := 1587) rfl⟩
set_option maxRecDepth 1000000 in
theorem mw_X8_change : mv_gg (mv_cw n_X8_change m_X8_change) = true ∧ mv_cw n_X8_change m_X8_change ∈ lw_tbl := ⟨rfl, List.mem_of_getElem? (i := 687) rfl⟩
set_option maxRecDepth 1000000 in
theorem mw_X8_refuse : mv_gg (mv_cw n_X8_refuse m_X8_refuse) = true ∧ mv_cw n_X8_refuse m_X8_refuse ∈ lw_tbl := ⟨rfl, List.mem_of_getElem? (i := 738) rfl⟩
set_option maxRecDepth 1000000 in
theorem mw_X8_keepDenial : mv_gg (mv_cw n_X8_keepDenial m_X8_keepDenial) = true ∧ mv_cw n_X8_keepDenial m_X8_keepDenial ∈ lw_tbl := ⟨rfl, List.mem_of_getElem? (i := 763) rfl⟩
set_option maxRecDepth 1000000 in
theorem mw_X8_balloonAt : mv_gg (mv_cw n_X8_balloonAt m_X8_balloonAt) = true ∧ mv_cw n_X8_balloonAt m_X8_balloonAt ∈ lw_tbl := ⟨rfl, List.mem_of_getElem? (i := 567) rfl⟩
set_option maxRecDepth 1000000 in
theorem mw_X8_requirePilot : mv_gg (mv_cw n_X8_requirePilot m_X8_requirePilot) = true ∧ mv_cw n_X8_requirePilot m_X8_requirePilot ∈ lw_tbl := ⟨rfl, List.mem_of_getElem? (i := 1284) rfl⟩
set_option maxRecDepth 1000000 in
theorem mw_X8_requireDenial : mv_gg (mv_cw n_X8_requireDenial m_X8_requireDenial) = true ∧ mv_cw n_X8_requireDenial m_X8_requireDenial ∈ lw_tbl := ⟨rfl, List.mem_of_getElem? (i := 661) rfl⟩
set_option maxRecDepth 1000000 in
theorem mw_X8_requireHeight : mv_gg (mv_cw n_X8_requireHeight m_X8_requireHeight) = true ∧ mv_cw n_X8_requireHeight m_X8_requireHeight ∈ lw_tbl := ⟨rfl, List.mem_of_getElem? (i := 611) rfl⟩
set_option maxRecDepth 1000000 in
theorem mw_X8_requireWindStrength : mv_gg (mv_cw n_X8_requireWindStrength m_X8_requireWindStrength) = true ∧ mv_cw n_X8_requireWindStrength m_X8_requireWindStrength ∈ lw_tbl := ⟨rfl, List.mem_of_getElem? (i := 1444) rfl⟩
set_option maxRecDepth 1000000 in
theorem mw_X8_requireDropSet : mv_gg (mv_cw n_X8_requireDropSet m_X8_requireDropSet) = true ∧ mv_cw n_X8_requireDropSet m_X8_requireDropSet ∈ lw_tbl := ⟨rfl, List.mem_of_getElem? (i := 635) rfl⟩
set_option maxRecDepth 1000000 in
theorem mw_X8_isWithin : mv_gg (mv_cw n_X8_isWithin m_X8_isWithin) = true ∧ mv_cw n_X8_isWithin m_X8_isWithin ∈ lw_tbl := ⟨rfl, List.mem_of_getElem? (i := 405) rfl⟩
set_option maxRecDepth 1000000 in
theorem mw_J5_init_d00df : mv_gg (mv_cw n_J5_init_d00df m_J5_init_d00df) = true ∧ mv_cw n_J5_init_d00df m_J5_init_d00df ∈ lw_tbl := ⟨rfl, List.mem_of_getElem? (i := 261) rfl⟩
set_option maxRecDepth 1000000 in
theorem mw_J5_length_8abf5 : mv_gg (mv_cw n_J5_length_8abf5 m_J5_length_8abf5) = true ∧ mv_cw n_J5_length_8abf5 m_J5_length_8abf5 ∈ lw_tbl := ⟨rfl, List.mem_of_getElem? (i := 1085) rfl⟩
set_option maxRecDepth 1000000 in
theorem mw_J5_ensureCapacityInternal_d00df : mv_gg (mv_cw n_J5_ensureCapacityInternal_d00df m_J5_ensureCapacityInternal_d00df) = true ∧ mv_cw n_J5_ensureCapacityInternal_d00df m_J5_ensureCapacityInternal_d00df ∈ lw_tbl := ⟨rfl, List.mem_of_getElem? (i := 930) rfl⟩
set_option maxRecDepth 1000000 in
theorem mw_J5_newCapacity_0f7a4 : mv_gg (mv_cw n_J5_newCapacity_0f7a4 m_J5_newCapacity_0f7a4) = true ∧ mv_cw n_J5_newCapacity_0f7a4 m_J5_newCapacity_0f7a4 ∈ lw_tbl := ⟨rfl, List.mem_of_getElem? (i := 934) rfl⟩
set_option maxRecDepth 1000000 in
theorem mw_J5_setLength_d00df : mv_gg (mv_cw n_J5_setLength_d00df m_J5_setLength_d00df) = true ∧ mv_cw n_J5_setLength_d00df m_J5_setLength_d00df ∈ lw_tbl := ⟨rfl, List.mem_of_getElem? (i := 1354) rfl⟩
set_option maxRecDepth 1000000 in
theorem mw_J5_append_3fe6f : mv_gg (mv_cw n_J5_append_3fe6f m_J5_append_3fe6f) = true ∧ mv_cw n_J5_append_3fe6f m_J5_append_3fe6f ∈ lw_tbl := ⟨rfl, List.mem_of_getElem? (i := 1407) rfl⟩
set_option maxRecDepth 1000000 in
theorem mw_J5_append_c97b9 : mv_gg (mv_cw n_J5_append_c97b9 m_J5_append_c97b9) = true ∧ mv_cw n_J5_append_c97b9 m_J5_append_c97b9 ∈ lw_tbl := ⟨rfl, List.mem_of_getElem? (i := 1038) rfl⟩
set_option maxRecDepth 1000000 in
theorem mw_J5_isLatin1_aae02 : mv_gg (mv_cw n_J5_isLatin1_aae02 m_J5_isLatin1_aae02) = true ∧ mv_cw n_J5_isLatin1_aae02 m_J5_isLatin1_aae02 ∈ lw_tbl := ⟨rfl, List.mem_of_getElem? (i := 962) rfl⟩
set_option maxRecDepth 1000000 in
theorem mw_J6_getChars_ba4f3 : mv_gg (mv_cw n_J6_getChars_ba4f3 m_J6_getChars_ba4f3) = true ∧ mv_cw n_J6_getChars_ba4f3 m_J6_getChars_ba4f3 ∈ lw_tbl := ⟨rfl, List.mem_of_getElem? (i := 1044) rfl⟩
set_option maxRecDepth 1000000 in
theorem mw_J6_stringSize_0f7a4 : mv_gg (mv_cw n_J6_stringSize_0f7a4 m_J6_stringSize_0f7a4) = true ∧ mv_cw n_J6_stringSize_0f7a4 m_J6_stringSize_0f7a4 ∈ lw_tbl := ⟨rfl, List.mem_of_getElem? (i := 1041) rfl⟩
set_option maxRecDepth 1000000 in
theorem mw_J6_bitCount_0f7a4 : mv_gg (mv_cw n_J6_bitCount_0f7a4 m_J6_bitCount_0f7a4) = true ∧ mv_cw n_J6_bitCount_0f7a4 m_J6_bitCount_0f7a4 ∈ lw_tbl := ⟨rfl, List.mem_of_getElem? (i := 646) rfl⟩
set_option maxRecDepth 1000000 in
theorem mw_J9_abs_0f7a4 : mv_gg (mv_cw n_J9_abs_0f7a4 m_J9_abs_0f7a4) = true ∧ mv_cw n_J9_abs_0f7a4 m_J9_abs_0f7a4 ∈ lw_tbl := ⟨rfl, List.mem_of_getElem? (i := 1452) rfl⟩
set_option maxRecDepth 1000000 in
theorem mw_J9_max_7cf53 : mv_gg (mv_cw n_J9_max_7cf53 m_J9_max_7cf53) = true ∧ mv_cw n_J9_max_7cf53 m_J9_max_7cf53 ∈ lw_tbl := ⟨rfl, List.mem_of_getElem? (i := 940) rfl⟩
set_option maxRecDepth 1000000 in
theorem mw_J9_min_7cf53 : mv_gg (mv_cw n_J9_min_7cf53 m_J9_min_7cf53) = true ∧ mv_cw n_J9_min_7cf53 m_J9_min_7cf53 ∈ lw_tbl := ⟨rfl, List.mem_of_getElem? (i := 787) rfl⟩
set_option maxRecDepth 1000000 in
theorem mw_J0_length_8abf5 : mv_gg (mv_cw n_J0_length_8abf5 m_J0_length_8abf5) = true ∧ mv_cw n_J0_length_8abf5 m_J0_length_8abf5 ∈ lw_tbl := ⟨rfl, List.mem_of_getElem? (i := 992) rfl⟩
set_option maxRecDepth 1000000 in
theorem mw_J0_charAt_5068e : mv_gg (mv_cw n_J0_charAt_5068e m_J0_charAt_5068e) = true ∧ mv_cw n_J0_charAt_5068e m_J0_charAt_5068e ∈ lw_tbl := ⟨rfl, List.mem_of_getElem? (i := 1133) rfl⟩
set_option maxRecDepth 1000000 in
theorem mw_J0_coder_7d493 : mv_gg (mv_cw n_J0_coder_7d493 m_J0_coder_7d493) = true ∧ mv_cw n_J0_coder_7d493 m_J0_coder_7d493 ∈ lw_tbl := ⟨rfl, List.mem_of_getElem? (i := 996) rfl⟩
set_option maxRecDepth 1000000 in
theorem mw_J0_isLatin1_aae02 : mv_gg (mv_cw n_J0_isLatin1_aae02 m_J0_isLatin1_aae02) = true ∧ mv_cw n_J0_isLatin1_aae02 m_J0_isLatin1_aae02 ∈ lw_tbl := ⟨rfl, List.mem_of_getElem? (i := 1137) rfl⟩
set_option maxRecDepth 1000000 in
theorem mw_J0_checkIndex_df160 : mv_gg (mv_cw n_J0_checkIndex_df160 m_J0_checkIndex_df160) = true ∧ mv_cw n_J0_checkIndex_df160 m_J0_checkIndex_df160 ∈ lw_tbl := ⟨rfl, List.mem_of_getElem? (i := 1143) rfl⟩
set_option maxRecDepth 1000000 in
theorem mw_J4_init_da8c8 : mv_gg (mv_cw n_J4_init_da8c8 m_J4_init_da8c8) = true ∧ mv_cw n_J4_init_da8c8 m_J4_init_da8c8 ∈ lw_tbl := ⟨rfl, List.mem_of_getElem? (i := 258) rfl⟩
set_option maxRecDepth 1000000 in
theorem mw_J4_append_cf468 : mv_gg (mv_cw n_J4_append_cf468 m_J4_append_cf468) = true ∧ mv_cw n_J4_append_cf468 m_J4_append_cf468 ∈ lw_tbl := ⟨rfl, List.mem_of_getElem? (i := 1404) rfl⟩
set_option maxRecDepth 1000000 in
theorem mw_J4_append_bf812 : mv_gg (mv_cw n_J4_append_bf812 m_J4_append_bf812) = true ∧ mv_cw n_J4_append_bf812 m_J4_append_bf812 ∈ lw_tbl := ⟨rfl, List.mem_of_getElem? (i := 1035) rfl⟩
set_option maxRecDepth 1000000 in
theorem mw_J4_setLength_d00df : mv_gg (mv_cw n_J4_setLength_d00df m_J4_setLength_d00df) = true ∧ mv_cw n_J4_setLength_d00df m_J4_setLength_d00df ∈ lw_tbl := ⟨rfl, List.mem_of_getElem? (i := 1351) rfl⟩
set_option maxRecDepth 1000000 in
theorem mw_J4_length_8abf5 : mv_gg (mv_cw n_J4_length_8abf5 m_J4_length_8abf5) = true ∧ mv_cw n_J4_length_8abf5 m_J4_length_8abf5 ∈ lw_tbl := ⟨rfl, List.mem_of_getElem? (i := 1083) rfl⟩
set_option maxRecDepth 1000000 in
theorem mw_J1_charAt_3b067 : mv_gg (mv_cw n_J1_charAt_3b067 m_J1_charAt_3b067) = true ∧ mv_cw n_J1_charAt_3b067 m_J1_charAt_3b067 ∈ lw_tbl := ⟨rfl, List.mem_of_getElem? (i := 1140) rfl⟩
set_option maxRecDepth 1000000 in
theorem mw_J1_canEncode_fc78d : mv_gg (mv_cw n_J1_canEncode_fc78d m_J1_canEncode_fc78d) = true ∧ mv_cw n_J1_canEncode_fc78d m_J1_canEncode_fc78d ∈ lw_tbl := ⟨rfl, List.mem_of_getElem? (i := 1410) rfl⟩
set_option maxRecDepth 1000000 in
theorem mw_J7_fill_53178 : mv_gg (mv_cw n_J7_fill_53178 m_J7_fill_53178) = true ∧ mv_cw n_J7_fill_53178 m_J7_fill_53178 ∈ lw_tbl := ⟨rfl, List.mem_of_getElem? (i := 1465) rfl⟩
set_option maxRecDepth 1000000 in
theorem mw_J7_copyOf_9075b : mv_gg (mv_cw n_J7_copyOf_9075b m_J7_copyOf_9075b) = true ∧ mv_cw n_J7_copyOf_9075b m_J7_copyOf_9075b ∈ lw_tbl := ⟨rfl, List.mem_of_getElem? (i := 948) rfl⟩
set_option maxRecDepth 1000000 in
theorem mw_J8_newLength_cabcc : mv_gg (mv_cw n_J8_newLength_cabcc m_J8_newLength_cabcc) = true ∧ mv_cw n_J8_newLength_cabcc m_J8_newLength_cabcc ∈ lw_tbl := ⟨rfl, List.mem_of_getElem? (i := 937) rfl⟩
set_option maxRecDepth 1000000 in
theorem mw_J3_checkIndex_8e157 : mv_gg (mv_cw n_J3_checkIndex_8e157 m_J3_checkIndex_8e157) = true ∧ mv_cw n_J3_checkIndex_8e157 m_J3_checkIndex_8e157 ∈ lw_tbl := ⟨rfl, List.mem_of_getElem? (i := 1146) rfl⟩
set_option maxRecDepth 1000000 in
theorem mw_J5_append_cf1ce : mv_gg (mv_cw n_J5_append_cf1ce m_J5_append_cf1ce) = true ∧ mv_cw n_J5_append_cf1ce m_J5_append_cf1ce ∈ lw_tbl := ⟨rfl, List.mem_of_getElem? (i := 922) rfl⟩
set_option maxRecDepth 1000000 in
theorem mw_J5_getValue_6d5f1 : mv_gg (mv_cw n_J5_getValue_6d5f1 m_J5_getValue_6d5f1) = true ∧ mv_cw n_J5_getValue_6d5f1 m_J5_getValue_6d5f1 ∈ lw_tbl := ⟨rfl, List.mem_of_getElem? (i := 1077) rfl⟩
set_option maxRecDepth 1000000 in
theorem mw_J5_inflateIfNeededFor_a7421 : mv_gg (mv_cw n_J5_inflateIfNeededFor_a7421 m_J5_inflateIfNeededFor_a7421) = true ∧ mv_cw n_J5_inflateIfNeededFor_a7421 m_J5_inflateIfNeededFor_a7421 ∈ lw_tbl := ⟨rfl, List.mem_of_getElem? (i := 1005) rfl⟩
set_option maxRecDepth 1000000 in
theorem mw_J5_putStringAt_47b60 : mv_gg (mv_cw n_J5_putStringAt_47b60 m_J5_putStringAt_47b60) = true ∧ mv_cw n_J5_putStringAt_47b60 m_J5_putStringAt_47b60 ∈ lw_tbl := ⟨rfl, List.mem_of_getElem? (i := 1001) rfl⟩
set_option maxRecDepth 1000000 in
theorem mw_J0_init_81219 : mv_gg (mv_cw n_J0_init_81219 m_J0_init_81219) = true ∧ mv_cw n_J0_init_81219 m_J0_init_81219 ∈ lw_tbl := ⟨rfl, List.mem_of_getElem? (i := 1068) rfl⟩
set_option maxRecDepth 1000000 in
theorem mw_J0_getBytes_840e7 : mv_gg (mv_cw n_J0_getBytes_840e7 m_J0_getBytes_840e7) = true ∧ mv_cw n_J0_getBytes_840e7 m_J0_getBytes_840e7 ∈ lw_tbl := ⟨rfl, List.mem_of_getElem? (i := 1029) rfl⟩
set_option maxRecDepth 1000000 in
theorem mw_J0_init_db425 : mv_gg (mv_cw n_J0_init_db425 m_J0_init_db425) = true ∧ mv_cw n_J0_init_db425 m_J0_init_db425 ∈ lw_tbl := ⟨rfl, List.mem_of_getElem? (i := 1071) rfl⟩
set_option maxRecDepth 1000000 in
theorem mw_J4_append_15ec4 : mv_gg (mv_cw n_J4_append_15ec4 m_J4_append_15ec4) = true ∧ mv_cw n_J4_append_15ec4 m_J4_append_15ec4 ∈ lw_tbl := ⟨rfl, List.mem_of_getElem? (i := 919) rfl⟩
set_option maxRecDepth 1000000 in
theorem mw_J4_toString_0e30d : mv_gg (mv_cw n_J4_toString_0e30d m_J4_toString_0e30d) = true ∧ mv_cw n_J4_toString_0e30d m_J4_toString_0e30d ∈ lw_tbl := ⟨rfl, List.mem_of_getElem? (i := 1064) rfl⟩
set_option maxRecDepth 1000000 in
theorem mw_J7_checkLength_df160 : mv_gg (mv_cw n_J7_checkLength_df160 m_J7_checkLength_df160) = true ∧ mv_cw n_J7_checkLength_df160 m_J7_checkLength_df160 ∈ lw_tbl := ⟨rfl, List.mem_of_getElem? (i := 1095) rfl⟩
set_option maxRecDepth 1000000 in
theorem mw_J7_copyOfRange_39247 : mv_gg (mv_cw n_J7_copyOfRange_39247 m_J7_copyOfRange_39247) = true ∧ mv_cw n_J7_copyOfRange_39247 m_J7_copyOfRange_39247 ∈ lw_tbl := ⟨rfl, List.mem_of_getElem? (i := 1089) rfl⟩
set_option maxRecDepth 1000000 in
theorem mw_J7_copyOfRangeByte_39247 : mv_gg (mv_cw n_J7_copyOfRangeByte_39247 m_J7_copyOfRangeByte_39247) = true ∧ mv_cw n_J7_copyOfRangeByte_39247 m_J7_copyOfRangeByte_39247 ∈ lw_tbl := ⟨rfl, List.mem_of_getElem? (i := 1092) rfl⟩
set_option maxRecDepth 1000000 in
theorem mw_L_cell : mv_gg (mv_cw n_L_cell m_L_cell) = true ∧ mv_cw n_L_cell m_L_cell ∈ lw_tbl := ⟨rfl, List.mem_of_getElem? (i := 472) rfl⟩
set_option maxRecDepth 1000000 in
theorem mw_L_pick : mv_gg (mv_cw n_L_pick m_L_pick) = true ∧ mv_cw n_L_pick m_L_pick ∈ lw_tbl := ⟨rfl, List.mem_of_getElem? (i := 469) rfl⟩
set_option maxRecDepth 1000000 in
theorem mw_L_moor : mv_gg (mv_cw n_L_moor m_L_moor) = true ∧ mv_cw n_L_moor m_L_moor ∈ lw_tbl := ⟨rfl, List.mem_of_getElem? (i := 678) rfl⟩
set_option maxRecDepth 1000000 in
theorem mw_L_castOff : mv_gg (mv_cw n_L_castOff m_L_castOff) = true ∧ mv_cw n_L_castOff m_L_castOff ∈ lw_tbl := ⟨rfl, List.mem_of_getElem? (i := 845) rfl⟩
set_option maxRecDepth 1000000 in
theorem mw_L_isMoored : mv_gg (mv_cw n_L_isMoored m_L_isMoored) = true ∧ mv_cw n_L_isMoored m_L_isMoored ∈ lw_tbl := ⟨rfl, List.mem_of_getElem? (i := 476) rfl⟩
set_option maxRecDepth 1000000 in
theorem mw_L_lift : mv_gg (mv_cw n_L_lift m_L_lift) = true ∧ mv_cw n_L_lift m_L_lift ∈ lw_tbl := ⟨rfl, List.mem_of_getElem? (i := 1242) rfl⟩
set_option maxRecDepth 1000000 in
theorem mw_L_ballast : mv_gg (mv_cw n_L_ballast m_L_ballast) = true ∧ mv_cw n_L_ballast m_L_ballast ∈ lw_tbl := ⟨rfl, List.mem_of_getElem? (i := 558) rfl⟩
set_option maxRecDepth 1000000 in
theorem mw_L_height : mv_gg (mv_cw n_L_height m_L_height) = true ∧ mv_cw n_L_height m_L_height ∈ lw_tbl := ⟨rfl, List.mem_of_getElem? (i := 586) rfl⟩
set_option maxRecDepth 1000000 in
theorem mw_L_isBursting : mv_gg (mv_cw n_L_isBursting m_L_isBursting) = true ∧ mv_cw n_L_isBursting m_L_isBursting ∈ lw_tbl := ⟨rfl, List.mem_of_getElem? (i := 1335) rfl⟩
set_option maxRecDepth 1000000 in
theorem mw_L_berthByHeight : mv_gg (mv_cw n_L_berthByHeight m_L_berthByHeight) = true ∧ mv_cw n_L_berthByHeight m_L_berthByHeight ∈ lw_tbl := ⟨rfl, List.mem_of_getElem? (i := 1417) rfl⟩
set_option maxRecDepth 1000000 in
theorem mw_L_load : mv_gg (mv_cw n_L_load m_L_load) = true ∧ mv_cw n_L_load m_L_load ∈ lw_tbl := ⟨rfl, List.mem_of_getElem? (i := 838) rfl⟩
set_option maxRecDepth 1000000 in
theorem mw_L_drop : mv_gg (mv_cw n_L_drop m_L_drop) = true ∧ mv_cw n_L_drop m_L_drop ∈ lw_tbl := ⟨rfl, List.mem_of_getElem? (i := 852) rfl⟩
set_option maxRecDepth 1000000 in
theorem mw_L_rise : mv_gg (mv_cw n_L_rise m_L_rise) = true ∧ mv_cw n_L_rise m_L_rise ∈ lw_tbl := ⟨rfl, List.mem_of_getElem? (i := 880) rfl⟩
set_option maxRecDepth 1000000 in
theorem mw_L_bagCount : mv_gg (mv_cw n_L_bagCount m_L_bagCount) = true ∧ mv_cw n_L_bagCount m_L_bagCount ∈ lw_tbl := ⟨rfl, List.mem_of_getElem? (i := 597) rfl⟩
set_option maxRecDepth 1000000 in
theorem mw_L_bagWeight : mv_gg (mv_cw n_L_bagWeight m_L_bagWeight) = true ∧ mv_cw n_L_bagWeight m_L_bagWeight ∈ lw_tbl := ⟨rfl, List.mem_of_getElem? (i := 1258) rfl⟩
set_option maxRecDepth 1000000 in
theorem mw_L_fewestDrops : mv_gg (mv_cw n_L_fewestDrops m_L_fewestDrops) = true ∧ mv_cw n_L_fewestDrops m_L_fewestDrops ∈ lw_tbl := ⟨rfl, List.mem_of_getElem? (i := 604) rfl⟩
set_option maxRecDepth 1000000 in
theorem mw_L_fewestDropsBySets : mv_gg (mv_cw n_L_fewestDropsBySets m_L_fewestDropsBySets) = true ∧ mv_cw n_L_fewestDropsBySets m_L_fewestDropsBySets ∈ lw_tbl := ⟨rfl, List.mem_of_getElem? (i := 1310) rfl⟩
set_option maxRecDepth 1000000 in
theorem mw_L_dropWeight : mv_gg (mv_cw n_L_dropWeight m_L_dropWeight) = true ∧ mv_cw n_L_dropWeight m_L_dropWeight ∈ lw_tbl := ⟨rfl, List.mem_of_getElem? (i := 628) rfl⟩
set_option maxRecDepth 1000000 in
theorem mw_L_setWind : mv_gg (mv_cw n_L_setWind m_L_setWind) = true ∧ mv_cw n_L_setWind m_L_setWind ∈ lw_tbl := ⟨rfl, List.mem_of_getElem? (i := 887) rfl⟩
set_option maxRecDepth 1000000 in
theorem mw_L_wind : mv_gg (mv_cw n_L_wind m_L_wind) = true ∧ mv_cw n_L_wind m_L_wind ∈ lw_tbl := ⟨rfl, List.mem_of_getElem? (i := 1267) rfl⟩
set_option maxRecDepth 1000000 in
theorem mw_L_top : mv_gg (mv_cw n_L_top m_L_top) = true ∧ mv_cw n_L_top m_L_top ∈ lw_tbl := ⟨rfl, List.mem_of_getElem? (i := 1296) rfl⟩
set_option maxRecDepth 1000000 in
theorem mw_L_longestCalm : mv_gg (mv_cw n_L_longestCalm m_L_longestCalm) = true ∧ mv_cw n_L_longestCalm m_L_longestCalm ∈ lw_tbl := ⟨rfl, List.mem_of_getElem? (i := 1437) rfl⟩
set_option maxRecDepth 1000000 in
theorem mw_L_longestCalmByTrying : mv_gg (mv_cw n_L_longestCalmByTrying m_L_longestCalmByTrying) = true ∧ mv_cw n_L_longestCalmByTrying m_L_longestCalmByTrying ∈ lw_tbl := ⟨rfl, List.mem_of_getElem? (i := 1486) rfl⟩
set_option maxRecDepth 1000000 in
theorem mw_L_addPilot : mv_gg (mv_cw n_L_addPilot m_L_addPilot) = true ∧ mv_cw n_L_addPilot m_L_addPilot ∈ lw_tbl := ⟨rfl, List.mem_of_getElem? (i := 894) rfl⟩
set_option maxRecDepth 1000000 in
theorem mw_L_removePilot : mv_gg (mv_cw n_L_removePilot m_L_removePilot) = true ∧ mv_cw n_L_removePilot m_L_removePilot ∈ lw_tbl := ⟨rfl, List.mem_of_getElem? (i := 901) rfl⟩
set_option maxRecDepth 1000000 in
theorem mw_L_isOnDuty : mv_gg (mv_cw n_L_isOnDuty m_L_isOnDuty) = true ∧ mv_cw n_L_isOnDuty m_L_isOnDuty ∈ lw_tbl := ⟨rfl, List.mem_of_getElem? (i := 1276) rfl⟩
set_option maxRecDepth 1000000 in
theorem mw_L_canCrew : mv_gg (mv_cw n_L_canCrew m_L_canCrew) = true ∧ mv_cw n_L_canCrew m_L_canCrew ∈ lw_tbl := ⟨rfl, List.mem_of_getElem? (i := 1319) rfl⟩
set_option maxRecDepth 1000000 in
theorem mw_L_pass : mv_gg (mv_cw n_L_pass m_L_pass) = true ∧ mv_cw n_L_pass m_L_pass ∈ lw_tbl := ⟨rfl, List.mem_of_getElem? (i := 908) rfl⟩
set_option maxRecDepth 1000000 in
theorem mw_L_meanHeight : mv_gg (mv_cw n_L_meanHeight m_L_meanHeight) = true ∧ mv_cw n_L_meanHeight m_L_meanHeight ∈ lw_tbl := ⟨rfl, List.mem_of_getElem? (i := 1505) rfl⟩
set_option maxRecDepth 1000000 in
theorem mw_L_strain : mv_gg (mv_cw n_L_strain m_L_strain) = true ∧ mv_cw n_L_strain m_L_strain ∈ lw_tbl := ⟨rfl, List.mem_of_getElem? (i := 1250) rfl⟩
set_option maxRecDepth 1000000 in
theorem mw_L_feed : mv_gg (mv_cw n_L_feed m_L_feed) = true ∧ mv_cw n_L_feed m_L_feed ∈ lw_tbl := ⟨rfl, List.mem_of_getElem? (i := 1156) rfl⟩
set_option maxRecDepth 1000000 in
theorem mw_L_execute : mv_gg (mv_cw n_L_execute m_L_execute) = true ∧ mv_cw n_L_execute m_L_execute ∈ lw_tbl := ⟨rfl, List.mem_of_getElem? (i := 1184) rfl⟩
set_option maxRecDepth 1000000 in
theorem mw_L_writeBalloon : mv_gg (mv_cw n_L_writeBalloon m_L_writeBalloon) = true ∧ mv_cw n_L_writeBalloon m_L_writeBalloon ∈ lw_tbl := ⟨rfl, List.mem_of_getElem? (i := 1343) rfl⟩
set_option maxRecDepth 1000000 in
theorem mw_L_denial : mv_gg (mv_cw n_L_denial m_L_denial) = true ∧ mv_cw n_L_denial m_L_denial ∈ lw_tbl := ⟨rfl, List.mem_of_getElem? (i := 653) rfl⟩
set_option maxRecDepth 1000000 in
theorem mw_L_denialDetail : mv_gg (mv_cw n_L_denialDetail m_L_denialDetail) = true ∧ mv_cw n_L_denialDetail m_L_denialDetail ∈ lw_tbl := ⟨rfl, List.mem_of_getElem? (i := 665) rfl⟩
set_option maxRecDepth 1000000 in
theorem mw_L_undo : mv_gg (mv_cw n_L_undo m_L_undo) = true ∧ mv_cw n_L_undo m_L_undo ∈ lw_tbl := ⟨rfl, List.mem_of_getElem? (i := 1571) rfl⟩
set_option maxRecDepth 1000000 in
theorem mw_L_restoreSnapshot : mv_gg (mv_cw n_L_restoreSnapshot m_L_restoreSnapshot) = true ∧ mv_cw n_L_restoreSnapshot m_L_restoreSnapshot ∈ lw_tbl := ⟨rfl, List.mem_of_getElem? (i := 1583) rfl⟩
set_option maxRecDepth 1000000 in
theorem mw_L_runs : mv_gg (mv_cw n_L_runs m_L_runs) = true ∧ mv_cw n_L_runs m_L_runs ∈ lw_tbl := ⟨rfl, List.mem_of_getElem? (i := 1128) rfl⟩
set_option maxRecDepth 1000000 in
theorem mw_L_berth : mv_gg (mv_cw n_L_berth m_L_berth) = true ∧ mv_cw n_L_berth m_L_berth ∈ lw_tbl := ⟨rfl, List.mem_of_getElem? (i := 672) rfl⟩
set_option maxRecDepth 1000000 in
theorem mw_L_does : mv_gg (mv_cw n_L_does m_L_does) = true ∧ mv_cw n_L_does m_L_does ∈ lw_tbl := ⟨rfl, List.mem_of_getElem? (i := 675) rfl⟩
set_option maxRecDepth 1000000 in
theorem mw_L_sum : mv_gg (mv_cw n_L_sum m_L_sum) = true ∧ mv_cw n_L_sum m_L_sum ∈ lw_tbl := ⟨rfl, List.mem_of_getElem? (i := 1235) rfl⟩
set_option maxRecDepth 1000000 in
theorem mw_L_isBalloon : mv_gg (mv_cw n_L_isBalloon m_L_isBalloon) = true ∧ mv_cw n_L_isBalloon m_L_isBalloon ∈ lw_tbl := ⟨rfl, List.mem_of_getElem? (i := 1307) rfl⟩
set_option maxRecDepth 1000000 in
theorem mw_L_isWhole : mv_gg (mv_cw n_L_isWhole m_L_isWhole) = true ∧ mv_cw n_L_isWhole m_L_isWhole ∈ lw_tbl := ⟨rfl, List.mem_of_getElem? (i := 1293) rfl⟩
set_option maxRecDepth 1000000 in
theorem mw_L_isKept : mv_gg (mv_cw n_L_isKept m_L_isKept) = true ∧ mv_cw n_L_isKept m_L_isKept ∈ lw_tbl := ⟨rfl, List.mem_of_getElem? (i := 1563) rfl⟩
def mv_gw (N : mv_N) (M : mv_M) : Prop := N.1.cls ≠ "BalloonHarbourLaw" ∨ N.1.name ≠ "law" → mv_gg (mv_cw N M) = true ∧ mv_cw N M ∈ lw_tbl
def mv_W1 : List (Nat × mv_N) → List (Nat × mv_M) → Prop
  | [], [] => True
  | a :: r, b :: s => a.1 = b.1 ∧ mv_gw a.2 b.2 ∧ mv_W1 r s
  | _, _ => False
theorem mv_W1_ok {i : Nat} {N : mv_N} {M : mv_M} : ∀ {l : List (Nat × mv_N)} {k : List (Nat × mv_M)}, mv_W1 l k → mv_find l i = some N → mv_find k i = some M → mv_gw N M
  | [], _, _, h, _ => by cases h
  | a :: r, [], g, _, _ => g.elim
  | (a, x) :: r, (b, y) :: s, g, h1, h2 => by
    obtain ⟨g1, g2, g3⟩ := g
    have g1 : a = b := g1
    subst g1
    unfold mv_find at h1 h2
    cases hb : Nat.beq a i with
    | true =>
      simp only [hb, cond_true, Option.some.injEq] at h1 h2
      subst h1; subst h2
      exact g2
    | false =>
      simp only [hb, cond_false] at h1 h2
      exact mv_W1_ok g3 h1 h2
theorem mW_0 : mv_W1 [(0, n_X0_init), (1, n_X0_copyFrom), (2, n_X0_begin), (3, n_X0_spareLift), (4, n_X0_heightWith), (5, n_X0_presentHeight), (6, n_X0_isOverstrained), (7, n_X0_changeLift), (8, n_X0_hasBag), (9, n_X0_addBag), (10, n_X0_removeBag), (11, n_X0_weightOf), (12, n_X0_bestDropSet), (13, n_X0_isBetter), (14, n_X0_fewestBagsByWeight), (15, n_X0_heaviestOutside)] [(0, m_X0_init), (1, m_X0_copyFrom), (2, m_X0_begin), (3, m_X0_spareLift), (4, m_X0_heightWith), (5, m_X0_presentHeight), (6, m_X0_isOverstrained), (7, m_X0_changeLift), (8, m_X0_hasBag), (9, m_X0_addBag), (10, m_X0_removeBag), (11, m_X0_weightOf), (12, m_X0_bestDropSet), (13, m_X0_isBetter), (14, m_X0_fewestBagsByWeight), (15, m_X0_heaviestOutside)] := ⟨rfl, fun _ => mw_X0_init, ⟨rfl, fun _ => mw_X0_copyFrom, ⟨rfl, fun _ => mw_X0_begin, ⟨rfl, fun _ => mw_X0_spareLift, ⟨rfl, fun _ => mw_X0_heightWith, ⟨rfl, fun _ => mw_X0_presentHeight, ⟨rfl, fun _ => mw_X0_isOverstrained, ⟨rfl, fun _ => mw_X0_changeLift, ⟨rfl, fun _ => mw_X0_hasBag, ⟨rfl, fun _ => mw_X0_addBag, ⟨rfl, fun _ => mw_X0_removeBag, ⟨rfl, fun _ => mw_X0_weightOf, ⟨rfl, fun _ => mw_X0_bestDropSet, ⟨rfl, fun _ => mw_X0_isBetter, ⟨rfl, fun _ => mw_X0_fewestBagsByWeight, ⟨rfl, fun _ => mw_X0_heaviestOutside, trivial⟩⟩⟩⟩⟩⟩⟩⟩⟩⟩⟩⟩⟩⟩⟩⟩
theorem mW_1 : mv_W1 [(16, n_X1_init), (17, n_X1_begin), (18, n_X1_add), (19, n_X1_set), (20, n_X2_init), (21, n_X2_mostByChanging), (22, n_X2_findsBalloon), (23, n_X2_mostBySets), (24, n_X2_giveToOnePilot), (25, n_X3_init), (26, n_X3_copyFrom), (27, n_X3_hasBalloon), (28, n_X3_hasPilot), (29, n_X3_hourOfDay), (30, n_X3_countBalloons), (31, n_X3_weightAboard)] [(16, m_X1_init), (17, m_X1_begin), (18, m_X1_add), (19, m_X1_set), (20, m_X2_init), (21, m_X2_mostByChanging), (22, m_X2_findsBalloon), (23, m_X2_mostBySets), (24, m_X2_giveToOnePilot), (25, m_X3_init), (26, m_X3_copyFrom), (27, m_X3_hasBalloon), (28, m_X3_hasPilot), (29, m_X3_hourOfDay), (30, m_X3_countBalloons), (31, m_X3_weightAboard)] := ⟨rfl, fun _ => mw_X1_init, ⟨rfl, fun _ => mw_X1_begin, ⟨rfl, fun _ => mw_X1_add, ⟨rfl, fun _ => mw_X1_set, ⟨rfl, fun _ => mw_X2_init, ⟨rfl, fun _ => mw_X2_mostByChanging, ⟨rfl, fun _ => mw_X2_findsBalloon, ⟨rfl, fun _ => mw_X2_mostBySets, ⟨rfl, fun _ => mw_X2_giveToOnePilot, ⟨rfl, fun _ => mw_X3_init, ⟨rfl, fun _ => mw_X3_copyFrom, ⟨rfl, fun _ => mw_X3_hasBalloon, ⟨rfl, fun _ => mw_X3_hasPilot, ⟨rfl, fun _ => mw_X3_hourOfDay, ⟨rfl, fun _ => mw_X3_countBalloons, ⟨rfl, fun _ => mw_X3_weightAboard, trivial⟩⟩⟩⟩⟩⟩⟩⟩⟩⟩⟩⟩⟩⟩⟩⟩
theorem mW_2 : mv_W1 [(32, n_X3_sumOfHeights), (33, n_X3_berthAtRank), (34, n_X3_countAhead), (35, n_X3_isAhead), (36, n_X3_topOf), (37, n_X3_calmOfTwoDays), (38, n_X3_calmByTrying), (39, n_X3_fitsCrew), (40, n_X3_refusalOf), (41, n_X3_refusalToMoor), (42, n_X3_refusalToLoad), (43, n_X3_refusalToDrop), (44, n_X3_refusalToRise), (45, n_X3_refusalOfWind), (46, n_X3_refusalOfPilot), (47, n_X3_detailOf)] [(32, m_X3_sumOfHeights), (33, m_X3_berthAtRank), (34, m_X3_countAhead), (35, m_X3_isAhead), (36, m_X3_topOf), (37, m_X3_calmOfTwoDays), (38, m_X3_calmByTrying), (39, m_X3_fitsCrew), (40, m_X3_refusalOf), (41, m_X3_refusalToMoor), (42, m_X3_refusalToLoad), (43, m_X3_refusalToDrop), (44, m_X3_refusalToRise), (45, m_X3_refusalOfWind), (46, m_X3_refusalOfPilot), (47, m_X3_detailOf)] := ⟨rfl, fun _ => mw_X3_sumOfHeights, ⟨rfl, fun _ => mw_X3_berthAtRank, ⟨rfl, fun _ => mw_X3_countAhead, ⟨rfl, fun _ => mw_X3_isAhead, ⟨rfl, fun _ => mw_X3_topOf, ⟨rfl, fun _ => mw_X3_calmOfTwoDays, ⟨rfl, fun _ => mw_X3_calmByTrying, ⟨rfl, fun _ => mw_X3_fitsCrew, ⟨rfl, fun _ => mw_X3_refusalOf, ⟨rfl, fun _ => mw_X3_refusalToMoor, ⟨rfl, fun _ => mw_X3_refusalToLoad, ⟨rfl, fun _ => mw_X3_refusalToDrop, ⟨rfl, fun _ => mw_X3_refusalToRise, ⟨rfl, fun _ => mw_X3_refusalOfWind, ⟨rfl, fun _ => mw_X3_refusalOfPilot, ⟨rfl, fun _ => mw_X3_detailOf, trivial⟩⟩⟩⟩⟩⟩⟩⟩⟩⟩⟩⟩⟩⟩⟩⟩
theorem mW_3 : mv_W1 [(48, n_X3_carryOut), (49, n_X3_putBalloon), (50, n_X3_removeBalloon), (51, n_X3_loadBag), (52, n_X3_dropBag), (53, n_X3_dropBestSet), (54, n_X3_replaceWind), (55, n_X3_putPilot), (56, n_X3_takePilot), (57, n_X3_passHours), (58, n_X3_burstBalloons), (59, n_X3_shake), (60, n_X3_queueIfOverstrained), (61, n_X4_init), (62, n_X4_remember), (63, n_X4_bringBack)] [(48, m_X3_carryOut), (49, m_X3_putBalloon), (50, m_X3_removeBalloon), (51, m_X3_loadBag), (52, m_X3_dropBag), (53, m_X3_dropBestSet), (54, m_X3_replaceWind), (55, m_X3_putPilot), (56, m_X3_takePilot), (57, m_X3_passHours), (58, m_X3_burstBalloons), (59, m_X3_shake), (60, m_X3_queueIfOverstrained), (61, m_X4_init), (62, m_X4_remember), (63, m_X4_bringBack)] := ⟨rfl, fun _ => mw_X3_carryOut, ⟨rfl, fun _ => mw_X3_putBalloon, ⟨rfl, fun _ => mw_X3_removeBalloon, ⟨rfl, fun _ => mw_X3_loadBag, ⟨rfl, fun _ => mw_X3_dropBag, ⟨rfl, fun _ => mw_X3_dropBestSet, ⟨rfl, fun _ => mw_X3_replaceWind, ⟨rfl, fun _ => mw_X3_putPilot, ⟨rfl, fun _ => mw_X3_takePilot, ⟨rfl, fun _ => mw_X3_passHours, ⟨rfl, fun _ => mw_X3_burstBalloons, ⟨rfl, fun _ => mw_X3_shake, ⟨rfl, fun _ => mw_X3_queueIfOverstrained, ⟨rfl, fun _ => mw_X4_init, ⟨rfl, fun _ => mw_X4_remember, ⟨rfl, fun _ => mw_X4_bringBack, trivial⟩⟩⟩⟩⟩⟩⟩⟩⟩⟩⟩⟩⟩⟩⟩⟩
theorem mW_4 : mv_W1 [(64, n_X5_init), (65, n_X5_set), (66, n_X5_copyFrom), (67, n_X5_worksAt), (68, n_X6_init), (69, n_X6_append), (70, n_X6_read), (71, n_X6_readCommand), (72, n_X6_readAs), (73, n_X6_formOf), (74, n_X6_readPart), (75, n_X6_readNumber), (76, n_X6_readCharacter), (77, n_X7_init), (78, n_X7_collect), (79, n_X7_tangledByPairs)] [(64, m_X5_init), (65, m_X5_set), (66, m_X5_copyFrom), (67, m_X5_worksAt), (68, m_X6_init), (69, m_X6_append), (70, m_X6_read), (71, m_X6_readCommand), (72, m_X6_readAs), (73, m_X6_formOf), (74, m_X6_readPart), (75, m_X6_readNumber), (76, m_X6_readCharacter), (77, m_X7_init), (78, m_X7_collect), (79, m_X7_tangledByPairs)] := ⟨rfl, fun _ => mw_X5_init, ⟨rfl, fun _ => mw_X5_set, ⟨rfl, fun _ => mw_X5_copyFrom, ⟨rfl, fun _ => mw_X5_worksAt, ⟨rfl, fun _ => mw_X6_init, ⟨rfl, fun _ => mw_X6_append, ⟨rfl, fun _ => mw_X6_read, ⟨rfl, fun _ => mw_X6_readCommand, ⟨rfl, fun _ => mw_X6_readAs, ⟨rfl, fun _ => mw_X6_formOf, ⟨rfl, fun _ => mw_X6_readPart, ⟨rfl, fun _ => mw_X6_readNumber, ⟨rfl, fun _ => mw_X6_readCharacter, ⟨rfl, fun _ => mw_X7_init, ⟨rfl, fun _ => mw_X7_collect, ⟨rfl, fun _ => mw_X7_tangledByPairs, trivial⟩⟩⟩⟩⟩⟩⟩⟩⟩⟩⟩⟩⟩⟩⟩⟩
theorem mW_5 : mv_W1 [(80, n_X7_tangledByMerging), (81, n_X7_sortAndCount), (82, n_X7_mergeAndCount), (83, n_X8_init), (84, n_X8_moor), (85, n_X8_castOff), (86, n_X8_balloonCount), (87, n_X8_isMoored), (88, n_X8_lift), (89, n_X8_ballast), (90, n_X8_height), (91, n_X8_isBursting), (92, n_X8_berthByHeight), (93, n_X8_load), (94, n_X8_drop), (95, n_X8_rise)] [(80, m_X7_tangledByMerging), (81, m_X7_sortAndCount), (82, m_X7_mergeAndCount), (83, m_X8_init), (84, m_X8_moor), (85, m_X8_castOff), (86, m_X8_balloonCount), (87, m_X8_isMoored), (88, m_X8_lift), (89, m_X8_ballast), (90, m_X8_height), (91, m_X8_isBursting), (92, m_X8_berthByHeight), (93, m_X8_load), (94, m_X8_drop), (95, m_X8_rise)] := ⟨rfl, fun _ => mw_X7_tangledByMerging, ⟨rfl, fun _ => mw_X7_sortAndCount, ⟨rfl, fun _ => mw_X7_mergeAndCount, ⟨rfl, fun _ => mw_X8_init, ⟨rfl, fun _ => mw_X8_moor, ⟨rfl, fun _ => mw_X8_castOff, ⟨rfl, fun _ => mw_X8_balloonCount, ⟨rfl, fun _ => mw_X8_isMoored, ⟨rfl, fun _ => mw_X8_lift, ⟨rfl, fun _ => mw_X8_ballast, ⟨rfl, fun _ => mw_X8_height, ⟨rfl, fun _ => mw_X8_isBursting, ⟨rfl, fun _ => mw_X8_berthByHeight, ⟨rfl, fun _ => mw_X8_load, ⟨rfl, fun _ => mw_X8_drop, ⟨rfl, fun _ => mw_X8_rise, trivial⟩⟩⟩⟩⟩⟩⟩⟩⟩⟩⟩⟩⟩⟩⟩⟩
theorem mW_6 : mv_W1 [(96, n_X8_bagCount), (97, n_X8_bagWeight), (98, n_X8_fewestDrops), (99, n_X8_fewestDropsBySets), (100, n_X8_dropWeight), (101, n_X8_setWind), (102, n_X8_wind), (103, n_X8_top), (104, n_X8_tangles), (105, n_X8_tanglesByMerging), (106, n_X8_longestCalm), (107, n_X8_longestCalmByTrying), (108, n_X8_addPilot), (109, n_X8_removePilot), (110, n_X8_pilotCount), (111, n_X8_isOnDuty)] [(96, m_X8_bagCount), (97, m_X8_bagWeight), (98, m_X8_fewestDrops), (99, m_X8_fewestDropsBySets), (100, m_X8_dropWeight), (101, m_X8_setWind), (102, m_X8_wind), (103, m_X8_top), (104, m_X8_tangles), (105, m_X8_tanglesByMerging), (106, m_X8_longestCalm), (107, m_X8_longestCalmByTrying), (108, m_X8_addPilot), (109, m_X8_removePilot), (110, m_X8_pilotCount), (111, m_X8_isOnDuty)] := ⟨rfl, fun _ => mw_X8_bagCount, ⟨rfl, fun _ => mw_X8_bagWeight, ⟨rfl, fun _ => mw_X8_fewestDrops, ⟨rfl, fun _ => mw_X8_fewestDropsBySets, ⟨rfl, fun _ => mw_X8_dropWeight, ⟨rfl, fun _ => mw_X8_setWind, ⟨rfl, fun _ => mw_X8_wind, ⟨rfl, fun _ => mw_X8_top, ⟨rfl, fun _ => mw_X8_tangles, ⟨rfl, fun _ => mw_X8_tanglesByMerging, ⟨rfl, fun _ => mw_X8_longestCalm, ⟨rfl, fun _ => mw_X8_longestCalmByTrying, ⟨rfl, fun _ => mw_X8_addPilot, ⟨rfl, fun _ => mw_X8_removePilot, ⟨rfl, fun _ => mw_X8_pilotCount, ⟨rfl, fun _ => mw_X8_isOnDuty, trivial⟩⟩⟩⟩⟩⟩⟩⟩⟩⟩⟩⟩⟩⟩⟩⟩
theorem mW_7 : mv_W1 [(112, n_X8_canCrew), (113, n_X8_mostCrewed), (114, n_X8_mostCrewedBySets), (115, n_X8_pass), (116, n_X8_burstsAhead), (117, n_X8_hour), (118, n_X8_bursts), (119, n_X8_loaded), (120, n_X8_aboard), (121, n_X8_dropped), (122, n_X8_lost), (123, n_X8_meanHeight), (124, n_X8_strain), (125, n_X8_feed), (126, n_X8_execute)] [(112, m_X8_canCrew), (113, m_X8_mostCrewed), (114, m_X8_mostCrewedBySets), (115, m_X8_pass), (116, m_X8_burstsAhead), (117, m_X8_hour), (118, m_X8_bursts), (119, m_X8_loaded), (120, m_X8_aboard), (121, m_X8_dropped), (122, m_X8_lost), (123, m_X8_meanHeight), (124, m_X8_strain), (125, m_X8_feed), (126, m_X8_execute)] := ⟨rfl, fun _ => mw_X8_canCrew, ⟨rfl, fun _ => mw_X8_mostCrewed, ⟨rfl, fun _ => mw_X8_mostCrewedBySets, ⟨rfl, fun _ => mw_X8_pass, ⟨rfl, fun _ => mw_X8_burstsAhead, ⟨rfl, fun _ => mw_X8_hour, ⟨rfl, fun _ => mw_X8_bursts, ⟨rfl, fun _ => mw_X8_loaded, ⟨rfl, fun _ => mw_X8_aboard, ⟨rfl, fun _ => mw_X8_dropped, ⟨rfl, fun _ => mw_X8_lost, ⟨rfl, fun _ => mw_X8_meanHeight, ⟨rfl, fun _ => mw_X8_strain, ⟨rfl, fun _ => mw_X8_feed, ⟨rfl, fun _ => mw_X8_execute, trivial⟩⟩⟩⟩⟩⟩⟩⟩⟩⟩⟩⟩⟩⟩⟩
theorem mW_8 : mv_W1 [(128, n_X8_writeBalloon), (130, n_X8_denial), (131, n_X8_denialDetail), (133, n_X8_undo), (134, n_X8_undoCount), (135, n_X8_saveSnapshot), (136, n_X8_restoreSnapshot), (137, n_X8_change), (138, n_X8_refuse), (139, n_X8_keepDenial), (140, n_X8_balloonAt), (141, n_X8_requirePilot), (142, n_X8_requireDenial), (143, n_X8_requireHeight)] [(128, m_X8_writeBalloon), (130, m_X8_denial), (131, m_X8_denialDetail), (133, m_X8_undo), (134, m_X8_undoCount), (135, m_X8_saveSnapshot), (136, m_X8_restoreSnapshot), (137, m_X8_change), (138, m_X8_refuse), (139, m_X8_keepDenial), (140, m_X8_balloonAt), (141, m_X8_requirePilot), (142, m_X8_requireDenial), (143, m_X8_requireHeight)] := ⟨rfl, fun _ => mw_X8_writeBalloon, ⟨rfl, fun _ => mw_X8_denial, ⟨rfl, fun _ => mw_X8_denialDetail, ⟨rfl, fun _ => mw_X8_undo, ⟨rfl, fun _ => mw_X8_undoCount, ⟨rfl, fun _ => mw_X8_saveSnapshot, ⟨rfl, fun _ => mw_X8_restoreSnapshot, ⟨rfl, fun _ => mw_X8_change, ⟨rfl, fun _ => mw_X8_refuse, ⟨rfl, fun _ => mw_X8_keepDenial, ⟨rfl, fun _ => mw_X8_balloonAt, ⟨rfl, fun _ => mw_X8_requirePilot, ⟨rfl, fun _ => mw_X8_requireDenial, ⟨rfl, fun _ => mw_X8_requireHeight, trivial⟩⟩⟩⟩⟩⟩⟩⟩⟩⟩⟩⟩⟩⟩
theorem mW_9 : mv_W1 [(144, n_X8_requireWindStrength), (145, n_X8_requireDropSet), (146, n_X8_isWithin)] [(144, m_X8_requireWindStrength), (145, m_X8_requireDropSet), (146, m_X8_isWithin)] := ⟨rfl, fun _ => mw_X8_requireWindStrength, ⟨rfl, fun _ => mw_X8_requireDropSet, ⟨rfl, fun _ => mw_X8_isWithin, trivial⟩⟩⟩
theorem mW_10 : mv_W1 [] [] := trivial
theorem mW_11 : mv_W1 [] [] := trivial
theorem mW_12 : mv_W1 [] [] := trivial
theorem mW_13 : mv_W1 [] [] := trivial
theorem mW_14 : mv_W1 [] [] := trivial
theorem mW_15 : mv_W1 [(253, n_J5_init_d00df), (254, n_J5_length_8abf5), (255, n_J5_ensureCapacityInternal_d00df)] [(253, m_J5_init_d00df), (254, m_J5_length_8abf5), (255, m_J5_ensureCapacityInternal_d00df)] := ⟨rfl, fun _ => mw_J5_init_d00df, ⟨rfl, fun _ => mw_J5_length_8abf5, ⟨rfl, fun _ => mw_J5_ensureCapacityInternal_d00df, trivial⟩⟩⟩
theorem mW_16 : mv_W1 [(256, n_J5_newCapacity_0f7a4), (257, n_J5_setLength_d00df), (259, n_J5_append_3fe6f), (260, n_J5_append_c97b9), (261, n_J5_isLatin1_aae02), (262, n_J6_getChars_ba4f3), (263, n_J6_stringSize_0f7a4), (264, n_J6_bitCount_0f7a4), (265, n_J9_abs_0f7a4), (266, n_J9_max_7cf53), (267, n_J9_min_7cf53), (268, n_J0_length_8abf5), (269, n_J0_charAt_5068e), (270, n_J0_coder_7d493), (271, n_J0_isLatin1_aae02)] [(256, m_J5_newCapacity_0f7a4), (257, m_J5_setLength_d00df), (259, m_J5_append_3fe6f), (260, m_J5_append_c97b9), (261, m_J5_isLatin1_aae02), (262, m_J6_getChars_ba4f3), (263, m_J6_stringSize_0f7a4), (264, m_J6_bitCount_0f7a4), (265, m_J9_abs_0f7a4), (266, m_J9_max_7cf53), (267, m_J9_min_7cf53), (268, m_J0_length_8abf5), (269, m_J0_charAt_5068e), (270, m_J0_coder_7d493), (271, m_J0_isLatin1_aae02)] := ⟨rfl, fun _ => mw_J5_newCapacity_0f7a4, ⟨rfl, fun _ => mw_J5_setLength_d00df, ⟨rfl, fun _ => mw_J5_append_3fe6f, ⟨rfl, fun _ => mw_J5_append_c97b9, ⟨rfl, fun _ => mw_J5_isLatin1_aae02, ⟨rfl, fun _ => mw_J6_getChars_ba4f3, ⟨rfl, fun _ => mw_J6_stringSize_0f7a4, ⟨rfl, fun _ => mw_J6_bitCount_0f7a4, ⟨rfl, fun _ => mw_J9_abs_0f7a4, ⟨rfl, fun _ => mw_J9_max_7cf53, ⟨rfl, fun _ => mw_J9_min_7cf53, ⟨rfl, fun _ => mw_J0_length_8abf5, ⟨rfl, fun _ => mw_J0_charAt_5068e, ⟨rfl, fun _ => mw_J0_coder_7d493, ⟨rfl, fun _ => mw_J0_isLatin1_aae02, trivial⟩⟩⟩⟩⟩⟩⟩⟩⟩⟩⟩⟩⟩⟩⟩
theorem mW_17 : mv_W1 [(272, n_J0_checkIndex_df160), (273, n_J4_init_da8c8), (274, n_J4_append_cf468), (275, n_J4_append_bf812), (277, n_J4_setLength_d00df), (278, n_J4_length_8abf5), (279, n_J1_charAt_3b067), (280, n_J1_canEncode_fc78d), (281, n_J7_fill_53178), (282, n_J7_copyOf_9075b), (283, n_J8_newLength_cabcc), (284, n_J3_checkIndex_8e157)] [(272, m_J0_checkIndex_df160), (273, m_J4_init_da8c8), (274, m_J4_append_cf468), (275, m_J4_append_bf812), (277, m_J4_setLength_d00df), (278, m_J4_length_8abf5), (279, m_J1_charAt_3b067), (280, m_J1_canEncode_fc78d), (281, m_J7_fill_53178), (282, m_J7_copyOf_9075b), (283, m_J8_newLength_cabcc), (284, m_J3_checkIndex_8e157)] := ⟨rfl, fun _ => mw_J0_checkIndex_df160, ⟨rfl, fun _ => mw_J4_init_da8c8, ⟨rfl, fun _ => mw_J4_append_cf468, ⟨rfl, fun _ => mw_J4_append_bf812, ⟨rfl, fun _ => mw_J4_setLength_d00df, ⟨rfl, fun _ => mw_J4_length_8abf5, ⟨rfl, fun _ => mw_J1_charAt_3b067, ⟨rfl, fun _ => mw_J1_canEncode_fc78d, ⟨rfl, fun _ => mw_J7_fill_53178, ⟨rfl, fun _ => mw_J7_copyOf_9075b, ⟨rfl, fun _ => mw_J8_newLength_cabcc, ⟨rfl, fun _ => mw_J3_checkIndex_8e157, trivial⟩⟩⟩⟩⟩⟩⟩⟩⟩⟩⟩⟩
theorem mW_18 : mv_W1 [] [] := trivial
theorem mW_19 : mv_W1 [] [] := trivial
theorem mW_20 : mv_W1 [(330, n_J5_append_cf1ce), (331, n_J5_getValue_6d5f1), (332, n_J5_inflateIfNeededFor_a7421), (333, n_J5_putStringAt_47b60), (334, n_J0_init_81219), (335, n_J0_getBytes_840e7)] [(330, m_J5_append_cf1ce), (331, m_J5_getValue_6d5f1), (332, m_J5_inflateIfNeededFor_a7421), (333, m_J5_putStringAt_47b60), (334, m_J0_init_81219), (335, m_J0_getBytes_840e7)] := ⟨rfl, fun _ => mw_J5_append_cf1ce, ⟨rfl, fun _ => mw_J5_getValue_6d5f1, ⟨rfl, fun _ => mw_J5_inflateIfNeededFor_a7421, ⟨rfl, fun _ => mw_J5_putStringAt_47b60, ⟨rfl, fun _ => mw_J0_init_81219, ⟨rfl, fun _ => mw_J0_getBytes_840e7, trivial⟩⟩⟩⟩⟩⟩
theorem mW_21 : mv_W1 [(336, n_J0_init_db425), (337, n_J4_append_15ec4), (338, n_J4_toString_0e30d), (339, n_J7_checkLength_df160), (340, n_J7_copyOfRange_39247), (341, n_J7_copyOfRangeByte_39247), (342, n_L_cell), (343, n_L_pick), (344, n_L_moor), (345, n_L_castOff), (346, n_L_isMoored), (347, n_L_lift), (348, n_L_ballast), (349, n_L_height), (350, n_L_isBursting), (351, n_L_berthByHeight)] [(336, m_J0_init_db425), (337, m_J4_append_15ec4), (338, m_J4_toString_0e30d), (339, m_J7_checkLength_df160), (340, m_J7_copyOfRange_39247), (341, m_J7_copyOfRangeByte_39247), (342, m_L_cell), (343, m_L_pick), (344, m_L_moor), (345, m_L_castOff), (346, m_L_isMoored), (347, m_L_lift), (348, m_L_ballast), (349, m_L_height), (350, m_L_isBursting), (351, m_L_berthByHeight)] := ⟨rfl, fun _ => mw_J0_init_db425, ⟨rfl, fun _ => mw_J4_append_15ec4, ⟨rfl, fun _ => mw_J4_toString_0e30d, ⟨rfl, fun _ => mw_J7_checkLength_df160, ⟨rfl, fun _ => mw_J7_copyOfRange_39247, ⟨rfl, fun _ => mw_J7_copyOfRangeByte_39247, ⟨rfl, fun _ => mw_L_cell, ⟨rfl, fun _ => mw_L_pick, ⟨rfl, fun _ => mw_L_moor, ⟨rfl, fun _ => mw_L_castOff, ⟨rfl, fun _ => mw_L_isMoored, ⟨rfl, fun _ => mw_L_lift, ⟨rfl, fun _ => mw_L_ballast, ⟨rfl, fun _ => mw_L_height, ⟨rfl, fun _ => mw_L_isBursting, ⟨rfl, fun _ => mw_L_berthByHeight, trivial⟩⟩⟩⟩⟩⟩⟩⟩⟩⟩⟩⟩⟩⟩⟩⟩
theorem mW_22 : mv_W1 [(352, n_L_load), (353, n_L_drop), (354, n_L_rise), (355, n_L_bagCount), (356, n_L_bagWeight), (357, n_L_fewestDrops), (358, n_L_fewestDropsBySets), (359, n_L_dropWeight), (360, n_L_setWind), (361, n_L_wind), (362, n_L_top), (363, n_L_longestCalm), (364, n_L_longestCalmByTrying), (365, n_L_addPilot), (366, n_L_removePilot), (367, n_L_isOnDuty)] [(352, m_L_load), (353, m_L_drop), (354, m_L_rise), (355, m_L_bagCount), (356, m_L_bagWeight), (357, m_L_fewestDrops), (358, m_L_fewestDropsBySets), (359, m_L_dropWeight), (360, m_L_setWind), (361, m_L_wind), (362, m_L_top), (363, m_L_longestCalm), (364, m_L_longestCalmByTrying), (365, m_L_addPilot), (366, m_L_removePilot), (367, m_L_isOnDuty)] := ⟨rfl, fun _ => mw_L_load, ⟨rfl, fun _ => mw_L_drop, ⟨rfl, fun _ => mw_L_rise, ⟨rfl, fun _ => mw_L_bagCount, ⟨rfl, fun _ => mw_L_bagWeight, ⟨rfl, fun _ => mw_L_fewestDrops, ⟨rfl, fun _ => mw_L_fewestDropsBySets, ⟨rfl, fun _ => mw_L_dropWeight, ⟨rfl, fun _ => mw_L_setWind, ⟨rfl, fun _ => mw_L_wind, ⟨rfl, fun _ => mw_L_top, ⟨rfl, fun _ => mw_L_longestCalm, ⟨rfl, fun _ => mw_L_longestCalmByTrying, ⟨rfl, fun _ => mw_L_addPilot, ⟨rfl, fun _ => mw_L_removePilot, ⟨rfl, fun _ => mw_L_isOnDuty, trivial⟩⟩⟩⟩⟩⟩⟩⟩⟩⟩⟩⟩⟩⟩⟩⟩
theorem mW_23 : mv_W1 [(368, n_L_canCrew), (369, n_L_pass), (370, n_L_meanHeight), (371, n_L_strain), (372, n_L_feed), (373, n_L_execute), (374, n_L_writeBalloon), (375, n_L_denial), (376, n_L_denialDetail), (377, n_L_undo), (378, n_L_restoreSnapshot), (379, n_L_runs), (380, n_L_law), (381, n_L_berth), (382, n_L_does), (383, n_L_sum)] [(368, m_L_canCrew), (369, m_L_pass), (370, m_L_meanHeight), (371, m_L_strain), (372, m_L_feed), (373, m_L_execute), (374, m_L_writeBalloon), (375, m_L_denial), (376, m_L_denialDetail), (377, m_L_undo), (378, m_L_restoreSnapshot), (379, m_L_runs), (380, m_L_law), (381, m_L_berth), (382, m_L_does), (383, m_L_sum)] := ⟨rfl, fun _ => mw_L_canCrew, ⟨rfl, fun _ => mw_L_pass, ⟨rfl, fun _ => mw_L_meanHeight, ⟨rfl, fun _ => mw_L_strain, ⟨rfl, fun _ => mw_L_feed, ⟨rfl, fun _ => mw_L_execute, ⟨rfl, fun _ => mw_L_writeBalloon, ⟨rfl, fun _ => mw_L_denial, ⟨rfl, fun _ => mw_L_denialDetail, ⟨rfl, fun _ => mw_L_undo, ⟨rfl, fun _ => mw_L_restoreSnapshot, ⟨rfl, fun _ => mw_L_runs, ⟨rfl, fun h => h.elim (fun q => absurd rfl q) (fun q => absurd rfl q), ⟨rfl, fun _ => mw_L_berth, ⟨rfl, fun _ => mw_L_does, ⟨rfl, fun _ => mw_L_sum, trivial⟩⟩⟩⟩⟩⟩⟩⟩⟩⟩⟩⟩⟩⟩⟩⟩
theorem mW_24 : mv_W1 [(384, n_L_isBalloon), (385, n_L_isWhole), (386, n_L_isKept)] [(384, m_L_isBalloon), (385, m_L_isWhole), (386, m_L_isKept)] := ⟨rfl, fun _ => mw_L_isBalloon, ⟨rfl, fun _ => mw_L_isWhole, ⟨rfl, fun _ => mw_L_isKept, trivial⟩⟩⟩
theorem mv_cws : mv_CW := by
  intro y N M h1 h2
  unfold mv_look at h1 h2
  generalize y / 16 = c at h1 h2
  match c, h1, h2 with
  | 0, h1, h2 => exact mv_W1_ok mW_0 h1 h2
  | 1, h1, h2 => exact mv_W1_ok mW_1 h1 h2
  | 2, h1, h2 => exact mv_W1_ok mW_2 h1 h2
  | 3, h1, h2 => exact mv_W1_ok mW_3 h1 h2
  | 4, h1, h2 => exact mv_W1_ok mW_4 h1 h2
  | 5, h1, h2 => exact mv_W1_ok mW_5 h1 h2
  | 6, h1, h2 => exact mv_W1_ok mW_6 h1 h2
  | 7, h1, h2 => exact mv_W1_ok mW_7 h1 h2
  | 8, h1, h2 => exact mv_W1_ok mW_8 h1 h2
  | 9, h1, h2 => exact mv_W1_ok mW_9 h1 h2
  | 10, h1, h2 => exact mv_W1_ok mW_10 h1 h2
  | 11, h1, h2 => exact mv_W1_ok mW_11 h1 h2
  | 12, h1, h2 => exact mv_W1_ok mW_12 h1 h2
  | 13, h1, h2 => exact mv_W1_ok mW_13 h1 h2
  | 14, h1, h2 => exact mv_W1_ok mW_14 h1 h2
  | 15, h1, h2 => exact mv_W1_ok mW_15 h1 h2
  | 16, h1, h2 => exact mv_W1_ok mW_16 h1 h2
  | 17, h1, h2 => exact mv_W1_ok mW_17 h1 h2
  | 18, h1, h2 => exact mv_W1_ok mW_18 h1 h2
  | 19, h1, h2 => exact mv_W1_ok mW_19 h1 h2
  | 20, h1, h2 => exact mv_W1_ok mW_20 h1 h2
  | 21, h1, h2 => exact mv_W1_ok mW_21 h1 h2
  | 22, h1, h2 => exact mv_W1_ok mW_22 h1 h2
  | 23, h1, h2 => exact mv_W1_ok mW_23 h1 h2
  | 24, h1, h2 => exact mv_W1_ok mW_24 h1 h2
  | c + 25, h1, h2 => exact absurd h1 (by simp [mv_mt])
