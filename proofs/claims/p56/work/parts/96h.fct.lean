/-! WHAT A CHANGE OF A KIND MUST SHOW, by the numbers -/
abbrev pd_dr (s : Nat → Int) (a wish : Nat) : Int := if s (6 + 11 * a) = 1 ∧ mr_bst s a wish ≠ -1 then mb_pop (mr_bst s a wish).toNat else -75
abbrev pd_wt (s : Nat → Int) (a wish : Nat) : Int := if s (6 + 11 * a) = 1 ∧ mr_bst s a wish ≠ -1 then mr_bal s a 0 - mr_bal s a (mr_bst s a wish).toNat else -75
def pf_ok (kind : Nat) (r : Int) : Prop := (28 ≤ kind ∧ kind < 32 ∧ -70 < r) ∨ (¬ (28 ≤ kind ∧ kind < 32) ∧ 0 ≤ r)
def pf_1 (s s' : Nat → Int) (kind a : Nat) (r : Int) : Prop := kind < 8 → r = pq s' a (mr_ho s' a 0) ∧ mq_cnt s' = mq_cnt s + 1 ∧ pq s' a (s' (6 + 11 * a + 4)) = 0
def pf_2 (s s' : Nat → Int) (kind a : Nat) (r : Int) : Prop := 8 ≤ kind → kind < 20 → pq s a (mr_bal s a 0) < r ∧ r = pq s' a (mr_bal s' a 0) ∧ pq s' a (s' (6 + 11 * a + 4)) = pq s a (s (6 + 11 * a + 4)) + 1 ∧ s' 2 = s 2 + r - pq s a (mr_bal s a 0) ∧ pq s' a (mr_ho s' a 0) ≤ pq s a (mr_ho s a 0)
def pf_3 (s s' : Nat → Int) (kind a : Nat) (r : Int) : Prop := kind = 20 → r = pq s a (mr_bal s a 0) ∧ s' 3 = s 3 + pq s a (mr_bal s a 0) ∧ ¬ s' (6 + 11 * a) = 1
def pf_4 (s s' : Nat → Int) (kind a : Nat) (r : Int) : Prop := 21 ≤ kind → kind < 23 → s' 3 = s 3 + r ∧ pq s' a (mr_bal s' a 0) = pq s a (mr_bal s a 0) - r ∧ pq s a (mr_ho s a 0) ≤ pq s' a (mr_ho s' a 0)
def pf_5 (s s' : Nat → Int) (kind a wish : Nat) (r : Int) : Prop := 23 ≤ kind → kind < 28 → r = pd_dr s a wish ∧ 0 < pd_dr s a wish ∧ s' 3 = s 3 + pd_wt s a wish ∧ pq s' a (mr_bal s' a 0) = pq s a (mr_bal s a 0) - pd_wt s a wish ∧ wish ≤ pq s' a (mr_ho s' a 0)
def pf_5n (s : Nat → Int) (kind a wish : Nat) (e19 e20 r : Int) : Prop := 23 ≤ kind → kind < 28 → (r = -75 ∧ pq s a (mr_ho s a 0) = -75) ∨ (r = -76 ∧ ((e19 = 4 ∧ (wish : Int) ≤ pq s a (mr_ho s a 0) ∧ e20 = pq s a (mr_ho s a 0) ∧ pd_dr s a wish = 0) ∨ (e19 = 3 ∧ pd_dr s a wish = -75 ∧ e20 < wish ∧ nS e20)))
def pf_6 (s s' : Nat → Int) (kind : Nat) (r : Int) : Prop := 32 ≤ kind → kind < 36 → r = s 5 ∧ s' 5 = s 5 + 1
def pf_7 (s s' : Nat → Int) (kind : Nat) (r : Int) : Prop := 37 ≤ kind → kind < 44 → s' 1 = s 1 + r ∧ mq_cnt s' = mq_cnt s - r ∧ s 0 < s' 0 ∧ s 4 ≤ s' 4 ∧ ((s' 0 = s 0 + 1 ∧ r = (mr_hr s).2) ∨ (s 0 + 1 < s' 0 ∧ 0 ≤ r))
def pf_8 (s s' : Nat → Int) (kind : Nat) : Prop := kind < 37 → s' 0 = s 0 ∧ s' 1 = s 1 ∧ s' 4 = s 4
def pf_Y (s s' : Nat → Int) (kind a wish : Nat) (r : Int) : Prop := pf_1 s s' kind a r ∧ pf_2 s s' kind a r ∧ pf_3 s s' kind a r ∧ pf_4 s s' kind a r ∧ pf_5 s s' kind a wish r ∧ pf_6 s s' kind r ∧ pf_7 s s' kind r ∧ pf_8 s s' kind
theorem pq_1 {s : Nat → Int} {a : Nat} (h : s (6 + 11 * a) = 1) (r : Int) : pq s a r = r := if_pos h
theorem pq_0 {s : Nat → Int} {a : Nat} (h : ¬ s (6 + 11 * a) = 1) (r : Int) : pq s a r = -75 := if_neg h
section FCT
variable {s u : Nat → Int} {a kind wish j : Nat}
theorem pf_yes (hN : pn_I s) (hb : s 0 ≤ 999999900) (ha : a < 10) (ho : pd_o kind a wish j u) (hr : mc_rf s j u = 0) : pf_Y s (mc_st s j u) kind a wish (mc_an s j u) ∧ pf_ok kind (mc_an s j u) ∧ mc_an s j u ≤ 2000 := by
  have hI := hN.1
  rcases ho with ⟨k1, rfl, ea⟩ | ⟨k1, k2, rfl, ea, eu⟩ | ⟨k1, rfl, ea⟩ | ⟨k1, k2, rfl, ea, eu⟩ | ⟨k1, k2, rfl, ea, ew⟩ | ⟨k1, k2, rfl⟩ | ⟨k1, k2, rfl⟩ | ⟨k1, rfl⟩ | ⟨k1, k2, rfl, eu, eu2⟩
  · obtain ⟨q, e, hq, h0⟩ := pn_f0 hN hr
    have hqa : q = a := by omega
    subst hqa
    have e2 : (u 0).toNat = q := by omega
    obtain ⟨c1, c2, c3, c4, c5⟩ := ps_0 hN ha h0 (u 1) (u 2) (u 3)
    have e3 : mc_st s 0 u = mc_st0 s q (u 1) (u 2) (u 3) := by show mc_st0 s (u 0).toNat _ _ _ = _; rw [e2]
    have e4 : mc_an s 0 u = mr_ho (mc_st0 s q (u 1) (u 2) (u 3)) q 0 := by show mr_ho (mc_st0 s (u 0).toNat _ _ _) (u 0).toNat 0 = _; rw [e2]
    obtain ⟨_, _, _, d1, d2, d3⟩ := mc_f0 hr
    have h2 : mc_st0 s q (u 1) (u 2) (u 3) (6 + 11 * q + 2) = u 2 := by
      unfold mc_st0
      rw [mr_up_n _ _ (by omega), mr_up_s]
    have b1 : 0 ≤ mr_ho (mc_st0 s q (u 1) (u 2) (u 3)) q 0 ∧ mr_ho (mc_st0 s q (u 1) (u 2) (u 3)) q 0 ≤ 40 := by
      have := mr_sp0 (s := mc_st0 s q (u 1) (u 2) (u 3)) q 0
      unfold mr_ho
      rw [h2]
      split <;> omega
    rw [e3, e4]
    refine ⟨⟨fun _ => ⟨(if_pos c4).symm, c1, (if_pos c4).trans c5⟩, fun z => by omega, fun z => by omega, fun z => by omega, fun z => by omega, fun z => by omega, fun z => by omega, fun _ => ⟨c3 0 (by decide), c3 1 (by decide), c3 4 (by decide)⟩⟩, Or.inr ⟨by omega, b1.1⟩, by omega⟩
  · obtain ⟨q, e, hq, h1, hb1, h6⟩ := mc_f2 hr
    have hqa : q = a := by omega
    subst hqa
    have e2 : (u 0).toNat = q := by omega
    obtain ⟨c1, c2, c3, c4, c5, c6, c7, c8⟩ := ps_2 hN ha (b := u 1) hb1.1 h6
    have e3 : mc_st s 2 u = mc_st2 s q (u 1) := by show mc_st2 s (u 0).toNat _ = _; rw [e2]
    have e4 : mc_an s 2 u = mr_bal s q 0 + u 1 := by show mr_bal (mc_st2 s (u 0).toNat _) (u 0).toNat 0 = _; rw [e2, c7]
    have b1 := mr_bal0 hI ha 0
    have b2 := mr_bal1 hI ha 0
    have c5 := c5.trans h1
    rw [e3, e4]
    refine ⟨⟨fun z => by omega, fun _ _ => ?_, fun z => by omega, fun z => by omega, fun z => by omega, fun z => by omega, fun z => by omega, fun _ => ⟨c4 0 (by decide) (by decide), c4 1 (by decide) (by decide), c4 4 (by decide) (by decide)⟩⟩, Or.inr ⟨by omega, by omega⟩, by omega⟩
    rw [pq_1 h1, pq_1 h1, pq_1 h1, pq_1 c5, pq_1 c5, pq_1 c5, c7, c6, c3]
    exact ⟨by omega, rfl, rfl, by omega, c8⟩
  · obtain ⟨q, e, hq, h1⟩ := mc_f1 hr
    have hqa : q = a := by omega
    subst hqa
    have e2 : (u 0).toNat = q := by omega
    obtain ⟨c1, c2, c3, c4, c5⟩ := ps_1 hN ha h1
    have e3 : mc_st s 1 u = mc_st1 s q := by show mc_st1 s (u 0).toNat = _; rw [e2]
    have e4 : mc_an s 1 u = mr_bal s q 0 := by show mr_bal s (u 0).toNat 0 = _; rw [e2]
    have b1 := mr_bal0 hI ha 0
    have b2 := mr_bal1 hI ha 0
    rw [e3, e4]
    refine ⟨⟨fun z => by omega, fun z => by omega, fun _ => ?_, fun z => by omega, fun z => by omega, fun z => by omega, fun z => by omega, fun _ => ⟨c4 0 (by decide) (by decide), c4 1 (by decide) (by decide), c4 4 (by decide) (by decide)⟩⟩, Or.inr ⟨by omega, by omega⟩, by omega⟩
    rw [pq_1 h1, c3, c5]
    exact ⟨rfl, rfl, by decide⟩
  · obtain ⟨q, p, e, hq, h1, e1, h6⟩ := mc_f3 hr
    have hqa : q = a := by omega
    subst hqa
    have e2 : (u 0).toNat = q := by omega
    have e5 : (u 1).toNat = p := by omega
    obtain ⟨c1, c2, c3, c4, c5, c6, c7⟩ := ps_3 hN ha h6
    have e3 : mc_st s 3 u = mc_st3 s q p := by show mc_st3 s (u 0).toNat (u 1).toNat = _; rw [e2, e5]
    have e4 : mc_an s 3 u = s (6 + 11 * q + (5 + p)) := by show s (6 + 11 * (u 0).toNat + (5 + (u 1).toNat)) = _; rw [e2, e5]
    have b1 := hI.bag ha (show p < 6 by have := (hI.bags ha).2; omega)
    have c5 := c5.trans h1
    rw [e3, e4]
    refine ⟨⟨fun z => by omega, fun z => by omega, fun z => by omega, fun _ _ => ?_, fun z => by omega, fun z => by omega, fun z => by omega, fun _ => ⟨c4 0 (by decide) (by decide), c4 1 (by decide) (by decide), c4 4 (by decide) (by decide)⟩⟩, Or.inr ⟨by omega, b1.1⟩, by omega⟩
    rw [pq_1 h1, pq_1 h1, pq_1 c5, pq_1 c5]
    exact ⟨c3, c6, c7⟩
  · obtain ⟨q, e, hq, h1, h63⟩ := mc_f4 hr
    have hqa : q = a := by omega
    subst hqa
    have e2 : (u 0).toNat = q := by omega
    have hne : mr_bst s q wish ≠ -1 := fun z => by have := (mr_bst_none hI ha).mp z; omega
    obtain ⟨c1, c2, c3, c4, c5, c6, c7⟩ := ps_4 hN ha hne
    have e3 : mc_st s 4 u = mc_st4 s q wish := by show mc_st4 s (u 0).toNat (u 1) = _; rw [e2, ew]
    have e4 : mc_an s 4 u = mb_pop (mr_bst s q wish).toNat := by show mb_pop (mr_bst s (u 0).toNat (u 1)).toNat = _; rw [e2, ew]
    have h4 : ¬ (wish : Int) ≤ mr_ho s q 0 := fun z => by
      have hr2 : mc_rf4 s (q : Int) (wish : Int) = 0 := by
        rw [← e, ← ew]
        exact hr
      unfold mc_rf4 at hr2
      have z2 : (wish : Int) ≤ mr_ho s ((q : Int)).toNat 0 := by rw [pq_n]; exact z
      rw [if_pos z2] at hr2
      split at hr2
      · split at hr2
        · omega
        · omega
      · omega
    have p1 := pb_pos hN ha hne h4
    have p2 := mb_pop6 (mr_bst s q wish).toNat
    have p3 := pb_ho hne
    have c5 := c5.trans h1
    rw [e3, e4]
    refine ⟨⟨fun z => by omega, fun z => by omega, fun z => by omega, fun z => by omega, fun _ _ => ?_, fun z => by omega, fun z => by omega, fun _ => ⟨c4 0 (by decide) (by decide), c4 1 (by decide) (by decide), c4 4 (by decide) (by decide)⟩⟩, Or.inr ⟨by omega, by omega⟩, by omega⟩
    unfold pd_dr pd_wt
    rw [if_pos ⟨h1, hne⟩, if_pos ⟨h1, hne⟩, pq_1 h1, pq_1 c5, pq_1 c5, c6, c7]
    exact ⟨rfl, p1, c3, by omega, p3⟩
  · obtain ⟨q, e, hq, hx⟩ := mc_f5 hr
    have e2 : (u 0).toNat = q := by omega
    have o := ps_5 s (u 0).toNat (u 1)
    have e4 : mc_an s 5 u = s (116 + q) := by show s (116 + (u 0).toNat) = _; rw [e2]
    have b1 := hI.wind hq
    refine ⟨⟨fun z => by omega, fun z => by omega, fun z => by omega, fun z => by omega, fun z => by omega, fun z => by omega, fun z => by omega, fun _ => ⟨o 0 (by decide), o 1 (by decide), o 4 (by decide)⟩⟩, Or.inl ⟨k1, k2, by omega⟩, by omega⟩
  · obtain ⟨o, o5⟩ := ps_7 s (u 0) (u 1) (u 2)
    have b1 := hI.pil
    have e4 : mc_an s 7 u = s 5 := rfl
    refine ⟨⟨fun z => by omega, fun z => by omega, fun z => by omega, fun z => by omega, fun z => by omega, fun _ _ => ⟨rfl, o5⟩, fun z => by omega, fun _ => ⟨o 0 (by decide) (by decide), o 1 (by decide) (by decide), o 4 (by decide) (by decide)⟩⟩, Or.inr ⟨by omega, by omega⟩, by omega⟩
  · obtain ⟨q, e, hq⟩ := mc_f8 hr
    obtain ⟨o, o5⟩ := ps_8 s (u 0).toNat
    have b1 := hI.pil
    have e4 : mc_an s 8 u = s 5 - 1 := rfl
    refine ⟨⟨fun z => by omega, fun z => by omega, fun z => by omega, fun z => by omega, fun z => by omega, fun z => by omega, fun z => by omega, fun _ => ⟨o 0 (by decide) (by decide), o 1 (by decide) (by decide), o 4 (by decide) (by decide)⟩⟩, Or.inr ⟨by omega, by omega⟩, by omega⟩
  · obtain ⟨q, e, q1, q48⟩ := mc_f6 hr
    have e2 : (u 0).toNat = q := by omega
    obtain ⟨a1, a2, a3, a4, a5, a6⟩ := pn_pas hI q (by omega)
    have hl := mr_pas_n hI q (by omega)
    have h0 := (mr_pas_I hI q (by omega)).2
    have e3 : mc_st s 6 u = (mr_pas s q).1 := by show (mr_pas s (u 0).toNat).1 = _; rw [e2]
    have e4 : mc_an s 6 u = ((mr_pas s q).2 : Int) := by show ((mr_pas s (u 0).toNat).2 : Int) = _; rw [e2]
    rw [e3, e4]
    refine ⟨⟨fun z => by omega, fun z => by omega, fun z => by omega, fun z => by omega, fun z => by omega, fun z => by omega, fun _ _ => ⟨a1, by omega, by omega, a5, ?_⟩, fun z => by omega⟩, Or.inr ⟨by omega, by omega⟩, by omega⟩
    by_cases c1 : q = 1
    · subst c1
      have e5 : (mr_pas s 1).2 = 0 + (mr_hr s).2 := rfl
      exact Or.inl ⟨h0, by omega⟩
    · exact Or.inr ⟨by omega, by omega⟩
theorem pf_not (hN : pn_I s) (ha : a < 10) (hw : 1 ≤ wish ∧ wish ≤ 40) (ho : pd_o kind a wish j u) (hr : mc_rf s j u ≠ 0) {w19 w20 : Int} : pf_5n s kind a wish (if mc_rf s j u ≤ 5 then mc_rf s j u else w19) (if mc_rf s j u ≤ 5 then mc_dt s j u else w20) (pc_an s j u) ∧ ¬ pf_ok kind (pc_an s j u) ∧ -78 ≤ pc_an s j u ∧ pc_an s j u ≤ -75 := by
  have hI := hN.1
  have b1 : -78 ≤ pc_an s j u ∧ pc_an s j u ≤ -75 := by
    unfold pc_an
    rw [if_neg hr]
    split
    · omega
    · split
      · omega
      · split <;> omega
  have b2 : ¬ pf_ok kind (pc_an s j u) := fun z => by
    rcases z with ⟨z1, z2, z3⟩ | ⟨z1, z2⟩ <;> omega
  refine ⟨fun k1 k2 => ?_, b2, b1⟩
  have hj : j = 4 ∧ u 0 = a ∧ u 1 = wish := by
    rcases ho with ⟨k1, rfl, ea⟩ | ⟨k1, k2, rfl, ea, eu⟩ | ⟨k1, rfl, ea⟩ | ⟨k1, k2, rfl, ea, eu⟩ | ⟨k1, k2, rfl, ea, ew⟩ | ⟨k1, k2, rfl⟩ | ⟨k1, k2, rfl⟩ | ⟨k1, rfl⟩ | ⟨k1, k2, rfl, eu, eu2⟩
    · omega
    · omega
    · omega
    · omega
    · exact ⟨rfl, ea, ew⟩
    · omega
    · omega
    · omega
    · omega
  obtain ⟨rfl, ea, ew⟩ := hj
  have e2 : (u 0).toNat = a := by omega
  have er : mc_rf s 4 u = if mr_has s (a : Int) then (if 1 ≤ (wish : Int) ∧ (wish : Int) ≤ 40 then (if (wish : Int) ≤ mr_ho s a 0 then 4 else if mr_ho s a 63 < (wish : Int) then 3 else 0) else 8) else 9 := by
    show mc_rf4 s (u 0) (u 1) = _
    rw [ea, ew]
    unfold mc_rf4
    simp only [pq_n]
  have ed : mc_dt s 4 u = if (wish : Int) ≤ mr_ho s a 0 then mr_ho s a 0 else mr_ho s a 63 := by
    show (if u 1 ≤ mr_ho s (u 0).toNat 0 then mr_ho s (u 0).toNat 0 else mr_ho s (u 0).toNat 63) = _
    rw [e2, ew]
  unfold pc_an
  rw [if_neg hr]
  by_cases hh : s (6 + 11 * a) = 1
  · have hh2 : mr_has s (a : Int) := (pq_has ha).mpr hh
    rw [if_pos hh2, if_pos ⟨by omega, by omega⟩] at er
    rw [pq_1 hh]
    by_cases c1 : (wish : Int) ≤ mr_ho s a 0
    · rw [if_pos c1] at er ed
      obtain ⟨p1, p2⟩ := (pb_zero hN ha).mpr c1
      rw [er, ed]
      refine Or.inr ⟨by decide, Or.inl ⟨if_pos (by decide), c1, by rw [if_pos (by decide)], ?_⟩⟩
      unfold pd_dr
      rw [if_pos ⟨hh, p1⟩, p2]
    · rw [if_neg c1] at er ed
      by_cases c2 : mr_ho s a 63 < (wish : Int)
      · rw [if_pos c2] at er
        have p1 : mr_bst s a wish = -1 := (mr_bst_none hI ha).mpr c2
        have p2 := mr_ho0 hI ha 63
        rw [er, ed]
        refine Or.inr ⟨by decide, Or.inr ⟨if_pos (by decide), ?_, by rw [if_pos (by decide)]; exact c2, by rw [if_pos (by decide)]; exact ⟨by omega, by omega⟩⟩⟩
        unfold pd_dr
        rw [if_neg fun z => z.2 p1]
      · rw [if_neg c2] at er
        exact absurd er hr
  · have hh2 : ¬ mr_has s (a : Int) := fun z => hh ((pq_has ha).mp z)
    rw [if_neg hh2] at er
    rw [er]
    exact Or.inl ⟨by decide, pq_0 hh _⟩
end FCT
section FCT2
variable {X : mv_X} {x : Nat} {S : Nat → Int} {w : mz_V} {b B : Int} {c : Nat × Nat} {m M kind a wish : Nat} {h h1 : mv_H} {r : Int32}
theorem pd_F (hH : ph_H X x S w b c m h) (hb : b ≤ 999999900) (hJ : pn_J (w 1) B) (ha : a < 10) (hw : 1 ≤ wish ∧ wish ≤ 40) (hD : pd_D X x S w b B c M kind a wish r h1) : ∃ (w2 : mz_V) (b2 ri : Int), b2 ≤ b + 432 ∧ r = nZ ri ∧ (-78 ≤ ri ∧ ri ≤ 2000) ∧ ph_H X x S w2 b2 c M h1 ∧ ((pf_ok kind ri ∧ pf_Y (w 1) (w2 1) kind a wish ri ∧ ph_ch w w2 ∧ pn_J (w2 1) (B + 4320)) ∨ (¬ pf_ok kind ri ∧ pf_5n (w 1) kind a wish (w2 0 19) (w2 0 20) ri ∧ ph_no w w2)) := by
  have hN := ph_N hH
  have h0 := (ph_I hH).2.1
  rcases hD with ⟨hk, j, u, ho, hu, hr, H1⟩ | ⟨hk, w2, H1, hE⟩
  · by_cases c1 : mc_rf (w 1) j u = 0
    · obtain ⟨y1, y2, y3⟩ := pf_yes hN (by omega) ha ho c1
      obtain ⟨g1, g2, g3, -, -⟩ := mg_st_y c1
      have ea : pc_an (w 1) j u = mc_an (w 1) j u := if_pos c1
      have hj : j < 9 := by
        rcases ho with ⟨k1, rfl, ea⟩ | ⟨k1, k2, rfl, ea, eu⟩ | ⟨k1, rfl, ea⟩ | ⟨k1, k2, rfl, ea, eu⟩ | ⟨k1, k2, rfl, ea, ew⟩ | ⟨k1, k2, rfl⟩ | ⟨k1, k2, rfl⟩ | ⟨k1, rfl⟩ | ⟨k1, k2, rfl, eu, eu2⟩ <;> omega
      have y4 : -78 ≤ mc_an (w 1) j u := by
        rcases y2 with ⟨z1, z2, z3⟩ | ⟨z1, z2⟩ <;> omega
      refine ⟨mg_st w j u, b + 48, mc_an (w 1) j u, by omega, by rw [hr, ea], ⟨y4, y3⟩, H1, Or.inl ⟨y2, by rw [g1]; exact y1, ⟨g2, g3⟩, by rw [g1]; exact pn_J_m (by omega) (pn_st_J hN hJ (by omega) hj c1)⟩⟩
    · obtain ⟨g1, g2, g3, g4⟩ := mg_st_n c1
      obtain ⟨y1, y2, y3, y4⟩ := pf_not hN ha hw ho c1 (w19 := w 0 19) (w20 := w 0 20)
      refine ⟨mg_st w j u, b + 48, pc_an (w 1) j u, by omega, hr, ⟨y3, by omega⟩, H1, Or.inr ⟨y2, by rw [g3, g4]; exact y1, g1 1 (by decide), g1 4 (by decide), g2 6 (by decide) (by decide) (by decide)⟩⟩
  · rcases hE with ⟨n, hn, hr, hc, hJ2⟩ | ⟨hr, hn⟩
    · refine ⟨w2, b + 432, n, by omega, hr, ⟨by omega, by omega⟩, H1, Or.inl ⟨Or.inr ⟨by omega, by omega⟩, ⟨fun z => by omega, fun z => by omega, fun z => by omega, fun z => by omega, fun z => by omega, fun z => by omega, fun z => by omega, fun z => by omega⟩, hc, hJ2⟩⟩
    · rcases hr with hr | hr
      · exact ⟨w2, b + 432, -78, by omega, hr, ⟨by omega, by omega⟩, H1, Or.inr ⟨fun z => by rcases z with ⟨z1, z2, z3⟩ | ⟨z1, z2⟩ <;> omega, fun z z2 => by omega, hn⟩⟩
      · exact ⟨w2, b + 432, -76, by omega, hr, ⟨by omega, by omega⟩, H1, Or.inr ⟨fun z => by rcases z with ⟨z1, z2, z3⟩ | ⟨z1, z2⟩ <;> omega, fun z z2 => by omega, hn⟩⟩
end FCT2
