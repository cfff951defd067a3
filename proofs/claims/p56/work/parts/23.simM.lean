/-! THE SMALL MACHINE'S HEAP GROWS -/
theorem mv_le1 {h d h' : mv_H} (g : mv_Le d h') (h1 : h.2.1 ≤ d.2.1 := by first | exact Nat.le_refl _ | exact Nat.le_succ _) (h2 : h.2.2 ≤ d.2.2 := by first | exact Nat.le_refl _ | exact Nat.le_add_right _ _) : mv_Le h h' := ⟨Nat.le_trans h1 g.1, Nat.le_trans h2 g.2⟩
def mv_Up (call : mv_G) : Prop := ∀ y as h r, call y as h = some r → mv_Le h r.2
theorem mv_leC {call : mv_G} (hcall : mv_Up call) {k : mv_K} {r : mv_R} (ih : ∀ pc ls st h, k pc ls st h = some r → mv_Le h r.2) {rk y pc : Nat} {as ls rest : List Value} {h : mv_H} {hs : List (Nat × Nat × Nat × Nat × Nat)} (ec : mv_cal rk call y as h (mv_thr hs pc ls k) (fun vs h' => k (pc + 3) ls (vs ++ rest) h') = some r) : mv_Le h r.2 := by
  rcases mi_cal ec with ⟨v, h1, hc, e1⟩ | ⟨x, q, h1, hc, e1⟩
  · have a := hcall _ _ _ _ hc
    have b := ih _ _ _ _ e1
    exact ⟨Nat.le_trans a.1 b.1, Nat.le_trans a.2 b.2⟩
  · have a := hcall _ _ _ _ hc
    rcases mi_thr e1 with ⟨rfl, hn⟩ | ⟨t, ht, e2⟩
    · exact a
    · have b := ih _ _ _ _ e2
      exact ⟨Nat.le_trans a.1 b.1, Nat.le_trans a.2 b.2⟩
theorem mv_leI {X : mv_X} {call : mv_G} {M : mv_M} (hcall : mv_Up call) {k : mv_K} {r : mv_R} (ih : ∀ pc ls st h, k pc ls st h = some r → mv_Le h r.2) {pc tg y n c rk : Nat} {ls st : List Value} {h : mv_H} (ev : mv_inv X call M k pc ls st h tg y n c rk = some r) : mv_Le h r.2 := by
  unfold mv_inv at ev
  split at ev
  · obtain ⟨as, rest, -, -, -, -, -, e1⟩ := mi_args ev
    obtain ⟨b, As, fs, -, -, e2⟩ := mi_rcv e1
    exact mv_leC hcall ih e2
  · obtain ⟨as, rest, -, -, -, -, -, e1⟩ := mi_args ev
    obtain ⟨b, As, fs, -, -, e2⟩ := mi_rcv e1
    exact mv_leC hcall ih e2
  · obtain ⟨as, rest, -, -, -, -, -, e1⟩ := mi_args ev
    exact mv_leC hcall ih e1
  · obtain ⟨as, rest, -, -, -, -, -, e1⟩ := mi_args ev
    obtain ⟨b, As, -, e2⟩ := mi_isr e1
    exact mv_leC hcall ih e2
  · obtain ⟨as, rest, -, -, -, -, -, e1⟩ := mi_args ev
    split at e1
    · exact ih _ _ _ _ e1
    · cases e1
  · obtain ⟨as, rest, -, -, -, -, -, e1⟩ := mi_args ev
    split at e1
    · obtain ⟨t1, m0, g0, m1, g1, c1, c2, c3, c4, c5, c6, c7, c8, c9, e2⟩ := mi_cpy e1
      exact mv_le1 (ih _ _ _ _ e2)
    · cases e1
  · obtain ⟨as, rest, -, -, -, -, -, e1⟩ := mi_args ev
    split at e1
    · obtain ⟨n2, g2, c1, e2⟩ := mi_cln e1
      exact mv_le1 (ih _ _ _ _ e2)
    · cases e1
  · cases ev
set_option maxHeartbeats 4000000 in
theorem mv_leE {X : mv_X} {call : mv_G} {M : mv_M} (hcall : mv_Up call) {k : mv_K} {r : mv_R} (ih : ∀ pc ls st h, k pc ls st h = some r → mv_Le h r.2) {pc : Nat} {ls st : List Value} {h : mv_H} {i : Instr} {t : Nat} {sw : List (Int × Nat)} (ev : mv_E X call M k i t sw pc ls st h = some r) : mv_Le h r.2 := by
  cases i with
  | iload_n j =>
    obtain ⟨v, h1, ev1⟩ := mi_ld ev
    obtain ⟨x, rfl, ev2⟩ := mi_int ev1
    exact mv_le1 (ih _ _ _ _ ev2)
  | aload_n j =>
    obtain ⟨v, h1, ev3⟩ := mi_ld ev
    obtain ⟨x, rfl, ev4⟩ := mi_ref ev3
    exact mv_le1 (ih _ _ _ _ ev4)
  | iload j =>
    obtain ⟨v, h1, ev5⟩ := mi_ld ev
    obtain ⟨x, rfl, ev6⟩ := mi_int ev5
    exact mv_le1 (ih _ _ _ _ ev6)
  | aload j =>
    obtain ⟨v, h1, ev7⟩ := mi_ld ev
    obtain ⟨x, rfl, ev8⟩ := mi_ref ev7
    exact mv_le1 (ih _ _ _ _ ev8)
  | fload j =>
    obtain ⟨v, h1, ev9⟩ := mi_ld ev
    obtain ⟨x, rfl, ev10⟩ := mi_flt ev9
    exact mv_le1 (ih _ _ _ _ ev10)
  | dload j =>
    obtain ⟨v, h1, ev11⟩ := mi_ld ev
    obtain ⟨x, rfl, ev12⟩ := mi_dbl ev11
    exact mv_le1 (ih _ _ _ _ ev12)
  | lload_n j =>
    obtain ⟨v, h1, ev301⟩ := mi_ld ev
    obtain ⟨x, rfl, ev302⟩ := mi_lng ev301
    exact mv_le1 (ih _ _ _ _ ev302)
  | lload j =>
    obtain ⟨v, h1, ev303⟩ := mi_ld ev
    obtain ⟨x, rfl, ev304⟩ := mi_lng ev303
    exact mv_le1 (ih _ _ _ _ ev304)
  | lstore_n j =>
    obtain ⟨x, st, rfl, ev305⟩ := mi_popL ev
    obtain ⟨h1, h2, h3, ev306⟩ := mi_st2 ev305
    exact mv_le1 (ih _ _ _ _ ev306)
  | lstore j =>
    obtain ⟨x, st, rfl, ev307⟩ := mi_popL ev
    obtain ⟨h1, h2, h3, ev308⟩ := mi_st2 ev307
    exact mv_le1 (ih _ _ _ _ ev308)
  | ladd =>
    obtain ⟨y, st, rfl, ev309⟩ := mi_popL ev
    obtain ⟨x, st, rfl, ev310⟩ := mi_popL ev309
    exact mv_le1 (ih _ _ _ _ ev310)
  | lmul =>
    obtain ⟨y, st, rfl, ev311⟩ := mi_popL ev
    obtain ⟨x, st, rfl, ev312⟩ := mi_popL ev311
    exact mv_le1 (ih _ _ _ _ ev312)
  | fmul =>
    obtain ⟨y, st, rfl, ev313⟩ := mi_popF ev
    obtain ⟨x, st, rfl, ev314⟩ := mi_popF ev313
    obtain ⟨h1, ev315⟩ := mi_chk ev314
    exact mv_le1 (ih _ _ _ _ ev315)
  | f2l =>
    obtain ⟨x, st, rfl, ev316⟩ := mi_popF ev
    exact mv_le1 (ih _ _ _ _ ev316)
  | aconst_null =>
    exact mv_le1 (ih _ _ _ _ ev)
  | ifnonnull o =>
    obtain ⟨x, st, rfl, ev317⟩ := mi_popR ev
    exact mv_le1 (ih _ _ _ _ ev317)
  | checkcast j =>
    obtain ⟨a, st, rfl, ev318⟩ := mi_popR ev
    obtain ⟨q, hk, ev319⟩ := mi_lk ev318
    obtain ⟨h1, ev320⟩ := mi_chk ev319
    obtain ⟨n1, g1, h2, ev321⟩ := mi_isB ev320
    exact mv_le1 (ih _ _ _ _ ev321)
  | ldc2_w j =>
    obtain ⟨q, hk, ev330⟩ := mi_lk ev
    have ev331 : (match q.1 with
      | 16 => k (pc + 3) ls (.long (Int64.ofNat q.2.1) :: st) h
      | 17 => k (pc + 3) ls (.double (UInt64.ofNat q.2.1) :: st) h
      | _ => none) = some r := ev330
    split at ev331
    · next he => exact mv_le1 (ih _ _ _ _ ev331)
    · next he => exact mv_le1 (ih _ _ _ _ ev331)
    · cases ev331
  | lreturn =>
    obtain ⟨x, st, rfl, ev340⟩ := mi_popL ev
    obtain ⟨h1, ev341⟩ := mi_chk ev340
    cases ev341
    exact ⟨Nat.le_refl _, Nat.le_refl _⟩
  | istore_n j =>
    obtain ⟨x, st, rfl, ev13⟩ := mi_popI ev
    obtain ⟨h1, h2, ev14⟩ := mi_st ev13
    exact mv_le1 (ih _ _ _ _ ev14)
  | istore j =>
    obtain ⟨x, st, rfl, ev15⟩ := mi_popI ev
    obtain ⟨h1, h2, ev16⟩ := mi_st ev15
    exact mv_le1 (ih _ _ _ _ ev16)
  | astore_n j =>
    obtain ⟨x, st, rfl, ev17⟩ := mi_popR ev
    obtain ⟨h1, h2, ev18⟩ := mi_st ev17
    exact mv_le1 (ih _ _ _ _ ev18)
  | astore j =>
    obtain ⟨x, st, rfl, ev19⟩ := mi_popR ev
    obtain ⟨h1, h2, ev20⟩ := mi_st ev19
    exact mv_le1 (ih _ _ _ _ ev20)
  | fstore j =>
    obtain ⟨x, st, rfl, ev21⟩ := mi_popF ev
    obtain ⟨h1, h2, ev22⟩ := mi_st ev21
    exact mv_le1 (ih _ _ _ _ ev22)
  | dstore j =>
    obtain ⟨x, st, rfl, ev23⟩ := mi_popD ev
    obtain ⟨h1, h2, h3, ev24⟩ := mi_st2 ev23
    exact mv_le1 (ih _ _ _ _ ev24)
  | iinc j n =>
    obtain ⟨v, h1, ev25⟩ := mi_ld ev
    obtain ⟨x, rfl, ev26⟩ := mi_int ev25
    obtain ⟨h2, h3, ev27⟩ := mi_st ev26
    exact mv_le1 (ih _ _ _ _ ev27)
  | iconst n =>
    exact mv_le1 (ih _ _ _ _ ev)
  | bipush n =>
    exact mv_le1 (ih _ _ _ _ ev)
  | sipush n =>
    exact mv_le1 (ih _ _ _ _ ev)
  | lconst n =>
    exact mv_le1 (ih _ _ _ _ ev)
  | fconst n =>
    exact mv_le1 (ih _ _ _ _ ev)
  | dconst n =>
    exact mv_le1 (ih _ _ _ _ ev)
  | ldc j =>
    cases sw with
    | cons q sw =>
      exact mv_le1 (ih _ _ _ _ ev)
    | nil =>
      obtain ⟨q, hk, ev28⟩ := mi_lk ev
      have ev29 : (match q.1 with
        | 14 => k (pc + 2) ls (.ref (X.2.1 q.2.1) :: st) h
        | 18 => k (pc + 2) ls (.float (UInt32.ofNat q.2.1) :: st) h
        | _ => none) = some r := ev28
      split at ev29
      · exact mv_le1 (ih _ _ _ _ ev29)
      · exact mv_le1 (ih _ _ _ _ ev29)
      · cases ev29
  | ldc_w j =>
    cases sw with
    | cons q sw =>
      exact mv_le1 (ih _ _ _ _ ev)
    | nil =>
      obtain ⟨q, hk, ev30⟩ := mi_lk ev
      have ev31 : (match q.1 with
        | 14 => k (pc + 3) ls (.ref (X.2.1 q.2.1) :: st) h
        | 18 => k (pc + 3) ls (.float (UInt32.ofNat q.2.1) :: st) h
        | _ => none) = some r := ev30
      split at ev31
      · exact mv_le1 (ih _ _ _ _ ev31)
      · exact mv_le1 (ih _ _ _ _ ev31)
      · cases ev31
  | iadd =>
    obtain ⟨y, st, rfl, ev32⟩ := mi_popI ev
    obtain ⟨x, st, rfl, ev33⟩ := mi_popI ev32
    exact mv_le1 (ih _ _ _ _ ev33)
  | isub =>
    obtain ⟨y, st, rfl, ev34⟩ := mi_popI ev
    obtain ⟨x, st, rfl, ev35⟩ := mi_popI ev34
    exact mv_le1 (ih _ _ _ _ ev35)
  | imul =>
    obtain ⟨y, st, rfl, ev36⟩ := mi_popI ev
    obtain ⟨x, st, rfl, ev37⟩ := mi_popI ev36
    exact mv_le1 (ih _ _ _ _ ev37)
  | iand =>
    obtain ⟨y, st, rfl, ev38⟩ := mi_popI ev
    obtain ⟨x, st, rfl, ev39⟩ := mi_popI ev38
    exact mv_le1 (ih _ _ _ _ ev39)
  | ior =>
    obtain ⟨y, st, rfl, ev40⟩ := mi_popI ev
    obtain ⟨x, st, rfl, ev41⟩ := mi_popI ev40
    exact mv_le1 (ih _ _ _ _ ev41)
  | ixor =>
    obtain ⟨y, st, rfl, ev42⟩ := mi_popI ev
    obtain ⟨x, st, rfl, ev43⟩ := mi_popI ev42
    exact mv_le1 (ih _ _ _ _ ev43)
  | ishl =>
    obtain ⟨y, st, rfl, ev44⟩ := mi_popI ev
    obtain ⟨x, st, rfl, ev45⟩ := mi_popI ev44
    exact mv_le1 (ih _ _ _ _ ev45)
  | ishr =>
    obtain ⟨y, st, rfl, ev46⟩ := mi_popI ev
    obtain ⟨x, st, rfl, ev47⟩ := mi_popI ev46
    exact mv_le1 (ih _ _ _ _ ev47)
  | iushr =>
    obtain ⟨y, st, rfl, ev48⟩ := mi_popI ev
    obtain ⟨x, st, rfl, ev49⟩ := mi_popI ev48
    exact mv_le1 (ih _ _ _ _ ev49)
  | idiv =>
    obtain ⟨y, st, rfl, ev50⟩ := mi_popI ev
    obtain ⟨x, st, rfl, ev51⟩ := mi_popI ev50
    by_cases hy : y = 0
    · rw [if_pos hy] at ev51; cases ev51
    · rw [if_neg hy] at ev51; exact mv_le1 (ih _ _ _ _ ev51)
  | irem =>
    obtain ⟨y, st, rfl, ev52⟩ := mi_popI ev
    obtain ⟨x, st, rfl, ev53⟩ := mi_popI ev52
    by_cases hy : y = 0
    · rw [if_pos hy] at ev53; cases ev53
    · rw [if_neg hy] at ev53; exact mv_le1 (ih _ _ _ _ ev53)
  | ineg =>
    obtain ⟨x, st, rfl, ev54⟩ := mi_popI ev
    exact mv_le1 (ih _ _ _ _ ev54)
  | i2l =>
    obtain ⟨x, st, rfl, ev55⟩ := mi_popI ev
    exact mv_le1 (ih _ _ _ _ ev55)
  | i2b =>
    obtain ⟨x, st, rfl, ev56⟩ := mi_popI ev
    exact mv_le1 (ih _ _ _ _ ev56)
  | i2c =>
    obtain ⟨x, st, rfl, ev57⟩ := mi_popI ev
    exact mv_le1 (ih _ _ _ _ ev57)
  | i2d =>
    obtain ⟨x, st, rfl, ev58⟩ := mi_popI ev
    exact mv_le1 (ih _ _ _ _ ev58)
  | i2f =>
    obtain ⟨x, st, rfl, ev59⟩ := mi_popI ev
    exact mv_le1 (ih _ _ _ _ ev59)
  | f2d =>
    obtain ⟨x, st, rfl, ev60⟩ := mi_popF ev
    obtain ⟨h1, ev61⟩ := mi_chk ev60
    exact mv_le1 (ih _ _ _ _ ev61)
  | ddiv =>
    obtain ⟨y, st, rfl, ev62⟩ := mi_popD ev
    obtain ⟨x, st, rfl, ev63⟩ := mi_popD ev62
    obtain ⟨h1, ev64⟩ := mi_chk ev63
    exact mv_le1 (ih _ _ _ _ ev64)
  | fdiv =>
    obtain ⟨y, st, rfl, ev65⟩ := mi_popF ev
    obtain ⟨x, st, rfl, ev66⟩ := mi_popF ev65
    obtain ⟨h1, ev67⟩ := mi_chk ev66
    exact mv_le1 (ih _ _ _ _ ev67)
  | lcmp =>
    obtain ⟨y, st, rfl, ev68⟩ := mi_popL ev
    obtain ⟨x, st, rfl, ev69⟩ := mi_popL ev68
    exact mv_le1 (ih _ _ _ _ ev69)
  | dcmp o =>
    obtain ⟨y, st, rfl, ev70⟩ := mi_popD ev
    obtain ⟨x, st, rfl, ev71⟩ := mi_popD ev70
    exact mv_le1 (ih _ _ _ _ ev71)
  | fcmp o =>
    obtain ⟨y, st, rfl, ev72⟩ := mi_popF ev
    obtain ⟨x, st, rfl, ev73⟩ := mi_popF ev72
    exact mv_le1 (ih _ _ _ _ ev73)
  | dup =>
    obtain ⟨v, st, rfl, h1, ev74⟩ := mi_pop1 ev
    exact mv_le1 (ih _ _ _ _ ev74)
  | pop =>
    obtain ⟨v, st, rfl, h1, ev75⟩ := mi_pop1 ev
    exact mv_le1 (ih _ _ _ _ ev75)
  | dup_x1 =>
    obtain ⟨v, st, rfl, h1, ev76⟩ := mi_pop1 ev
    obtain ⟨w, st, rfl, h2, ev77⟩ := mi_pop1 ev76
    exact mv_le1 (ih _ _ _ _ ev77)
  | dup2 =>
    obtain ⟨v, st, rfl, h1, ev78⟩ := mi_pop1 ev
    obtain ⟨w, st, rfl, h2, ev79⟩ := mi_pop1 ev78
    exact mv_le1 (ih _ _ _ _ ev79)
  | goto o =>
    exact mv_le1 (ih _ _ _ _ ev)
  | ifCond cd o =>
    obtain ⟨x, st, rfl, ev80⟩ := mi_popI ev
    cases cd with
    | eq =>
      by_cases hc : x = 0
      · have ev81 : (if x = 0 then _ else _) = some r := ev80
        rw [if_pos hc] at ev81; exact mv_le1 (ih _ _ _ _ ev81)
      · have ev82 : (if x = 0 then _ else _) = some r := ev80
        rw [if_neg hc] at ev82; exact mv_le1 (ih _ _ _ _ ev82)
    | ne =>
      by_cases hc : x = 0
      · have ev83 : (if x = 0 then _ else _) = some r := ev80
        rw [if_pos hc] at ev83; exact mv_le1 (ih _ _ _ _ ev83)
      · have ev84 : (if x = 0 then _ else _) = some r := ev80
        rw [if_neg hc] at ev84; exact mv_le1 (ih _ _ _ _ ev84)
    | lt =>
      by_cases hc : x < 0
      · have ev85 : (if x < 0 then _ else _) = some r := ev80
        rw [if_pos hc] at ev85; exact mv_le1 (ih _ _ _ _ ev85)
      · have ev86 : (if x < 0 then _ else _) = some r := ev80
        rw [if_neg hc] at ev86; exact mv_le1 (ih _ _ _ _ ev86)
    | ge =>
      by_cases hc : 0 ≤ x
      · have ev87 : (if 0 ≤ x then _ else _) = some r := ev80
        rw [if_pos hc] at ev87; exact mv_le1 (ih _ _ _ _ ev87)
      · have ev88 : (if 0 ≤ x then _ else _) = some r := ev80
        rw [if_neg hc] at ev88; exact mv_le1 (ih _ _ _ _ ev88)
    | gt =>
      by_cases hc : 0 < x
      · have ev89 : (if 0 < x then _ else _) = some r := ev80
        rw [if_pos hc] at ev89; exact mv_le1 (ih _ _ _ _ ev89)
      · have ev90 : (if 0 < x then _ else _) = some r := ev80
        rw [if_neg hc] at ev90; exact mv_le1 (ih _ _ _ _ ev90)
    | le =>
      by_cases hc : x ≤ 0
      · have ev91 : (if x ≤ 0 then _ else _) = some r := ev80
        rw [if_pos hc] at ev91; exact mv_le1 (ih _ _ _ _ ev91)
      · have ev92 : (if x ≤ 0 then _ else _) = some r := ev80
        rw [if_neg hc] at ev92; exact mv_le1 (ih _ _ _ _ ev92)
  | if_icmp cd o =>
    obtain ⟨y, st, rfl, ev93⟩ := mi_popI ev
    obtain ⟨x, st, rfl, ev94⟩ := mi_popI ev93
    cases cd with
    | eq =>
      by_cases hc : x = y
      · have ev95 : (if x = y then _ else _) = some r := ev94
        rw [if_pos hc] at ev95; exact mv_le1 (ih _ _ _ _ ev95)
      · have ev96 : (if x = y then _ else _) = some r := ev94
        rw [if_neg hc] at ev96; exact mv_le1 (ih _ _ _ _ ev96)
    | ne =>
      by_cases hc : x = y
      · have ev97 : (if x = y then _ else _) = some r := ev94
        rw [if_pos hc] at ev97; exact mv_le1 (ih _ _ _ _ ev97)
      · have ev98 : (if x = y then _ else _) = some r := ev94
        rw [if_neg hc] at ev98; exact mv_le1 (ih _ _ _ _ ev98)
    | lt =>
      by_cases hc : x < y
      · have ev99 : (if x < y then _ else _) = some r := ev94
        rw [if_pos hc] at ev99; exact mv_le1 (ih _ _ _ _ ev99)
      · have ev100 : (if x < y then _ else _) = some r := ev94
        rw [if_neg hc] at ev100; exact mv_le1 (ih _ _ _ _ ev100)
    | ge =>
      by_cases hc : y ≤ x
      · have ev101 : (if y ≤ x then _ else _) = some r := ev94
        rw [if_pos hc] at ev101; exact mv_le1 (ih _ _ _ _ ev101)
      · have ev102 : (if y ≤ x then _ else _) = some r := ev94
        rw [if_neg hc] at ev102; exact mv_le1 (ih _ _ _ _ ev102)
    | gt =>
      by_cases hc : y < x
      · have ev103 : (if y < x then _ else _) = some r := ev94
        rw [if_pos hc] at ev103; exact mv_le1 (ih _ _ _ _ ev103)
      · have ev104 : (if y < x then _ else _) = some r := ev94
        rw [if_neg hc] at ev104; exact mv_le1 (ih _ _ _ _ ev104)
    | le =>
      by_cases hc : x ≤ y
      · have ev105 : (if x ≤ y then _ else _) = some r := ev94
        rw [if_pos hc] at ev105; exact mv_le1 (ih _ _ _ _ ev105)
      · have ev106 : (if x ≤ y then _ else _) = some r := ev94
        rw [if_neg hc] at ev106; exact mv_le1 (ih _ _ _ _ ev106)
  | tableswitch d lo hi offs =>
    obtain ⟨x, st, rfl, ev107⟩ := mi_popI ev
    obtain ⟨tg, ht, ev108⟩ := mi_sw ev107
    exact mv_le1 (ih _ _ _ _ ev108)
  | lookupswitch d ps =>
    obtain ⟨x, st, rfl, ev109⟩ := mi_popI ev
    obtain ⟨tg, ht, ev110⟩ := mi_sw ev109
    exact mv_le1 (ih _ _ _ _ ev110)
  | getfield j =>
    obtain ⟨a, st, rfl, ev111⟩ := mi_popR ev
    obtain ⟨q, hk, ev112⟩ := mi_lk ev111
    obtain ⟨h1, ev113⟩ := mi_chk ev112
    have h1 := Nat.eq_of_beq_eq_true h1
    have ev114 : (match q.2.2.2.1 with
      | 2 => mv_gR X h a q.2.1 q.2.2.1 fun x => k (pc + 3) ls (.ref x :: st) h
      | _ => mv_gI X h a q.2.1 q.2.2.1 fun x => k (pc + 3) ls (.int x :: st) h) = some r := ev113
    split at ev114
    · obtain ⟨fs, v, h2, h3, ev115⟩ := mi_gf ev114
      obtain ⟨x, rfl, ev116⟩ := mi_ref ev115
      exact mv_le1 (ih _ _ _ _ ev116)
    · obtain ⟨fs, v, h2, h3, ev117⟩ := mi_gf ev114
      obtain ⟨x, rfl, ev118⟩ := mi_int ev117
      exact mv_le1 (ih _ _ _ _ ev118)
  | putfield j =>
    obtain ⟨q, hk, ev119⟩ := mi_lk ev
    obtain ⟨h1, ev120⟩ := mi_chk ev119
    have h1 := Nat.eq_of_beq_eq_true h1
    have ev121 : (match q.2.2.2.1 with
      | 2 => mv_popR st fun x st => mv_popR st fun a st => mv_pf h a q.2.1 q.2.2.1 (.ref x) fun h => k (pc + 3) ls st h
      | t => mv_popI st fun x st => mv_popR st fun a st => mv_chk (mv_ok t x) (mv_pf h a q.2.1 q.2.2.1 (.int x) fun h => k (pc + 3) ls st h)) = some r := ev120
    split at ev121
    · next he =>
      obtain ⟨x, st, rfl, ev122⟩ := mi_popR ev121
      obtain ⟨a, st, rfl, ev123⟩ := mi_popR ev122
      obtain ⟨fs, h2, h3, ev124⟩ := mi_pf ev123
      exact mv_le1 (ih _ _ _ _ ev124)
    · obtain ⟨x, st, rfl, ev125⟩ := mi_popI ev121
      obtain ⟨a, st, rfl, ev126⟩ := mi_popR ev125
      obtain ⟨h4, ev127⟩ := mi_chk ev126
      obtain ⟨fs, h2, h3, ev128⟩ := mi_pf ev127
      exact mv_le1 (ih _ _ _ _ ev128)
  | getstatic j =>
    obtain ⟨q, hk, ev129⟩ := mi_lk ev
    obtain ⟨h1, ev130⟩ := mi_chk ev129
    have h1 := Nat.eq_of_beq_eq_true h1
    have ev131 : (match q.2.2.1 with
      | 2 => mv_ref (X.2.2 q.2.1) fun x => k (pc + 3) ls (.ref x :: st) h
      | 9 => mv_chk (mv_nr (X.2.2 q.2.1)) (k (pc + 3) ls (X.2.2 q.2.1 :: st) h)
      | _ => mv_int (X.2.2 q.2.1) fun x => k (pc + 3) ls (.int x :: st) h) = some r := ev130
    split at ev131
    · obtain ⟨x, hv, ev132⟩ := mi_ref ev131
      exact mv_le1 (ih _ _ _ _ ev132)
    · obtain ⟨-, ev132b⟩ := mi_chk ev131
      exact mv_le1 (ih _ _ _ _ ev132b)
    · obtain ⟨x, hv, ev133⟩ := mi_int ev131
      exact mv_le1 (ih _ _ _ _ ev133)
  | iaload =>
    obtain ⟨i, st, rfl, ev134⟩ := mi_popI ev
    obtain ⟨a, st, rfl, ev135⟩ := mi_popR ev134
    obtain ⟨t1, n1, g1, h1, h2, h3, h4, ev136⟩ := mi_ar ev135
    obtain ⟨x, hv, ev137⟩ := mi_int ev136
    exact mv_le1 (ih _ _ _ _ ev137)
  | caload =>
    obtain ⟨i, st, rfl, ev138⟩ := mi_popI ev
    obtain ⟨a, st, rfl, ev139⟩ := mi_popR ev138
    obtain ⟨t1, n1, g1, h1, h2, h3, h4, ev140⟩ := mi_ar ev139
    obtain ⟨x, hv, ev141⟩ := mi_int ev140
    exact mv_le1 (ih _ _ _ _ ev141)
  | baload =>
    obtain ⟨i, st, rfl, ev142⟩ := mi_popI ev
    obtain ⟨a, st, rfl, ev143⟩ := mi_popR ev142
    obtain ⟨t1, n1, g1, h1, h2, h3, h4, ev144⟩ := mi_ar ev143
    obtain ⟨x, hv, ev145⟩ := mi_int ev144
    exact mv_le1 (ih _ _ _ _ ev145)
  | aaload =>
    obtain ⟨i, st, rfl, ev146⟩ := mi_popI ev
    obtain ⟨a, st, rfl, ev147⟩ := mi_popR ev146
    obtain ⟨t1, n1, g1, h1, h2, h3, h4, ev148⟩ := mi_ar ev147
    obtain ⟨x, hv, ev149⟩ := mi_ref ev148
    exact mv_le1 (ih _ _ _ _ ev149)
  | laload =>
    obtain ⟨i, st, rfl, ev150⟩ := mi_popI ev
    obtain ⟨a, st, rfl, ev151⟩ := mi_popR ev150
    obtain ⟨t1, n1, g1, h1, h2, h3, h4, ev152⟩ := mi_ar ev151
    obtain ⟨x, hv, ev153⟩ := mi_lng ev152
    exact mv_le1 (ih _ _ _ _ ev153)
  | daload =>
    obtain ⟨i, st, rfl, ev154⟩ := mi_popI ev
    obtain ⟨a, st, rfl, ev155⟩ := mi_popR ev154
    obtain ⟨t1, n1, g1, h1, h2, h3, h4, ev156⟩ := mi_ar ev155
    obtain ⟨x, hv, ev157⟩ := mi_dbl ev156
    exact mv_le1 (ih _ _ _ _ ev157)
  | iastore =>
    obtain ⟨x, st, rfl, ev158⟩ := mi_popI ev
    obtain ⟨i, st, rfl, ev159⟩ := mi_popI ev158
    obtain ⟨a, st, rfl, ev160⟩ := mi_popR ev159
    obtain ⟨t1, n1, g1, h1, h2, h3, h4, ev161⟩ := mi_as ev160
    exact mv_le1 (ih _ _ _ _ ev161)
  | castore =>
    obtain ⟨x, st, rfl, ev162⟩ := mi_popI ev
    obtain ⟨i, st, rfl, ev163⟩ := mi_popI ev162
    obtain ⟨a, st, rfl, ev164⟩ := mi_popR ev163
    obtain ⟨t1, n1, g1, h1, h2, h3, h4, ev165⟩ := mi_as ev164
    exact mv_le1 (ih _ _ _ _ ev165)
  | bastore =>
    obtain ⟨x, st, rfl, ev166⟩ := mi_popI ev
    obtain ⟨i, st, rfl, ev167⟩ := mi_popI ev166
    obtain ⟨a, st, rfl, ev168⟩ := mi_popR ev167
    obtain ⟨t1, n1, g1, h1, h2, h3, h4, ev169⟩ := mi_as ev168
    exact mv_le1 (ih _ _ _ _ ev169)
  | lastore =>
    obtain ⟨x, st, rfl, ev170⟩ := mi_popL ev
    obtain ⟨i, st, rfl, ev171⟩ := mi_popI ev170
    obtain ⟨a, st, rfl, ev172⟩ := mi_popR ev171
    obtain ⟨t1, n1, g1, h1, h2, h3, h4, ev173⟩ := mi_as ev172
    exact mv_le1 (ih _ _ _ _ ev173)
  | dastore =>
    obtain ⟨x, st, rfl, ev174⟩ := mi_popD ev
    obtain ⟨i, st, rfl, ev175⟩ := mi_popI ev174
    obtain ⟨a, st, rfl, ev176⟩ := mi_popR ev175
    obtain ⟨t1, n1, g1, h1, h2, h3, h4, ev177⟩ := mi_as ev176
    exact mv_le1 (ih _ _ _ _ ev177)
  | aastore =>
    obtain ⟨b, st, rfl, ev178⟩ := mi_popR ev
    obtain ⟨i, st, rfl, ev179⟩ := mi_popI ev178
    obtain ⟨a, st, rfl, ev180⟩ := mi_popR ev179
    obtain ⟨c1, fs, C1, n1, g1, h1, h2, h3, h4, h5, ev181⟩ := mi_aa ev180
    exact mv_le1 (ih _ _ _ _ ev181)
  | arraylength =>
    obtain ⟨a, st, rfl, ev182⟩ := mi_popR ev
    obtain ⟨t1, n1, g1, h1, ev183⟩ := mi_len ev182
    exact mv_le1 (ih _ _ _ _ ev183)
  | new j =>
    obtain ⟨q, hk, ev184⟩ := mi_lk ev
    have ev185 : (match q.1 with
      | 10 => mv_new h (.inl (q.2.1, mv_df q.2.1)) (mv_df q.2.1).length fun a h => k (pc + 3) ls (.ref a :: st) h
      | 11 => mv_chk (Nat.blt 0 t && Nat.ble st.length 8 && (st.all fun v => Nat.beq v.category 1) && M.2.2.2.2.2.isEmpty) (mv_raise q.2.1 h.2.1 (h.1, h.2.1 + 1, h.2.2 + 6))
      | _ => none) = some r := ev184
    split at ev185
    · next he => exact mv_le1 (ih _ _ _ _ ev185)
    · next he =>
      obtain ⟨h1, ev186⟩ := mi_chk ev185
      simp only [Bool.and_eq_true, Nat.ble_eq, Nat.blt_eq, List.all_eq_true] at h1
      cases ev186; exact ⟨Nat.le_succ _, Nat.le_add_right _ _⟩
    · cases ev185
  | newarray ty =>
    obtain ⟨n1, st, rfl, ev187⟩ := mi_popI ev
    obtain ⟨h1, h2, ev188⟩ := mi_newa ev187
    exact mv_le1 (ih _ _ _ _ ev188)
  | anewarray j =>
    obtain ⟨n1, st, rfl, ev189⟩ := mi_popI ev
    obtain ⟨q, hk, ev190⟩ := mi_lk ev189
    obtain ⟨h0, ev191⟩ := mi_chk ev190
    obtain ⟨h1, h2, ev192⟩ := mi_newa ev191
    exact mv_le1 (ih _ _ _ _ ev192)
  | invokevirtual j =>
    obtain ⟨q, hk, e1⟩ := mi_lk ev
    exact mv_leI hcall ih e1
  | invokestatic j =>
    obtain ⟨q, hk, e1⟩ := mi_lk ev
    exact mv_leI hcall ih e1
  | invokespecial j =>
    obtain ⟨q, hk, e1⟩ := mi_lk ev
    exact mv_leI hcall ih e1
  | ireturn =>
    obtain ⟨x, st, rfl, ev201⟩ := mi_popI ev
    obtain ⟨h1, ev202⟩ := mi_chk ev201
    rw [Bool.and_eq_true] at h1
    have he := List.isEmpty_iff.mp h1.1
    subst he
    cases ev202; exact ⟨Nat.le_refl _, Nat.le_refl _⟩
  | areturn =>
    obtain ⟨x, st, rfl, ev203⟩ := mi_popR ev
    obtain ⟨h1, ev204⟩ := mi_chk ev203
    rw [Bool.and_eq_true] at h1
    have he := List.isEmpty_iff.mp h1.1
    subst he
    cases ev204; exact ⟨Nat.le_refl _, Nat.le_refl _⟩
  | freturn =>
    obtain ⟨x, st, rfl, ev205⟩ := mi_popF ev
    obtain ⟨h1, ev206⟩ := mi_chk ev205
    rw [Bool.and_eq_true] at h1
    have he := List.isEmpty_iff.mp h1.1
    subst he
    cases ev206; exact ⟨Nat.le_refl _, Nat.le_refl _⟩
  | dreturn =>
    obtain ⟨x, st, rfl, ev207⟩ := mi_popD ev
    obtain ⟨h1, ev208⟩ := mi_chk ev207
    rw [Bool.and_eq_true] at h1
    have he := List.isEmpty_iff.mp h1.1
    subst he
    cases ev208; exact ⟨Nat.le_refl _, Nat.le_refl _⟩
  | return_ =>
    obtain ⟨h1, ev209⟩ := mi_chk ev
    rw [Bool.and_eq_true] at h1
    have he := List.isEmpty_iff.mp h1.1
    subst he
    cases ev209; exact ⟨Nat.le_refl _, Nat.le_refl _⟩
  | _ => exact absurd ev (by intro z; have z : (none : Option mv_R) = some r := z; cases z)

theorem mv_leF {X : mv_X} {call : mv_G} {M : mv_M} (hcall : mv_Up call) {r : mv_R} : ∀ (n pc : Nat) (ls st : List Value) (h : mv_H), mv_fu X call M n pc ls st h = some r → mv_Le h r.2 := by
  intro n
  induction n with
  | zero => intro pc ls st h e; cases e
  | succ n ih =>
    intro pc ls st h ev
    have ev : mv_F X call M (mv_fu X call M n) pc ls st h = some r := ev
    unfold mv_F at ev
    split at ev
    · cases ev
    · next q hq => exact mv_leE hcall ih ev
theorem mv_leM (X : mv_X) : ∀ d, mv_Up (mv_call X d) := by
  intro d
  induction d with
  | zero => intro y as h r e; cases e
  | succ d ih =>
    intro y as h r e
    have e : (match mv_look mv_tab 16 y with
      | some M => mv_chk (Nat.ble as.length M.1) (mv_run X (mv_call X d) M 0 (as ++ List.replicate (M.1 - as.length) (.retAddr 0)) [] h)
      | none => none) = some r := e
    split at e
    · obtain ⟨-, e⟩ := mi_chk e
      obtain ⟨n, e⟩ := mv_run_iff.mp e
      exact mv_leF ih n _ _ _ _ e
    · cases e
/-! ALL METHODS, AT EVERY DEPTH -/
theorem mv_lr0 {as : List Value} {n : Nat} {w : Bool} (hn : as.length ≤ n) (hc : ∀ v ∈ as, v.category = 1) : mv_lr w n (as ++ List.replicate (n - as.length) (.retAddr 0)) ((lg_sl as ++ List.replicate (n - (lg_sl as).length) Slot.unset).toArray) := by
  have hl : ∀ vs : List Value, (∀ v ∈ vs, v.category = 1) → lg_sl vs = vs.map Slot.val := fun vs => by
    induction vs with
    | nil => intro _; rfl
    | cons v vs ih =>
      intro h
      have h1 := h v List.mem_cons_self
      have h2 := ih fun w hw => h w (List.mem_cons_of_mem _ hw)
      show (if v.category = 2 then [Slot.val v, Slot.second] else [Slot.val v]) ++ lg_sl vs = _
      rw [if_neg (by omega), h2]
      rfl
  have hlen : (lg_sl as).length = as.length := by rw [hl as hc, List.length_map]
  have ha : ∀ (vs : List Value) (i k : Nat) (v : Value), (∀ v ∈ vs, v.category = 1) → vs[k]? = some v → (i + k, v) ∈ lv_args i vs := fun vs => by
    induction vs with
    | nil => intro i k v _ h; simp at h
    | cons w vs ih =>
      intro i k v h hk
      have h1 := h w List.mem_cons_self
      have e : lv_args i (w :: vs) = (i, w) :: lv_args (i + 1) vs := by
        show (i, w) :: lv_args (if w.category = 2 then i + 2 else i + 1) vs = _
        rw [if_neg (by omega)]
      rw [e]
      cases k with
      | zero =>
        simp only [List.getElem?_cons_zero, Option.some.injEq] at hk
        subst hk
        exact List.mem_cons_self
      | succ k =>
        simp only [List.getElem?_cons_succ] at hk
        have := ih (i + 1) k v (fun z hz => h z (List.mem_cons_of_mem _ hz)) hk
        rw [show i + (k + 1) = i + 1 + k by omega]
        exact List.mem_cons_of_mem _ this
  have h0 := lv_entry as (n := n) (by omega)
  refine ⟨by rw [List.length_append, List.length_replicate]; omega, ⟨h0.1, h0.2.1, fun q hq => ?_⟩, fun _ v hv => ?_⟩
  · obtain ⟨i, v⟩ := q
    obtain ⟨h1, h2⟩ := mv_mem_prs.mp hq
    by_cases hi : i < as.length
    · rw [List.getElem?_append_left hi] at h1
      have := ha as 0 i v hc h1
      rw [Nat.zero_add] at this
      exact h0.2.2 _ this
    · rw [List.getElem?_append_right (by omega)] at h1
      have := List.mem_of_getElem? h1
      rw [List.mem_replicate] at this
      rw [this.2] at h2
      cases h2
  · rcases List.mem_append.mp hv with hv | hv
    · exact hc v hv
    · rw [List.mem_replicate] at hv
      rw [hv.2]
      rfl
theorem mv_ofW {l : Launch} {y : MethodName} {ws ws' : List Cond} {rm : Room} {Pc : Array Value → State → Prop} {Qc : Array Value → State → Outcome → State → Prop} {XC : String → State → State → Prop} {mc ms : Nat} {free : Addr → Prop} {cc : ByteArray} {maxL : Nat} {ret : Option FieldType}
    (hy : plainFor y = true) (hw : ws = Cond.code y cc maxL ret :: ws')
    (body : ∀ p e s m args below meth c s₁, BodyLoose p l y (headSpec ws rm) cc maxL ret e s m args below meth c s₁ → c.maxLocals = maxL → (∀ x ∈ c.exceptionTable.toList, False) → Pc args s →
      W p l e (headSpec ws rm).room s m args below meth c s.heap [] 0 0 (vx_MQ below Qc XC args s mc ms free) (entryFrame m args maxL)) : vx_Met l y ws rm Pc Qc XC mc ms free := by
  refine MetFree.of_bodySF (code := cc) (maxLocals := maxL) (ret := ret) hy ?_ ?_
  · intro args s m h hn
    obtain ⟨meth, c, h1, h2, h3, h4, h5, h6, -, -⟩ := Cond.code_spec hn (atoms_spec (ws := ws) h _ (by rw [hw]; exact List.mem_cons_self))
    exact ⟨meth, c, h1, h2, h3, h4, h5, h6⟩
  · intro p e s m args below meth c s₁ B hml hP _
    have hh0 : s₁.heap = s.heap := by rw [B.state]; rfl
    have ht : ∀ x ∈ c.exceptionTable.toList, False := by
      obtain ⟨meth9, c9, h1, h2, -, -, -, -, h7, -⟩ := Cond.code_spec B.named (atoms_spec (ws := ws) B.pre _ (by rw [hw]; exact List.mem_cons_self))
      cases Option.some.inj (h1.symm.trans B.method)
      cases Option.some.inj (h2.symm.trans (Stand.of_body B).code)
      intro x hx
      rw [Array.isEmpty_iff.mp h7] at hx
      cases hx
    obtain ⟨t, a1, o, b1, b2, b3⟩ := body p e s m args below meth c s₁ B hml ht hP s₁ hh0 (Stand.of_body B)
    exact ⟨t, o, a1, b1, b2, b3⟩
theorem mv_ofWH {l : Launch} {y : MethodName} {ws ws' : List Cond} {rm : Room} {Pc : Array Value → State → Prop} {Qc : Array Value → State → Outcome → State → Prop} {XC : String → State → State → Prop} {mc ms : Nat} {free : Addr → Prop} {cc : ByteArray} {maxL : Nat} {ret : Option FieldType} {hh : List (Nat × Nat × Nat × Nat)}
    (hy : plainFor y = true) (hw : ws = Cond.codeWith y cc maxL ret hh :: ws')
    (body : ∀ p e s m args below meth c s₁, BodyLoose p l y (headSpec ws rm) cc maxL ret e s m args below meth c s₁ → c.maxLocals = maxL → Pc args s →
      W p l e (headSpec ws rm).room s m args below meth c s.heap [] 0 0 (vx_MQ below Qc XC args s mc ms free) (entryFrame m args maxL)) : vx_Met l y ws rm Pc Qc XC mc ms free := by
  refine MetFree.of_bodySF (code := cc) (maxLocals := maxL) (ret := ret) hy ?_ ?_
  · intro args s m h hn
    obtain ⟨m9, meth, c, hn9, h1, h2, h3, h4, -, h5, h6, -⟩ := Cond.codeWith_spec (atoms_spec (ws := ws) h _ (by rw [hw]; exact List.mem_cons_self))
    cases hn.symm.trans hn9
    exact ⟨meth, c, h1, h2, h3, h4, h5, h6⟩
  · intro p e s m args below meth c s₁ B hml hP _
    have hh0 : s₁.heap = s.heap := by rw [B.state]; rfl
    obtain ⟨t, a1, o, b1, b2, b3⟩ := body p e s m args below meth c s₁ B hml hP s₁ hh0 (Stand.of_body B)
    exact ⟨t, o, a1, b1, b2, b3⟩
def mv_Len : Prop := ∀ y N M, mv_look mv_mt 16 y = some N → mv_look mv_tab 16 y = some M → plainFor N.1 = true
theorem mv_simM {D : va_G} {l : Launch} {s0 : State} {a0 : Array Value} {X : mv_X} (G : mv_GL D l s0 a0 X) (hall : mv_All) (hpl : mv_Len) : ∀ d, mv_CallOK D l s0 d (mv_call X d) := by
  intro d
  induction d with
  | zero => intro y as h r e; cases e
  | succ d ih =>
    intro y as h r e
    refine ⟨mv_leM X (d + 1) y as h r e, ?_⟩
    have e : (match mv_look mv_tab 16 y with
      | some M => mv_chk (Nat.ble as.length M.1) (mv_run X (mv_call X d) M 0 (as ++ List.replicate (M.1 - as.length) (.retAddr 0)) [] h)
      | none => none) = some r := e
    cases hM : mv_look mv_tab 16 y with
    | none => rw [hM] at e; cases e
    | some M =>
      rw [hM] at e
      refine ⟨⟨M, rfl⟩, fun N M' hN hM' hca => ?_⟩
      cases hM'
      obtain ⟨hb, e⟩ := mi_chk e
      have hb := Nat.ble_eq.mp hb
      obtain ⟨n, e⟩ := mv_run_iff.mp e
      have hg := hall y N M hN hM
      have hple := hpl y N M hN hM
      have key : ∀ p e s m args below meth c s₁, BodyLoose p l N.1 (headSpec [mv_cw N M] (mv_rm (d + 1) (r.2.2.1 - h.2.1) (r.2.2.2 - h.2.2))) N.2.1 M.1 N.2.2.1 e s m args below meth c s₁ → c.maxLocals = M.1 → c.exceptionTable.toList = tableOf N.2.2.2 → mv_Pc D s0 as h args s →
          W p l e (headSpec [mv_cw N M] (mv_rm (d + 1) (r.2.2.1 - h.2.1) (r.2.2.2 - h.2.2))).room s m args below meth c s.heap [] 0 0 (vx_MQ below (mv_Qc D s0 r) (mv_XC D s0 r) args s (r.2.2.1 - h.2.1) (r.2.2.2 - h.2.2) (fun q => s0.heap.size ≤ q)) (entryFrame m args M.1) := by
        intro p e9 s m args below meth c s₁ B hml ht hP
        have C : mv_Cx D l s0 a0 X p s m meth c N M := ⟨G, B.exec, hP.2.1, B.bytes, hml, B.returns, findClass_of_methodNamed B.named, B.notSynchronized, (name_of_methodNamed B.named B.method).1, ht, hg, by have := hP.2.2.1; have := hP.2.2.2.1; omega, hP.2.2.2.2.1⟩
        rw [hP.1, lg_entry_eq]
        exact (mv_simF C hall ih ⟨Nat.le_refl _, Nat.le_refl _⟩ n 0 _ [] h e).2 s.heap [] 0 0 _ _ _ hP.2.2 (mv_lr0 hb hca) (fun q hq => nomatch hq) (Nat.le_of_eq hP.2.2.1) (by omega) (by omega) (Nat.le_refl _) (Nat.le_refl _)
      cases hh : N.2.2.2 with
      | nil =>
        have hw : [mv_cw N M] = Cond.code N.1 N.2.1 M.1 N.2.2.1 :: [] := by unfold mv_cw; rw [hh]
        refine mv_ofW hple hw fun p e9 s m args below meth c s₁ B hml ht hP => key p e9 s m args below meth c s₁ B hml ?_ hP
        rw [hh]
        cases hc : c.exceptionTable.toList with
        | nil => rfl
        | cons x z => exact (ht x (by rw [hc]; exact List.mem_cons_self)).elim
      | cons z zs =>
        have hw : [mv_cw N M] = Cond.codeWith N.1 N.2.1 M.1 N.2.2.1 (z :: zs) :: [] := by unfold mv_cw; rw [hh]
        refine mv_ofWH hple hw fun p e9 s m args below meth c s₁ B hml hP => key p e9 s m args below meth c s₁ B hml ?_ hP
        rw [hh]
        exact vx_table (x := N.1) B (atoms_spec (ws := [mv_cw N M]) B.pre _ (by rw [hw]; exact List.mem_cons_self))
