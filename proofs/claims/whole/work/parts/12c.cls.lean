def mv_clz : List (vw_C × List Nat) := [((RJ0, TJ0, 2), [968, 970]),
  ((RJ4, TJ4, 4), [325, 327, 329, 331]),
  ((RJx00060, TJx00060, 6), [956, 957, 958, 959, 960, 961]),
  ((RJx7c733, TJx7c733, 6), [1506, 1507, 1508, 1509, 1510, 1511]),
  ((RX0, TX0, 7), [155, 157, 159, 161, 163, 165, 167]),
  ((RX1, TX1, 3), [265, 267, 269]),
  ((RX2, TX2, 3), [357, 359, 361]),
  ((RX3, TX3, 12), [209, 211, 213, 215, 217, 219, 221, 223, 225, 227, 229, 231]),
  ((RX4, TX4, 3), [247, 249, 251]),
  ((RX5, TX5, 3), [180, 182, 184]),
  ((RX6, TX6, 5), [290, 292, 294, 296, 298]),
  ((RX7, TX7, 2), [343, 345]),
  ((RX8, TX8, 14), [378, 380, 382, 384, 386, 388, 390, 392, 394, 396, 398, 400, 402, 404]),
  ((RX9, TX9, 27), [1651, 1653, 1655, 1657, 1659, 1661, 1663, 1665, 1667, 1669, 1671, 1673, 1675, 1677, 1679, 1681, 1683, 1685, 1687, 1689, 1691, 1693, 1695, 1697, 1699, 1701, 1703])]
theorem mv_clz_ok : mv_clks mv_clz 0 = true := by decide +kernel
theorem mv_cl_ok {ci : Nat} {r : vw_C} (h : vwCl[ci]? = some r) : ∃ ps, mv_clk ci r ps = true := by
  have := mv_clks_ok mv_clz_ok ci r h
  rwa [Nat.zero_add] at this
theorem mv_at_int : Cond.arrayClass .int ∈ lw_tbl := List.mem_of_getElem? (i := 170) (by decide +kernel)
theorem mv_at_byte : Cond.arrayClass .byte ∈ lw_tbl := List.mem_of_getElem? (i := 334) (by decide +kernel)
theorem mv_at_char : Cond.arrayClass .char ∈ lw_tbl := List.mem_of_getElem? (i := 301) (by decide +kernel)
theorem mv_at_long : Cond.arrayClass .long ∈ lw_tbl := List.mem_of_getElem? (i := 2142) (by decide +kernel)
theorem mv_at_double : Cond.arrayClass .double ∈ lw_tbl := List.mem_of_getElem? (i := 2143) (by decide +kernel)
theorem mv_at_ok {t : ArrayType} (h : mv_nt t = true) : Cond.arrayClass (newarray.typeOf t) ∈ lw_tbl := by
  cases t <;> first | exact mv_at_int | exact mv_at_byte | exact mv_at_char | exact mv_at_long | exact mv_at_double | cases h
theorem mv_cast_0 : Cond.castable (mv_en 0) (mv_en 0) ∈ lw_tbl := List.mem_of_getElem? (i := 675) (by decide +kernel)
theorem mv_cast_1 : Cond.castable (mv_en 1) (mv_en 1) ∈ lw_tbl := List.mem_of_getElem? (i := 747) (by decide +kernel)
theorem mv_cast_2 : Cond.castable (mv_en 2) (mv_en 2) ∈ lw_tbl := List.mem_of_getElem? (i := 763) (by decide +kernel)
theorem mv_cast_3 : Cond.castable (mv_en 3) (mv_en 3) ∈ lw_tbl := List.mem_of_getElem? (i := 787) (by decide +kernel)
theorem mv_cast_4 : Cond.castable (mv_en 4) (mv_en 4) ∈ lw_tbl := List.mem_of_getElem? (i := 1181) (by decide +kernel)
theorem mv_cast_5 : Cond.castable (mv_en 5) (mv_en 5) ∈ lw_tbl := List.mem_of_getElem? (i := 1151) (by decide +kernel)
theorem mv_cast_ok {e : Nat} (h : e < 6) : Cond.castable (mv_en e) (mv_en e) ∈ lw_tbl := by
  have h : e = 0 ∨ e = 1 ∨ e = 2 ∨ e = 3 ∨ e = 4 ∨ e = 5 := by omega
  rcases h with rfl | rfl | rfl | rfl | rfl | rfl
  · exact mv_cast_0
  · exact mv_cast_1
  · exact mv_cast_2
  · exact mv_cast_3
  · exact mv_cast_4
  · exact mv_cast_5
