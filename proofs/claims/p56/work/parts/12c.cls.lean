def mv_clz : List (vw_C × List Nat) := [((RJ0, TJ0, 4), [870, 872, 1119, 1121]),
  ((RJ4, TJ4, 4), [277, 279, 281, 283]),
  ((RJx00060, TJx00060, 6), [858, 859, 860, 861, 862, 863]),
  ((RJx7c733, TJx7c733, 6), [1367, 1368, 1369, 1370, 1371, 1372]),
  ((RX0, TX0, 7), [107, 109, 111, 113, 115, 117, 119]),
  ((RX1, TX1, 3), [217, 219, 221]),
  ((RX2, TX2, 3), [309, 311, 313]),
  ((RX3, TX3, 12), [161, 163, 165, 167, 169, 171, 173, 175, 177, 179, 181, 183]),
  ((RX4, TX4, 3), [199, 201, 203]),
  ((RX5, TX5, 3), [132, 134, 136]),
  ((RX6, TX6, 5), [242, 244, 246, 248, 250]),
  ((RX7, TX7, 2), [295, 297]),
  ((RX8, TX8, 14), [330, 332, 334, 336, 338, 340, 342, 344, 346, 348, 350, 352, 354, 356])]
theorem mv_clz_ok : mv_clks mv_clz 0 = true := by decide +kernel
theorem mv_cl_ok {ci : Nat} {r : vw_C} (h : vwCl[ci]? = some r) : ∃ ps, mv_clk ci r ps = true := by
  have := mv_clks_ok mv_clz_ok ci r h
  rwa [Nat.zero_add] at this
theorem mv_at_int : Cond.arrayClass .int ∈ lw_tbl := List.mem_of_getElem? (i := 122) (by decide +kernel)
theorem mv_at_byte : Cond.arrayClass .byte ∈ lw_tbl := List.mem_of_getElem? (i := 286) (by decide +kernel)
theorem mv_at_char : Cond.arrayClass .char ∈ lw_tbl := List.mem_of_getElem? (i := 253) (by decide +kernel)
theorem mv_at_long : Cond.arrayClass .long ∈ lw_tbl := List.mem_of_getElem? (i := 1589) (by decide +kernel)
theorem mv_at_ok {t : ArrayType} (h : mv_nt t = true) : Cond.arrayClass (newarray.typeOf t) ∈ lw_tbl := by
  cases t <;> first | exact mv_at_int | exact mv_at_byte | exact mv_at_char | exact mv_at_long | cases h
theorem mv_cast_0 : Cond.castable (mv_en 0) (mv_en 0) ∈ lw_tbl := List.mem_of_getElem? (i := 485) (by decide +kernel)
theorem mv_cast_1 : Cond.castable (mv_en 1) (mv_en 1) ∈ lw_tbl := List.mem_of_getElem? (i := 570) (by decide +kernel)
theorem mv_cast_2 : Cond.castable (mv_en 2) (mv_en 2) ∈ lw_tbl := List.mem_of_getElem? (i := 742) (by decide +kernel)
theorem mv_cast_3 : Cond.castable (mv_en 3) (mv_en 3) ∈ lw_tbl := List.mem_of_getElem? (i := 766) (by decide +kernel)
theorem mv_cast_4 : Cond.castable (mv_en 4) (mv_en 4) ∈ lw_tbl := List.mem_of_getElem? (i := 1164) (by decide +kernel)
theorem mv_cast_5 : Cond.castable (mv_en 5) (mv_en 5) ∈ lw_tbl := List.mem_of_getElem? (i := 1518) (by decide +kernel)
theorem mv_cast_ok {e : Nat} (h : e < 6) : Cond.castable (mv_en e) (mv_en e) ∈ lw_tbl := by
  have h : e = 0 ∨ e = 1 ∨ e = 2 ∨ e = 3 ∨ e = 4 ∨ e = 5 := by omega
  rcases h with rfl | rfl | rfl | rfl | rfl | rfl
  · exact mv_cast_0
  · exact mv_cast_1
  · exact mv_cast_2
  · exact mv_cast_3
  · exact mv_cast_4
  · exact mv_cast_5
