section ONEW
variable {X : mv_X} {P : mz_P} {V : mz_V} {z : Nat × Nat} {d m L x0 N : Nat} {t : Nat → Int} {s : rs_T}
theorem X9_one5 (hX : mx_W X P x0) (hR : mx_R X x0) (hM : mr_M P m) (hT : rz_T V m L N t) {p : Nat} {g : Nat → Int} (hp : p ≤ L) (h : pr_chr t L 119 p = true) (h1 : ¬ pr_chr t L 97 (p + 1) = true) : mv_call X (d + 8) 238 [.ref m] (mz_h P (rz_V V m (false, p, g)), z) = some (.inl none, (mz_h P (mz_w (rz_V V m (rs_w t L N (false, p, mr_up g (5 * N) 119))) m (mr_up (rz_V V m (rs_w t L N (false, p, mr_up g (5 * N) 119)) m) 25 ((N : Int) + 1))), z)) := by
  have y0 := rs_h_e (by decide) h
  have e0 := X9_h0 (X := X) (z := z) (d := d + 6) (s := (false, p, g)) hM hT hp
  have e1 := X9_h1 (X := X) (z := z) (d := d + 6) (s := (false, p, g)) hM hT hp
  rw [show rs_h t L ((false, p, g) : rs_T).2.1 = 119 from y0] at e0
  have y1 : rs_h t L (p + 1) ≠ 97 := rs_h_n (by decide) h1
  have ew := X9_readsWind (X := X) (z := z) (d := d) (s := (false, p, mr_up g (5 * N) 119)) hX hR hM hT hp
  rw [mc_X9_readsOne, bk_X9_readsOne_0, mz_rcv hM.o]
  simp only [mv_clI, mv_cl, e0]
  rw [if_neg (by decide), bk_X9_readsOne_22, if_pos (by first | trivial | rfl), mz_rcv hM.o]
  simp only [mv_clI, mv_cl, e1]
  rw [if_neg (by rw [nZ_inj (rs_h_S hT _) (by decide)]; exact y1), bk_X9_readsOne_42, mr_gto hM, mz_gI hM.o (by decide), rz_k (by decide) (by decide), hT.2.2.1, if_pos (by rfl), X9_kind hM hT, if_neg (by decide), if_neg (by decide), if_neg (by decide), if_neg (by decide), if_neg (by decide), if_neg (by decide), if_neg (by decide), if_neg (by decide), if_neg (by decide), if_neg (by decide), if_neg (by decide), if_neg (by decide), if_neg (by decide), if_neg (by decide), if_neg (by decide), if_neg (by decide), if_neg (by decide), if_neg (by decide), if_neg (by decide), if_neg (by decide), if_pos (by first | trivial | rfl), if_pos (by first | trivial | rfl), mz_rcv hM.o]
  simp only [mv_clV, mv_cl, ew]
  rw [X9_351 (d := d + 1) hM hT]
end ONEW
