theorem mk_L1 : ((cd_L_law.take 22).all fun l => l.all fun q => mv_dck n_L_law m_L_law q.1 q.2) = true := by decide +kernel
theorem mk_L2 : (((cd_L_law.drop 22).take 22).all fun l => l.all fun q => mv_dck n_L_law m_L_law q.1 q.2) = true := by decide +kernel
theorem mk_L3 : ((((cd_L_law.drop 22).drop 22).take 22).all fun l => l.all fun q => mv_dck n_L_law m_L_law q.1 q.2) = true := by decide +kernel
theorem mk_L4 : ((((cd_L_law.drop 22).drop 22).drop 22).all fun l => l.all fun q => mv_dck n_L_law m_L_law q.1 q.2) = true := by decide +kernel
theorem mv_td {α : Type} {L : List α} {f : α → Bool} (n : Nat) (h1 : (L.take n).all f = true) (h2 : (L.drop n).all f = true) : L.all f = true := by
  rw [← List.take_append_drop n L, List.all_append, h1, h2]
  rfl
theorem mk_L : ∀ l ∈ cd_L_law, (l.all fun q => mv_dck n_L_law m_L_law q.1 q.2) = true := List.all_eq_true.mp (mv_td 22 mk_L1 (mv_td 22 mk_L2 (mv_td 22 mk_L3 mk_L4)))
theorem mv_mck_of {N : mv_N} {M : mv_M} (h : (Nat.ble M.1 13 && mv_rkok M.2.2.1 N.2.2.1 && Nat.beq N.2.2.2.length M.2.2.2.2.2.length && (N.2.2.2.zip M.2.2.2.2.2).all (fun z => mv_hck N M z.1 z.2)) = true) (k : ∀ l ∈ M.2.2.2.1, (l.all fun q => mv_dck N M q.1 q.2) = true) : mv_mck N M = true := by
  unfold mv_mck
  rw [Bool.and_eq_true]
  exact ⟨h, List.all_eq_true.mpr k⟩
theorem mg_L_law : mv_gp n_L_law m_L_law := ⟨⟨mv_mck_of (by decide +kernel) mk_L, ml_L⟩, by decide +kernel⟩
