theorem mc_X0_init (X : mv_X) (d : Nat) (h : mv_H) (a0 : Nat) : mv_call X (d + 1) 0 [.ref a0] h = mv_run X (mv_call X d) m_X0_init 0 [.ref a0] [] h := rfl
theorem bk_X0_init_0 (X : mv_X) (call : mv_G) (h : mv_H) (a0 : Nat) : mv_run X call m_X0_init 0 [.ref a0] [] h =
  mv_chk (mv_ok 6 (nZ 0)) (mv_pf h a0 4 0 (.int (nZ 0)) fun h1 =>
  mv_pf h1 a0 4 1 (.int (nZ 1)) fun h2 =>
  mv_pf h2 a0 4 2 (.int (nZ 1)) fun h3 =>
  mv_pf h3 a0 4 3 (.int (nZ 1)) fun h4 =>
  mv_pf h4 a0 4 4 (.int (nZ 0)) fun h5 =>
  mv_pf h5 a0 4 5 (.int (nZ 0)) fun h6 =>
  mv_newa h6 .int (.int 0) (nZ 6) fun r1 h7 =>
  mv_pf h7 a0 4 6 (.ref r1) fun h8 =>
  (some (.inl none, h8))) :=
  (s_aload_n rfl rfl).trans <| (s_oinit [] rfl rfl (fun _ => rfl)).trans <| (s_aload_n rfl rfl).trans <| (s_iconst rfl).trans <| (s_pf6 rfl rfl).trans <| c_chk <| c_pf fun h1 => (s_aload_n rfl rfl).trans <| (s_iconst rfl).trans <| (s_pf1 rfl rfl).trans <| c_pf fun h2 => (s_aload_n rfl rfl).trans <| (s_iconst rfl).trans <| (s_pf1 rfl rfl).trans <| c_pf fun h3 => (s_aload_n rfl rfl).trans <| (s_iconst rfl).trans <| (s_pf1 rfl rfl).trans <| c_pf fun h4 => (s_aload_n rfl rfl).trans <| (s_iconst rfl).trans <| (s_pf1 rfl rfl).trans <| c_pf fun h5 => (s_aload_n rfl rfl).trans <| (s_iconst rfl).trans <| (s_pf1 rfl rfl).trans <| c_pf fun h6 => (s_aload_n rfl rfl).trans <| (s_bipush rfl).trans <| (s_newa_int rfl).trans <| c_newa fun r1 h7 => (s_pf2 rfl rfl).trans <| c_pf fun h8 => s_ret rfl rfl
theorem mc_X0_copyFrom (X : mv_X) (d : Nat) (h : mv_H) (a0 : Nat) (a1 : Nat) : mv_call X (d + 1) 1 [.ref a0, .ref a1] h = mv_run X (mv_call X d) m_X0_copyFrom 0 [.ref a0, .ref a1] [] h := rfl
theorem bk_X0_copyFrom_0 (X : mv_X) (call : mv_G) (h : mv_H) (a0 : Nat) (a1 : Nat) : mv_run X call m_X0_copyFrom 0 [.ref a0, .ref a1] [] h =
  mv_gI X h a1 4 0 fun x1 =>
  mv_chk (mv_ok 6 x1) (mv_pf h a0 4 0 (.int x1) fun h1 =>
  mv_gI X h1 a1 4 1 fun x2 =>
  mv_pf h1 a0 4 1 (.int x2) fun h2 =>
  mv_gI X h2 a1 4 2 fun x3 =>
  mv_pf h2 a0 4 2 (.int x3) fun h3 =>
  mv_gI X h3 a1 4 3 fun x4 =>
  mv_pf h3 a0 4 3 (.int x4) fun h4 =>
  mv_gI X h4 a1 4 4 fun x5 =>
  mv_pf h4 a0 4 4 (.int x5) fun h5 =>
  mv_gI X h5 a1 4 5 fun x6 =>
  mv_pf h5 a0 4 5 (.int x6) fun h6 =>
  mv_gR X h6 a1 4 6 fun r1 =>
  mv_gR X h6 a0 4 6 fun r2 =>
  mv_cpy X h6 r1 (nZ 0) r2 (nZ 0) (nZ 6) fun h7 =>
  (some (.inl none, h7))) :=
  (s_aload_n rfl rfl).trans <| (s_aload_n rfl rfl).trans <| (s_gf6 rfl rfl).trans <| c_gI fun x1 => (s_pf6 rfl rfl).trans <| c_chk <| c_pf fun h1 => (s_aload_n rfl rfl).trans <| (s_aload_n rfl rfl).trans <| (s_gf1 rfl rfl).trans <| c_gI fun x2 => (s_pf1 rfl rfl).trans <| c_pf fun h2 => (s_aload_n rfl rfl).trans <| (s_aload_n rfl rfl).trans <| (s_gf1 rfl rfl).trans <| c_gI fun x3 => (s_pf1 rfl rfl).trans <| c_pf fun h3 => (s_aload_n rfl rfl).trans <| (s_aload_n rfl rfl).trans <| (s_gf1 rfl rfl).trans <| c_gI fun x4 => (s_pf1 rfl rfl).trans <| c_pf fun h4 => (s_aload_n rfl rfl).trans <| (s_aload_n rfl rfl).trans <| (s_gf1 rfl rfl).trans <| c_gI fun x5 => (s_pf1 rfl rfl).trans <| c_pf fun h5 => (s_aload_n rfl rfl).trans <| (s_aload_n rfl rfl).trans <| (s_gf1 rfl rfl).trans <| c_gI fun x6 => (s_pf1 rfl rfl).trans <| c_pf fun h6 => (s_aload_n rfl rfl).trans <| (s_gf2 rfl rfl).trans <| c_gR fun r1 => (s_iconst rfl).trans <| (s_aload_n rfl rfl).trans <| (s_gf2 rfl rfl).trans <| c_gR fun r2 => (s_iconst rfl).trans <| (s_bipush rfl).trans <| (s_cpy [] rfl rfl (fun _ => rfl)).trans <| c_cpy fun h7 => s_ret rfl rfl
theorem mc_X0_begin (X : mv_X) (d : Nat) (h : mv_H) (a0 : Nat) (v1 : Int32) (v2 : Int32) (v3 : Int32) : mv_call X (d + 1) 2 [.ref a0, .int v1, .int v2, .int v3] h = mv_run X (mv_call X d) m_X0_begin 0 [.ref a0, .int v1, .int v2, .int v3] [] h := rfl
theorem bk_X0_begin_0 (X : mv_X) (call : mv_G) (h : mv_H) (a0 : Nat) (v1 : Int32) (v2 : Int32) (v3 : Int32) : mv_run X call m_X0_begin 0 [.ref a0, .int v1, .int v2, .int v3] [] h =
  mv_chk (mv_ok 6 (nZ 1)) (mv_pf h a0 4 0 (.int (nZ 1)) fun h1 =>
  mv_pf h1 a0 4 1 (.int v1) fun h2 =>
  mv_pf h2 a0 4 2 (.int v2) fun h3 =>
  mv_pf h3 a0 4 3 (.int v3) fun h4 =>
  mv_pf h4 a0 4 4 (.int (nZ 0)) fun h5 =>
  mv_pf h5 a0 4 5 (.int (nZ 0)) fun h6 =>
  (some (.inl none, h6))) :=
  (s_aload_n rfl rfl).trans <| (s_iconst rfl).trans <| (s_pf6 rfl rfl).trans <| c_chk <| c_pf fun h1 => (s_aload_n rfl rfl).trans <| (s_iload_n rfl rfl).trans <| (s_pf1 rfl rfl).trans <| c_pf fun h2 => (s_aload_n rfl rfl).trans <| (s_iload_n rfl rfl).trans <| (s_pf1 rfl rfl).trans <| c_pf fun h3 => (s_aload_n rfl rfl).trans <| (s_iload_n rfl rfl).trans <| (s_pf1 rfl rfl).trans <| c_pf fun h4 => (s_aload_n rfl rfl).trans <| (s_iconst rfl).trans <| (s_pf1 rfl rfl).trans <| c_pf fun h5 => (s_aload_n rfl rfl).trans <| (s_iconst rfl).trans <| (s_pf1 rfl rfl).trans <| c_pf fun h6 => s_ret rfl rfl
theorem mc_X0_spareLift (X : mv_X) (d : Nat) (h : mv_H) (a0 : Nat) : mv_call X (d + 1) 3 [.ref a0] h = mv_run X (mv_call X d) m_X0_spareLift 0 [.ref a0] [] h := rfl
theorem bk_X0_spareLift_0 (X : mv_X) (call : mv_G) (h : mv_H) (a0 : Nat) : mv_run X call m_X0_spareLift 0 [.ref a0] [] h =
  mv_gI X h a0 4 1 fun x1 =>
  mv_gI X h a0 4 4 fun x2 =>
  if x1 ≤ x2 then 
  ((some (.inl (some (.int (nZ 0))), h)))
  else (mv_gI X h a0 4 1 fun x3 =>
    mv_gI X h a0 4 4 fun x4 =>
    (some (.inl (some (.int (x3 - x4))), h))) :=
  (s_aload_n rfl rfl).trans <| (s_gf1 rfl rfl).trans <| c_gI fun x1 => (s_aload_n rfl rfl).trans <| (s_gf1 rfl rfl).trans <| c_gI fun x2 => (s_icmp_le rfl).trans <| c_ite ((s_iconst rfl).trans <| s_iret1 rfl rfl) ((s_aload_n rfl rfl).trans <| (s_gf1 rfl rfl).trans <| c_gI fun x3 => (s_aload_n rfl rfl).trans <| (s_gf1 rfl rfl).trans <| c_gI fun x4 => (s_isub rfl).trans <| (s_goto rfl).trans <| s_iret1 rfl rfl)
theorem mc_X0_heightWith (X : mv_X) (d : Nat) (h : mv_H) (a0 : Nat) (v1 : Int32) : mv_call X (d + 1) 4 [.ref a0, .int v1] h = mv_run X (mv_call X d) m_X0_heightWith 0 [.ref a0, .int v1, .retAddr 0] [] h := rfl
theorem bk_X0_heightWith_0 (X : mv_X) (call : mv_G) (h : mv_H) (a0 : Nat) (v1 : Int32) : mv_run X call m_X0_heightWith 0 [.ref a0, .int v1, .retAddr 0] [] h =
  mv_gI X h a0 4 1 fun x1 =>
  if x1 ≤ v1 then 
  (mv_gI X h a0 4 2 fun x2 =>
    if x2 ≤ (nZ 0) then 
    (mv_gI X h a0 4 2 fun x3 =>
      (some (.inl (some (.int x3)), h)))
    else ((some (.inl (some (.int (nZ 0))), h))))
  else (mv_gI X h a0 4 1 fun x4 =>
    mv_gI X h a0 4 2 fun x5 =>
    if x5 ≤ (x4 - v1) then 
    (mv_gI X h a0 4 2 fun x6 =>
      (some (.inl (some (.int x6)), h)))
    else ((some (.inl (some (.int (x4 - v1))), h)))) :=
  (s_aload_n rfl rfl).trans <| (s_gf1 rfl rfl).trans <| c_gI fun x1 => (s_iload_n rfl rfl).trans <| (s_icmp_le rfl).trans <| c_ite ((s_iconst rfl).trans <| (s_istore_n (ls2 := [.ref a0, .int v1, .int (nZ 0)]) rfl (fun _ => rfl)).trans <| (s_iload_n rfl rfl).trans <| (s_aload_n rfl rfl).trans <| (s_gf1 rfl rfl).trans <| c_gI fun x2 => (s_icmp_ge rfl).trans <| c_ite ((s_aload_n rfl rfl).trans <| (s_gf1 rfl rfl).trans <| c_gI fun x3 => s_iret1 rfl rfl) ((s_iload_n rfl rfl).trans <| (s_goto rfl).trans <| s_iret1 rfl rfl)) ((s_aload_n rfl rfl).trans <| (s_gf1 rfl rfl).trans <| c_gI fun x4 => (s_iload_n rfl rfl).trans <| (s_isub rfl).trans <| (s_goto rfl).trans <| (s_istore_n (ls2 := [.ref a0, .int v1, .int (x4 - v1)]) rfl (fun _ => rfl)).trans <| (s_iload_n rfl rfl).trans <| (s_aload_n rfl rfl).trans <| (s_gf1 rfl rfl).trans <| c_gI fun x5 => (s_icmp_ge rfl).trans <| c_ite ((s_aload_n rfl rfl).trans <| (s_gf1 rfl rfl).trans <| c_gI fun x6 => s_iret1 rfl rfl) ((s_iload_n rfl rfl).trans <| (s_goto rfl).trans <| s_iret1 rfl rfl))
theorem mc_X0_presentHeight (X : mv_X) (d : Nat) (h : mv_H) (a0 : Nat) : mv_call X (d + 1) 5 [.ref a0] h = mv_run X (mv_call X d) m_X0_presentHeight 0 [.ref a0] [] h := rfl
theorem bk_X0_presentHeight_0 (X : mv_X) (call : mv_G) (h : mv_H) (a0 : Nat) : mv_run X call m_X0_presentHeight 0 [.ref a0] [] h =
  mv_gI X h a0 4 4 fun x1 =>
  mv_rcv X h [.ref a0, .int x1] 4 (mv_clI call 4 [.ref a0, .int x1] h mv_raise fun x2 h1 =>
  (some (.inl (some (.int x2)), h1))) :=
  (s_aload_n rfl rfl).trans <| (s_aload_n rfl rfl).trans <| (s_gf1 rfl rfl).trans <| c_gI fun x1 => (s_v1 [.ref a0, .int x1] [] rfl rfl (fun _ => rfl)).trans <| c_rcv <| c_clI fun x2 h1 => s_iret1 rfl rfl
theorem mc_X0_isOverstrained (X : mv_X) (d : Nat) (h : mv_H) (a0 : Nat) : mv_call X (d + 1) 6 [.ref a0] h = mv_run X (mv_call X d) m_X0_isOverstrained 0 [.ref a0] [] h := rfl
theorem bk_X0_isOverstrained_0 (X : mv_X) (call : mv_G) (h : mv_H) (a0 : Nat) : mv_run X call m_X0_isOverstrained 0 [.ref a0] [] h =
  mv_gI X h a0 4 4 fun x1 =>
  mv_rcv X h [.ref a0, .int x1] 4 (mv_clI call 4 [.ref a0, .int x1] h mv_raise fun x2 h1 =>
  mv_gI X h1 a0 4 3 fun x3 =>
  if x2 ≤ x3 then 
  ((some (.inl (some (.int (nZ 0))), h1)))
  else ((some (.inl (some (.int (nZ 1))), h1)))) :=
  (s_aload_n rfl rfl).trans <| (s_aload_n rfl rfl).trans <| (s_gf1 rfl rfl).trans <| c_gI fun x1 => (s_v1 [.ref a0, .int x1] [] rfl rfl (fun _ => rfl)).trans <| c_rcv <| c_clI fun x2 h1 => (s_aload_n rfl rfl).trans <| (s_gf1 rfl rfl).trans <| c_gI fun x3 => (s_icmp_le rfl).trans <| c_ite ((s_iconst rfl).trans <| s_iretb rfl rfl) ((s_iconst rfl).trans <| (s_goto rfl).trans <| s_iretb rfl rfl)
theorem mc_X0_changeLift (X : mv_X) (d : Nat) (h : mv_H) (a0 : Nat) (v1 : Int32) : mv_call X (d + 1) 7 [.ref a0, .int v1] h = mv_run X (mv_call X d) m_X0_changeLift 0 [.ref a0, .int v1] [] h := rfl
theorem bk_X0_changeLift_0 (X : mv_X) (call : mv_G) (h : mv_H) (a0 : Nat) (v1 : Int32) : mv_run X call m_X0_changeLift 0 [.ref a0, .int v1] [] h =
  mv_gI X h a0 4 1 fun x1 =>
  mv_clI call 146 [.int (x1 + v1), .int (nZ 1), .int (nZ 99)] h mv_raise fun x2 h1 =>
  if x2 = 0 then 
  ((some (.inl none, h1)))
  else (mv_gI X h1 a0 4 1 fun x3 =>
    mv_pf h1 a0 4 1 (.int (x3 + v1)) fun h2 =>
    (some (.inl none, h2))) :=
  (s_aload_n rfl rfl).trans <| (s_gf1 rfl rfl).trans <| c_gI fun x1 => (s_iload_n rfl rfl).trans <| (s_iadd rfl).trans <| (s_iconst rfl).trans <| (s_bipush rfl).trans <| (s_s1 [.int (x1 + v1), .int (nZ 1), .int (nZ 99)] [] rfl rfl (fun _ => rfl)).trans <| c_clI fun x2 h1 => (s_if_eq rfl).trans <| c_ite (s_ret rfl rfl) ((s_aload_n rfl rfl).trans <| (s_dupR rfl).trans <| (s_gf1 rfl rfl).trans <| c_gI fun x3 => (s_iload_n rfl rfl).trans <| (s_iadd rfl).trans <| (s_pf1 rfl rfl).trans <| c_pf fun h2 => s_ret rfl rfl)
theorem mc_X0_hasBag (X : mv_X) (d : Nat) (h : mv_H) (a0 : Nat) (v1 : Int32) : mv_call X (d + 1) 8 [.ref a0, .int v1] h = mv_run X (mv_call X d) m_X0_hasBag 0 [.ref a0, .int v1] [] h := rfl
theorem bk_X0_hasBag_0 (X : mv_X) (call : mv_G) (h : mv_H) (a0 : Nat) (v1 : Int32) : mv_run X call m_X0_hasBag 0 [.ref a0, .int v1] [] h =
  if v1 < 0 then 
  ((some (.inl (some (.int (nZ 0))), h)))
  else (mv_gI X h a0 4 5 fun x1 =>
    if x1 ≤ v1 then 
    ((some (.inl (some (.int (nZ 0))), h)))
    else ((some (.inl (some (.int (nZ 1))), h)))) :=
  (s_iload_n rfl rfl).trans <| (s_if_lt rfl).trans <| c_ite ((s_iconst rfl).trans <| s_iretb rfl rfl) ((s_iload_n rfl rfl).trans <| (s_aload_n rfl rfl).trans <| (s_gf1 rfl rfl).trans <| c_gI fun x1 => (s_icmp_ge rfl).trans <| c_ite ((s_iconst rfl).trans <| s_iretb rfl rfl) ((s_iconst rfl).trans <| (s_goto rfl).trans <| s_iretb rfl rfl))
theorem mc_X0_addBag (X : mv_X) (d : Nat) (h : mv_H) (a0 : Nat) (v1 : Int32) : mv_call X (d + 1) 9 [.ref a0, .int v1] h = mv_run X (mv_call X d) m_X0_addBag 0 [.ref a0, .int v1] [] h := rfl
theorem bk_X0_addBag_0 (X : mv_X) (call : mv_G) (h : mv_H) (a0 : Nat) (v1 : Int32) : mv_run X call m_X0_addBag 0 [.ref a0, .int v1] [] h =
  mv_gI X h a0 4 5 fun x1 =>
  if (nZ 6) ≤ x1 then 
  ((some (.inl none, h)))
  else (mv_gR X h a0 4 6 fun r1 =>
    mv_gI X h a0 4 5 fun x2 =>
    mv_as h 1 r1 x2 (.int v1) fun h1 =>
    mv_gI X h1 a0 4 5 fun x3 =>
    mv_pf h1 a0 4 5 (.int (x3 + (nZ 1))) fun h2 =>
    mv_gI X h2 a0 4 4 fun x4 =>
    mv_pf h2 a0 4 4 (.int (x4 + v1)) fun h3 =>
    (some (.inl none, h3))) :=
  (s_aload_n rfl rfl).trans <| (s_gf1 rfl rfl).trans <| c_gI fun x1 => (s_bipush rfl).trans <| (s_icmp_ge rfl).trans <| c_ite (s_ret rfl rfl) ((s_aload_n rfl rfl).trans <| (s_gf2 rfl rfl).trans <| c_gR fun r1 => (s_aload_n rfl rfl).trans <| (s_gf1 rfl rfl).trans <| c_gI fun x2 => (s_iload_n rfl rfl).trans <| (s_iastore rfl).trans <| c_as fun h1 => (s_aload_n rfl rfl).trans <| (s_dupR rfl).trans <| (s_gf1 rfl rfl).trans <| c_gI fun x3 => (s_iconst rfl).trans <| (s_iadd rfl).trans <| (s_pf1 rfl rfl).trans <| c_pf fun h2 => (s_aload_n rfl rfl).trans <| (s_dupR rfl).trans <| (s_gf1 rfl rfl).trans <| c_gI fun x4 => (s_iload_n rfl rfl).trans <| (s_iadd rfl).trans <| (s_pf1 rfl rfl).trans <| c_pf fun h3 => s_ret rfl rfl)
theorem mc_X0_removeBag (X : mv_X) (d : Nat) (h : mv_H) (a0 : Nat) (v1 : Int32) : mv_call X (d + 1) 10 [.ref a0, .int v1] h = mv_run X (mv_call X d) m_X0_removeBag 0 [.ref a0, .int v1, .retAddr 0, .retAddr 0] [] h := rfl
theorem bk_X0_removeBag_0 (X : mv_X) (call : mv_G) (h : mv_H) (a0 : Nat) (v1 : Int32) : mv_run X call m_X0_removeBag 0 [.ref a0, .int v1, .retAddr 0, .retAddr 0] [] h =
  mv_rcv X h [.ref a0, .int v1] 4 (mv_clI call 8 [.ref a0, .int v1] h mv_raise fun x1 h1 =>
  if x1 = 0 then 
  ((some (.inl (some (.int (nZ 0))), h1)))
  else (mv_gR X h1 a0 4 6 fun r1 =>
    mv_aI X h1 1 r1 v1 fun x2 =>
    mv_run X call m_X0_removeBag 21 [.ref a0, .int v1, .int x2, .int (v1 + (nZ 1))] [] h1)) :=
  (s_aload_n rfl rfl).trans <| (s_iload_n rfl rfl).trans <| (s_v1 [.ref a0, .int v1] [] rfl rfl (fun _ => rfl)).trans <| c_rcv <| c_clI fun x1 h1 => (s_if_ne rfl).trans <| c_ite ((s_iconst rfl).trans <| s_iret1 rfl rfl) ((s_aload_n rfl rfl).trans <| (s_gf2 rfl rfl).trans <| c_gR fun r1 => (s_iload_n rfl rfl).trans <| (s_iaload rfl).trans <| c_aI fun x2 => (s_istore_n (ls2 := [.ref a0, .int v1, .int x2, .retAddr 0]) rfl (fun _ => rfl)).trans <| (s_iload_n rfl rfl).trans <| (s_iconst rfl).trans <| (s_iadd rfl).trans <| (s_istore_n (ls2 := [.ref a0, .int v1, .int x2, .int (v1 + (nZ 1))]) rfl (fun _ => rfl)).trans <| rfl)
theorem bk_X0_removeBag_21 (X : mv_X) (call : mv_G) (h : mv_H) (a0 : Nat) (v1 : Int32) (v2 : Int32) (v3 : Int32) : mv_run X call m_X0_removeBag 21 [.ref a0, .int v1, .int v2, .int v3] [] h =
  mv_gI X h a0 4 5 fun x1 =>
  if x1 ≤ v3 then 
  (mv_gI X h a0 4 5 fun x2 =>
    mv_pf h a0 4 5 (.int (x2 - (nZ 1))) fun h1 =>
    mv_gI X h1 a0 4 4 fun x3 =>
    mv_pf h1 a0 4 4 (.int (x3 - v2)) fun h2 =>
    (some (.inl (some (.int v2)), h2)))
  else (mv_gR X h a0 4 6 fun r1 =>
    mv_gR X h a0 4 6 fun r2 =>
    mv_aI X h 1 r2 v3 fun x4 =>
    mv_as h 1 r1 (v3 - (nZ 1)) (.int x4) fun h3 =>
    mv_run X call m_X0_removeBag 21 [.ref a0, .int v1, .int v2, .int (v3 + nZ 1)] [] h3) :=
  (s_iload_n rfl rfl).trans <| (s_aload_n rfl rfl).trans <| (s_gf1 rfl rfl).trans <| c_gI fun x1 => (s_icmp_ge rfl).trans <| c_ite ((s_aload_n rfl rfl).trans <| (s_dupR rfl).trans <| (s_gf1 rfl rfl).trans <| c_gI fun x2 => (s_iconst rfl).trans <| (s_isub rfl).trans <| (s_pf1 rfl rfl).trans <| c_pf fun h1 => (s_aload_n rfl rfl).trans <| (s_dupR rfl).trans <| (s_gf1 rfl rfl).trans <| c_gI fun x3 => (s_iload_n rfl rfl).trans <| (s_isub rfl).trans <| (s_pf1 rfl rfl).trans <| c_pf fun h2 => (s_iload_n rfl rfl).trans <| s_iret1 rfl rfl) ((s_aload_n rfl rfl).trans <| (s_gf2 rfl rfl).trans <| c_gR fun r1 => (s_iload_n rfl rfl).trans <| (s_iconst rfl).trans <| (s_isub rfl).trans <| (s_aload_n rfl rfl).trans <| (s_gf2 rfl rfl).trans <| c_gR fun r2 => (s_iload_n rfl rfl).trans <| (s_iaload rfl).trans <| c_aI fun x4 => (s_iastore rfl).trans <| c_as fun h3 => (s_iinc (ls2 := [.ref a0, .int v1, .int v2, .int (v3 + nZ 1)]) rfl rfl (fun _ => rfl)).trans <| (s_goto rfl).trans <| rfl)
theorem mc_X0_weightOf (X : mv_X) (d : Nat) (h : mv_H) (a0 : Nat) (v1 : Int32) : mv_call X (d + 1) 11 [.ref a0, .int v1] h = mv_run X (mv_call X d) m_X0_weightOf 0 [.ref a0, .int v1, .retAddr 0, .retAddr 0] [] h := rfl
theorem bk_X0_weightOf_0 (X : mv_X) (call : mv_G) (h : mv_H) (a0 : Nat) (v1 : Int32) : mv_run X call m_X0_weightOf 0 [.ref a0, .int v1, .retAddr 0, .retAddr 0] [] h =
  mv_run X call m_X0_weightOf 4 [.ref a0, .int v1, .int (nZ 0), .int (nZ 0)] [] h :=
  (s_iconst rfl).trans <| (s_istore_n (ls2 := [.ref a0, .int v1, .int (nZ 0), .retAddr 0]) rfl (fun _ => rfl)).trans <| (s_iconst rfl).trans <| (s_istore_n (ls2 := [.ref a0, .int v1, .int (nZ 0), .int (nZ 0)]) rfl (fun _ => rfl)).trans <| rfl
theorem bk_X0_weightOf_4 (X : mv_X) (call : mv_G) (h : mv_H) (a0 : Nat) (v1 : Int32) (v2 : Int32) (v3 : Int32) : mv_run X call m_X0_weightOf 4 [.ref a0, .int v1, .int v2, .int v3] [] h =
  mv_gI X h a0 4 5 fun x1 =>
  if x1 ≤ v3 then 
  ((some (.inl (some (.int v2)), h)))
  else (if (v1 &&& ((nZ 1) <<< (v3 &&& 31))) = 0 then 
    (mv_run X call m_X0_weightOf 4 [.ref a0, .int v1, .int v2, .int (v3 + nZ 1)] [] h)
    else (mv_gR X h a0 4 6 fun r1 =>
      mv_aI X h 1 r1 v3 fun x2 =>
      mv_run X call m_X0_weightOf 4 [.ref a0, .int v1, .int (v2 + x2), .int (v3 + nZ 1)] [] h)) :=
  (s_iload_n rfl rfl).trans <| (s_aload_n rfl rfl).trans <| (s_gf1 rfl rfl).trans <| c_gI fun x1 => (s_icmp_ge rfl).trans <| c_ite ((s_iload_n rfl rfl).trans <| s_iret1 rfl rfl) ((s_iload_n rfl rfl).trans <| (s_iconst rfl).trans <| (s_iload_n rfl rfl).trans <| (s_ishl rfl).trans <| (s_iand rfl).trans <| (s_if_eq rfl).trans <| c_ite ((s_iinc (ls2 := [.ref a0, .int v1, .int v2, .int (v3 + nZ 1)]) rfl rfl (fun _ => rfl)).trans <| (s_goto rfl).trans <| rfl) ((s_iload_n rfl rfl).trans <| (s_aload_n rfl rfl).trans <| (s_gf2 rfl rfl).trans <| c_gR fun r1 => (s_iload_n rfl rfl).trans <| (s_iaload rfl).trans <| c_aI fun x2 => (s_iadd rfl).trans <| (s_istore_n (ls2 := [.ref a0, .int v1, .int (v2 + x2), .int v3]) rfl (fun _ => rfl)).trans <| (s_iinc (ls2 := [.ref a0, .int v1, .int (v2 + x2), .int (v3 + nZ 1)]) rfl rfl (fun _ => rfl)).trans <| (s_goto rfl).trans <| rfl))
theorem mc_X0_bestDropSet (X : mv_X) (d : Nat) (h : mv_H) (a0 : Nat) (v1 : Int32) : mv_call X (d + 1) 12 [.ref a0, .int v1] h = mv_run X (mv_call X d) m_X0_bestDropSet 0 [.ref a0, .int v1, .retAddr 0, .retAddr 0, .retAddr 0] [] h := rfl
theorem bk_X0_bestDropSet_0 (X : mv_X) (call : mv_G) (h : mv_H) (a0 : Nat) (v1 : Int32) : mv_run X call m_X0_bestDropSet 0 [.ref a0, .int v1, .retAddr 0, .retAddr 0, .retAddr 0] [] h =
  mv_run X call m_X0_bestDropSet 4 [.ref a0, .int v1, .int (nZ (-1)), .int (nZ 0), .retAddr 0] [] h :=
  (s_iconst rfl).trans <| (s_istore_n (ls2 := [.ref a0, .int v1, .int (nZ (-1)), .retAddr 0, .retAddr 0]) rfl (fun _ => rfl)).trans <| (s_iconst rfl).trans <| (s_istore_n (ls2 := [.ref a0, .int v1, .int (nZ (-1)), .int (nZ 0), .retAddr 0]) rfl (fun _ => rfl)).trans <| rfl
theorem bk_X0_bestDropSet_4 (X : mv_X) (call : mv_G) (h : mv_H) (a0 : Nat) (v1 : Int32) (v2 : Int32) (v3 : Int32) (j4 : Value) : mv_run X call m_X0_bestDropSet 4 [.ref a0, .int v1, .int v2, .int v3, j4] [] h =
  mv_gI X h a0 4 5 fun x1 =>
  if ((nZ 1) <<< (x1 &&& 31)) ≤ v3 then 
  ((some (.inl (some (.int v2)), h)))
  else (mv_gI X h a0 4 4 fun x2 =>
    mv_rcv X h [.ref a0, .int v3] 4 (mv_clI call 11 [.ref a0, .int v3] h mv_raise fun x3 h1 =>
    mv_rcv X h1 [.ref a0, .int (x2 - x3)] 4 (mv_clI call 4 [.ref a0, .int (x2 - x3)] h1 mv_raise fun x4 h2 =>
    if x4 < v1 then 
    (if (nZ 0) = 0 then 
      (mv_run X call m_X0_bestDropSet 4 [.ref a0, .int v1, .int v2, .int (v3 + nZ 1), .int (nZ 0)] [] h2)
      else (if v2 = (nZ (-1)) then 
        (mv_run X call m_X0_bestDropSet 4 [.ref a0, .int v1, .int v3, .int (v3 + nZ 1), .int (nZ 0)] [] h2)
        else (mv_rcv X h2 [.ref a0, .int v3, .int v2] 4 (mv_clI call 13 [.ref a0, .int v3, .int v2] h2 mv_raise fun x5 h3 =>
          if x5 = 0 then 
          (mv_run X call m_X0_bestDropSet 4 [.ref a0, .int v1, .int v2, .int (v3 + nZ 1), .int (nZ 0)] [] h3)
          else (mv_run X call m_X0_bestDropSet 4 [.ref a0, .int v1, .int v3, .int (v3 + nZ 1), .int (nZ 0)] [] h3)))))
    else (if (nZ 1) = 0 then 
      (mv_run X call m_X0_bestDropSet 4 [.ref a0, .int v1, .int v2, .int (v3 + nZ 1), .int (nZ 1)] [] h2)
      else (if v2 = (nZ (-1)) then 
        (mv_run X call m_X0_bestDropSet 4 [.ref a0, .int v1, .int v3, .int (v3 + nZ 1), .int (nZ 1)] [] h2)
        else (mv_rcv X h2 [.ref a0, .int v3, .int v2] 4 (mv_clI call 13 [.ref a0, .int v3, .int v2] h2 mv_raise fun x6 h4 =>
          if x6 = 0 then 
          (mv_run X call m_X0_bestDropSet 4 [.ref a0, .int v1, .int v2, .int (v3 + nZ 1), .int (nZ 1)] [] h4)
          else (mv_run X call m_X0_bestDropSet 4 [.ref a0, .int v1, .int v3, .int (v3 + nZ 1), .int (nZ 1)] [] h4)))))))) :=
  (s_iload_n rfl rfl).trans <| (s_iconst rfl).trans <| (s_aload_n rfl rfl).trans <| (s_gf1 rfl rfl).trans <| c_gI fun x1 => (s_ishl rfl).trans <| (s_icmp_ge rfl).trans <| c_ite ((s_iload_n rfl rfl).trans <| s_iret1 rfl rfl) ((s_aload_n rfl rfl).trans <| (s_aload_n rfl rfl).trans <| (s_gf1 rfl rfl).trans <| c_gI fun x2 => (s_aload_n rfl rfl).trans <| (s_iload_n rfl rfl).trans <| (s_v1 [.ref a0, .int v3] [.int x2, .ref a0] rfl rfl (fun _ => rfl)).trans <| c_rcv <| c_clI fun x3 h1 => (s_isub rfl).trans <| (s_v1 [.ref a0, .int (x2 - x3)] [] rfl rfl (fun _ => rfl)).trans <| c_rcv <| c_clI fun x4 h2 => (s_iload_n rfl rfl).trans <| (s_icmp_lt rfl).trans <| c_ite ((s_iconst rfl).trans <| (s_istore (ls2 := [.ref a0, .int v1, .int v2, .int v3, .int (nZ 0)]) rfl (fun _ => rfl)).trans <| (s_iload rfl rfl).trans <| (s_if_eq rfl).trans <| c_ite ((s_iinc (ls2 := [.ref a0, .int v1, .int v2, .int (v3 + nZ 1), .int (nZ 0)]) rfl rfl (fun _ => rfl)).trans <| (s_goto rfl).trans <| rfl) ((s_iload_n rfl rfl).trans <| (s_iconst rfl).trans <| (s_icmp_eq rfl).trans <| c_ite ((s_iload_n rfl rfl).trans <| (s_istore_n (ls2 := [.ref a0, .int v1, .int v3, .int v3, .int (nZ 0)]) rfl (fun _ => rfl)).trans <| (s_iinc (ls2 := [.ref a0, .int v1, .int v3, .int (v3 + nZ 1), .int (nZ 0)]) rfl rfl (fun _ => rfl)).trans <| (s_goto rfl).trans <| rfl) ((s_aload_n rfl rfl).trans <| (s_iload_n rfl rfl).trans <| (s_iload_n rfl rfl).trans <| (s_v1 [.ref a0, .int v3, .int v2] [] rfl rfl (fun _ => rfl)).trans <| c_rcv <| c_clI fun x5 h3 => (s_if_eq rfl).trans <| c_ite ((s_iinc (ls2 := [.ref a0, .int v1, .int v2, .int (v3 + nZ 1), .int (nZ 0)]) rfl rfl (fun _ => rfl)).trans <| (s_goto rfl).trans <| rfl) ((s_iload_n rfl rfl).trans <| (s_istore_n (ls2 := [.ref a0, .int v1, .int v3, .int v3, .int (nZ 0)]) rfl (fun _ => rfl)).trans <| (s_iinc (ls2 := [.ref a0, .int v1, .int v3, .int (v3 + nZ 1), .int (nZ 0)]) rfl rfl (fun _ => rfl)).trans <| (s_goto rfl).trans <| rfl)))) ((s_iconst rfl).trans <| (s_goto rfl).trans <| (s_istore (ls2 := [.ref a0, .int v1, .int v2, .int v3, .int (nZ 1)]) rfl (fun _ => rfl)).trans <| (s_iload rfl rfl).trans <| (s_if_eq rfl).trans <| c_ite ((s_iinc (ls2 := [.ref a0, .int v1, .int v2, .int (v3 + nZ 1), .int (nZ 1)]) rfl rfl (fun _ => rfl)).trans <| (s_goto rfl).trans <| rfl) ((s_iload_n rfl rfl).trans <| (s_iconst rfl).trans <| (s_icmp_eq rfl).trans <| c_ite ((s_iload_n rfl rfl).trans <| (s_istore_n (ls2 := [.ref a0, .int v1, .int v3, .int v3, .int (nZ 1)]) rfl (fun _ => rfl)).trans <| (s_iinc (ls2 := [.ref a0, .int v1, .int v3, .int (v3 + nZ 1), .int (nZ 1)]) rfl rfl (fun _ => rfl)).trans <| (s_goto rfl).trans <| rfl) ((s_aload_n rfl rfl).trans <| (s_iload_n rfl rfl).trans <| (s_iload_n rfl rfl).trans <| (s_v1 [.ref a0, .int v3, .int v2] [] rfl rfl (fun _ => rfl)).trans <| c_rcv <| c_clI fun x6 h4 => (s_if_eq rfl).trans <| c_ite ((s_iinc (ls2 := [.ref a0, .int v1, .int v2, .int (v3 + nZ 1), .int (nZ 1)]) rfl rfl (fun _ => rfl)).trans <| (s_goto rfl).trans <| rfl) ((s_iload_n rfl rfl).trans <| (s_istore_n (ls2 := [.ref a0, .int v1, .int v3, .int v3, .int (nZ 1)]) rfl (fun _ => rfl)).trans <| (s_iinc (ls2 := [.ref a0, .int v1, .int v3, .int (v3 + nZ 1), .int (nZ 1)]) rfl rfl (fun _ => rfl)).trans <| (s_goto rfl).trans <| rfl)))))
theorem mc_X0_isBetter (X : mv_X) (d : Nat) (h : mv_H) (a0 : Nat) (v1 : Int32) (v2 : Int32) : mv_call X (d + 1) 13 [.ref a0, .int v1, .int v2] h = mv_run X (mv_call X d) m_X0_isBetter 0 [.ref a0, .int v1, .int v2, .retAddr 0, .retAddr 0, .retAddr 0, .retAddr 0] [] h := rfl
theorem bk_X0_isBetter_0 (X : mv_X) (call : mv_G) (h : mv_H) (a0 : Nat) (v1 : Int32) (v2 : Int32) : mv_run X call m_X0_isBetter 0 [.ref a0, .int v1, .int v2, .retAddr 0, .retAddr 0, .retAddr 0, .retAddr 0] [] h =
  mv_clI call 264 [.int v1] h mv_raise fun x1 h1 =>
  mv_clI call 264 [.int v2] h1 mv_raise fun x2 h2 =>
  if (x1 - x2) = 0 then 
  (mv_rcv X h2 [.ref a0, .int v1] 4 (mv_clI call 11 [.ref a0, .int v1] h2 mv_raise fun x3 h3 =>
    mv_rcv X h3 [.ref a0, .int v2] 4 (mv_clI call 11 [.ref a0, .int v2] h3 mv_raise fun x4 h4 =>
    if (x3 - x4) = 0 then 
    (if (v1 &&& ((v1 ^^^ v2) &&& (-(v1 ^^^ v2)))) = 0 then 
      ((some (.inl (some (.int (nZ 0))), h4)))
      else ((some (.inl (some (.int (nZ 1))), h4))))
    else (if 0 ≤ (x3 - x4) then 
      ((some (.inl (some (.int (nZ 0))), h4)))
      else ((some (.inl (some (.int (nZ 1))), h4)))))))
  else (if 0 ≤ (x1 - x2) then 
    ((some (.inl (some (.int (nZ 0))), h2)))
    else ((some (.inl (some (.int (nZ 1))), h2)))) :=
  (s_iload_n rfl rfl).trans <| (s_s1 [.int v1] [] rfl rfl (fun _ => rfl)).trans <| c_clI fun x1 h1 => (s_iload_n rfl rfl).trans <| (s_s1 [.int v2] [.int x1] rfl rfl (fun _ => rfl)).trans <| c_clI fun x2 h2 => (s_isub rfl).trans <| (s_istore_n (ls2 := [.ref a0, .int v1, .int v2, .int (x1 - x2), .retAddr 0, .retAddr 0, .retAddr 0]) rfl (fun _ => rfl)).trans <| (s_iload_n rfl rfl).trans <| (s_if_eq rfl).trans <| c_ite ((s_aload_n rfl rfl).trans <| (s_iload_n rfl rfl).trans <| (s_v1 [.ref a0, .int v1] [] rfl rfl (fun _ => rfl)).trans <| c_rcv <| c_clI fun x3 h3 => (s_aload_n rfl rfl).trans <| (s_iload_n rfl rfl).trans <| (s_v1 [.ref a0, .int v2] [.int x3] rfl rfl (fun _ => rfl)).trans <| c_rcv <| c_clI fun x4 h4 => (s_isub rfl).trans <| (s_istore (ls2 := [.ref a0, .int v1, .int v2, .int (x1 - x2), .int (x3 - x4), .retAddr 0, .retAddr 0]) rfl (fun _ => rfl)).trans <| (s_iload rfl rfl).trans <| (s_if_eq rfl).trans <| c_ite ((s_iload_n rfl rfl).trans <| (s_iload_n rfl rfl).trans <| (s_ixor rfl).trans <| (s_istore (ls2 := [.ref a0, .int v1, .int v2, .int (x1 - x2), .int (x3 - x4), .int (v1 ^^^ v2), .retAddr 0]) rfl (fun _ => rfl)).trans <| (s_iload rfl rfl).trans <| (s_iload rfl rfl).trans <| (s_ineg rfl).trans <| (s_iand rfl).trans <| (s_istore (ls2 := [.ref a0, .int v1, .int v2, .int (x1 - x2), .int (x3 - x4), .int (v1 ^^^ v2), .int ((v1 ^^^ v2) &&& (-(v1 ^^^ v2)))]) rfl (fun _ => rfl)).trans <| (s_iload_n rfl rfl).trans <| (s_iload rfl rfl).trans <| (s_iand rfl).trans <| (s_if_eq rfl).trans <| c_ite ((s_iconst rfl).trans <| s_iretb rfl rfl) ((s_iconst rfl).trans <| (s_goto rfl).trans <| s_iretb rfl rfl)) ((s_iload rfl rfl).trans <| (s_if_ge rfl).trans <| c_ite ((s_iconst rfl).trans <| s_iretb rfl rfl) ((s_iconst rfl).trans <| (s_goto rfl).trans <| s_iretb rfl rfl))) ((s_iload_n rfl rfl).trans <| (s_if_ge rfl).trans <| c_ite ((s_iconst rfl).trans <| s_iretb rfl rfl) ((s_iconst rfl).trans <| (s_goto rfl).trans <| s_iretb rfl rfl))
theorem mc_X0_fewestBagsByWeight (X : mv_X) (d : Nat) (h : mv_H) (a0 : Nat) (v1 : Int32) : mv_call X (d + 1) 14 [.ref a0, .int v1] h = mv_run X (mv_call X d) m_X0_fewestBagsByWeight 0 [.ref a0, .int v1, .retAddr 0, .retAddr 0] [] h := rfl
theorem bk_X0_fewestBagsByWeight_0 (X : mv_X) (call : mv_G) (h : mv_H) (a0 : Nat) (v1 : Int32) : mv_run X call m_X0_fewestBagsByWeight 0 [.ref a0, .int v1, .retAddr 0, .retAddr 0] [] h =
  mv_run X call m_X0_fewestBagsByWeight 4 [.ref a0, .int v1, .int (nZ 0), .int (nZ 0)] [] h :=
  (s_iconst rfl).trans <| (s_istore_n (ls2 := [.ref a0, .int v1, .int (nZ 0), .retAddr 0]) rfl (fun _ => rfl)).trans <| (s_iconst rfl).trans <| (s_istore_n (ls2 := [.ref a0, .int v1, .int (nZ 0), .int (nZ 0)]) rfl (fun _ => rfl)).trans <| rfl
theorem bk_X0_fewestBagsByWeight_4 (X : mv_X) (call : mv_G) (h : mv_H) (a0 : Nat) (v1 : Int32) (v2 : Int32) (v3 : Int32) : mv_run X call m_X0_fewestBagsByWeight 4 [.ref a0, .int v1, .int v2, .int v3] [] h =
  mv_gI X h a0 4 5 fun x1 =>
  if x1 < v3 then 
  ((some (.inl (some (.int (nZ (-1)))), h)))
  else (mv_gI X h a0 4 4 fun x2 =>
    mv_rcv X h [.ref a0, .int v2] 4 (mv_clI call 11 [.ref a0, .int v2] h mv_raise fun x3 h1 =>
    mv_rcv X h1 [.ref a0, .int (x2 - x3)] 4 (mv_clI call 4 [.ref a0, .int (x2 - x3)] h1 mv_raise fun x4 h2 =>
    if x4 < v1 then 
    (mv_rcv X h2 [.ref a0, .int v2] 4 (mv_clI call 15 [.ref a0, .int v2] h2 mv_raise fun x5 h3 =>
      mv_run X call m_X0_fewestBagsByWeight 4 [.ref a0, .int v1, .int (v2 ||| x5), .int (v3 + nZ 1)] [] h3))
    else ((some (.inl (some (.int v3)), h2)))))) :=
  (s_iload_n rfl rfl).trans <| (s_aload_n rfl rfl).trans <| (s_gf1 rfl rfl).trans <| c_gI fun x1 => (s_icmp_gt rfl).trans <| c_ite ((s_iconst rfl).trans <| s_iret1 rfl rfl) ((s_aload_n rfl rfl).trans <| (s_aload_n rfl rfl).trans <| (s_gf1 rfl rfl).trans <| c_gI fun x2 => (s_aload_n rfl rfl).trans <| (s_iload_n rfl rfl).trans <| (s_v1 [.ref a0, .int v2] [.int x2, .ref a0] rfl rfl (fun _ => rfl)).trans <| c_rcv <| c_clI fun x3 h1 => (s_isub rfl).trans <| (s_v1 [.ref a0, .int (x2 - x3)] [] rfl rfl (fun _ => rfl)).trans <| c_rcv <| c_clI fun x4 h2 => (s_iload_n rfl rfl).trans <| (s_icmp_lt rfl).trans <| c_ite ((s_iload_n rfl rfl).trans <| (s_aload_n rfl rfl).trans <| (s_iload_n rfl rfl).trans <| (s_v1 [.ref a0, .int v2] [.int v2] rfl rfl (fun _ => rfl)).trans <| c_rcv <| c_clI fun x5 h3 => (s_ior rfl).trans <| (s_istore_n (ls2 := [.ref a0, .int v1, .int (v2 ||| x5), .int v3]) rfl (fun _ => rfl)).trans <| (s_iinc (ls2 := [.ref a0, .int v1, .int (v2 ||| x5), .int (v3 + nZ 1)]) rfl rfl (fun _ => rfl)).trans <| (s_goto rfl).trans <| rfl) ((s_iload_n rfl rfl).trans <| s_iret1 rfl rfl))
theorem mc_X0_heaviestOutside (X : mv_X) (d : Nat) (h : mv_H) (a0 : Nat) (v1 : Int32) : mv_call X (d + 1) 15 [.ref a0, .int v1] h = mv_run X (mv_call X d) m_X0_heaviestOutside 0 [.ref a0, .int v1, .retAddr 0, .retAddr 0, .retAddr 0] [] h := rfl
theorem bk_X0_heaviestOutside_0 (X : mv_X) (call : mv_G) (h : mv_H) (a0 : Nat) (v1 : Int32) : mv_run X call m_X0_heaviestOutside 0 [.ref a0, .int v1, .retAddr 0, .retAddr 0, .retAddr 0] [] h =
  mv_run X call m_X0_heaviestOutside 7 [.ref a0, .int v1, .int (nZ 0), .int (nZ 0), .int (nZ 0)] [] h :=
  (s_iconst rfl).trans <| (s_istore_n (ls2 := [.ref a0, .int v1, .int (nZ 0), .retAddr 0, .retAddr 0]) rfl (fun _ => rfl)).trans <| (s_iconst rfl).trans <| (s_istore_n (ls2 := [.ref a0, .int v1, .int (nZ 0), .int (nZ 0), .retAddr 0]) rfl (fun _ => rfl)).trans <| (s_iconst rfl).trans <| (s_istore (ls2 := [.ref a0, .int v1, .int (nZ 0), .int (nZ 0), .int (nZ 0)]) rfl (fun _ => rfl)).trans <| rfl
theorem bk_X0_heaviestOutside_7 (X : mv_X) (call : mv_G) (h : mv_H) (a0 : Nat) (v1 : Int32) (v2 : Int32) (v3 : Int32) (v4 : Int32) : mv_run X call m_X0_heaviestOutside 7 [.ref a0, .int v1, .int v2, .int v3, .int v4] [] h =
  mv_gI X h a0 4 5 fun x1 =>
  if x1 ≤ v4 then 
  ((some (.inl (some (.int v2)), h)))
  else (if (v1 &&& ((nZ 1) <<< (v4 &&& 31))) = 0 then 
    (mv_gR X h a0 4 6 fun r1 =>
      mv_aI X h 1 r1 v4 fun x2 =>
      if x2 ≤ v3 then 
      (mv_run X call m_X0_heaviestOutside 7 [.ref a0, .int v1, .int v2, .int v3, .int (v4 + nZ 1)] [] h)
      else (mv_gR X h a0 4 6 fun r2 =>
        mv_aI X h 1 r2 v4 fun x3 =>
        mv_run X call m_X0_heaviestOutside 7 [.ref a0, .int v1, .int ((nZ 1) <<< (v4 &&& 31)), .int x3, .int (v4 + nZ 1)] [] h))
    else (mv_run X call m_X0_heaviestOutside 7 [.ref a0, .int v1, .int v2, .int v3, .int (v4 + nZ 1)] [] h)) :=
  (s_iload rfl rfl).trans <| (s_aload_n rfl rfl).trans <| (s_gf1 rfl rfl).trans <| c_gI fun x1 => (s_icmp_ge rfl).trans <| c_ite ((s_iload_n rfl rfl).trans <| s_iret1 rfl rfl) ((s_iload_n rfl rfl).trans <| (s_iconst rfl).trans <| (s_iload rfl rfl).trans <| (s_ishl rfl).trans <| (s_iand rfl).trans <| (s_if_ne rfl).trans <| c_ite ((s_aload_n rfl rfl).trans <| (s_gf2 rfl rfl).trans <| c_gR fun r1 => (s_iload rfl rfl).trans <| (s_iaload rfl).trans <| c_aI fun x2 => (s_iload_n rfl rfl).trans <| (s_icmp_le rfl).trans <| c_ite ((s_iinc (ls2 := [.ref a0, .int v1, .int v2, .int v3, .int (v4 + nZ 1)]) rfl rfl (fun _ => rfl)).trans <| (s_goto rfl).trans <| rfl) ((s_iconst rfl).trans <| (s_iload rfl rfl).trans <| (s_ishl rfl).trans <| (s_istore_n (ls2 := [.ref a0, .int v1, .int ((nZ 1) <<< (v4 &&& 31)), .int v3, .int v4]) rfl (fun _ => rfl)).trans <| (s_aload_n rfl rfl).trans <| (s_gf2 rfl rfl).trans <| c_gR fun r2 => (s_iload rfl rfl).trans <| (s_iaload rfl).trans <| c_aI fun x3 => (s_istore_n (ls2 := [.ref a0, .int v1, .int ((nZ 1) <<< (v4 &&& 31)), .int x3, .int v4]) rfl (fun _ => rfl)).trans <| (s_iinc (ls2 := [.ref a0, .int v1, .int ((nZ 1) <<< (v4 &&& 31)), .int x3, .int (v4 + nZ 1)]) rfl rfl (fun _ => rfl)).trans <| (s_goto rfl).trans <| rfl)) ((s_iinc (ls2 := [.ref a0, .int v1, .int v2, .int v3, .int (v4 + nZ 1)]) rfl rfl (fun _ => rfl)).trans <| (s_goto rfl).trans <| rfl))
theorem mc_X1_init (X : mv_X) (d : Nat) (h : mv_H) (a0 : Nat) : mv_call X (d + 1) 16 [.ref a0] h = mv_run X (mv_call X d) m_X1_init 0 [.ref a0] [] h := rfl
theorem bk_X1_init_0 (X : mv_X) (call : mv_G) (h : mv_H) (a0 : Nat) : mv_run X call m_X1_init 0 [.ref a0] [] h =
  mv_pf h a0 5 0 (.int (nZ 0)) fun h1 =>
  mv_pf h1 a0 5 1 (.int (nZ 0)) fun h2 =>
  mv_newa h2 .int (.int 0) (nZ 4) fun r1 h3 =>
  mv_pf h3 a0 5 2 (.ref r1) fun h4 =>
  (some (.inl none, h4)) :=
  (s_aload_n rfl rfl).trans <| (s_oinit [] rfl rfl (fun _ => rfl)).trans <| (s_aload_n rfl rfl).trans <| (s_iconst rfl).trans <| (s_pf1 rfl rfl).trans <| c_pf fun h1 => (s_aload_n rfl rfl).trans <| (s_iconst rfl).trans <| (s_pf1 rfl rfl).trans <| c_pf fun h2 => (s_aload_n rfl rfl).trans <| (s_iconst rfl).trans <| (s_newa_int rfl).trans <| c_newa fun r1 h3 => (s_pf2 rfl rfl).trans <| c_pf fun h4 => s_ret rfl rfl
theorem mc_X1_begin (X : mv_X) (d : Nat) (h : mv_H) (a0 : Nat) (v1 : Int32) : mv_call X (d + 1) 17 [.ref a0, .int v1] h = mv_run X (mv_call X d) m_X1_begin 0 [.ref a0, .int v1] [] h := rfl
theorem bk_X1_begin_0 (X : mv_X) (call : mv_G) (h : mv_H) (a0 : Nat) (v1 : Int32) : mv_run X call m_X1_begin 0 [.ref a0, .int v1] [] h =
  mv_pf h a0 5 0 (.int v1) fun h1 =>
  mv_pf h1 a0 5 1 (.int (nZ 0)) fun h2 =>
  (some (.inl none, h2)) :=
  (s_aload_n rfl rfl).trans <| (s_iload_n rfl rfl).trans <| (s_pf1 rfl rfl).trans <| c_pf fun h1 => (s_aload_n rfl rfl).trans <| (s_iconst rfl).trans <| (s_pf1 rfl rfl).trans <| c_pf fun h2 => s_ret rfl rfl
theorem mc_X1_add (X : mv_X) (d : Nat) (h : mv_H) (a0 : Nat) (v1 : Int32) : mv_call X (d + 1) 18 [.ref a0, .int v1] h = mv_run X (mv_call X d) m_X1_add 0 [.ref a0, .int v1] [] h := rfl
theorem bk_X1_add_0 (X : mv_X) (call : mv_G) (h : mv_H) (a0 : Nat) (v1 : Int32) : mv_run X call m_X1_add 0 [.ref a0, .int v1] [] h =
  mv_gI X h a0 5 1 fun x1 =>
  mv_gR X h a0 5 2 fun r1 =>
  mv_len X h r1 fun x2 =>
  if x2 ≤ x1 then 
  ((some (.inl none, h)))
  else (mv_gR X h a0 5 2 fun r2 =>
    mv_gI X h a0 5 1 fun x3 =>
    mv_as h 1 r2 x3 (.int v1) fun h1 =>
    mv_gI X h1 a0 5 1 fun x4 =>
    mv_pf h1 a0 5 1 (.int (x4 + (nZ 1))) fun h2 =>
    (some (.inl none, h2))) :=
  (s_aload_n rfl rfl).trans <| (s_gf1 rfl rfl).trans <| c_gI fun x1 => (s_aload_n rfl rfl).trans <| (s_gf2 rfl rfl).trans <| c_gR fun r1 => (s_alen rfl).trans <| c_len fun x2 => (s_icmp_ge rfl).trans <| c_ite (s_ret rfl rfl) ((s_aload_n rfl rfl).trans <| (s_gf2 rfl rfl).trans <| c_gR fun r2 => (s_aload_n rfl rfl).trans <| (s_gf1 rfl rfl).trans <| c_gI fun x3 => (s_iload_n rfl rfl).trans <| (s_iastore rfl).trans <| c_as fun h1 => (s_aload_n rfl rfl).trans <| (s_dupR rfl).trans <| (s_gf1 rfl rfl).trans <| c_gI fun x4 => (s_iconst rfl).trans <| (s_iadd rfl).trans <| (s_pf1 rfl rfl).trans <| c_pf fun h2 => s_ret rfl rfl)
theorem mc_X1_set (X : mv_X) (d : Nat) (h : mv_H) (a0 : Nat) (v1 : Int32) (v2 : Int32) (v3 : Int32) (v4 : Int32) (v5 : Int32) : mv_call X (d + 1) 19 [.ref a0, .int v1, .int v2, .int v3, .int v4, .int v5] h = mv_run X (mv_call X d) m_X1_set 0 [.ref a0, .int v1, .int v2, .int v3, .int v4, .int v5] [] h := rfl
theorem bk_X1_set_0 (X : mv_X) (call : mv_G) (h : mv_H) (a0 : Nat) (v1 : Int32) (v2 : Int32) (v3 : Int32) (v4 : Int32) (v5 : Int32) : mv_run X call m_X1_set 0 [.ref a0, .int v1, .int v2, .int v3, .int v4, .int v5] [] h =
  mv_rcv X h [.ref a0, .int v1] 5 (mv_clV call 17 [.ref a0, .int v1] h mv_raise fun h1 =>
  mv_rcv X h1 [.ref a0, .int v2] 5 (mv_clV call 18 [.ref a0, .int v2] h1 mv_raise fun h2 =>
  mv_rcv X h2 [.ref a0, .int v3] 5 (mv_clV call 18 [.ref a0, .int v3] h2 mv_raise fun h3 =>
  mv_rcv X h3 [.ref a0, .int v4] 5 (mv_clV call 18 [.ref a0, .int v4] h3 mv_raise fun h4 =>
  mv_rcv X h4 [.ref a0, .int v5] 5 (mv_clV call 18 [.ref a0, .int v5] h4 mv_raise fun h5 =>
  (some (.inl none, h5))))))) :=
  (s_aload_n rfl rfl).trans <| (s_iload_n rfl rfl).trans <| (s_v0 [.ref a0, .int v1] [] rfl rfl (fun _ => rfl)).trans <| c_rcv <| c_clV fun h1 => (s_aload_n rfl rfl).trans <| (s_iload_n rfl rfl).trans <| (s_v0 [.ref a0, .int v2] [] rfl rfl (fun _ => rfl)).trans <| c_rcv <| c_clV fun h2 => (s_aload_n rfl rfl).trans <| (s_iload_n rfl rfl).trans <| (s_v0 [.ref a0, .int v3] [] rfl rfl (fun _ => rfl)).trans <| c_rcv <| c_clV fun h3 => (s_aload_n rfl rfl).trans <| (s_iload rfl rfl).trans <| (s_v0 [.ref a0, .int v4] [] rfl rfl (fun _ => rfl)).trans <| c_rcv <| c_clV fun h4 => (s_aload_n rfl rfl).trans <| (s_iload rfl rfl).trans <| (s_v0 [.ref a0, .int v5] [] rfl rfl (fun _ => rfl)).trans <| c_rcv <| c_clV fun h5 => s_ret rfl rfl
theorem mc_X2_init (X : mv_X) (d : Nat) (h : mv_H) (a0 : Nat) : mv_call X (d + 1) 20 [.ref a0] h = mv_run X (mv_call X d) m_X2_init 0 [.ref a0] [] h := rfl
theorem bk_X2_init_0 (X : mv_X) (call : mv_G) (h : mv_H) (a0 : Nat) : mv_run X call m_X2_init 0 [.ref a0] [] h =
  mv_newa h .int (.int 0) (nZ 10) fun r1 h1 =>
  mv_pf h1 a0 6 0 (.ref r1) fun h2 =>
  mv_newa h2 .int (.int 0) (nZ 10) fun r2 h3 =>
  mv_pf h3 a0 6 1 (.ref r2) fun h4 =>
  mv_newa h4 .int (.int 0) (nZ 64) fun r3 h5 =>
  mv_pf h5 a0 6 2 (.ref r3) fun h6 =>
  (some (.inl none, h6)) :=
  (s_aload_n rfl rfl).trans <| (s_oinit [] rfl rfl (fun _ => rfl)).trans <| (s_aload_n rfl rfl).trans <| (s_bipush rfl).trans <| (s_newa_int rfl).trans <| c_newa fun r1 h1 => (s_pf2 rfl rfl).trans <| c_pf fun h2 => (s_aload_n rfl rfl).trans <| (s_bipush rfl).trans <| (s_newa_int rfl).trans <| c_newa fun r2 h3 => (s_pf2 rfl rfl).trans <| c_pf fun h4 => (s_aload_n rfl rfl).trans <| (s_bipush rfl).trans <| (s_newa_int rfl).trans <| c_newa fun r3 h5 => (s_pf2 rfl rfl).trans <| c_pf fun h6 => s_ret rfl rfl
theorem mc_X2_mostByChanging (X : mv_X) (d : Nat) (h : mv_H) (a0 : Nat) (a1 : Nat) : mv_call X (d + 1) 21 [.ref a0, .ref a1] h = mv_run X (mv_call X d) m_X2_mostByChanging 0 [.ref a0, .ref a1, .retAddr 0, .retAddr 0] [] h := rfl
theorem bk_X2_mostByChanging_0 (X : mv_X) (call : mv_G) (h : mv_H) (a0 : Nat) (a1 : Nat) : mv_run X call m_X2_mostByChanging 0 [.ref a0, .ref a1, .retAddr 0, .retAddr 0] [] h =
  mv_gR X h a0 6 0 fun r1 =>
  mv_clV call 281 [.ref r1, .int (nZ (-1))] h mv_raise fun h1 =>
  mv_run X call m_X2_mostByChanging 12 [.ref a0, .ref a1, .int (nZ 0), .int (nZ 0)] [] h1 :=
  (s_aload_n rfl rfl).trans <| (s_gf2 rfl rfl).trans <| c_gR fun r1 => (s_iconst rfl).trans <| (s_s0 [.ref r1, .int (nZ (-1))] [] rfl rfl (fun _ => rfl)).trans <| c_clV fun h1 => (s_iconst rfl).trans <| (s_istore_n (ls2 := [.ref a0, .ref a1, .int (nZ 0), .retAddr 0]) rfl (fun _ => rfl)).trans <| (s_iconst rfl).trans <| (s_istore_n (ls2 := [.ref a0, .ref a1, .int (nZ 0), .int (nZ 0)]) rfl (fun _ => rfl)).trans <| rfl
theorem bk_X2_mostByChanging_12 (X : mv_X) (call : mv_G) (h : mv_H) (a0 : Nat) (a1 : Nat) (v2 : Int32) (v3 : Int32) : mv_run X call m_X2_mostByChanging 12 [.ref a0, .ref a1, .int v2, .int v3] [] h =
  mv_gI X h a1 7 3 fun x1 =>
  if x1 ≤ v3 then 
  ((some (.inl (some (.int v2)), h)))
  else (mv_gR X h a0 6 1 fun r1 =>
    mv_clV call 281 [.ref r1, .int (nZ 0)] h mv_raise fun h1 =>
    mv_gR X h1 a0 6 0 fun r2 =>
    mv_gR X h1 a0 6 1 fun r3 =>
    mv_clI call 22 [.ref a1, .int v3, .ref r2, .ref r3, .int (nZ 0)] h1 mv_raise fun x2 h2 =>
    if x2 = 0 then 
    (mv_run X call m_X2_mostByChanging 12 [.ref a0, .ref a1, .int v2, .int (v3 + nZ 1)] [] h2)
    else (mv_run X call m_X2_mostByChanging 12 [.ref a0, .ref a1, .int (v2 + nZ 1), .int (v3 + nZ 1)] [] h2)) :=
  (s_iload_n rfl rfl).trans <| (s_aload_n rfl rfl).trans <| (s_gf1 rfl rfl).trans <| c_gI fun x1 => (s_icmp_ge rfl).trans <| c_ite ((s_iload_n rfl rfl).trans <| s_iret1 rfl rfl) ((s_aload_n rfl rfl).trans <| (s_gf2 rfl rfl).trans <| c_gR fun r1 => (s_iconst rfl).trans <| (s_s0 [.ref r1, .int (nZ 0)] [] rfl rfl (fun _ => rfl)).trans <| c_clV fun h1 => (s_aload_n rfl rfl).trans <| (s_iload_n rfl rfl).trans <| (s_aload_n rfl rfl).trans <| (s_gf2 rfl rfl).trans <| c_gR fun r2 => (s_aload_n rfl rfl).trans <| (s_gf2 rfl rfl).trans <| c_gR fun r3 => (s_iconst rfl).trans <| (s_s1 [.ref a1, .int v3, .ref r2, .ref r3, .int (nZ 0)] [] rfl rfl (fun _ => rfl)).trans <| c_clI fun x2 h2 => (s_if_eq rfl).trans <| c_ite ((s_iinc (ls2 := [.ref a0, .ref a1, .int v2, .int (v3 + nZ 1)]) rfl rfl (fun _ => rfl)).trans <| (s_goto rfl).trans <| rfl) ((s_iinc (ls2 := [.ref a0, .ref a1, .int (v2 + nZ 1), .int v3]) rfl rfl (fun _ => rfl)).trans <| (s_iinc (ls2 := [.ref a0, .ref a1, .int (v2 + nZ 1), .int (v3 + nZ 1)]) rfl rfl (fun _ => rfl)).trans <| (s_goto rfl).trans <| rfl))
theorem mc_X2_findsBalloon (X : mv_X) (d : Nat) (h : mv_H) (a0 : Nat) (v1 : Int32) (a2 : Nat) (a3 : Nat) (v4 : Int32) : mv_call X (d + 1) 22 [.ref a0, .int v1, .ref a2, .ref a3, .int v4] h = mv_run X (mv_call X d) m_X2_findsBalloon 0 [.ref a0, .int v1, .ref a2, .ref a3, .int v4, .retAddr 0] [] h := rfl
theorem bk_X2_findsBalloon_0 (X : mv_X) (call : mv_G) (h : mv_H) (a0 : Nat) (v1 : Int32) (a2 : Nat) (a3 : Nat) (v4 : Int32) : mv_run X call m_X2_findsBalloon 0 [.ref a0, .int v1, .ref a2, .ref a3, .int v4, .retAddr 0] [] h =
  if v4 < (nZ 6) then 
  (mv_run X call m_X2_findsBalloon 12 [.ref a0, .int v1, .ref a2, .ref a3, .int v4, .int (nZ 0)] [] h)
  else ((some (.inl (some (.int (nZ 0))), h))) :=
  (s_iload rfl rfl).trans <| (s_bipush rfl).trans <| (s_icmp_lt rfl).trans <| c_ite ((s_iconst rfl).trans <| (s_istore (ls2 := [.ref a0, .int v1, .ref a2, .ref a3, .int v4, .int (nZ 0)]) rfl (fun _ => rfl)).trans <| rfl) ((s_iconst rfl).trans <| s_iretb rfl rfl)
theorem bk_X2_findsBalloon_12 (X : mv_X) (call : mv_G) (h : mv_H) (a0 : Nat) (v1 : Int32) (a2 : Nat) (a3 : Nat) (v4 : Int32) (v5 : Int32) : mv_run X call m_X2_findsBalloon 12 [.ref a0, .int v1, .ref a2, .ref a3, .int v4, .int v5] [] h =
  if (nZ 10) ≤ v5 then 
  ((some (.inl (some (.int (nZ 0))), h)))
  else (mv_aI X h 1 a3 v5 fun x1 =>
    if x1 = 0 then 
    (mv_rcv X h [.ref a0, .int v1, .int v5] 7 (mv_clI call 39 [.ref a0, .int v1, .int v5] h mv_raise fun x2 h1 =>
      if x2 = 0 then 
      (mv_run X call m_X2_findsBalloon 12 [.ref a0, .int v1, .ref a2, .ref a3, .int v4, .int (v5 + nZ 1)] [] h1)
      else (mv_as h1 1 a3 v5 (.int (nZ 1)) fun h2 =>
        mv_aI X h2 1 a2 v5 fun x3 =>
        if x3 = (nZ (-1)) then 
        (mv_as h2 1 a2 v5 (.int v1) fun h3 =>
          (some (.inl (some (.int (nZ 1))), h3)))
        else (mv_aI X h2 1 a2 v5 fun x4 =>
          mv_clI call 22 [.ref a0, .int x4, .ref a2, .ref a3, .int (v4 + (nZ 1))] h2 mv_raise fun x5 h4 =>
          if x5 = 0 then 
          (mv_run X call m_X2_findsBalloon 12 [.ref a0, .int v1, .ref a2, .ref a3, .int v4, .int (v5 + nZ 1)] [] h4)
          else (mv_as h4 1 a2 v5 (.int v1) fun h5 =>
            (some (.inl (some (.int (nZ 1))), h5)))))))
    else (mv_run X call m_X2_findsBalloon 12 [.ref a0, .int v1, .ref a2, .ref a3, .int v4, .int (v5 + nZ 1)] [] h)) :=
  (s_iload rfl rfl).trans <| (s_bipush rfl).trans <| (s_icmp_ge rfl).trans <| c_ite ((s_iconst rfl).trans <| s_iretb rfl rfl) ((s_aload_n rfl rfl).trans <| (s_iload rfl rfl).trans <| (s_iaload rfl).trans <| c_aI fun x1 => (s_if_ne rfl).trans <| c_ite ((s_aload_n rfl rfl).trans <| (s_iload_n rfl rfl).trans <| (s_iload rfl rfl).trans <| (s_v1 [.ref a0, .int v1, .int v5] [] rfl rfl (fun _ => rfl)).trans <| c_rcv <| c_clI fun x2 h1 => (s_if_eq rfl).trans <| c_ite ((s_iinc (ls2 := [.ref a0, .int v1, .ref a2, .ref a3, .int v4, .int (v5 + nZ 1)]) rfl rfl (fun _ => rfl)).trans <| (s_goto rfl).trans <| rfl) ((s_aload_n rfl rfl).trans <| (s_iload rfl rfl).trans <| (s_iconst rfl).trans <| (s_iastore rfl).trans <| c_as fun h2 => (s_aload_n rfl rfl).trans <| (s_iload rfl rfl).trans <| (s_iaload rfl).trans <| c_aI fun x3 => (s_iconst rfl).trans <| (s_icmp_eq rfl).trans <| c_ite ((s_aload_n rfl rfl).trans <| (s_iload rfl rfl).trans <| (s_iload_n rfl rfl).trans <| (s_iastore rfl).trans <| c_as fun h3 => (s_iconst rfl).trans <| s_iretb rfl rfl) ((s_aload_n rfl rfl).trans <| (s_aload_n rfl rfl).trans <| (s_iload rfl rfl).trans <| (s_iaload rfl).trans <| c_aI fun x4 => (s_aload_n rfl rfl).trans <| (s_aload_n rfl rfl).trans <| (s_iload rfl rfl).trans <| (s_iconst rfl).trans <| (s_iadd rfl).trans <| (s_s1 [.ref a0, .int x4, .ref a2, .ref a3, .int (v4 + (nZ 1))] [] rfl rfl (fun _ => rfl)).trans <| c_clI fun x5 h4 => (s_if_eq rfl).trans <| c_ite ((s_iinc (ls2 := [.ref a0, .int v1, .ref a2, .ref a3, .int v4, .int (v5 + nZ 1)]) rfl rfl (fun _ => rfl)).trans <| (s_goto rfl).trans <| rfl) ((s_aload_n rfl rfl).trans <| (s_iload rfl rfl).trans <| (s_iload_n rfl rfl).trans <| (s_iastore rfl).trans <| c_as fun h5 => (s_iconst rfl).trans <| s_iretb rfl rfl)))) ((s_iinc (ls2 := [.ref a0, .int v1, .ref a2, .ref a3, .int v4, .int (v5 + nZ 1)]) rfl rfl (fun _ => rfl)).trans <| (s_goto rfl).trans <| rfl))
theorem mc_X2_mostBySets (X : mv_X) (d : Nat) (h : mv_H) (a0 : Nat) (a1 : Nat) : mv_call X (d + 1) 23 [.ref a0, .ref a1] h = mv_run X (mv_call X d) m_X2_mostBySets 0 [.ref a0, .ref a1, .retAddr 0, .retAddr 0] [] h := rfl
theorem bk_X2_mostBySets_0 (X : mv_X) (call : mv_G) (h : mv_H) (a0 : Nat) (a1 : Nat) : mv_run X call m_X2_mostBySets 0 [.ref a0, .ref a1, .retAddr 0, .retAddr 0] [] h =
  mv_gR X h a0 6 2 fun r1 =>
  mv_clV call 281 [.ref r1, .int (nZ 0)] h mv_raise fun h1 =>
  mv_gR X h1 a0 6 2 fun r2 =>
  mv_as h1 1 r2 (nZ 0) (.int (nZ 1)) fun h2 =>
  mv_run X call m_X2_mostBySets 17 [.ref a0, .ref a1, .int (nZ 0), .retAddr 0] [] h2 :=
  (s_aload_n rfl rfl).trans <| (s_gf2 rfl rfl).trans <| c_gR fun r1 => (s_iconst rfl).trans <| (s_s0 [.ref r1, .int (nZ 0)] [] rfl rfl (fun _ => rfl)).trans <| c_clV fun h1 => (s_aload_n rfl rfl).trans <| (s_gf2 rfl rfl).trans <| c_gR fun r2 => (s_iconst rfl).trans <| (s_iconst rfl).trans <| (s_iastore rfl).trans <| c_as fun h2 => (s_iconst rfl).trans <| (s_istore_n (ls2 := [.ref a0, .ref a1, .int (nZ 0), .retAddr 0]) rfl (fun _ => rfl)).trans <| rfl
theorem bk_X2_mostBySets_17 (X : mv_X) (call : mv_G) (h : mv_H) (a0 : Nat) (a1 : Nat) (v2 : Int32) : mv_run X call m_X2_mostBySets 17 [.ref a0, .ref a1, .int v2, .retAddr 0] [] h =
  if (nZ 10) ≤ v2 then 
  (mv_run X call m_X2_mostBySets 39 [.ref a0, .ref a1, .int (nZ 0), .int (nZ 0)] [] h)
  else (mv_rcv X h [.ref a0, .ref a1, .int v2] 6 (mv_clV call 24 [.ref a0, .ref a1, .int v2] h mv_raise fun h1 =>
    mv_run X call m_X2_mostBySets 17 [.ref a0, .ref a1, .int (v2 + nZ 1), .retAddr 0] [] h1)) :=
  (s_iload_n rfl rfl).trans <| (s_bipush rfl).trans <| (s_icmp_ge rfl).trans <| c_ite ((s_iconst rfl).trans <| (s_istore_n (ls2 := [.ref a0, .ref a1, .int (nZ 0), .retAddr 0]) rfl (fun _ => rfl)).trans <| (s_iconst rfl).trans <| (s_istore_n (ls2 := [.ref a0, .ref a1, .int (nZ 0), .int (nZ 0)]) rfl (fun _ => rfl)).trans <| rfl) ((s_aload_n rfl rfl).trans <| (s_aload_n rfl rfl).trans <| (s_iload_n rfl rfl).trans <| (s_v0 [.ref a0, .ref a1, .int v2] [] rfl rfl (fun _ => rfl)).trans <| c_rcv <| c_clV fun h1 => (s_iinc (ls2 := [.ref a0, .ref a1, .int (v2 + nZ 1), .retAddr 0]) rfl rfl (fun _ => rfl)).trans <| (s_goto rfl).trans <| rfl)
theorem bk_X2_mostBySets_39 (X : mv_X) (call : mv_G) (h : mv_H) (a0 : Nat) (a1 : Nat) (v2 : Int32) (v3 : Int32) : mv_run X call m_X2_mostBySets 39 [.ref a0, .ref a1, .int v2, .int v3] [] h =
  if (nZ 64) ≤ v3 then 
  ((some (.inl (some (.int v2)), h)))
  else (mv_gR X h a0 6 2 fun r1 =>
    mv_aI X h 1 r1 v3 fun x1 =>
    if x1 = (nZ 1) then 
    (mv_clI call 264 [.int v3] h mv_raise fun x2 h1 =>
      mv_clI call 266 [.int v2, .int x2] h1 mv_raise fun x3 h2 =>
      mv_run X call m_X2_mostBySets 39 [.ref a0, .ref a1, .int x3, .int (v3 + nZ 1)] [] h2)
    else (mv_run X call m_X2_mostBySets 39 [.ref a0, .ref a1, .int v2, .int (v3 + nZ 1)] [] h)) :=
  (s_iload_n rfl rfl).trans <| (s_bipush rfl).trans <| (s_icmp_ge rfl).trans <| c_ite ((s_iload_n rfl rfl).trans <| s_iret1 rfl rfl) ((s_aload_n rfl rfl).trans <| (s_gf2 rfl rfl).trans <| c_gR fun r1 => (s_iload_n rfl rfl).trans <| (s_iaload rfl).trans <| c_aI fun x1 => (s_iconst rfl).trans <| (s_icmp_ne rfl).trans <| c_ite ((s_iload_n rfl rfl).trans <| (s_iload_n rfl rfl).trans <| (s_s1 [.int v3] [.int v2] rfl rfl (fun _ => rfl)).trans <| c_clI fun x2 h1 => (s_s1 [.int v2, .int x2] [] rfl rfl (fun _ => rfl)).trans <| c_clI fun x3 h2 => (s_istore_n (ls2 := [.ref a0, .ref a1, .int x3, .int v3]) rfl (fun _ => rfl)).trans <| (s_iinc (ls2 := [.ref a0, .ref a1, .int x3, .int (v3 + nZ 1)]) rfl rfl (fun _ => rfl)).trans <| (s_goto rfl).trans <| rfl) ((s_iinc (ls2 := [.ref a0, .ref a1, .int v2, .int (v3 + nZ 1)]) rfl rfl (fun _ => rfl)).trans <| (s_goto rfl).trans <| rfl))
theorem mc_X2_giveToOnePilot (X : mv_X) (d : Nat) (h : mv_H) (a0 : Nat) (a1 : Nat) (v2 : Int32) : mv_call X (d + 1) 24 [.ref a0, .ref a1, .int v2] h = mv_run X (mv_call X d) m_X2_giveToOnePilot 0 [.ref a0, .ref a1, .int v2, .retAddr 0, .retAddr 0, .retAddr 0] [] h := rfl
theorem bk_X2_giveToOnePilot_0 (X : mv_X) (call : mv_G) (h : mv_H) (a0 : Nat) (a1 : Nat) (v2 : Int32) : mv_run X call m_X2_giveToOnePilot 0 [.ref a0, .ref a1, .int v2, .retAddr 0, .retAddr 0, .retAddr 0] [] h =
  mv_run X call m_X2_giveToOnePilot 3 [.ref a0, .ref a1, .int v2, .int (nZ 63), .retAddr 0, .retAddr 0] [] h :=
  (s_bipush rfl).trans <| (s_istore_n (ls2 := [.ref a0, .ref a1, .int v2, .int (nZ 63), .retAddr 0, .retAddr 0]) rfl (fun _ => rfl)).trans <| rfl
theorem bk_X2_giveToOnePilot_3 (X : mv_X) (call : mv_G) (h : mv_H) (a0 : Nat) (a1 : Nat) (v2 : Int32) (v3 : Int32) (j4 : Value) (j5 : Value) : mv_run X call m_X2_giveToOnePilot 3 [.ref a0, .ref a1, .int v2, .int v3, j4, j5] [] h =
  if v3 < 0 then 
  ((some (.inl none, h)))
  else (mv_run X call m_X2_giveToOnePilot 10 [.ref a0, .ref a1, .int v2, .int v3, .int (nZ 0), j5] [] h) :=
  (s_iload_n rfl rfl).trans <| (s_if_lt rfl).trans <| c_ite (s_ret rfl rfl) ((s_iconst rfl).trans <| (s_istore (ls2 := [.ref a0, .ref a1, .int v2, .int v3, .int (nZ 0), j5]) rfl (fun _ => rfl)).trans <| rfl)
theorem bk_X2_giveToOnePilot_10 (X : mv_X) (call : mv_G) (h : mv_H) (a0 : Nat) (a1 : Nat) (v2 : Int32) (v3 : Int32) (v4 : Int32) (j5 : Value) : mv_run X call m_X2_giveToOnePilot 10 [.ref a0, .ref a1, .int v2, .int v3, .int v4, j5] [] h =
  mv_gI X h a1 7 3 fun x1 =>
  if x1 ≤ v4 then 
  (mv_run X call m_X2_giveToOnePilot 3 [.ref a0, .ref a1, .int v2, .int (v3 + nZ (-1)), .int v4, j5] [] h)
  else (if (nZ 6) ≤ v4 then 
    (mv_run X call m_X2_giveToOnePilot 3 [.ref a0, .ref a1, .int v2, .int (v3 + nZ (-1)), .int v4, j5] [] h)
    else (mv_gR X h a0 6 2 fun r1 =>
      mv_aI X h 1 r1 v3 fun x2 =>
      if x2 = (nZ 1) then 
      (if (v3 ||| ((nZ 1) <<< (v4 &&& 31))) = v3 then 
        (mv_run X call m_X2_giveToOnePilot 10 [.ref a0, .ref a1, .int v2, .int v3, .int (v4 + nZ 1), .int (v3 ||| ((nZ 1) <<< (v4 &&& 31)))] [] h)
        else (mv_rcv X h [.ref a1, .int v4, .int v2] 7 (mv_clI call 39 [.ref a1, .int v4, .int v2] h mv_raise fun x3 h1 =>
          if x3 = 0 then 
          (mv_run X call m_X2_giveToOnePilot 10 [.ref a0, .ref a1, .int v2, .int v3, .int (v4 + nZ 1), .int (v3 ||| ((nZ 1) <<< (v4 &&& 31)))] [] h1)
          else (mv_gR X h1 a0 6 2 fun r2 =>
            mv_as h1 1 r2 (v3 ||| ((nZ 1) <<< (v4 &&& 31))) (.int (nZ 1)) fun h2 =>
            mv_run X call m_X2_giveToOnePilot 10 [.ref a0, .ref a1, .int v2, .int v3, .int (v4 + nZ 1), .int (v3 ||| ((nZ 1) <<< (v4 &&& 31)))] [] h2))))
      else (mv_run X call m_X2_giveToOnePilot 10 [.ref a0, .ref a1, .int v2, .int v3, .int (v4 + nZ 1), .int (v3 ||| ((nZ 1) <<< (v4 &&& 31)))] [] h))) :=
  (s_iload rfl rfl).trans <| (s_aload_n rfl rfl).trans <| (s_gf1 rfl rfl).trans <| c_gI fun x1 => (s_icmp_ge rfl).trans <| c_ite ((s_iinc (ls2 := [.ref a0, .ref a1, .int v2, .int (v3 + nZ (-1)), .int v4, j5]) rfl rfl (fun _ => rfl)).trans <| (s_goto rfl).trans <| rfl) ((s_iload rfl rfl).trans <| (s_bipush rfl).trans <| (s_icmp_ge rfl).trans <| c_ite ((s_iinc (ls2 := [.ref a0, .ref a1, .int v2, .int (v3 + nZ (-1)), .int v4, j5]) rfl rfl (fun _ => rfl)).trans <| (s_goto rfl).trans <| rfl) ((s_iload_n rfl rfl).trans <| (s_iconst rfl).trans <| (s_iload rfl rfl).trans <| (s_ishl rfl).trans <| (s_ior rfl).trans <| (s_istore (ls2 := [.ref a0, .ref a1, .int v2, .int v3, .int v4, .int (v3 ||| ((nZ 1) <<< (v4 &&& 31)))]) rfl (fun _ => rfl)).trans <| (s_aload_n rfl rfl).trans <| (s_gf2 rfl rfl).trans <| c_gR fun r1 => (s_iload_n rfl rfl).trans <| (s_iaload rfl).trans <| c_aI fun x2 => (s_iconst rfl).trans <| (s_icmp_ne rfl).trans <| c_ite ((s_iload rfl rfl).trans <| (s_iload_n rfl rfl).trans <| (s_icmp_eq rfl).trans <| c_ite ((s_iinc (ls2 := [.ref a0, .ref a1, .int v2, .int v3, .int (v4 + nZ 1), .int (v3 ||| ((nZ 1) <<< (v4 &&& 31)))]) rfl rfl (fun _ => rfl)).trans <| (s_goto rfl).trans <| rfl) ((s_aload_n rfl rfl).trans <| (s_iload rfl rfl).trans <| (s_iload_n rfl rfl).trans <| (s_v1 [.ref a1, .int v4, .int v2] [] rfl rfl (fun _ => rfl)).trans <| c_rcv <| c_clI fun x3 h1 => (s_if_eq rfl).trans <| c_ite ((s_iinc (ls2 := [.ref a0, .ref a1, .int v2, .int v3, .int (v4 + nZ 1), .int (v3 ||| ((nZ 1) <<< (v4 &&& 31)))]) rfl rfl (fun _ => rfl)).trans <| (s_goto rfl).trans <| rfl) ((s_aload_n rfl rfl).trans <| (s_gf2 rfl rfl).trans <| c_gR fun r2 => (s_iload rfl rfl).trans <| (s_iconst rfl).trans <| (s_iastore rfl).trans <| c_as fun h2 => (s_iinc (ls2 := [.ref a0, .ref a1, .int v2, .int v3, .int (v4 + nZ 1), .int (v3 ||| ((nZ 1) <<< (v4 &&& 31)))]) rfl rfl (fun _ => rfl)).trans <| (s_goto rfl).trans <| rfl))) ((s_iinc (ls2 := [.ref a0, .ref a1, .int v2, .int v3, .int (v4 + nZ 1), .int (v3 ||| ((nZ 1) <<< (v4 &&& 31)))]) rfl rfl (fun _ => rfl)).trans <| (s_goto rfl).trans <| rfl)))
theorem mc_X3_init (X : mv_X) (d : Nat) (h : mv_H) (a0 : Nat) : mv_call X (d + 1) 25 [.ref a0] h = mv_run X (mv_call X d) m_X3_init 0 [.ref a0, .retAddr 0] [] h := rfl
theorem bk_X3_init_0 (X : mv_X) (call : mv_G) (h : mv_H) (a0 : Nat) : mv_run X call m_X3_init 0 [.ref a0, .retAddr 0] [] h =
  mv_newa h (.object (mv_cn 4)) .null (nZ 10) fun r1 h1 =>
  mv_pf h1 a0 7 0 (.ref r1) fun h2 =>
  mv_newa h2 .int (.int 0) (nZ 24) fun r2 h3 =>
  mv_pf h3 a0 7 1 (.ref r2) fun h4 =>
  mv_newa h4 (.object (mv_cn 9)) .null (nZ 6) fun r3 h5 =>
  mv_pf h5 a0 7 2 (.ref r3) fun h6 =>
  mv_pf h6 a0 7 3 (.int (nZ 0)) fun h7 =>
  mv_pf h7 a0 7 4 (.int (nZ 0)) fun h8 =>
  mv_pf h8 a0 7 5 (.int (nZ 0)) fun h9 =>
  mv_pf h9 a0 7 6 (.int (nZ 0)) fun h10 =>
  mv_pf h10 a0 7 7 (.int (nZ 0)) fun h11 =>
  mv_pf h11 a0 7 8 (.int (nZ 0)) fun h12 =>
  mv_newa h12 .int (.int 0) (nZ 10) fun r4 h13 =>
  mv_pf h13 a0 7 9 (.ref r4) fun h14 =>
  mv_pf h14 a0 7 10 (.int (nZ 0)) fun h15 =>
  mv_pf h15 a0 7 11 (.int (nZ 0)) fun h16 =>
  mv_run X call m_X3_init 80 [.ref a0, .int (nZ 0)] [] h16 :=
  (s_aload_n rfl rfl).trans <| (s_oinit [] rfl rfl (fun _ => rfl)).trans <| (s_aload_n rfl rfl).trans <| (s_bipush rfl).trans <| (s_anewa rfl rfl).trans <| c_newa fun r1 h1 => (s_pf2 rfl rfl).trans <| c_pf fun h2 => (s_aload_n rfl rfl).trans <| (s_bipush rfl).trans <| (s_newa_int rfl).trans <| c_newa fun r2 h3 => (s_pf2 rfl rfl).trans <| c_pf fun h4 => (s_aload_n rfl rfl).trans <| (s_bipush rfl).trans <| (s_anewa rfl rfl).trans <| c_newa fun r3 h5 => (s_pf2 rfl rfl).trans <| c_pf fun h6 => (s_aload_n rfl rfl).trans <| (s_iconst rfl).trans <| (s_pf1 rfl rfl).trans <| c_pf fun h7 => (s_aload_n rfl rfl).trans <| (s_iconst rfl).trans <| (s_pf1 rfl rfl).trans <| c_pf fun h8 => (s_aload_n rfl rfl).trans <| (s_iconst rfl).trans <| (s_pf1 rfl rfl).trans <| c_pf fun h9 => (s_aload_n rfl rfl).trans <| (s_iconst rfl).trans <| (s_pf1 rfl rfl).trans <| c_pf fun h10 => (s_aload_n rfl rfl).trans <| (s_iconst rfl).trans <| (s_pf1 rfl rfl).trans <| c_pf fun h11 => (s_aload_n rfl rfl).trans <| (s_iconst rfl).trans <| (s_pf1 rfl rfl).trans <| c_pf fun h12 => (s_aload_n rfl rfl).trans <| (s_bipush rfl).trans <| (s_newa_int rfl).trans <| c_newa fun r4 h13 => (s_pf2 rfl rfl).trans <| c_pf fun h14 => (s_aload_n rfl rfl).trans <| (s_iconst rfl).trans <| (s_pf1 rfl rfl).trans <| c_pf fun h15 => (s_aload_n rfl rfl).trans <| (s_iconst rfl).trans <| (s_pf1 rfl rfl).trans <| c_pf fun h16 => (s_iconst rfl).trans <| (s_istore_n (ls2 := [.ref a0, .int (nZ 0)]) rfl (fun _ => rfl)).trans <| rfl
theorem bk_X3_init_80 (X : mv_X) (call : mv_G) (h : mv_H) (a0 : Nat) (v1 : Int32) : mv_run X call m_X3_init 80 [.ref a0, .int v1] [] h =
  if (nZ 10) ≤ v1 then 
  (mv_run X call m_X3_init 107 [.ref a0, .int (nZ 0)] [] h)
  else (mv_gR X h a0 7 0 fun r1 =>
    mv_new h (.inl (4, mv_df 4)) 7 fun r2 h1 =>
    mv_clV call 0 [.ref r2] h1 mv_raise fun h2 =>
    mv_aa h2 r1 v1 r2 fun h3 =>
    mv_run X call m_X3_init 80 [.ref a0, .int (v1 + nZ 1)] [] h3) :=
  (s_iload_n rfl rfl).trans <| (s_bipush rfl).trans <| (s_icmp_ge rfl).trans <| c_ite ((s_iconst rfl).trans <| (s_istore_n (ls2 := [.ref a0, .int (nZ 0)]) rfl (fun _ => rfl)).trans <| rfl) ((s_aload_n rfl rfl).trans <| (s_gf2 rfl rfl).trans <| c_gR fun r1 => (s_iload_n rfl rfl).trans <| (s_new rfl rfl).trans <| c_new fun r2 h1 => (s_dupR rfl).trans <| (s_i0 [] [.ref r2, .int v1, .ref r1] rfl rfl (fun _ => rfl)).trans <| c_clV fun h2 => (s_aastore rfl).trans <| c_aa fun h3 => (s_iinc (ls2 := [.ref a0, .int (v1 + nZ 1)]) rfl rfl (fun _ => rfl)).trans <| (s_goto rfl).trans <| rfl)
theorem bk_X3_init_107 (X : mv_X) (call : mv_G) (h : mv_H) (a0 : Nat) (v1 : Int32) : mv_run X call m_X3_init 107 [.ref a0, .int v1] [] h =
  if (nZ 6) ≤ v1 then 
  ((some (.inl none, h)))
  else (mv_gR X h a0 7 2 fun r1 =>
    mv_new h (.inl (9, mv_df 9)) 3 fun r2 h1 =>
    mv_clV call 64 [.ref r2] h1 mv_raise fun h2 =>
    mv_aa h2 r1 v1 r2 fun h3 =>
    mv_run X call m_X3_init 107 [.ref a0, .int (v1 + nZ 1)] [] h3) :=
  (s_iload_n rfl rfl).trans <| (s_bipush rfl).trans <| (s_icmp_ge rfl).trans <| c_ite (s_ret rfl rfl) ((s_aload_n rfl rfl).trans <| (s_gf2 rfl rfl).trans <| c_gR fun r1 => (s_iload_n rfl rfl).trans <| (s_new rfl rfl).trans <| c_new fun r2 h1 => (s_dupR rfl).trans <| (s_i0 [] [.ref r2, .int v1, .ref r1] rfl rfl (fun _ => rfl)).trans <| c_clV fun h2 => (s_aastore rfl).trans <| c_aa fun h3 => (s_iinc (ls2 := [.ref a0, .int (v1 + nZ 1)]) rfl rfl (fun _ => rfl)).trans <| (s_goto rfl).trans <| rfl)
theorem mc_X3_copyFrom (X : mv_X) (d : Nat) (h : mv_H) (a0 : Nat) (a1 : Nat) : mv_call X (d + 1) 26 [.ref a0, .ref a1] h = mv_run X (mv_call X d) m_X3_copyFrom 0 [.ref a0, .ref a1, .retAddr 0] [] h := rfl
theorem bk_X3_copyFrom_0 (X : mv_X) (call : mv_G) (h : mv_H) (a0 : Nat) (a1 : Nat) : mv_run X call m_X3_copyFrom 0 [.ref a0, .ref a1, .retAddr 0] [] h =
  mv_run X call m_X3_copyFrom 2 [.ref a0, .ref a1, .int (nZ 0)] [] h :=
  (s_iconst rfl).trans <| (s_istore_n (ls2 := [.ref a0, .ref a1, .int (nZ 0)]) rfl (fun _ => rfl)).trans <| rfl
theorem bk_X3_copyFrom_2 (X : mv_X) (call : mv_G) (h : mv_H) (a0 : Nat) (a1 : Nat) (v2 : Int32) : mv_run X call m_X3_copyFrom 2 [.ref a0, .ref a1, .int v2] [] h =
  if (nZ 10) ≤ v2 then 
  (mv_gR X h a1 7 1 fun r1 =>
    mv_gR X h a0 7 1 fun r2 =>
    mv_cpy X h r1 (nZ 0) r2 (nZ 0) (nZ 24) fun h1 =>
    mv_run X call m_X3_copyFrom 46 [.ref a0, .ref a1, .int (nZ 0)] [] h1)
  else (mv_gR X h a0 7 0 fun r3 =>
    mv_aR X h r3 v2 fun r4 =>
    mv_gR X h a1 7 0 fun r5 =>
    mv_aR X h r5 v2 fun r6 =>
    mv_rcv X h [.ref r4, .ref r6] 4 (mv_clV call 1 [.ref r4, .ref r6] h mv_raise fun h2 =>
    mv_run X call m_X3_copyFrom 2 [.ref a0, .ref a1, .int (v2 + nZ 1)] [] h2)) :=
  (s_iload_n rfl rfl).trans <| (s_bipush rfl).trans <| (s_icmp_ge rfl).trans <| c_ite ((s_aload_n rfl rfl).trans <| (s_gf2 rfl rfl).trans <| c_gR fun r1 => (s_iconst rfl).trans <| (s_aload_n rfl rfl).trans <| (s_gf2 rfl rfl).trans <| c_gR fun r2 => (s_iconst rfl).trans <| (s_bipush rfl).trans <| (s_cpy [] rfl rfl (fun _ => rfl)).trans <| c_cpy fun h1 => (s_iconst rfl).trans <| (s_istore_n (ls2 := [.ref a0, .ref a1, .int (nZ 0)]) rfl (fun _ => rfl)).trans <| rfl) ((s_aload_n rfl rfl).trans <| (s_gf2 rfl rfl).trans <| c_gR fun r3 => (s_iload_n rfl rfl).trans <| (s_aaload rfl).trans <| c_aR fun r4 => (s_aload_n rfl rfl).trans <| (s_gf2 rfl rfl).trans <| c_gR fun r5 => (s_iload_n rfl rfl).trans <| (s_aaload rfl).trans <| c_aR fun r6 => (s_v0 [.ref r4, .ref r6] [] rfl rfl (fun _ => rfl)).trans <| c_rcv <| c_clV fun h2 => (s_iinc (ls2 := [.ref a0, .ref a1, .int (v2 + nZ 1)]) rfl rfl (fun _ => rfl)).trans <| (s_goto rfl).trans <| rfl)
theorem bk_X3_copyFrom_46 (X : mv_X) (call : mv_G) (h : mv_H) (a0 : Nat) (a1 : Nat) (v2 : Int32) : mv_run X call m_X3_copyFrom 46 [.ref a0, .ref a1, .int v2] [] h =
  if (nZ 6) ≤ v2 then 
  (mv_gI X h a1 7 3 fun x1 =>
    mv_pf h a0 7 3 (.int x1) fun h1 =>
    mv_gI X h1 a1 7 4 fun x2 =>
    mv_pf h1 a0 7 4 (.int x2) fun h2 =>
    mv_gI X h2 a1 7 5 fun x3 =>
    mv_pf h2 a0 7 5 (.int x3) fun h3 =>
    mv_gI X h3 a1 7 6 fun x4 =>
    mv_pf h3 a0 7 6 (.int x4) fun h4 =>
    mv_gI X h4 a1 7 7 fun x5 =>
    mv_pf h4 a0 7 7 (.int x5) fun h5 =>
    mv_gI X h5 a1 7 8 fun x6 =>
    mv_pf h5 a0 7 8 (.int x6) fun h6 =>
    (some (.inl none, h6)))
  else (mv_gR X h a0 7 2 fun r1 =>
    mv_aR X h r1 v2 fun r2 =>
    mv_gR X h a1 7 2 fun r3 =>
    mv_aR X h r3 v2 fun r4 =>
    mv_rcv X h [.ref r2, .ref r4] 9 (mv_clV call 66 [.ref r2, .ref r4] h mv_raise fun h7 =>
    mv_run X call m_X3_copyFrom 46 [.ref a0, .ref a1, .int (v2 + nZ 1)] [] h7)) :=
  (s_iload_n rfl rfl).trans <| (s_bipush rfl).trans <| (s_icmp_ge rfl).trans <| c_ite ((s_aload_n rfl rfl).trans <| (s_aload_n rfl rfl).trans <| (s_gf1 rfl rfl).trans <| c_gI fun x1 => (s_pf1 rfl rfl).trans <| c_pf fun h1 => (s_aload_n rfl rfl).trans <| (s_aload_n rfl rfl).trans <| (s_gf1 rfl rfl).trans <| c_gI fun x2 => (s_pf1 rfl rfl).trans <| c_pf fun h2 => (s_aload_n rfl rfl).trans <| (s_aload_n rfl rfl).trans <| (s_gf1 rfl rfl).trans <| c_gI fun x3 => (s_pf1 rfl rfl).trans <| c_pf fun h3 => (s_aload_n rfl rfl).trans <| (s_aload_n rfl rfl).trans <| (s_gf1 rfl rfl).trans <| c_gI fun x4 => (s_pf1 rfl rfl).trans <| c_pf fun h4 => (s_aload_n rfl rfl).trans <| (s_aload_n rfl rfl).trans <| (s_gf1 rfl rfl).trans <| c_gI fun x5 => (s_pf1 rfl rfl).trans <| c_pf fun h5 => (s_aload_n rfl rfl).trans <| (s_aload_n rfl rfl).trans <| (s_gf1 rfl rfl).trans <| c_gI fun x6 => (s_pf1 rfl rfl).trans <| c_pf fun h6 => s_ret rfl rfl) ((s_aload_n rfl rfl).trans <| (s_gf2 rfl rfl).trans <| c_gR fun r1 => (s_iload_n rfl rfl).trans <| (s_aaload rfl).trans <| c_aR fun r2 => (s_aload_n rfl rfl).trans <| (s_gf2 rfl rfl).trans <| c_gR fun r3 => (s_iload_n rfl rfl).trans <| (s_aaload rfl).trans <| c_aR fun r4 => (s_v0 [.ref r2, .ref r4] [] rfl rfl (fun _ => rfl)).trans <| c_rcv <| c_clV fun h7 => (s_iinc (ls2 := [.ref a0, .ref a1, .int (v2 + nZ 1)]) rfl rfl (fun _ => rfl)).trans <| (s_goto rfl).trans <| rfl)
theorem mc_X3_hasBalloon (X : mv_X) (d : Nat) (h : mv_H) (a0 : Nat) (v1 : Int32) : mv_call X (d + 1) 27 [.ref a0, .int v1] h = mv_run X (mv_call X d) m_X3_hasBalloon 0 [.ref a0, .int v1] [] h := rfl
theorem bk_X3_hasBalloon_0 (X : mv_X) (call : mv_G) (h : mv_H) (a0 : Nat) (v1 : Int32) : mv_run X call m_X3_hasBalloon 0 [.ref a0, .int v1] [] h =
  if v1 < 0 then 
  ((some (.inl (some (.int (nZ 0))), h)))
  else (if (nZ 10) ≤ v1 then 
    ((some (.inl (some (.int (nZ 0))), h)))
    else (mv_gR X h a0 7 0 fun r1 =>
      mv_aR X h r1 v1 fun r2 =>
      mv_gI X h r2 4 0 fun x1 =>
      if x1 = 0 then 
      ((some (.inl (some (.int (nZ 0))), h)))
      else ((some (.inl (some (.int (nZ 1))), h))))) :=
  (s_iload_n rfl rfl).trans <| (s_if_lt rfl).trans <| c_ite ((s_iconst rfl).trans <| s_iretb rfl rfl) ((s_iload_n rfl rfl).trans <| (s_bipush rfl).trans <| (s_icmp_ge rfl).trans <| c_ite ((s_iconst rfl).trans <| s_iretb rfl rfl) ((s_aload_n rfl rfl).trans <| (s_gf2 rfl rfl).trans <| c_gR fun r1 => (s_iload_n rfl rfl).trans <| (s_aaload rfl).trans <| c_aR fun r2 => (s_gf6 rfl rfl).trans <| c_gI fun x1 => (s_if_eq rfl).trans <| c_ite ((s_iconst rfl).trans <| s_iretb rfl rfl) ((s_iconst rfl).trans <| (s_goto rfl).trans <| s_iretb rfl rfl)))
theorem mc_X3_hasPilot (X : mv_X) (d : Nat) (h : mv_H) (a0 : Nat) (v1 : Int32) : mv_call X (d + 1) 28 [.ref a0, .int v1] h = mv_run X (mv_call X d) m_X3_hasPilot 0 [.ref a0, .int v1] [] h := rfl
theorem bk_X3_hasPilot_0 (X : mv_X) (call : mv_G) (h : mv_H) (a0 : Nat) (v1 : Int32) : mv_run X call m_X3_hasPilot 0 [.ref a0, .int v1] [] h =
  if v1 < 0 then 
  ((some (.inl (some (.int (nZ 0))), h)))
  else (mv_gI X h a0 7 3 fun x1 =>
    if x1 ≤ v1 then 
    ((some (.inl (some (.int (nZ 0))), h)))
    else ((some (.inl (some (.int (nZ 1))), h)))) :=
  (s_iload_n rfl rfl).trans <| (s_if_lt rfl).trans <| c_ite ((s_iconst rfl).trans <| s_iretb rfl rfl) ((s_iload_n rfl rfl).trans <| (s_aload_n rfl rfl).trans <| (s_gf1 rfl rfl).trans <| c_gI fun x1 => (s_icmp_ge rfl).trans <| c_ite ((s_iconst rfl).trans <| s_iretb rfl rfl) ((s_iconst rfl).trans <| (s_goto rfl).trans <| s_iretb rfl rfl))
theorem mc_X3_hourOfDay (X : mv_X) (d : Nat) (h : mv_H) (a0 : Nat) : mv_call X (d + 1) 29 [.ref a0] h = mv_run X (mv_call X d) m_X3_hourOfDay 0 [.ref a0] [] h := rfl
theorem bk_X3_hourOfDay_0 (X : mv_X) (call : mv_G) (h : mv_H) (a0 : Nat) : mv_run X call m_X3_hourOfDay 0 [.ref a0] [] h =
  mv_gI X h a0 7 4 fun x1 =>
  if (nZ 24) = 0 then none else 
  (some (.inl (some (.int (x1 - x1 / (nZ 24) * (nZ 24)))), h)) :=
  (s_aload_n rfl rfl).trans <| (s_gf1 rfl rfl).trans <| c_gI fun x1 => (s_bipush rfl).trans <| (s_irem rfl).trans <| c_ite rfl <| s_iret1 rfl rfl
theorem mc_X3_countBalloons (X : mv_X) (d : Nat) (h : mv_H) (a0 : Nat) : mv_call X (d + 1) 30 [.ref a0] h = mv_run X (mv_call X d) m_X3_countBalloons 0 [.ref a0, .retAddr 0, .retAddr 0] [] h := rfl
theorem bk_X3_countBalloons_0 (X : mv_X) (call : mv_G) (h : mv_H) (a0 : Nat) : mv_run X call m_X3_countBalloons 0 [.ref a0, .retAddr 0, .retAddr 0] [] h =
  mv_run X call m_X3_countBalloons 4 [.ref a0, .int (nZ 0), .int (nZ 0)] [] h :=
  (s_iconst rfl).trans <| (s_istore_n (ls2 := [.ref a0, .int (nZ 0), .retAddr 0]) rfl (fun _ => rfl)).trans <| (s_iconst rfl).trans <| (s_istore_n (ls2 := [.ref a0, .int (nZ 0), .int (nZ 0)]) rfl (fun _ => rfl)).trans <| rfl
theorem bk_X3_countBalloons_4 (X : mv_X) (call : mv_G) (h : mv_H) (a0 : Nat) (v1 : Int32) (v2 : Int32) : mv_run X call m_X3_countBalloons 4 [.ref a0, .int v1, .int v2] [] h =
  if (nZ 10) ≤ v2 then 
  ((some (.inl (some (.int v1)), h)))
  else (mv_gR X h a0 7 0 fun r1 =>
    mv_aR X h r1 v2 fun r2 =>
    mv_gI X h r2 4 0 fun x1 =>
    if x1 = 0 then 
    (mv_run X call m_X3_countBalloons 4 [.ref a0, .int v1, .int (v2 + nZ 1)] [] h)
    else (mv_run X call m_X3_countBalloons 4 [.ref a0, .int (v1 + nZ 1), .int (v2 + nZ 1)] [] h)) :=
  (s_iload_n rfl rfl).trans <| (s_bipush rfl).trans <| (s_icmp_ge rfl).trans <| c_ite ((s_iload_n rfl rfl).trans <| s_iret1 rfl rfl) ((s_aload_n rfl rfl).trans <| (s_gf2 rfl rfl).trans <| c_gR fun r1 => (s_iload_n rfl rfl).trans <| (s_aaload rfl).trans <| c_aR fun r2 => (s_gf6 rfl rfl).trans <| c_gI fun x1 => (s_if_eq rfl).trans <| c_ite ((s_iinc (ls2 := [.ref a0, .int v1, .int (v2 + nZ 1)]) rfl rfl (fun _ => rfl)).trans <| (s_goto rfl).trans <| rfl) ((s_iinc (ls2 := [.ref a0, .int (v1 + nZ 1), .int v2]) rfl rfl (fun _ => rfl)).trans <| (s_iinc (ls2 := [.ref a0, .int (v1 + nZ 1), .int (v2 + nZ 1)]) rfl rfl (fun _ => rfl)).trans <| (s_goto rfl).trans <| rfl))
theorem mc_X3_weightAboard (X : mv_X) (d : Nat) (h : mv_H) (a0 : Nat) : mv_call X (d + 1) 31 [.ref a0] h = mv_run X (mv_call X d) m_X3_weightAboard 0 [.ref a0, .retAddr 0, .retAddr 0] [] h := rfl
theorem bk_X3_weightAboard_0 (X : mv_X) (call : mv_G) (h : mv_H) (a0 : Nat) : mv_run X call m_X3_weightAboard 0 [.ref a0, .retAddr 0, .retAddr 0] [] h =
  mv_run X call m_X3_weightAboard 4 [.ref a0, .int (nZ 0), .int (nZ 0)] [] h :=
  (s_iconst rfl).trans <| (s_istore_n (ls2 := [.ref a0, .int (nZ 0), .retAddr 0]) rfl (fun _ => rfl)).trans <| (s_iconst rfl).trans <| (s_istore_n (ls2 := [.ref a0, .int (nZ 0), .int (nZ 0)]) rfl (fun _ => rfl)).trans <| rfl
theorem bk_X3_weightAboard_4 (X : mv_X) (call : mv_G) (h : mv_H) (a0 : Nat) (v1 : Int32) (v2 : Int32) : mv_run X call m_X3_weightAboard 4 [.ref a0, .int v1, .int v2] [] h =
  if (nZ 10) ≤ v2 then 
  ((some (.inl (some (.int v1)), h)))
  else (mv_gR X h a0 7 0 fun r1 =>
    mv_aR X h r1 v2 fun r2 =>
    mv_gI X h r2 4 0 fun x1 =>
    if x1 = 0 then 
    (mv_run X call m_X3_weightAboard 4 [.ref a0, .int v1, .int (v2 + nZ 1)] [] h)
    else (mv_gR X h a0 7 0 fun r3 =>
      mv_aR X h r3 v2 fun r4 =>
      mv_gI X h r4 4 4 fun x2 =>
      mv_run X call m_X3_weightAboard 4 [.ref a0, .int (v1 + x2), .int (v2 + nZ 1)] [] h)) :=
  (s_iload_n rfl rfl).trans <| (s_bipush rfl).trans <| (s_icmp_ge rfl).trans <| c_ite ((s_iload_n rfl rfl).trans <| s_iret1 rfl rfl) ((s_aload_n rfl rfl).trans <| (s_gf2 rfl rfl).trans <| c_gR fun r1 => (s_iload_n rfl rfl).trans <| (s_aaload rfl).trans <| c_aR fun r2 => (s_gf6 rfl rfl).trans <| c_gI fun x1 => (s_if_eq rfl).trans <| c_ite ((s_iinc (ls2 := [.ref a0, .int v1, .int (v2 + nZ 1)]) rfl rfl (fun _ => rfl)).trans <| (s_goto rfl).trans <| rfl) ((s_iload_n rfl rfl).trans <| (s_aload_n rfl rfl).trans <| (s_gf2 rfl rfl).trans <| c_gR fun r3 => (s_iload_n rfl rfl).trans <| (s_aaload rfl).trans <| c_aR fun r4 => (s_gf1 rfl rfl).trans <| c_gI fun x2 => (s_iadd rfl).trans <| (s_istore_n (ls2 := [.ref a0, .int (v1 + x2), .int v2]) rfl (fun _ => rfl)).trans <| (s_iinc (ls2 := [.ref a0, .int (v1 + x2), .int (v2 + nZ 1)]) rfl rfl (fun _ => rfl)).trans <| (s_goto rfl).trans <| rfl))
theorem mc_X3_sumOfHeights (X : mv_X) (d : Nat) (h : mv_H) (a0 : Nat) : mv_call X (d + 1) 32 [.ref a0] h = mv_run X (mv_call X d) m_X3_sumOfHeights 0 [.ref a0, .retAddr 0, .retAddr 0] [] h := rfl
theorem bk_X3_sumOfHeights_0 (X : mv_X) (call : mv_G) (h : mv_H) (a0 : Nat) : mv_run X call m_X3_sumOfHeights 0 [.ref a0, .retAddr 0, .retAddr 0] [] h =
  mv_run X call m_X3_sumOfHeights 4 [.ref a0, .int (nZ 0), .int (nZ 0)] [] h :=
  (s_iconst rfl).trans <| (s_istore_n (ls2 := [.ref a0, .int (nZ 0), .retAddr 0]) rfl (fun _ => rfl)).trans <| (s_iconst rfl).trans <| (s_istore_n (ls2 := [.ref a0, .int (nZ 0), .int (nZ 0)]) rfl (fun _ => rfl)).trans <| rfl
theorem bk_X3_sumOfHeights_4 (X : mv_X) (call : mv_G) (h : mv_H) (a0 : Nat) (v1 : Int32) (v2 : Int32) : mv_run X call m_X3_sumOfHeights 4 [.ref a0, .int v1, .int v2] [] h =
  if (nZ 10) ≤ v2 then 
  ((some (.inl (some (.int v1)), h)))
  else (mv_gR X h a0 7 0 fun r1 =>
    mv_aR X h r1 v2 fun r2 =>
    mv_gI X h r2 4 0 fun x1 =>
    if x1 = 0 then 
    (mv_run X call m_X3_sumOfHeights 4 [.ref a0, .int v1, .int (v2 + nZ 1)] [] h)
    else (mv_gR X h a0 7 0 fun r3 =>
      mv_aR X h r3 v2 fun r4 =>
      mv_rcv X h [.ref r4] 4 (mv_clI call 5 [.ref r4] h mv_raise fun x2 h1 =>
      mv_run X call m_X3_sumOfHeights 4 [.ref a0, .int (v1 + x2), .int (v2 + nZ 1)] [] h1))) :=
  (s_iload_n rfl rfl).trans <| (s_bipush rfl).trans <| (s_icmp_ge rfl).trans <| c_ite ((s_iload_n rfl rfl).trans <| s_iret1 rfl rfl) ((s_aload_n rfl rfl).trans <| (s_gf2 rfl rfl).trans <| c_gR fun r1 => (s_iload_n rfl rfl).trans <| (s_aaload rfl).trans <| c_aR fun r2 => (s_gf6 rfl rfl).trans <| c_gI fun x1 => (s_if_eq rfl).trans <| c_ite ((s_iinc (ls2 := [.ref a0, .int v1, .int (v2 + nZ 1)]) rfl rfl (fun _ => rfl)).trans <| (s_goto rfl).trans <| rfl) ((s_iload_n rfl rfl).trans <| (s_aload_n rfl rfl).trans <| (s_gf2 rfl rfl).trans <| c_gR fun r3 => (s_iload_n rfl rfl).trans <| (s_aaload rfl).trans <| c_aR fun r4 => (s_v1 [.ref r4] [.int v1] rfl rfl (fun _ => rfl)).trans <| c_rcv <| c_clI fun x2 h1 => (s_iadd rfl).trans <| (s_istore_n (ls2 := [.ref a0, .int (v1 + x2), .int v2]) rfl (fun _ => rfl)).trans <| (s_iinc (ls2 := [.ref a0, .int (v1 + x2), .int (v2 + nZ 1)]) rfl rfl (fun _ => rfl)).trans <| (s_goto rfl).trans <| rfl))
theorem mc_X3_berthAtRank (X : mv_X) (d : Nat) (h : mv_H) (a0 : Nat) (v1 : Int32) : mv_call X (d + 1) 33 [.ref a0, .int v1] h = mv_run X (mv_call X d) m_X3_berthAtRank 0 [.ref a0, .int v1, .retAddr 0] [] h := rfl
theorem bk_X3_berthAtRank_0 (X : mv_X) (call : mv_G) (h : mv_H) (a0 : Nat) (v1 : Int32) : mv_run X call m_X3_berthAtRank 0 [.ref a0, .int v1, .retAddr 0] [] h =
  mv_run X call m_X3_berthAtRank 2 [.ref a0, .int v1, .int (nZ 0)] [] h :=
  (s_iconst rfl).trans <| (s_istore_n (ls2 := [.ref a0, .int v1, .int (nZ 0)]) rfl (fun _ => rfl)).trans <| rfl
theorem bk_X3_berthAtRank_2 (X : mv_X) (call : mv_G) (h : mv_H) (a0 : Nat) (v1 : Int32) (v2 : Int32) : mv_run X call m_X3_berthAtRank 2 [.ref a0, .int v1, .int v2] [] h =
  if (nZ 10) ≤ v2 then 
  ((some (.inl (some (.int (nZ (-1)))), h)))
  else (mv_gR X h a0 7 0 fun r1 =>
    mv_aR X h r1 v2 fun r2 =>
    mv_gI X h r2 4 0 fun x1 =>
    if x1 = 0 then 
    (mv_run X call m_X3_berthAtRank 2 [.ref a0, .int v1, .int (v2 + nZ 1)] [] h)
    else (mv_rcv X h [.ref a0, .int v2] 7 (mv_clI call 34 [.ref a0, .int v2] h mv_raise fun x2 h1 =>
      if x2 = v1 then 
      ((some (.inl (some (.int v2)), h1)))
      else (mv_run X call m_X3_berthAtRank 2 [.ref a0, .int v1, .int (v2 + nZ 1)] [] h1)))) :=
  (s_iload_n rfl rfl).trans <| (s_bipush rfl).trans <| (s_icmp_ge rfl).trans <| c_ite ((s_iconst rfl).trans <| s_iret1 rfl rfl) ((s_aload_n rfl rfl).trans <| (s_gf2 rfl rfl).trans <| c_gR fun r1 => (s_iload_n rfl rfl).trans <| (s_aaload rfl).trans <| c_aR fun r2 => (s_gf6 rfl rfl).trans <| c_gI fun x1 => (s_if_eq rfl).trans <| c_ite ((s_iinc (ls2 := [.ref a0, .int v1, .int (v2 + nZ 1)]) rfl rfl (fun _ => rfl)).trans <| (s_goto rfl).trans <| rfl) ((s_aload_n rfl rfl).trans <| (s_iload_n rfl rfl).trans <| (s_v1 [.ref a0, .int v2] [] rfl rfl (fun _ => rfl)).trans <| c_rcv <| c_clI fun x2 h1 => (s_iload_n rfl rfl).trans <| (s_icmp_ne rfl).trans <| c_ite ((s_iload_n rfl rfl).trans <| s_iret1 rfl rfl) ((s_iinc (ls2 := [.ref a0, .int v1, .int (v2 + nZ 1)]) rfl rfl (fun _ => rfl)).trans <| (s_goto rfl).trans <| rfl)))
theorem mc_X3_countAhead (X : mv_X) (d : Nat) (h : mv_H) (a0 : Nat) (v1 : Int32) : mv_call X (d + 1) 34 [.ref a0, .int v1] h = mv_run X (mv_call X d) m_X3_countAhead 0 [.ref a0, .int v1, .retAddr 0, .retAddr 0] [] h := rfl
theorem bk_X3_countAhead_0 (X : mv_X) (call : mv_G) (h : mv_H) (a0 : Nat) (v1 : Int32) : mv_run X call m_X3_countAhead 0 [.ref a0, .int v1, .retAddr 0, .retAddr 0] [] h =
  mv_run X call m_X3_countAhead 4 [.ref a0, .int v1, .int (nZ 0), .int (nZ 0)] [] h :=
  (s_iconst rfl).trans <| (s_istore_n (ls2 := [.ref a0, .int v1, .int (nZ 0), .retAddr 0]) rfl (fun _ => rfl)).trans <| (s_iconst rfl).trans <| (s_istore_n (ls2 := [.ref a0, .int v1, .int (nZ 0), .int (nZ 0)]) rfl (fun _ => rfl)).trans <| rfl
theorem bk_X3_countAhead_4 (X : mv_X) (call : mv_G) (h : mv_H) (a0 : Nat) (v1 : Int32) (v2 : Int32) (v3 : Int32) : mv_run X call m_X3_countAhead 4 [.ref a0, .int v1, .int v2, .int v3] [] h =
  if (nZ 10) ≤ v3 then 
  ((some (.inl (some (.int v2)), h)))
  else (mv_gR X h a0 7 0 fun r1 =>
    mv_aR X h r1 v3 fun r2 =>
    mv_gI X h r2 4 0 fun x1 =>
    if x1 = 0 then 
    (mv_run X call m_X3_countAhead 4 [.ref a0, .int v1, .int v2, .int (v3 + nZ 1)] [] h)
    else (mv_rcv X h [.ref a0, .int v3, .int v1] 7 (mv_clI call 35 [.ref a0, .int v3, .int v1] h mv_raise fun x2 h1 =>
      if x2 = 0 then 
      (mv_run X call m_X3_countAhead 4 [.ref a0, .int v1, .int v2, .int (v3 + nZ 1)] [] h1)
      else (mv_run X call m_X3_countAhead 4 [.ref a0, .int v1, .int (v2 + nZ 1), .int (v3 + nZ 1)] [] h1)))) :=
  (s_iload_n rfl rfl).trans <| (s_bipush rfl).trans <| (s_icmp_ge rfl).trans <| c_ite ((s_iload_n rfl rfl).trans <| s_iret1 rfl rfl) ((s_aload_n rfl rfl).trans <| (s_gf2 rfl rfl).trans <| c_gR fun r1 => (s_iload_n rfl rfl).trans <| (s_aaload rfl).trans <| c_aR fun r2 => (s_gf6 rfl rfl).trans <| c_gI fun x1 => (s_if_eq rfl).trans <| c_ite ((s_iinc (ls2 := [.ref a0, .int v1, .int v2, .int (v3 + nZ 1)]) rfl rfl (fun _ => rfl)).trans <| (s_goto rfl).trans <| rfl) ((s_aload_n rfl rfl).trans <| (s_iload_n rfl rfl).trans <| (s_iload_n rfl rfl).trans <| (s_v1 [.ref a0, .int v3, .int v1] [] rfl rfl (fun _ => rfl)).trans <| c_rcv <| c_clI fun x2 h1 => (s_if_eq rfl).trans <| c_ite ((s_iinc (ls2 := [.ref a0, .int v1, .int v2, .int (v3 + nZ 1)]) rfl rfl (fun _ => rfl)).trans <| (s_goto rfl).trans <| rfl) ((s_iinc (ls2 := [.ref a0, .int v1, .int (v2 + nZ 1), .int v3]) rfl rfl (fun _ => rfl)).trans <| (s_iinc (ls2 := [.ref a0, .int v1, .int (v2 + nZ 1), .int (v3 + nZ 1)]) rfl rfl (fun _ => rfl)).trans <| (s_goto rfl).trans <| rfl)))
theorem mc_X3_isAhead (X : mv_X) (d : Nat) (h : mv_H) (a0 : Nat) (v1 : Int32) (v2 : Int32) : mv_call X (d + 1) 35 [.ref a0, .int v1, .int v2] h = mv_run X (mv_call X d) m_X3_isAhead 0 [.ref a0, .int v1, .int v2, .retAddr 0, .retAddr 0] [] h := rfl
theorem bk_X3_isAhead_0 (X : mv_X) (call : mv_G) (h : mv_H) (a0 : Nat) (v1 : Int32) (v2 : Int32) : mv_run X call m_X3_isAhead 0 [.ref a0, .int v1, .int v2, .retAddr 0, .retAddr 0] [] h =
  mv_gR X h a0 7 0 fun r1 =>
  mv_aR X h r1 v1 fun r2 =>
  mv_rcv X h [.ref r2] 4 (mv_clI call 5 [.ref r2] h mv_raise fun x1 h1 =>
  mv_gR X h1 a0 7 0 fun r3 =>
  mv_aR X h1 r3 v2 fun r4 =>
  mv_rcv X h1 [.ref r4] 4 (mv_clI call 5 [.ref r4] h1 mv_raise fun x2 h2 =>
  if (x1 - x2) = 0 then 
  (mv_gR X h2 a0 7 0 fun r5 =>
    mv_aR X h2 r5 v1 fun r6 =>
    mv_gI X h2 r6 4 4 fun x3 =>
    mv_gR X h2 a0 7 0 fun r7 =>
    mv_aR X h2 r7 v2 fun r8 =>
    mv_gI X h2 r8 4 4 fun x4 =>
    if (x3 - x4) = 0 then 
    (if v2 ≤ v1 then 
      ((some (.inl (some (.int (nZ 0))), h2)))
      else ((some (.inl (some (.int (nZ 1))), h2))))
    else (if (x3 - x4) ≤ 0 then 
      ((some (.inl (some (.int (nZ 0))), h2)))
      else ((some (.inl (some (.int (nZ 1))), h2)))))
  else (if (x1 - x2) ≤ 0 then 
    ((some (.inl (some (.int (nZ 0))), h2)))
    else ((some (.inl (some (.int (nZ 1))), h2)))))) :=
  (s_aload_n rfl rfl).trans <| (s_gf2 rfl rfl).trans <| c_gR fun r1 => (s_iload_n rfl rfl).trans <| (s_aaload rfl).trans <| c_aR fun r2 => (s_v1 [.ref r2] [] rfl rfl (fun _ => rfl)).trans <| c_rcv <| c_clI fun x1 h1 => (s_aload_n rfl rfl).trans <| (s_gf2 rfl rfl).trans <| c_gR fun r3 => (s_iload_n rfl rfl).trans <| (s_aaload rfl).trans <| c_aR fun r4 => (s_v1 [.ref r4] [.int x1] rfl rfl (fun _ => rfl)).trans <| c_rcv <| c_clI fun x2 h2 => (s_isub rfl).trans <| (s_istore_n (ls2 := [.ref a0, .int v1, .int v2, .int (x1 - x2), .retAddr 0]) rfl (fun _ => rfl)).trans <| (s_iload_n rfl rfl).trans <| (s_if_eq rfl).trans <| c_ite ((s_aload_n rfl rfl).trans <| (s_gf2 rfl rfl).trans <| c_gR fun r5 => (s_iload_n rfl rfl).trans <| (s_aaload rfl).trans <| c_aR fun r6 => (s_gf1 rfl rfl).trans <| c_gI fun x3 => (s_aload_n rfl rfl).trans <| (s_gf2 rfl rfl).trans <| c_gR fun r7 => (s_iload_n rfl rfl).trans <| (s_aaload rfl).trans <| c_aR fun r8 => (s_gf1 rfl rfl).trans <| c_gI fun x4 => (s_isub rfl).trans <| (s_istore (ls2 := [.ref a0, .int v1, .int v2, .int (x1 - x2), .int (x3 - x4)]) rfl (fun _ => rfl)).trans <| (s_iload rfl rfl).trans <| (s_if_eq rfl).trans <| c_ite ((s_iload_n rfl rfl).trans <| (s_iload_n rfl rfl).trans <| (s_icmp_ge rfl).trans <| c_ite ((s_iconst rfl).trans <| s_iretb rfl rfl) ((s_iconst rfl).trans <| (s_goto rfl).trans <| s_iretb rfl rfl)) ((s_iload rfl rfl).trans <| (s_if_le rfl).trans <| c_ite ((s_iconst rfl).trans <| (s_goto rfl).trans <| s_iretb rfl rfl) ((s_iconst rfl).trans <| (s_goto rfl).trans <| s_iretb rfl rfl))) ((s_iload_n rfl rfl).trans <| (s_if_le rfl).trans <| c_ite ((s_iconst rfl).trans <| s_iretb rfl rfl) ((s_iconst rfl).trans <| (s_goto rfl).trans <| s_iretb rfl rfl))
theorem mc_X3_topOf (X : mv_X) (d : Nat) (h : mv_H) (a0 : Nat) (v1 : Int32) : mv_call X (d + 1) 36 [.ref a0, .int v1] h = mv_run X (mv_call X d) m_X3_topOf 0 [.ref a0, .int v1] [] h := rfl
theorem bk_X3_topOf_0 (X : mv_X) (call : mv_G) (h : mv_H) (a0 : Nat) (v1 : Int32) : mv_run X call m_X3_topOf 0 [.ref a0, .int v1] [] h =
  mv_gR X h a0 7 0 fun r1 =>
  mv_aR X h r1 v1 fun r2 =>
  mv_rcv X h [.ref r2] 4 (mv_clI call 5 [.ref r2] h mv_raise fun x1 h1 =>
  mv_gR X h1 a0 7 1 fun r3 =>
  mv_rcv X h1 [.ref a0] 7 (mv_clI call 29 [.ref a0] h1 mv_raise fun x2 h2 =>
  mv_aI X h2 1 r3 x2 fun x3 =>
  (some (.inl (some (.int (((nZ 10) * v1) + (x1 * x3)))), h2)))) :=
  (s_bipush rfl).trans <| (s_iload_n rfl rfl).trans <| (s_imul rfl).trans <| (s_aload_n rfl rfl).trans <| (s_gf2 rfl rfl).trans <| c_gR fun r1 => (s_iload_n rfl rfl).trans <| (s_aaload rfl).trans <| c_aR fun r2 => (s_v1 [.ref r2] [.int ((nZ 10) * v1)] rfl rfl (fun _ => rfl)).trans <| c_rcv <| c_clI fun x1 h1 => (s_aload_n rfl rfl).trans <| (s_gf2 rfl rfl).trans <| c_gR fun r3 => (s_aload_n rfl rfl).trans <| (s_v1 [.ref a0] [.ref r3, .int x1, .int ((nZ 10) * v1)] rfl rfl (fun _ => rfl)).trans <| c_rcv <| c_clI fun x2 h2 => (s_iaload rfl).trans <| c_aI fun x3 => (s_imul rfl).trans <| (s_iadd rfl).trans <| s_iret1 rfl rfl
theorem mc_X3_calmOfTwoDays (X : mv_X) (d : Nat) (h : mv_H) (a0 : Nat) (v1 : Int32) : mv_call X (d + 1) 37 [.ref a0, .int v1] h = mv_run X (mv_call X d) m_X3_calmOfTwoDays 0 [.ref a0, .int v1, .retAddr 0, .retAddr 0, .retAddr 0] [] h := rfl
theorem bk_X3_calmOfTwoDays_0 (X : mv_X) (call : mv_G) (h : mv_H) (a0 : Nat) (v1 : Int32) : mv_run X call m_X3_calmOfTwoDays 0 [.ref a0, .int v1, .retAddr 0, .retAddr 0, .retAddr 0] [] h =
  mv_run X call m_X3_calmOfTwoDays 7 [.ref a0, .int v1, .int (nZ 0), .int (nZ 0), .int (nZ 0)] [] h :=
  (s_iconst rfl).trans <| (s_istore_n (ls2 := [.ref a0, .int v1, .int (nZ 0), .retAddr 0, .retAddr 0]) rfl (fun _ => rfl)).trans <| (s_iconst rfl).trans <| (s_istore_n (ls2 := [.ref a0, .int v1, .int (nZ 0), .int (nZ 0), .retAddr 0]) rfl (fun _ => rfl)).trans <| (s_iconst rfl).trans <| (s_istore (ls2 := [.ref a0, .int v1, .int (nZ 0), .int (nZ 0), .int (nZ 0)]) rfl (fun _ => rfl)).trans <| rfl
theorem bk_X3_calmOfTwoDays_7 (X : mv_X) (call : mv_G) (h : mv_H) (a0 : Nat) (v1 : Int32) (v2 : Int32) (v3 : Int32) (v4 : Int32) : mv_run X call m_X3_calmOfTwoDays 7 [.ref a0, .int v1, .int v2, .int v3, .int v4] [] h =
  if (nZ 48) ≤ v4 then 
  (mv_clI call 267 [.int v2, .int (nZ 24)] h mv_raise fun x1 h1 =>
    (some (.inl (some (.int x1)), h1)))
  else (mv_gR X h a0 7 1 fun r1 =>
    if (nZ 24) = 0 then none else 
    mv_aI X h 1 r1 (v4 - v4 / (nZ 24) * (nZ 24)) fun x2 =>
    mv_clI call 265 [.int x2] h mv_raise fun x3 h2 =>
    if v1 < x3 then 
    (mv_clI call 266 [.int v2, .int (nZ 0)] h2 mv_raise fun x4 h3 =>
      mv_run X call m_X3_calmOfTwoDays 7 [.ref a0, .int v1, .int x4, .int (nZ 0), .int (v4 + nZ 1)] [] h3)
    else (mv_clI call 266 [.int v2, .int (v3 + (nZ 1))] h2 mv_raise fun x5 h4 =>
      mv_run X call m_X3_calmOfTwoDays 7 [.ref a0, .int v1, .int x5, .int (v3 + (nZ 1)), .int (v4 + nZ 1)] [] h4)) :=
  (s_iload rfl rfl).trans <| (s_bipush rfl).trans <| (s_icmp_ge rfl).trans <| c_ite ((s_iload_n rfl rfl).trans <| (s_bipush rfl).trans <| (s_s1 [.int v2, .int (nZ 24)] [] rfl rfl (fun _ => rfl)).trans <| c_clI fun x1 h1 => s_iret1 rfl rfl) ((s_aload_n rfl rfl).trans <| (s_gf2 rfl rfl).trans <| c_gR fun r1 => (s_iload rfl rfl).trans <| (s_bipush rfl).trans <| (s_irem rfl).trans <| c_ite rfl <| (s_iaload rfl).trans <| c_aI fun x2 => (s_s1 [.int x2] [] rfl rfl (fun _ => rfl)).trans <| c_clI fun x3 h2 => (s_iload_n rfl rfl).trans <| (s_icmp_gt rfl).trans <| c_ite ((s_iconst rfl).trans <| (s_istore_n (ls2 := [.ref a0, .int v1, .int v2, .int (nZ 0), .int v4]) rfl (fun _ => rfl)).trans <| (s_iload_n rfl rfl).trans <| (s_iload_n rfl rfl).trans <| (s_s1 [.int v2, .int (nZ 0)] [] rfl rfl (fun _ => rfl)).trans <| c_clI fun x4 h3 => (s_istore_n (ls2 := [.ref a0, .int v1, .int x4, .int (nZ 0), .int v4]) rfl (fun _ => rfl)).trans <| (s_iinc (ls2 := [.ref a0, .int v1, .int x4, .int (nZ 0), .int (v4 + nZ 1)]) rfl rfl (fun _ => rfl)).trans <| (s_goto rfl).trans <| rfl) ((s_iload_n rfl rfl).trans <| (s_iconst rfl).trans <| (s_iadd rfl).trans <| (s_goto rfl).trans <| (s_istore_n (ls2 := [.ref a0, .int v1, .int v2, .int (v3 + (nZ 1)), .int v4]) rfl (fun _ => rfl)).trans <| (s_iload_n rfl rfl).trans <| (s_iload_n rfl rfl).trans <| (s_s1 [.int v2, .int (v3 + (nZ 1))] [] rfl rfl (fun _ => rfl)).trans <| c_clI fun x5 h4 => (s_istore_n (ls2 := [.ref a0, .int v1, .int x5, .int (v3 + (nZ 1)), .int v4]) rfl (fun _ => rfl)).trans <| (s_iinc (ls2 := [.ref a0, .int v1, .int x5, .int (v3 + (nZ 1)), .int (v4 + nZ 1)]) rfl rfl (fun _ => rfl)).trans <| (s_goto rfl).trans <| rfl))
theorem mc_X3_calmByTrying (X : mv_X) (d : Nat) (h : mv_H) (a0 : Nat) (v1 : Int32) : mv_call X (d + 1) 38 [.ref a0, .int v1] h = mv_run X (mv_call X d) m_X3_calmByTrying 0 [.ref a0, .int v1, .retAddr 0, .retAddr 0, .retAddr 0, .retAddr 0] [] h := rfl
theorem bk_X3_calmByTrying_0 (X : mv_X) (call : mv_G) (h : mv_H) (a0 : Nat) (v1 : Int32) : mv_run X call m_X3_calmByTrying 0 [.ref a0, .int v1, .retAddr 0, .retAddr 0, .retAddr 0, .retAddr 0] [] h =
  mv_run X call m_X3_calmByTrying 4 [.ref a0, .int v1, .int (nZ 0), .int (nZ 0), .retAddr 0, .retAddr 0] [] h :=
  (s_iconst rfl).trans <| (s_istore_n (ls2 := [.ref a0, .int v1, .int (nZ 0), .retAddr 0, .retAddr 0, .retAddr 0]) rfl (fun _ => rfl)).trans <| (s_iconst rfl).trans <| (s_istore_n (ls2 := [.ref a0, .int v1, .int (nZ 0), .int (nZ 0), .retAddr 0, .retAddr 0]) rfl (fun _ => rfl)).trans <| rfl
theorem bk_X3_calmByTrying_4 (X : mv_X) (call : mv_G) (h : mv_H) (a0 : Nat) (v1 : Int32) (v2 : Int32) (v3 : Int32) (j4 : Value) (j5 : Value) : mv_run X call m_X3_calmByTrying 4 [.ref a0, .int v1, .int v2, .int v3, j4, j5] [] h =
  if (nZ 24) ≤ v3 then 
  ((some (.inl (some (.int v2)), h)))
  else (mv_run X call m_X3_calmByTrying 13 [.ref a0, .int v1, .int v2, .int v3, .int (nZ 1), j5] [] h) :=
  (s_iload_n rfl rfl).trans <| (s_bipush rfl).trans <| (s_icmp_ge rfl).trans <| c_ite ((s_iload_n rfl rfl).trans <| s_iret1 rfl rfl) ((s_iconst rfl).trans <| (s_istore (ls2 := [.ref a0, .int v1, .int v2, .int v3, .int (nZ 1), j5]) rfl (fun _ => rfl)).trans <| rfl)
theorem bk_X3_calmByTrying_13 (X : mv_X) (call : mv_G) (h : mv_H) (a0 : Nat) (v1 : Int32) (v2 : Int32) (v3 : Int32) (v4 : Int32) (j5 : Value) : mv_run X call m_X3_calmByTrying 13 [.ref a0, .int v1, .int v2, .int v3, .int v4, j5] [] h =
  if (nZ 24) < v4 then 
  (mv_run X call m_X3_calmByTrying 4 [.ref a0, .int v1, .int v2, .int (v3 + nZ 1), .int v4, j5] [] h)
  else (if (nZ 24) = 0 then none else 
    mv_gR X h a0 7 1 fun r1 =>
    mv_aI X h 1 r1 (((v3 + v4) - (nZ 1)) - ((v3 + v4) - (nZ 1)) / (nZ 24) * (nZ 24)) fun x1 =>
    mv_clI call 265 [.int x1] h mv_raise fun x2 h1 =>
    if x2 ≤ v1 then 
    (mv_clI call 266 [.int v2, .int v4] h1 mv_raise fun x3 h2 =>
      mv_run X call m_X3_calmByTrying 13 [.ref a0, .int v1, .int x3, .int v3, .int (v4 + nZ 1), .int (((v3 + v4) - (nZ 1)) - ((v3 + v4) - (nZ 1)) / (nZ 24) * (nZ 24))] [] h2)
    else (mv_run X call m_X3_calmByTrying 4 [.ref a0, .int v1, .int v2, .int (v3 + nZ 1), .int v4, .int (((v3 + v4) - (nZ 1)) - ((v3 + v4) - (nZ 1)) / (nZ 24) * (nZ 24))] [] h1)) :=
  (s_iload rfl rfl).trans <| (s_bipush rfl).trans <| (s_icmp_gt rfl).trans <| c_ite ((s_iinc (ls2 := [.ref a0, .int v1, .int v2, .int (v3 + nZ 1), .int v4, j5]) rfl rfl (fun _ => rfl)).trans <| (s_goto rfl).trans <| rfl) ((s_iload_n rfl rfl).trans <| (s_iload rfl rfl).trans <| (s_iadd rfl).trans <| (s_iconst rfl).trans <| (s_isub rfl).trans <| (s_bipush rfl).trans <| (s_irem rfl).trans <| c_ite rfl <| (s_istore (ls2 := [.ref a0, .int v1, .int v2, .int v3, .int v4, .int (((v3 + v4) - (nZ 1)) - ((v3 + v4) - (nZ 1)) / (nZ 24) * (nZ 24))]) rfl (fun _ => rfl)).trans <| (s_aload_n rfl rfl).trans <| (s_gf2 rfl rfl).trans <| c_gR fun r1 => (s_iload rfl rfl).trans <| (s_iaload rfl).trans <| c_aI fun x1 => (s_s1 [.int x1] [] rfl rfl (fun _ => rfl)).trans <| c_clI fun x2 h1 => (s_iload_n rfl rfl).trans <| (s_icmp_le rfl).trans <| c_ite ((s_iload_n rfl rfl).trans <| (s_iload rfl rfl).trans <| (s_s1 [.int v2, .int v4] [] rfl rfl (fun _ => rfl)).trans <| c_clI fun x3 h2 => (s_istore_n (ls2 := [.ref a0, .int v1, .int x3, .int v3, .int v4, .int (((v3 + v4) - (nZ 1)) - ((v3 + v4) - (nZ 1)) / (nZ 24) * (nZ 24))]) rfl (fun _ => rfl)).trans <| (s_iinc (ls2 := [.ref a0, .int v1, .int x3, .int v3, .int (v4 + nZ 1), .int (((v3 + v4) - (nZ 1)) - ((v3 + v4) - (nZ 1)) / (nZ 24) * (nZ 24))]) rfl rfl (fun _ => rfl)).trans <| (s_goto rfl).trans <| rfl) ((s_goto rfl).trans <| (s_iinc (ls2 := [.ref a0, .int v1, .int v2, .int (v3 + nZ 1), .int v4, .int (((v3 + v4) - (nZ 1)) - ((v3 + v4) - (nZ 1)) / (nZ 24) * (nZ 24))]) rfl rfl (fun _ => rfl)).trans <| (s_goto rfl).trans <| rfl))
theorem mc_X3_fitsCrew (X : mv_X) (d : Nat) (h : mv_H) (a0 : Nat) (v1 : Int32) (v2 : Int32) : mv_call X (d + 1) 39 [.ref a0, .int v1, .int v2] h = mv_run X (mv_call X d) m_X3_fitsCrew 0 [.ref a0, .int v1, .int v2] [] h := rfl
theorem bk_X3_fitsCrew_0 (X : mv_X) (call : mv_G) (h : mv_H) (a0 : Nat) (v1 : Int32) (v2 : Int32) : mv_run X call m_X3_fitsCrew 0 [.ref a0, .int v1, .int v2] [] h =
  mv_rcv X h [.ref a0, .int v1] 7 (mv_clI call 28 [.ref a0, .int v1] h mv_raise fun x1 h1 =>
  if x1 = 0 then 
  ((some (.inl (some (.int (nZ 0))), h1)))
  else (mv_rcv X h1 [.ref a0, .int v2] 7 (mv_clI call 27 [.ref a0, .int v2] h1 mv_raise fun x2 h2 =>
    if x2 = 0 then 
    ((some (.inl (some (.int (nZ 0))), h2)))
    else (mv_gR X h2 a0 7 2 fun r1 =>
      mv_aR X h2 r1 v1 fun r2 =>
      mv_rcv X h2 [.ref a0] 7 (mv_clI call 29 [.ref a0] h2 mv_raise fun x3 h3 =>
      mv_rcv X h3 [.ref r2, .int x3] 9 (mv_clI call 67 [.ref r2, .int x3] h3 mv_raise fun x4 h4 =>
      if x4 = 0 then 
      ((some (.inl (some (.int (nZ 0))), h4)))
      else (mv_gR X h4 a0 7 0 fun r3 =>
        mv_aR X h4 r3 v2 fun r4 =>
        mv_rcv X h4 [.ref r4] 4 (mv_clI call 3 [.ref r4] h4 mv_raise fun x5 h5 =>
        mv_gR X h5 a0 7 2 fun r5 =>
        mv_aR X h5 r5 v1 fun r6 =>
        mv_gI X h5 r6 9 0 fun x6 =>
        if x5 < x6 then 
        ((some (.inl (some (.int (nZ 0))), h5)))
        else ((some (.inl (some (.int (nZ 1))), h5))))))))))) :=
  (s_aload_n rfl rfl).trans <| (s_iload_n rfl rfl).trans <| (s_v1 [.ref a0, .int v1] [] rfl rfl (fun _ => rfl)).trans <| c_rcv <| c_clI fun x1 h1 => (s_if_eq rfl).trans <| c_ite ((s_iconst rfl).trans <| s_iretb rfl rfl) ((s_aload_n rfl rfl).trans <| (s_iload_n rfl rfl).trans <| (s_v1 [.ref a0, .int v2] [] rfl rfl (fun _ => rfl)).trans <| c_rcv <| c_clI fun x2 h2 => (s_if_eq rfl).trans <| c_ite ((s_iconst rfl).trans <| s_iretb rfl rfl) ((s_aload_n rfl rfl).trans <| (s_gf2 rfl rfl).trans <| c_gR fun r1 => (s_iload_n rfl rfl).trans <| (s_aaload rfl).trans <| c_aR fun r2 => (s_aload_n rfl rfl).trans <| (s_v1 [.ref a0] [.ref r2] rfl rfl (fun _ => rfl)).trans <| c_rcv <| c_clI fun x3 h3 => (s_v1 [.ref r2, .int x3] [] rfl rfl (fun _ => rfl)).trans <| c_rcv <| c_clI fun x4 h4 => (s_if_eq rfl).trans <| c_ite ((s_iconst rfl).trans <| s_iretb rfl rfl) ((s_aload_n rfl rfl).trans <| (s_gf2 rfl rfl).trans <| c_gR fun r3 => (s_iload_n rfl rfl).trans <| (s_aaload rfl).trans <| c_aR fun r4 => (s_v1 [.ref r4] [] rfl rfl (fun _ => rfl)).trans <| c_rcv <| c_clI fun x5 h5 => (s_aload_n rfl rfl).trans <| (s_gf2 rfl rfl).trans <| c_gR fun r5 => (s_iload_n rfl rfl).trans <| (s_aaload rfl).trans <| c_aR fun r6 => (s_gf1 rfl rfl).trans <| c_gI fun x6 => (s_icmp_lt rfl).trans <| c_ite ((s_iconst rfl).trans <| s_iretb rfl rfl) ((s_iconst rfl).trans <| (s_goto rfl).trans <| s_iretb rfl rfl))))
theorem mc_X3_refusalOf (X : mv_X) (d : Nat) (h : mv_H) (a0 : Nat) (a1 : Nat) : mv_call X (d + 1) 40 [.ref a0, .ref a1] h = mv_run X (mv_call X d) m_X3_refusalOf 0 [.ref a0, .ref a1, .retAddr 0, .retAddr 0, .retAddr 0] [] h := rfl
theorem i_X3_refusalOf_0 : mv_look m_X3_refusalOf.2.2.2.1 32 0 = some (.aload_n 1, 0, []) := by decide +kernel
theorem i_X3_refusalOf_1 : mv_look m_X3_refusalOf.2.2.2.1 32 1 = some (.getfield 120, 0, []) := by decide +kernel
theorem i_X3_refusalOf_4 : mv_look m_X3_refusalOf.2.2.2.1 32 4 = some (.iconst 0, 0, []) := by decide +kernel
theorem i_X3_refusalOf_5 : mv_look m_X3_refusalOf.2.2.2.1 32 5 = some (.iaload, 0, []) := by decide +kernel
theorem i_X3_refusalOf_6 : mv_look m_X3_refusalOf.2.2.2.1 32 6 = some (.istore_n 2, 0, []) := by decide +kernel
theorem i_X3_refusalOf_7 : mv_look m_X3_refusalOf.2.2.2.1 32 7 = some (.aload_n 1, 0, []) := by decide +kernel
theorem i_X3_refusalOf_8 : mv_look m_X3_refusalOf.2.2.2.1 32 8 = some (.getfield 120, 0, []) := by decide +kernel
theorem i_X3_refusalOf_11 : mv_look m_X3_refusalOf.2.2.2.1 32 11 = some (.iconst 1, 0, []) := by decide +kernel
theorem i_X3_refusalOf_12 : mv_look m_X3_refusalOf.2.2.2.1 32 12 = some (.iaload, 0, []) := by decide +kernel
theorem i_X3_refusalOf_13 : mv_look m_X3_refusalOf.2.2.2.1 32 13 = some (.istore_n 3, 0, []) := by decide +kernel
theorem i_X3_refusalOf_14 : mv_look m_X3_refusalOf.2.2.2.1 32 14 = some (.aload_n 1, 0, []) := by decide +kernel
theorem i_X3_refusalOf_15 : mv_look m_X3_refusalOf.2.2.2.1 32 15 = some (.getfield 120, 0, []) := by decide +kernel
theorem i_X3_refusalOf_18 : mv_look m_X3_refusalOf.2.2.2.1 32 18 = some (.iconst 2, 0, []) := by decide +kernel
theorem i_X3_refusalOf_19 : mv_look m_X3_refusalOf.2.2.2.1 32 19 = some (.iaload, 0, []) := by decide +kernel
theorem i_X3_refusalOf_20 : mv_look m_X3_refusalOf.2.2.2.1 32 20 = some (.istore 4, 0, []) := by decide +kernel
theorem i_X3_refusalOf_22 : mv_look m_X3_refusalOf.2.2.2.1 32 22 = some (.aload_n 1, 0, []) := by decide +kernel
theorem i_X3_refusalOf_23 : mv_look m_X3_refusalOf.2.2.2.1 32 23 = some (.getfield 125, 0, []) := by decide +kernel
theorem i_X3_refusalOf_26 : mv_look m_X3_refusalOf.2.2.2.1 32 26 = some (.tableswitch 130 0 7 #[46, 61, 76, 83, 90, 97, 104, 121], 156, [(0, 72), (1, 87), (2, 102), (3, 109), (4, 116), (5, 123), (6, 130), (7, 147)]) := by decide +kernel
theorem i_X3_refusalOf_72 : mv_look m_X3_refusalOf.2.2.2.1 32 72 = some (.aload_n 0, 0, []) := by decide +kernel
theorem i_X3_refusalOf_73 : mv_look m_X3_refusalOf.2.2.2.1 32 73 = some (.iload_n 2, 0, []) := by decide +kernel
theorem i_X3_refusalOf_74 : mv_look m_X3_refusalOf.2.2.2.1 32 74 = some (.iload_n 3, 0, []) := by decide +kernel
theorem i_X3_refusalOf_75 : mv_look m_X3_refusalOf.2.2.2.1 32 75 = some (.iload 4, 0, []) := by decide +kernel
theorem i_X3_refusalOf_77 : mv_look m_X3_refusalOf.2.2.2.1 32 77 = some (.aload_n 1, 0, []) := by decide +kernel
theorem i_X3_refusalOf_78 : mv_look m_X3_refusalOf.2.2.2.1 32 78 = some (.getfield 120, 0, []) := by decide +kernel
theorem i_X3_refusalOf_81 : mv_look m_X3_refusalOf.2.2.2.1 32 81 = some (.iconst 3, 0, []) := by decide +kernel
theorem i_X3_refusalOf_82 : mv_look m_X3_refusalOf.2.2.2.1 32 82 = some (.iaload, 0, []) := by decide +kernel
theorem i_X3_refusalOf_83 : mv_look m_X3_refusalOf.2.2.2.1 32 83 = some (.invokevirtual 128, 0, []) := by decide +kernel
theorem i_X3_refusalOf_86 : mv_look m_X3_refusalOf.2.2.2.1 32 86 = some (.ireturn, 0, []) := by decide +kernel
theorem i_X3_refusalOf_87 : mv_look m_X3_refusalOf.2.2.2.1 32 87 = some (.aload_n 0, 0, []) := by decide +kernel
theorem i_X3_refusalOf_88 : mv_look m_X3_refusalOf.2.2.2.1 32 88 = some (.iload_n 2, 0, []) := by decide +kernel
theorem i_X3_refusalOf_89 : mv_look m_X3_refusalOf.2.2.2.1 32 89 = some (.invokevirtual 108, 0, []) := by decide +kernel
theorem i_X3_refusalOf_92 : mv_look m_X3_refusalOf.2.2.2.1 32 92 = some (.ifCond .eq 7, 99, []) := by decide +kernel
theorem i_X3_refusalOf_95 : mv_look m_X3_refusalOf.2.2.2.1 32 95 = some (.iconst 0, 0, []) := by decide +kernel
theorem i_X3_refusalOf_96 : mv_look m_X3_refusalOf.2.2.2.1 32 96 = some (.goto 5, 101, []) := by decide +kernel
theorem i_X3_refusalOf_99 : mv_look m_X3_refusalOf.2.2.2.1 32 99 = some (.bipush 9, 0, []) := by decide +kernel
theorem i_X3_refusalOf_101 : mv_look m_X3_refusalOf.2.2.2.1 32 101 = some (.ireturn, 0, []) := by decide +kernel
theorem i_X3_refusalOf_102 : mv_look m_X3_refusalOf.2.2.2.1 32 102 = some (.aload_n 0, 0, []) := by decide +kernel
theorem i_X3_refusalOf_103 : mv_look m_X3_refusalOf.2.2.2.1 32 103 = some (.iload_n 2, 0, []) := by decide +kernel
theorem i_X3_refusalOf_104 : mv_look m_X3_refusalOf.2.2.2.1 32 104 = some (.iload_n 3, 0, []) := by decide +kernel
theorem i_X3_refusalOf_105 : mv_look m_X3_refusalOf.2.2.2.1 32 105 = some (.invokevirtual 132, 0, []) := by decide +kernel
theorem i_X3_refusalOf_108 : mv_look m_X3_refusalOf.2.2.2.1 32 108 = some (.ireturn, 0, []) := by decide +kernel
theorem i_X3_refusalOf_109 : mv_look m_X3_refusalOf.2.2.2.1 32 109 = some (.aload_n 0, 0, []) := by decide +kernel
theorem i_X3_refusalOf_110 : mv_look m_X3_refusalOf.2.2.2.1 32 110 = some (.iload_n 2, 0, []) := by decide +kernel
theorem i_X3_refusalOf_111 : mv_look m_X3_refusalOf.2.2.2.1 32 111 = some (.iload_n 3, 0, []) := by decide +kernel
theorem i_X3_refusalOf_112 : mv_look m_X3_refusalOf.2.2.2.1 32 112 = some (.invokevirtual 135, 0, []) := by decide +kernel
theorem i_X3_refusalOf_115 : mv_look m_X3_refusalOf.2.2.2.1 32 115 = some (.ireturn, 0, []) := by decide +kernel
theorem i_X3_refusalOf_116 : mv_look m_X3_refusalOf.2.2.2.1 32 116 = some (.aload_n 0, 0, []) := by decide +kernel
theorem i_X3_refusalOf_117 : mv_look m_X3_refusalOf.2.2.2.1 32 117 = some (.iload_n 2, 0, []) := by decide +kernel
theorem i_X3_refusalOf_118 : mv_look m_X3_refusalOf.2.2.2.1 32 118 = some (.iload_n 3, 0, []) := by decide +kernel
theorem i_X3_refusalOf_119 : mv_look m_X3_refusalOf.2.2.2.1 32 119 = some (.invokevirtual 138, 0, []) := by decide +kernel
theorem i_X3_refusalOf_122 : mv_look m_X3_refusalOf.2.2.2.1 32 122 = some (.ireturn, 0, []) := by decide +kernel
theorem i_X3_refusalOf_123 : mv_look m_X3_refusalOf.2.2.2.1 32 123 = some (.aload_n 0, 0, []) := by decide +kernel
theorem i_X3_refusalOf_124 : mv_look m_X3_refusalOf.2.2.2.1 32 124 = some (.iload_n 2, 0, []) := by decide +kernel
theorem i_X3_refusalOf_125 : mv_look m_X3_refusalOf.2.2.2.1 32 125 = some (.iload_n 3, 0, []) := by decide +kernel
theorem i_X3_refusalOf_126 : mv_look m_X3_refusalOf.2.2.2.1 32 126 = some (.invokevirtual 141, 0, []) := by decide +kernel
theorem i_X3_refusalOf_129 : mv_look m_X3_refusalOf.2.2.2.1 32 129 = some (.ireturn, 0, []) := by decide +kernel
theorem i_X3_refusalOf_130 : mv_look m_X3_refusalOf.2.2.2.1 32 130 = some (.iload_n 2, 0, []) := by decide +kernel
theorem i_X3_refusalOf_131 : mv_look m_X3_refusalOf.2.2.2.1 32 131 = some (.iconst 1, 0, []) := by decide +kernel
theorem i_X3_refusalOf_132 : mv_look m_X3_refusalOf.2.2.2.1 32 132 = some (.bipush 48, 0, []) := by decide +kernel
theorem i_X3_refusalOf_134 : mv_look m_X3_refusalOf.2.2.2.1 32 134 = some (.invokestatic 144, 0, []) := by decide +kernel
theorem i_X3_refusalOf_137 : mv_look m_X3_refusalOf.2.2.2.1 32 137 = some (.ifCond .eq 7, 144, []) := by decide +kernel
theorem i_X3_refusalOf_140 : mv_look m_X3_refusalOf.2.2.2.1 32 140 = some (.iconst 0, 0, []) := by decide +kernel
theorem i_X3_refusalOf_141 : mv_look m_X3_refusalOf.2.2.2.1 32 141 = some (.goto 5, 146, []) := by decide +kernel
theorem i_X3_refusalOf_144 : mv_look m_X3_refusalOf.2.2.2.1 32 144 = some (.bipush 8, 0, []) := by decide +kernel
theorem i_X3_refusalOf_146 : mv_look m_X3_refusalOf.2.2.2.1 32 146 = some (.ireturn, 0, []) := by decide +kernel
theorem i_X3_refusalOf_147 : mv_look m_X3_refusalOf.2.2.2.1 32 147 = some (.aload_n 0, 0, []) := by decide +kernel
theorem i_X3_refusalOf_148 : mv_look m_X3_refusalOf.2.2.2.1 32 148 = some (.iload_n 2, 0, []) := by decide +kernel
theorem i_X3_refusalOf_149 : mv_look m_X3_refusalOf.2.2.2.1 32 149 = some (.iload_n 3, 0, []) := by decide +kernel
theorem i_X3_refusalOf_150 : mv_look m_X3_refusalOf.2.2.2.1 32 150 = some (.iload 4, 0, []) := by decide +kernel
theorem i_X3_refusalOf_152 : mv_look m_X3_refusalOf.2.2.2.1 32 152 = some (.invokevirtual 148, 0, []) := by decide +kernel
theorem i_X3_refusalOf_155 : mv_look m_X3_refusalOf.2.2.2.1 32 155 = some (.ireturn, 0, []) := by decide +kernel
theorem i_X3_refusalOf_156 : mv_look m_X3_refusalOf.2.2.2.1 32 156 = some (.aload_n 0, 0, []) := by decide +kernel
theorem i_X3_refusalOf_157 : mv_look m_X3_refusalOf.2.2.2.1 32 157 = some (.iload_n 2, 0, []) := by decide +kernel
theorem i_X3_refusalOf_158 : mv_look m_X3_refusalOf.2.2.2.1 32 158 = some (.invokevirtual 104, 0, []) := by decide +kernel
theorem i_X3_refusalOf_161 : mv_look m_X3_refusalOf.2.2.2.1 32 161 = some (.ifCond .eq 7, 168, []) := by decide +kernel
theorem i_X3_refusalOf_164 : mv_look m_X3_refusalOf.2.2.2.1 32 164 = some (.iconst 0, 0, []) := by decide +kernel
theorem i_X3_refusalOf_165 : mv_look m_X3_refusalOf.2.2.2.1 32 165 = some (.goto 5, 170, []) := by decide +kernel
theorem i_X3_refusalOf_168 : mv_look m_X3_refusalOf.2.2.2.1 32 168 = some (.bipush 10, 0, []) := by decide +kernel
theorem i_X3_refusalOf_170 : mv_look m_X3_refusalOf.2.2.2.1 32 170 = some (.ireturn, 0, []) := by decide +kernel
theorem bk_X3_refusalOf_0 (X : mv_X) (call : mv_G) (h : mv_H) (a0 : Nat) (a1 : Nat) : mv_run X call m_X3_refusalOf 0 [.ref a0, .ref a1, .retAddr 0, .retAddr 0, .retAddr 0] [] h =
  mv_gR X h a1 5 2 fun r1 =>
  mv_aI X h 1 r1 (nZ 0) fun x1 =>
  mv_gR X h a1 5 2 fun r2 =>
  mv_aI X h 1 r2 (nZ 1) fun x2 =>
  mv_gR X h a1 5 2 fun r3 =>
  mv_aI X h 1 r3 (nZ 2) fun x3 =>
  mv_gI X h a1 5 0 fun x4 =>
  if x4 = nZ 0 then (mv_gR X h a1 5 2 fun r4 =>
    mv_aI X h 1 r4 (nZ 3) fun x5 =>
    mv_rcv X h [.ref a0, .int x1, .int x2, .int x3, .int x5] 7 (mv_clI call 41 [.ref a0, .int x1, .int x2, .int x3, .int x5] h mv_raise fun x6 h1 =>
    (some (.inl (some (.int x6)), h1)))) else
  if x4 = nZ 1 then (mv_rcv X h [.ref a0, .int x1] 7 (mv_clI call 27 [.ref a0, .int x1] h mv_raise fun x7 h2 =>
    if x7 = 0 then 
    ((some (.inl (some (.int (nZ 9))), h2)))
    else ((some (.inl (some (.int (nZ 0))), h2))))) else
  if x4 = nZ 2 then (mv_rcv X h [.ref a0, .int x1, .int x2] 7 (mv_clI call 42 [.ref a0, .int x1, .int x2] h mv_raise fun x8 h3 =>
    (some (.inl (some (.int x8)), h3)))) else
  if x4 = nZ 3 then (mv_rcv X h [.ref a0, .int x1, .int x2] 7 (mv_clI call 43 [.ref a0, .int x1, .int x2] h mv_raise fun x9 h4 =>
    (some (.inl (some (.int x9)), h4)))) else
  if x4 = nZ 4 then (mv_rcv X h [.ref a0, .int x1, .int x2] 7 (mv_clI call 44 [.ref a0, .int x1, .int x2] h mv_raise fun x10 h5 =>
    (some (.inl (some (.int x10)), h5)))) else
  if x4 = nZ 5 then (mv_rcv X h [.ref a0, .int x1, .int x2] 7 (mv_clI call 45 [.ref a0, .int x1, .int x2] h mv_raise fun x11 h6 =>
    (some (.inl (some (.int x11)), h6)))) else
  if x4 = nZ 6 then (mv_clI call 146 [.int x1, .int (nZ 1), .int (nZ 48)] h mv_raise fun x12 h7 =>
    if x12 = 0 then 
    ((some (.inl (some (.int (nZ 8))), h7)))
    else ((some (.inl (some (.int (nZ 0))), h7)))) else
  if x4 = nZ 7 then (mv_rcv X h [.ref a0, .int x1, .int x2, .int x3] 7 (mv_clI call 46 [.ref a0, .int x1, .int x2, .int x3] h mv_raise fun x13 h8 =>
    (some (.inl (some (.int x13)), h8)))) else
   (mv_rcv X h [.ref a0, .int x1] 7 (mv_clI call 28 [.ref a0, .int x1] h mv_raise fun x14 h9 =>
    if x14 = 0 then 
    ((some (.inl (some (.int (nZ 10))), h9)))
    else ((some (.inl (some (.int (nZ 0))), h9))))) :=
  (s_aload_n i_X3_refusalOf_0 rfl).trans <| (s_gf2 i_X3_refusalOf_1 rfl).trans <| c_gR fun r1 => (s_iconst i_X3_refusalOf_4).trans <| (s_iaload i_X3_refusalOf_5).trans <| c_aI fun x1 => (s_istore_n (ls2 := [.ref a0, .ref a1, .int x1, .retAddr 0, .retAddr 0]) i_X3_refusalOf_6 (fun _ => rfl)).trans <| (s_aload_n i_X3_refusalOf_7 rfl).trans <| (s_gf2 i_X3_refusalOf_8 rfl).trans <| c_gR fun r2 => (s_iconst i_X3_refusalOf_11).trans <| (s_iaload i_X3_refusalOf_12).trans <| c_aI fun x2 => (s_istore_n (ls2 := [.ref a0, .ref a1, .int x1, .int x2, .retAddr 0]) i_X3_refusalOf_13 (fun _ => rfl)).trans <| (s_aload_n i_X3_refusalOf_14 rfl).trans <| (s_gf2 i_X3_refusalOf_15 rfl).trans <| c_gR fun r3 => (s_iconst i_X3_refusalOf_18).trans <| (s_iaload i_X3_refusalOf_19).trans <| c_aI fun x3 => (s_istore (ls2 := [.ref a0, .ref a1, .int x1, .int x2, .int x3]) i_X3_refusalOf_20 (fun _ => rfl)).trans <| (s_aload_n i_X3_refusalOf_22 rfl).trans <| (s_gf1 i_X3_refusalOf_23 rfl).trans <| c_gI fun x4 => (s_tsw i_X3_refusalOf_26).trans <| c_swc ((s_aload_n i_X3_refusalOf_72 rfl).trans <| (s_iload_n i_X3_refusalOf_73 rfl).trans <| (s_iload_n i_X3_refusalOf_74 rfl).trans <| (s_iload i_X3_refusalOf_75 rfl).trans <| (s_aload_n i_X3_refusalOf_77 rfl).trans <| (s_gf2 i_X3_refusalOf_78 rfl).trans <| c_gR fun r4 => (s_iconst i_X3_refusalOf_81).trans <| (s_iaload i_X3_refusalOf_82).trans <| c_aI fun x5 => (s_v1 [.ref a0, .int x1, .int x2, .int x3, .int x5] [] i_X3_refusalOf_83 rfl (fun _ => rfl)).trans <| c_rcv <| c_clI fun x6 h1 => s_iret1 i_X3_refusalOf_86 rfl) <| c_swc ((s_aload_n i_X3_refusalOf_87 rfl).trans <| (s_iload_n i_X3_refusalOf_88 rfl).trans <| (s_v1 [.ref a0, .int x1] [] i_X3_refusalOf_89 rfl (fun _ => rfl)).trans <| c_rcv <| c_clI fun x7 h2 => (s_if_eq i_X3_refusalOf_92).trans <| c_ite ((s_bipush i_X3_refusalOf_99).trans <| s_iret1 i_X3_refusalOf_101 rfl) ((s_iconst i_X3_refusalOf_95).trans <| (s_goto i_X3_refusalOf_96).trans <| s_iret1 i_X3_refusalOf_101 rfl)) <| c_swc ((s_aload_n i_X3_refusalOf_102 rfl).trans <| (s_iload_n i_X3_refusalOf_103 rfl).trans <| (s_iload_n i_X3_refusalOf_104 rfl).trans <| (s_v1 [.ref a0, .int x1, .int x2] [] i_X3_refusalOf_105 rfl (fun _ => rfl)).trans <| c_rcv <| c_clI fun x8 h3 => s_iret1 i_X3_refusalOf_108 rfl) <| c_swc ((s_aload_n i_X3_refusalOf_109 rfl).trans <| (s_iload_n i_X3_refusalOf_110 rfl).trans <| (s_iload_n i_X3_refusalOf_111 rfl).trans <| (s_v1 [.ref a0, .int x1, .int x2] [] i_X3_refusalOf_112 rfl (fun _ => rfl)).trans <| c_rcv <| c_clI fun x9 h4 => s_iret1 i_X3_refusalOf_115 rfl) <| c_swc ((s_aload_n i_X3_refusalOf_116 rfl).trans <| (s_iload_n i_X3_refusalOf_117 rfl).trans <| (s_iload_n i_X3_refusalOf_118 rfl).trans <| (s_v1 [.ref a0, .int x1, .int x2] [] i_X3_refusalOf_119 rfl (fun _ => rfl)).trans <| c_rcv <| c_clI fun x10 h5 => s_iret1 i_X3_refusalOf_122 rfl) <| c_swc ((s_aload_n i_X3_refusalOf_123 rfl).trans <| (s_iload_n i_X3_refusalOf_124 rfl).trans <| (s_iload_n i_X3_refusalOf_125 rfl).trans <| (s_v1 [.ref a0, .int x1, .int x2] [] i_X3_refusalOf_126 rfl (fun _ => rfl)).trans <| c_rcv <| c_clI fun x11 h6 => s_iret1 i_X3_refusalOf_129 rfl) <| c_swc ((s_iload_n i_X3_refusalOf_130 rfl).trans <| (s_iconst i_X3_refusalOf_131).trans <| (s_bipush i_X3_refusalOf_132).trans <| (s_s1 [.int x1, .int (nZ 1), .int (nZ 48)] [] i_X3_refusalOf_134 rfl (fun _ => rfl)).trans <| c_clI fun x12 h7 => (s_if_eq i_X3_refusalOf_137).trans <| c_ite ((s_bipush i_X3_refusalOf_144).trans <| s_iret1 i_X3_refusalOf_146 rfl) ((s_iconst i_X3_refusalOf_140).trans <| (s_goto i_X3_refusalOf_141).trans <| s_iret1 i_X3_refusalOf_146 rfl)) <| c_swc ((s_aload_n i_X3_refusalOf_147 rfl).trans <| (s_iload_n i_X3_refusalOf_148 rfl).trans <| (s_iload_n i_X3_refusalOf_149 rfl).trans <| (s_iload i_X3_refusalOf_150 rfl).trans <| (s_v1 [.ref a0, .int x1, .int x2, .int x3] [] i_X3_refusalOf_152 rfl (fun _ => rfl)).trans <| c_rcv <| c_clI fun x13 h8 => s_iret1 i_X3_refusalOf_155 rfl) <| c_swn ((s_aload_n i_X3_refusalOf_156 rfl).trans <| (s_iload_n i_X3_refusalOf_157 rfl).trans <| (s_v1 [.ref a0, .int x1] [] i_X3_refusalOf_158 rfl (fun _ => rfl)).trans <| c_rcv <| c_clI fun x14 h9 => (s_if_eq i_X3_refusalOf_161).trans <| c_ite ((s_bipush i_X3_refusalOf_168).trans <| s_iret1 i_X3_refusalOf_170 rfl) ((s_iconst i_X3_refusalOf_164).trans <| (s_goto i_X3_refusalOf_165).trans <| s_iret1 i_X3_refusalOf_170 rfl))
theorem mc_X3_refusalToMoor (X : mv_X) (d : Nat) (h : mv_H) (a0 : Nat) (v1 : Int32) (v2 : Int32) (v3 : Int32) (v4 : Int32) : mv_call X (d + 1) 41 [.ref a0, .int v1, .int v2, .int v3, .int v4] h = mv_run X (mv_call X d) m_X3_refusalToMoor 0 [.ref a0, .int v1, .int v2, .int v3, .int v4] [] h := rfl
theorem bk_X3_refusalToMoor_0 (X : mv_X) (call : mv_G) (h : mv_H) (a0 : Nat) (v1 : Int32) (v2 : Int32) (v3 : Int32) (v4 : Int32) : mv_run X call m_X3_refusalToMoor 0 [.ref a0, .int v1, .int v2, .int v3, .int v4] [] h =
  mv_clI call 146 [.int v1, .int (nZ 0), .int (nZ 9)] h mv_raise fun x1 h1 =>
  if x1 = 0 then 
  ((some (.inl (some (.int (nZ 8))), h1)))
  else (mv_clI call 146 [.int v2, .int (nZ 1), .int (nZ 99)] h1 mv_raise fun x2 h2 =>
    if x2 = 0 then 
    ((some (.inl (some (.int (nZ 8))), h2)))
    else (mv_clI call 146 [.int v3, .int (nZ 1), .int (nZ 40)] h2 mv_raise fun x3 h3 =>
      if x3 = 0 then 
      ((some (.inl (some (.int (nZ 8))), h3)))
      else (mv_clI call 146 [.int v4, .int (nZ 1), .int (nZ 60)] h3 mv_raise fun x4 h4 =>
        if x4 = 0 then 
        ((some (.inl (some (.int (nZ 8))), h4)))
        else (mv_rcv X h4 [.ref a0, .int v1] 7 (mv_clI call 27 [.ref a0, .int v1] h4 mv_raise fun x5 h5 =>
          if x5 = 0 then 
          ((some (.inl (some (.int (nZ 0))), h5)))
          else ((some (.inl (some (.int (nZ 2))), h5)))))))) :=
  (s_iload_n rfl rfl).trans <| (s_iconst rfl).trans <| (s_bipush rfl).trans <| (s_s1 [.int v1, .int (nZ 0), .int (nZ 9)] [] rfl rfl (fun _ => rfl)).trans <| c_clI fun x1 h1 => (s_if_eq rfl).trans <| c_ite ((s_bipush rfl).trans <| s_iret1 rfl rfl) ((s_iload_n rfl rfl).trans <| (s_iconst rfl).trans <| (s_bipush rfl).trans <| (s_s1 [.int v2, .int (nZ 1), .int (nZ 99)] [] rfl rfl (fun _ => rfl)).trans <| c_clI fun x2 h2 => (s_if_eq rfl).trans <| c_ite ((s_bipush rfl).trans <| s_iret1 rfl rfl) ((s_iload_n rfl rfl).trans <| (s_iconst rfl).trans <| (s_bipush rfl).trans <| (s_s1 [.int v3, .int (nZ 1), .int (nZ 40)] [] rfl rfl (fun _ => rfl)).trans <| c_clI fun x3 h3 => (s_if_eq rfl).trans <| c_ite ((s_bipush rfl).trans <| s_iret1 rfl rfl) ((s_iload rfl rfl).trans <| (s_iconst rfl).trans <| (s_bipush rfl).trans <| (s_s1 [.int v4, .int (nZ 1), .int (nZ 60)] [] rfl rfl (fun _ => rfl)).trans <| c_clI fun x4 h4 => (s_if_ne rfl).trans <| c_ite ((s_bipush rfl).trans <| s_iret1 rfl rfl) ((s_aload_n rfl rfl).trans <| (s_iload_n rfl rfl).trans <| (s_v1 [.ref a0, .int v1] [] rfl rfl (fun _ => rfl)).trans <| c_rcv <| c_clI fun x5 h5 => (s_if_eq rfl).trans <| c_ite ((s_iconst rfl).trans <| s_iret1 rfl rfl) ((s_iconst rfl).trans <| (s_goto rfl).trans <| s_iret1 rfl rfl)))))
theorem mc_X3_refusalToLoad (X : mv_X) (d : Nat) (h : mv_H) (a0 : Nat) (v1 : Int32) (v2 : Int32) : mv_call X (d + 1) 42 [.ref a0, .int v1, .int v2] h = mv_run X (mv_call X d) m_X3_refusalToLoad 0 [.ref a0, .int v1, .int v2] [] h := rfl
theorem bk_X3_refusalToLoad_0 (X : mv_X) (call : mv_G) (h : mv_H) (a0 : Nat) (v1 : Int32) (v2 : Int32) : mv_run X call m_X3_refusalToLoad 0 [.ref a0, .int v1, .int v2] [] h =
  mv_rcv X h [.ref a0, .int v1] 7 (mv_clI call 27 [.ref a0, .int v1] h mv_raise fun x1 h1 =>
  if x1 = 0 then 
  ((some (.inl (some (.int (nZ 9))), h1)))
  else (mv_clI call 146 [.int v2, .int (nZ 1), .int (nZ 20)] h1 mv_raise fun x2 h2 =>
    if x2 = 0 then 
    ((some (.inl (some (.int (nZ 8))), h2)))
    else (mv_gR X h2 a0 7 0 fun r1 =>
      mv_aR X h2 r1 v1 fun r2 =>
      mv_gI X h2 r2 4 5 fun x3 =>
      if x3 < (nZ 6) then 
      ((some (.inl (some (.int (nZ 0))), h2)))
      else ((some (.inl (some (.int (nZ 1))), h2)))))) :=
  (s_aload_n rfl rfl).trans <| (s_iload_n rfl rfl).trans <| (s_v1 [.ref a0, .int v1] [] rfl rfl (fun _ => rfl)).trans <| c_rcv <| c_clI fun x1 h1 => (s_if_ne rfl).trans <| c_ite ((s_bipush rfl).trans <| s_iret1 rfl rfl) ((s_iload_n rfl rfl).trans <| (s_iconst rfl).trans <| (s_bipush rfl).trans <| (s_s1 [.int v2, .int (nZ 1), .int (nZ 20)] [] rfl rfl (fun _ => rfl)).trans <| c_clI fun x2 h2 => (s_if_ne rfl).trans <| c_ite ((s_bipush rfl).trans <| s_iret1 rfl rfl) ((s_aload_n rfl rfl).trans <| (s_gf2 rfl rfl).trans <| c_gR fun r1 => (s_iload_n rfl rfl).trans <| (s_aaload rfl).trans <| c_aR fun r2 => (s_gf1 rfl rfl).trans <| c_gI fun x3 => (s_bipush rfl).trans <| (s_icmp_lt rfl).trans <| c_ite ((s_iconst rfl).trans <| s_iret1 rfl rfl) ((s_iconst rfl).trans <| (s_goto rfl).trans <| s_iret1 rfl rfl)))
theorem mc_X3_refusalToDrop (X : mv_X) (d : Nat) (h : mv_H) (a0 : Nat) (v1 : Int32) (v2 : Int32) : mv_call X (d + 1) 43 [.ref a0, .int v1, .int v2] h = mv_run X (mv_call X d) m_X3_refusalToDrop 0 [.ref a0, .int v1, .int v2] [] h := rfl
theorem bk_X3_refusalToDrop_0 (X : mv_X) (call : mv_G) (h : mv_H) (a0 : Nat) (v1 : Int32) (v2 : Int32) : mv_run X call m_X3_refusalToDrop 0 [.ref a0, .int v1, .int v2] [] h =
  mv_rcv X h [.ref a0, .int v1] 7 (mv_clI call 27 [.ref a0, .int v1] h mv_raise fun x1 h1 =>
  if x1 = 0 then 
  ((some (.inl (some (.int (nZ 9))), h1)))
  else (mv_gR X h1 a0 7 0 fun r1 =>
    mv_aR X h1 r1 v1 fun r2 =>
    mv_rcv X h1 [.ref r2, .int v2] 4 (mv_clI call 8 [.ref r2, .int v2] h1 mv_raise fun x2 h2 =>
    if x2 = 0 then 
    ((some (.inl (some (.int (nZ 10))), h2)))
    else ((some (.inl (some (.int (nZ 0))), h2)))))) :=
  (s_aload_n rfl rfl).trans <| (s_iload_n rfl rfl).trans <| (s_v1 [.ref a0, .int v1] [] rfl rfl (fun _ => rfl)).trans <| c_rcv <| c_clI fun x1 h1 => (s_if_ne rfl).trans <| c_ite ((s_bipush rfl).trans <| s_iret1 rfl rfl) ((s_aload_n rfl rfl).trans <| (s_gf2 rfl rfl).trans <| c_gR fun r1 => (s_iload_n rfl rfl).trans <| (s_aaload rfl).trans <| c_aR fun r2 => (s_iload_n rfl rfl).trans <| (s_v1 [.ref r2, .int v2] [] rfl rfl (fun _ => rfl)).trans <| c_rcv <| c_clI fun x2 h2 => (s_if_eq rfl).trans <| c_ite ((s_bipush rfl).trans <| s_iret1 rfl rfl) ((s_iconst rfl).trans <| (s_goto rfl).trans <| s_iret1 rfl rfl))
theorem mc_X3_refusalToRise (X : mv_X) (d : Nat) (h : mv_H) (a0 : Nat) (v1 : Int32) (v2 : Int32) : mv_call X (d + 1) 44 [.ref a0, .int v1, .int v2] h = mv_run X (mv_call X d) m_X3_refusalToRise 0 [.ref a0, .int v1, .int v2] [] h := rfl
theorem bk_X3_refusalToRise_0 (X : mv_X) (call : mv_G) (h : mv_H) (a0 : Nat) (v1 : Int32) (v2 : Int32) : mv_run X call m_X3_refusalToRise 0 [.ref a0, .int v1, .int v2] [] h =
  mv_rcv X h [.ref a0, .int v1] 7 (mv_clI call 27 [.ref a0, .int v1] h mv_raise fun x1 h1 =>
  if x1 = 0 then 
  ((some (.inl (some (.int (nZ 9))), h1)))
  else (mv_clI call 146 [.int v2, .int (nZ 1), .int (nZ 40)] h1 mv_raise fun x2 h2 =>
    if x2 = 0 then 
    ((some (.inl (some (.int (nZ 8))), h2)))
    else (mv_gR X h2 a0 7 0 fun r1 =>
      mv_aR X h2 r1 v1 fun r2 =>
      mv_rcv X h2 [.ref r2] 4 (mv_clI call 5 [.ref r2] h2 mv_raise fun x3 h3 =>
      if x3 < v2 then 
      (mv_gR X h3 a0 7 0 fun r3 =>
        mv_aR X h3 r3 v1 fun r4 =>
        mv_rcv X h3 [.ref r4, .int (nZ 0)] 4 (mv_clI call 4 [.ref r4, .int (nZ 0)] h3 mv_raise fun x4 h4 =>
        if v2 ≤ x4 then 
        ((some (.inl (some (.int (nZ 0))), h4)))
        else ((some (.inl (some (.int (nZ 3))), h4)))))
      else ((some (.inl (some (.int (nZ 4))), h3))))))) :=
  (s_aload_n rfl rfl).trans <| (s_iload_n rfl rfl).trans <| (s_v1 [.ref a0, .int v1] [] rfl rfl (fun _ => rfl)).trans <| c_rcv <| c_clI fun x1 h1 => (s_if_ne rfl).trans <| c_ite ((s_bipush rfl).trans <| s_iret1 rfl rfl) ((s_iload_n rfl rfl).trans <| (s_iconst rfl).trans <| (s_bipush rfl).trans <| (s_s1 [.int v2, .int (nZ 1), .int (nZ 40)] [] rfl rfl (fun _ => rfl)).trans <| c_clI fun x2 h2 => (s_if_ne rfl).trans <| c_ite ((s_bipush rfl).trans <| s_iret1 rfl rfl) ((s_aload_n rfl rfl).trans <| (s_gf2 rfl rfl).trans <| c_gR fun r1 => (s_iload_n rfl rfl).trans <| (s_aaload rfl).trans <| c_aR fun r2 => (s_v1 [.ref r2] [] rfl rfl (fun _ => rfl)).trans <| c_rcv <| c_clI fun x3 h3 => (s_iload_n rfl rfl).trans <| (s_icmp_lt rfl).trans <| c_ite ((s_aload_n rfl rfl).trans <| (s_gf2 rfl rfl).trans <| c_gR fun r3 => (s_iload_n rfl rfl).trans <| (s_aaload rfl).trans <| c_aR fun r4 => (s_iconst rfl).trans <| (s_v1 [.ref r4, .int (nZ 0)] [] rfl rfl (fun _ => rfl)).trans <| c_rcv <| c_clI fun x4 h4 => (s_iload_n rfl rfl).trans <| (s_icmp_ge rfl).trans <| c_ite ((s_iconst rfl).trans <| s_iret1 rfl rfl) ((s_iconst rfl).trans <| (s_goto rfl).trans <| s_iret1 rfl rfl)) ((s_iconst rfl).trans <| s_iret1 rfl rfl)))
theorem mc_X3_refusalOfWind (X : mv_X) (d : Nat) (h : mv_H) (a0 : Nat) (v1 : Int32) (v2 : Int32) : mv_call X (d + 1) 45 [.ref a0, .int v1, .int v2] h = mv_run X (mv_call X d) m_X3_refusalOfWind 0 [.ref a0, .int v1, .int v2] [] h := rfl
theorem bk_X3_refusalOfWind_0 (X : mv_X) (call : mv_G) (h : mv_H) (a0 : Nat) (v1 : Int32) (v2 : Int32) : mv_run X call m_X3_refusalOfWind 0 [.ref a0, .int v1, .int v2] [] h =
  mv_clI call 146 [.int v1, .int (nZ 0), .int (nZ 23)] h mv_raise fun x1 h1 =>
  if x1 = 0 then 
  ((some (.inl (some (.int (nZ 8))), h1)))
  else (mv_clI call 146 [.int v2, .int (nZ (-9)), .int (nZ 9)] h1 mv_raise fun x2 h2 =>
    if x2 = 0 then 
    ((some (.inl (some (.int (nZ 8))), h2)))
    else (mv_gR X h2 a0 7 1 fun r1 =>
      mv_aI X h2 1 r1 v1 fun x3 =>
      if x3 = v2 then 
      ((some (.inl (some (.int (nZ 5))), h2)))
      else ((some (.inl (some (.int (nZ 0))), h2))))) :=
  (s_iload_n rfl rfl).trans <| (s_iconst rfl).trans <| (s_bipush rfl).trans <| (s_s1 [.int v1, .int (nZ 0), .int (nZ 23)] [] rfl rfl (fun _ => rfl)).trans <| c_clI fun x1 h1 => (s_if_eq rfl).trans <| c_ite ((s_bipush rfl).trans <| s_iret1 rfl rfl) ((s_iload_n rfl rfl).trans <| (s_bipush rfl).trans <| (s_bipush rfl).trans <| (s_s1 [.int v2, .int (nZ (-9)), .int (nZ 9)] [] rfl rfl (fun _ => rfl)).trans <| c_clI fun x2 h2 => (s_if_ne rfl).trans <| c_ite ((s_bipush rfl).trans <| s_iret1 rfl rfl) ((s_aload_n rfl rfl).trans <| (s_gf2 rfl rfl).trans <| c_gR fun r1 => (s_iload_n rfl rfl).trans <| (s_iaload rfl).trans <| c_aI fun x3 => (s_iload_n rfl rfl).trans <| (s_icmp_ne rfl).trans <| c_ite ((s_iconst rfl).trans <| (s_goto rfl).trans <| s_iret1 rfl rfl) ((s_iconst rfl).trans <| s_iret1 rfl rfl)))
theorem mc_X3_refusalOfPilot (X : mv_X) (d : Nat) (h : mv_H) (a0 : Nat) (v1 : Int32) (v2 : Int32) (v3 : Int32) : mv_call X (d + 1) 46 [.ref a0, .int v1, .int v2, .int v3] h = mv_run X (mv_call X d) m_X3_refusalOfPilot 0 [.ref a0, .int v1, .int v2, .int v3] [] h := rfl
theorem bk_X3_refusalOfPilot_0 (X : mv_X) (call : mv_G) (h : mv_H) (a0 : Nat) (v1 : Int32) (v2 : Int32) (v3 : Int32) : mv_run X call m_X3_refusalOfPilot 0 [.ref a0, .int v1, .int v2, .int v3] [] h =
  mv_clI call 146 [.int v1, .int (nZ 1), .int (nZ 30)] h mv_raise fun x1 h1 =>
  if x1 = 0 then 
  ((some (.inl (some (.int (nZ 8))), h1)))
  else (mv_clI call 146 [.int v2, .int (nZ 0), .int (nZ 23)] h1 mv_raise fun x2 h2 =>
    if x2 = 0 then 
    ((some (.inl (some (.int (nZ 8))), h2)))
    else (mv_clI call 146 [.int v3, .int (nZ 0), .int (nZ 23)] h2 mv_raise fun x3 h3 =>
      if x3 = 0 then 
      ((some (.inl (some (.int (nZ 8))), h3)))
      else (mv_gI X h3 a0 7 3 fun x4 =>
        if x4 < (nZ 6) then 
        ((some (.inl (some (.int (nZ 0))), h3)))
        else ((some (.inl (some (.int (nZ 1))), h3)))))) :=
  (s_iload_n rfl rfl).trans <| (s_iconst rfl).trans <| (s_bipush rfl).trans <| (s_s1 [.int v1, .int (nZ 1), .int (nZ 30)] [] rfl rfl (fun _ => rfl)).trans <| c_clI fun x1 h1 => (s_if_eq rfl).trans <| c_ite ((s_bipush rfl).trans <| s_iret1 rfl rfl) ((s_iload_n rfl rfl).trans <| (s_iconst rfl).trans <| (s_bipush rfl).trans <| (s_s1 [.int v2, .int (nZ 0), .int (nZ 23)] [] rfl rfl (fun _ => rfl)).trans <| c_clI fun x2 h2 => (s_if_eq rfl).trans <| c_ite ((s_bipush rfl).trans <| s_iret1 rfl rfl) ((s_iload_n rfl rfl).trans <| (s_iconst rfl).trans <| (s_bipush rfl).trans <| (s_s1 [.int v3, .int (nZ 0), .int (nZ 23)] [] rfl rfl (fun _ => rfl)).trans <| c_clI fun x3 h3 => (s_if_ne rfl).trans <| c_ite ((s_bipush rfl).trans <| s_iret1 rfl rfl) ((s_aload_n rfl rfl).trans <| (s_gf1 rfl rfl).trans <| c_gI fun x4 => (s_bipush rfl).trans <| (s_icmp_lt rfl).trans <| c_ite ((s_iconst rfl).trans <| s_iret1 rfl rfl) ((s_iconst rfl).trans <| (s_goto rfl).trans <| s_iret1 rfl rfl))))
theorem mc_X3_detailOf (X : mv_X) (d : Nat) (h : mv_H) (a0 : Nat) (v1 : Int32) (a2 : Nat) : mv_call X (d + 1) 47 [.ref a0, .int v1, .ref a2] h = mv_run X (mv_call X d) m_X3_detailOf 0 [.ref a0, .int v1, .ref a2, .retAddr 0] [] h := rfl
theorem bk_X3_detailOf_0 (X : mv_X) (call : mv_G) (h : mv_H) (a0 : Nat) (v1 : Int32) (a2 : Nat) : mv_run X call m_X3_detailOf 0 [.ref a0, .int v1, .ref a2, .retAddr 0] [] h =
  if v1 = (nZ 1) then 
  (mv_gI X h a2 5 0 fun x1 =>
    if x1 = (nZ 7) then 
    ((some (.inl (some (.int (nZ 6))), h)))
    else ((some (.inl (some (.int (nZ 6))), h))))
  else (if v1 = (nZ 5) then 
    (mv_gR X h a2 5 2 fun r1 =>
      mv_aI X h 1 r1 (nZ 1) fun x2 =>
      (some (.inl (some (.int x2)), h)))
    else (mv_gR X h a2 5 2 fun r2 =>
      mv_aI X h 1 r2 (nZ 0) fun x3 =>
      mv_rcv X h [.ref a0, .int x3] 7 (mv_clI call 27 [.ref a0, .int x3] h mv_raise fun x4 h1 =>
      if x4 = 0 then 
      ((some (.inl (some (.int (nZ 0))), h1)))
      else (if v1 = (nZ 3) then 
        (mv_gR X h1 a0 7 0 fun r3 =>
          mv_aR X h1 r3 x3 fun r4 =>
          mv_rcv X h1 [.ref r4, .int (nZ 0)] 4 (mv_clI call 4 [.ref r4, .int (nZ 0)] h1 mv_raise fun x5 h2 =>
          (some (.inl (some (.int x5)), h2))))
        else (mv_gR X h1 a0 7 0 fun r5 =>
          mv_aR X h1 r5 x3 fun r6 =>
          mv_rcv X h1 [.ref r6] 4 (mv_clI call 5 [.ref r6] h1 mv_raise fun x6 h3 =>
          (some (.inl (some (.int x6)), h3)))))))) :=
  (s_iload_n rfl rfl).trans <| (s_iconst rfl).trans <| (s_icmp_ne rfl).trans <| c_ite ((s_aload_n rfl rfl).trans <| (s_gf1 rfl rfl).trans <| c_gI fun x1 => (s_bipush rfl).trans <| (s_icmp_ne rfl).trans <| c_ite ((s_bipush rfl).trans <| (s_goto rfl).trans <| s_iret1 rfl rfl) ((s_bipush rfl).trans <| s_iret1 rfl rfl)) ((s_iload_n rfl rfl).trans <| (s_iconst rfl).trans <| (s_icmp_ne rfl).trans <| c_ite ((s_aload_n rfl rfl).trans <| (s_gf2 rfl rfl).trans <| c_gR fun r1 => (s_iconst rfl).trans <| (s_iaload rfl).trans <| c_aI fun x2 => s_iret1 rfl rfl) ((s_aload_n rfl rfl).trans <| (s_gf2 rfl rfl).trans <| c_gR fun r2 => (s_iconst rfl).trans <| (s_iaload rfl).trans <| c_aI fun x3 => (s_istore_n (ls2 := [.ref a0, .int v1, .ref a2, .int x3]) rfl (fun _ => rfl)).trans <| (s_aload_n rfl rfl).trans <| (s_iload_n rfl rfl).trans <| (s_v1 [.ref a0, .int x3] [] rfl rfl (fun _ => rfl)).trans <| c_rcv <| c_clI fun x4 h1 => (s_if_ne rfl).trans <| c_ite ((s_iconst rfl).trans <| s_iret1 rfl rfl) ((s_iload_n rfl rfl).trans <| (s_iconst rfl).trans <| (s_icmp_ne rfl).trans <| c_ite ((s_aload_n rfl rfl).trans <| (s_gf2 rfl rfl).trans <| c_gR fun r3 => (s_iload_n rfl rfl).trans <| (s_aaload rfl).trans <| c_aR fun r4 => (s_iconst rfl).trans <| (s_v1 [.ref r4, .int (nZ 0)] [] rfl rfl (fun _ => rfl)).trans <| c_rcv <| c_clI fun x5 h2 => (s_goto rfl).trans <| s_iret1 rfl rfl) ((s_aload_n rfl rfl).trans <| (s_gf2 rfl rfl).trans <| c_gR fun r5 => (s_iload_n rfl rfl).trans <| (s_aaload rfl).trans <| c_aR fun r6 => (s_v1 [.ref r6] [] rfl rfl (fun _ => rfl)).trans <| c_rcv <| c_clI fun x6 h3 => s_iret1 rfl rfl))))
theorem mc_X3_carryOut (X : mv_X) (d : Nat) (h : mv_H) (a0 : Nat) (a1 : Nat) : mv_call X (d + 1) 48 [.ref a0, .ref a1] h = mv_run X (mv_call X d) m_X3_carryOut 0 [.ref a0, .ref a1, .retAddr 0, .retAddr 0, .retAddr 0] [] h := rfl
theorem bk_X3_carryOut_0 (X : mv_X) (call : mv_G) (h : mv_H) (a0 : Nat) (a1 : Nat) : mv_run X call m_X3_carryOut 0 [.ref a0, .ref a1, .retAddr 0, .retAddr 0, .retAddr 0] [] h =
  mv_gR X h a1 5 2 fun r1 =>
  mv_aI X h 1 r1 (nZ 0) fun x1 =>
  mv_gR X h a1 5 2 fun r2 =>
  mv_aI X h 1 r2 (nZ 1) fun x2 =>
  mv_gR X h a1 5 2 fun r3 =>
  mv_aI X h 1 r3 (nZ 2) fun x3 =>
  mv_gI X h a1 5 0 fun x4 =>
  if x4 = nZ 0 then (mv_gR X h a1 5 2 fun r4 =>
    mv_aI X h 1 r4 (nZ 3) fun x5 =>
    mv_rcv X h [.ref a0, .int x1, .int x2, .int x3, .int x5] 7 (mv_clI call 49 [.ref a0, .int x1, .int x2, .int x3, .int x5] h mv_raise fun x6 h1 =>
    (some (.inl (some (.int x6)), h1)))) else
  if x4 = nZ 1 then (mv_rcv X h [.ref a0, .int x1] 7 (mv_clI call 50 [.ref a0, .int x1] h mv_raise fun x7 h2 =>
    (some (.inl (some (.int x7)), h2)))) else
  if x4 = nZ 2 then (mv_rcv X h [.ref a0, .int x1, .int x2] 7 (mv_clI call 51 [.ref a0, .int x1, .int x2] h mv_raise fun x8 h3 =>
    (some (.inl (some (.int x8)), h3)))) else
  if x4 = nZ 3 then (mv_rcv X h [.ref a0, .int x1, .int x2] 7 (mv_clI call 52 [.ref a0, .int x1, .int x2] h mv_raise fun x9 h4 =>
    (some (.inl (some (.int x9)), h4)))) else
  if x4 = nZ 4 then (mv_rcv X h [.ref a0, .int x1, .int x2] 7 (mv_clI call 53 [.ref a0, .int x1, .int x2] h mv_raise fun x10 h5 =>
    (some (.inl (some (.int x10)), h5)))) else
  if x4 = nZ 5 then (mv_rcv X h [.ref a0, .int x1, .int x2] 7 (mv_clI call 54 [.ref a0, .int x1, .int x2] h mv_raise fun x11 h6 =>
    (some (.inl (some (.int x11)), h6)))) else
  if x4 = nZ 6 then (mv_rcv X h [.ref a0, .int x1] 7 (mv_clI call 57 [.ref a0, .int x1] h mv_raise fun x12 h7 =>
    (some (.inl (some (.int x12)), h7)))) else
  if x4 = nZ 7 then (mv_rcv X h [.ref a0, .int x1, .int x2, .int x3] 7 (mv_clI call 55 [.ref a0, .int x1, .int x2, .int x3] h mv_raise fun x13 h8 =>
    (some (.inl (some (.int x13)), h8)))) else
   (mv_rcv X h [.ref a0, .int x1] 7 (mv_clI call 56 [.ref a0, .int x1] h mv_raise fun x14 h9 =>
    (some (.inl (some (.int x14)), h9)))) :=
  (s_aload_n rfl rfl).trans <| (s_gf2 rfl rfl).trans <| c_gR fun r1 => (s_iconst rfl).trans <| (s_iaload rfl).trans <| c_aI fun x1 => (s_istore_n (ls2 := [.ref a0, .ref a1, .int x1, .retAddr 0, .retAddr 0]) rfl (fun _ => rfl)).trans <| (s_aload_n rfl rfl).trans <| (s_gf2 rfl rfl).trans <| c_gR fun r2 => (s_iconst rfl).trans <| (s_iaload rfl).trans <| c_aI fun x2 => (s_istore_n (ls2 := [.ref a0, .ref a1, .int x1, .int x2, .retAddr 0]) rfl (fun _ => rfl)).trans <| (s_aload_n rfl rfl).trans <| (s_gf2 rfl rfl).trans <| c_gR fun r3 => (s_iconst rfl).trans <| (s_iaload rfl).trans <| c_aI fun x3 => (s_istore (ls2 := [.ref a0, .ref a1, .int x1, .int x2, .int x3]) rfl (fun _ => rfl)).trans <| (s_aload_n rfl rfl).trans <| (s_gf1 rfl rfl).trans <| c_gI fun x4 => (s_tsw rfl).trans <| c_swc ((s_aload_n rfl rfl).trans <| (s_iload_n rfl rfl).trans <| (s_iload_n rfl rfl).trans <| (s_iload rfl rfl).trans <| (s_aload_n rfl rfl).trans <| (s_gf2 rfl rfl).trans <| c_gR fun r4 => (s_iconst rfl).trans <| (s_iaload rfl).trans <| c_aI fun x5 => (s_v1 [.ref a0, .int x1, .int x2, .int x3, .int x5] [] rfl rfl (fun _ => rfl)).trans <| c_rcv <| c_clI fun x6 h1 => s_iret1 rfl rfl) <| c_swc ((s_aload_n rfl rfl).trans <| (s_iload_n rfl rfl).trans <| (s_v1 [.ref a0, .int x1] [] rfl rfl (fun _ => rfl)).trans <| c_rcv <| c_clI fun x7 h2 => s_iret1 rfl rfl) <| c_swc ((s_aload_n rfl rfl).trans <| (s_iload_n rfl rfl).trans <| (s_iload_n rfl rfl).trans <| (s_v1 [.ref a0, .int x1, .int x2] [] rfl rfl (fun _ => rfl)).trans <| c_rcv <| c_clI fun x8 h3 => s_iret1 rfl rfl) <| c_swc ((s_aload_n rfl rfl).trans <| (s_iload_n rfl rfl).trans <| (s_iload_n rfl rfl).trans <| (s_v1 [.ref a0, .int x1, .int x2] [] rfl rfl (fun _ => rfl)).trans <| c_rcv <| c_clI fun x9 h4 => s_iret1 rfl rfl) <| c_swc ((s_aload_n rfl rfl).trans <| (s_iload_n rfl rfl).trans <| (s_iload_n rfl rfl).trans <| (s_v1 [.ref a0, .int x1, .int x2] [] rfl rfl (fun _ => rfl)).trans <| c_rcv <| c_clI fun x10 h5 => s_iret1 rfl rfl) <| c_swc ((s_aload_n rfl rfl).trans <| (s_iload_n rfl rfl).trans <| (s_iload_n rfl rfl).trans <| (s_v1 [.ref a0, .int x1, .int x2] [] rfl rfl (fun _ => rfl)).trans <| c_rcv <| c_clI fun x11 h6 => s_iret1 rfl rfl) <| c_swc ((s_aload_n rfl rfl).trans <| (s_iload_n rfl rfl).trans <| (s_v1 [.ref a0, .int x1] [] rfl rfl (fun _ => rfl)).trans <| c_rcv <| c_clI fun x12 h7 => s_iret1 rfl rfl) <| c_swc ((s_aload_n rfl rfl).trans <| (s_iload_n rfl rfl).trans <| (s_iload_n rfl rfl).trans <| (s_iload rfl rfl).trans <| (s_v1 [.ref a0, .int x1, .int x2, .int x3] [] rfl rfl (fun _ => rfl)).trans <| c_rcv <| c_clI fun x13 h8 => s_iret1 rfl rfl) <| c_swn ((s_aload_n rfl rfl).trans <| (s_iload_n rfl rfl).trans <| (s_v1 [.ref a0, .int x1] [] rfl rfl (fun _ => rfl)).trans <| c_rcv <| c_clI fun x14 h9 => s_iret1 rfl rfl)
theorem mc_X3_putBalloon (X : mv_X) (d : Nat) (h : mv_H) (a0 : Nat) (v1 : Int32) (v2 : Int32) (v3 : Int32) (v4 : Int32) : mv_call X (d + 1) 49 [.ref a0, .int v1, .int v2, .int v3, .int v4] h = mv_run X (mv_call X d) m_X3_putBalloon 0 [.ref a0, .int v1, .int v2, .int v3, .int v4] [] h := rfl
theorem bk_X3_putBalloon_0 (X : mv_X) (call : mv_G) (h : mv_H) (a0 : Nat) (v1 : Int32) (v2 : Int32) (v3 : Int32) (v4 : Int32) : mv_run X call m_X3_putBalloon 0 [.ref a0, .int v1, .int v2, .int v3, .int v4] [] h =
  mv_clI call 146 [.int v1, .int (nZ 0), .int (nZ 9)] h mv_raise fun x1 h1 =>
  if x1 = 0 then 
  ((some (.inl (some (.int (nZ 0))), h1)))
  else (mv_gR X h1 a0 7 0 fun r1 =>
    mv_aR X h1 r1 v1 fun r2 =>
    mv_rcv X h1 [.ref r2, .int v2, .int v3, .int v4] 4 (mv_clV call 2 [.ref r2, .int v2, .int v3, .int v4] h1 mv_raise fun h2 =>
    mv_gR X h2 a0 7 0 fun r3 =>
    mv_aR X h2 r3 v1 fun r4 =>
    mv_rcv X h2 [.ref r4] 4 (mv_clI call 5 [.ref r4] h2 mv_raise fun x2 h3 =>
    (some (.inl (some (.int x2)), h3))))) :=
  (s_iload_n rfl rfl).trans <| (s_iconst rfl).trans <| (s_bipush rfl).trans <| (s_s1 [.int v1, .int (nZ 0), .int (nZ 9)] [] rfl rfl (fun _ => rfl)).trans <| c_clI fun x1 h1 => (s_if_ne rfl).trans <| c_ite ((s_iconst rfl).trans <| s_iret1 rfl rfl) ((s_aload_n rfl rfl).trans <| (s_gf2 rfl rfl).trans <| c_gR fun r1 => (s_iload_n rfl rfl).trans <| (s_aaload rfl).trans <| c_aR fun r2 => (s_iload_n rfl rfl).trans <| (s_iload_n rfl rfl).trans <| (s_iload rfl rfl).trans <| (s_v0 [.ref r2, .int v2, .int v3, .int v4] [] rfl rfl (fun _ => rfl)).trans <| c_rcv <| c_clV fun h2 => (s_aload_n rfl rfl).trans <| (s_gf2 rfl rfl).trans <| c_gR fun r3 => (s_iload_n rfl rfl).trans <| (s_aaload rfl).trans <| c_aR fun r4 => (s_v1 [.ref r4] [] rfl rfl (fun _ => rfl)).trans <| c_rcv <| c_clI fun x2 h3 => s_iret1 rfl rfl)
theorem mc_X3_removeBalloon (X : mv_X) (d : Nat) (h : mv_H) (a0 : Nat) (v1 : Int32) : mv_call X (d + 1) 50 [.ref a0, .int v1] h = mv_run X (mv_call X d) m_X3_removeBalloon 0 [.ref a0, .int v1] [] h := rfl
theorem bk_X3_removeBalloon_0 (X : mv_X) (call : mv_G) (h : mv_H) (a0 : Nat) (v1 : Int32) : mv_run X call m_X3_removeBalloon 0 [.ref a0, .int v1] [] h =
  mv_rcv X h [.ref a0, .int v1] 7 (mv_clI call 27 [.ref a0, .int v1] h mv_raise fun x1 h1 =>
  if x1 = 0 then 
  ((some (.inl (some (.int (nZ 0))), h1)))
  else (mv_gR X h1 a0 7 0 fun r1 =>
    mv_aR X h1 r1 v1 fun r2 =>
    mv_chk (mv_ok 6 (nZ 0)) (mv_pf h1 r2 4 0 (.int (nZ 0)) fun h2 =>
    mv_gI X h2 a0 7 7 fun x2 =>
    mv_gR X h2 a0 7 0 fun r3 =>
    mv_aR X h2 r3 v1 fun r4 =>
    mv_gI X h2 r4 4 4 fun x3 =>
    mv_pf h2 a0 7 7 (.int (x2 + x3)) fun h3 =>
    mv_gR X h3 a0 7 0 fun r5 =>
    mv_aR X h3 r5 v1 fun r6 =>
    mv_gI X h3 r6 4 4 fun x4 =>
    (some (.inl (some (.int x4)), h3))))) :=
  (s_aload_n rfl rfl).trans <| (s_iload_n rfl rfl).trans <| (s_v1 [.ref a0, .int v1] [] rfl rfl (fun _ => rfl)).trans <| c_rcv <| c_clI fun x1 h1 => (s_if_ne rfl).trans <| c_ite ((s_iconst rfl).trans <| s_iret1 rfl rfl) ((s_aload_n rfl rfl).trans <| (s_gf2 rfl rfl).trans <| c_gR fun r1 => (s_iload_n rfl rfl).trans <| (s_aaload rfl).trans <| c_aR fun r2 => (s_iconst rfl).trans <| (s_pf6 rfl rfl).trans <| c_chk <| c_pf fun h2 => (s_aload_n rfl rfl).trans <| (s_dupR rfl).trans <| (s_gf1 rfl rfl).trans <| c_gI fun x2 => (s_aload_n rfl rfl).trans <| (s_gf2 rfl rfl).trans <| c_gR fun r3 => (s_iload_n rfl rfl).trans <| (s_aaload rfl).trans <| c_aR fun r4 => (s_gf1 rfl rfl).trans <| c_gI fun x3 => (s_iadd rfl).trans <| (s_pf1 rfl rfl).trans <| c_pf fun h3 => (s_aload_n rfl rfl).trans <| (s_gf2 rfl rfl).trans <| c_gR fun r5 => (s_iload_n rfl rfl).trans <| (s_aaload rfl).trans <| c_aR fun r6 => (s_gf1 rfl rfl).trans <| c_gI fun x4 => s_iret1 rfl rfl)
theorem mc_X3_loadBag (X : mv_X) (d : Nat) (h : mv_H) (a0 : Nat) (v1 : Int32) (v2 : Int32) : mv_call X (d + 1) 51 [.ref a0, .int v1, .int v2] h = mv_run X (mv_call X d) m_X3_loadBag 0 [.ref a0, .int v1, .int v2] [] h := rfl
theorem bk_X3_loadBag_0 (X : mv_X) (call : mv_G) (h : mv_H) (a0 : Nat) (v1 : Int32) (v2 : Int32) : mv_run X call m_X3_loadBag 0 [.ref a0, .int v1, .int v2] [] h =
  mv_rcv X h [.ref a0, .int v1] 7 (mv_clI call 27 [.ref a0, .int v1] h mv_raise fun x1 h1 =>
  if x1 = 0 then 
  ((some (.inl (some (.int (nZ 0))), h1)))
  else (mv_gR X h1 a0 7 0 fun r1 =>
    mv_aR X h1 r1 v1 fun r2 =>
    mv_rcv X h1 [.ref r2, .int v2] 4 (mv_clV call 9 [.ref r2, .int v2] h1 mv_raise fun h2 =>
    mv_gI X h2 a0 7 6 fun x2 =>
    mv_pf h2 a0 7 6 (.int (x2 + v2)) fun h3 =>
    mv_gR X h3 a0 7 0 fun r3 =>
    mv_aR X h3 r3 v1 fun r4 =>
    mv_gI X h3 r4 4 4 fun x3 =>
    (some (.inl (some (.int x3)), h3))))) :=
  (s_aload_n rfl rfl).trans <| (s_iload_n rfl rfl).trans <| (s_v1 [.ref a0, .int v1] [] rfl rfl (fun _ => rfl)).trans <| c_rcv <| c_clI fun x1 h1 => (s_if_ne rfl).trans <| c_ite ((s_iconst rfl).trans <| s_iret1 rfl rfl) ((s_aload_n rfl rfl).trans <| (s_gf2 rfl rfl).trans <| c_gR fun r1 => (s_iload_n rfl rfl).trans <| (s_aaload rfl).trans <| c_aR fun r2 => (s_iload_n rfl rfl).trans <| (s_v0 [.ref r2, .int v2] [] rfl rfl (fun _ => rfl)).trans <| c_rcv <| c_clV fun h2 => (s_aload_n rfl rfl).trans <| (s_dupR rfl).trans <| (s_gf1 rfl rfl).trans <| c_gI fun x2 => (s_iload_n rfl rfl).trans <| (s_iadd rfl).trans <| (s_pf1 rfl rfl).trans <| c_pf fun h3 => (s_aload_n rfl rfl).trans <| (s_gf2 rfl rfl).trans <| c_gR fun r3 => (s_iload_n rfl rfl).trans <| (s_aaload rfl).trans <| c_aR fun r4 => (s_gf1 rfl rfl).trans <| c_gI fun x3 => s_iret1 rfl rfl)
theorem mc_X3_dropBag (X : mv_X) (d : Nat) (h : mv_H) (a0 : Nat) (v1 : Int32) (v2 : Int32) : mv_call X (d + 1) 52 [.ref a0, .int v1, .int v2] h = mv_run X (mv_call X d) m_X3_dropBag 0 [.ref a0, .int v1, .int v2, .retAddr 0] [] h := rfl
theorem bk_X3_dropBag_0 (X : mv_X) (call : mv_G) (h : mv_H) (a0 : Nat) (v1 : Int32) (v2 : Int32) : mv_run X call m_X3_dropBag 0 [.ref a0, .int v1, .int v2, .retAddr 0] [] h =
  mv_rcv X h [.ref a0, .int v1] 7 (mv_clI call 27 [.ref a0, .int v1] h mv_raise fun x1 h1 =>
  if x1 = 0 then 
  ((some (.inl (some (.int (nZ 0))), h1)))
  else (mv_gR X h1 a0 7 0 fun r1 =>
    mv_aR X h1 r1 v1 fun r2 =>
    mv_rcv X h1 [.ref r2, .int v2] 4 (mv_clI call 10 [.ref r2, .int v2] h1 mv_raise fun x2 h2 =>
    mv_gI X h2 a0 7 7 fun x3 =>
    mv_pf h2 a0 7 7 (.int (x3 + x2)) fun h3 =>
    (some (.inl (some (.int x2)), h3))))) :=
  (s_aload_n rfl rfl).trans <| (s_iload_n rfl rfl).trans <| (s_v1 [.ref a0, .int v1] [] rfl rfl (fun _ => rfl)).trans <| c_rcv <| c_clI fun x1 h1 => (s_if_ne rfl).trans <| c_ite ((s_iconst rfl).trans <| s_iret1 rfl rfl) ((s_aload_n rfl rfl).trans <| (s_gf2 rfl rfl).trans <| c_gR fun r1 => (s_iload_n rfl rfl).trans <| (s_aaload rfl).trans <| c_aR fun r2 => (s_iload_n rfl rfl).trans <| (s_v1 [.ref r2, .int v2] [] rfl rfl (fun _ => rfl)).trans <| c_rcv <| c_clI fun x2 h2 => (s_istore_n (ls2 := [.ref a0, .int v1, .int v2, .int x2]) rfl (fun _ => rfl)).trans <| (s_aload_n rfl rfl).trans <| (s_dupR rfl).trans <| (s_gf1 rfl rfl).trans <| c_gI fun x3 => (s_iload_n rfl rfl).trans <| (s_iadd rfl).trans <| (s_pf1 rfl rfl).trans <| c_pf fun h3 => (s_iload_n rfl rfl).trans <| s_iret1 rfl rfl)
theorem mc_X3_dropBestSet (X : mv_X) (d : Nat) (h : mv_H) (a0 : Nat) (v1 : Int32) (v2 : Int32) : mv_call X (d + 1) 53 [.ref a0, .int v1, .int v2] h = mv_run X (mv_call X d) m_X3_dropBestSet 0 [.ref a0, .int v1, .int v2, .retAddr 0, .retAddr 0] [] h := rfl
theorem bk_X3_dropBestSet_0 (X : mv_X) (call : mv_G) (h : mv_H) (a0 : Nat) (v1 : Int32) (v2 : Int32) : mv_run X call m_X3_dropBestSet 0 [.ref a0, .int v1, .int v2, .retAddr 0, .retAddr 0] [] h =
  mv_rcv X h [.ref a0, .int v1] 7 (mv_clI call 27 [.ref a0, .int v1] h mv_raise fun x1 h1 =>
  if x1 = 0 then 
  (if (nZ (-1)) = (nZ (-1)) then 
    ((some (.inl (some (.int (nZ 0))), h1)))
    else (mv_run X call m_X3_dropBestSet 33 [.ref a0, .int v1, .int v2, .int (nZ (-1)), .int (nZ 5)] [] h1))
  else (mv_gR X h1 a0 7 0 fun r1 =>
    mv_aR X h1 r1 v1 fun r2 =>
    mv_rcv X h1 [.ref r2, .int v2] 4 (mv_clI call 12 [.ref r2, .int v2] h1 mv_raise fun x2 h2 =>
    if x2 = (nZ (-1)) then 
    ((some (.inl (some (.int (nZ 0))), h2)))
    else (mv_run X call m_X3_dropBestSet 33 [.ref a0, .int v1, .int v2, .int x2, .int (nZ 5)] [] h2)))) :=
  (s_aload_n rfl rfl).trans <| (s_iload_n rfl rfl).trans <| (s_v1 [.ref a0, .int v1] [] rfl rfl (fun _ => rfl)).trans <| c_rcv <| c_clI fun x1 h1 => (s_if_eq rfl).trans <| c_ite ((s_iconst rfl).trans <| (s_istore_n (ls2 := [.ref a0, .int v1, .int v2, .int (nZ (-1)), .retAddr 0]) rfl (fun _ => rfl)).trans <| (s_iload_n rfl rfl).trans <| (s_iconst rfl).trans <| (s_icmp_ne rfl).trans <| c_ite ((s_iconst rfl).trans <| s_iret1 rfl rfl) ((s_iconst rfl).trans <| (s_istore (ls2 := [.ref a0, .int v1, .int v2, .int (nZ (-1)), .int (nZ 5)]) rfl (fun _ => rfl)).trans <| rfl)) ((s_aload_n rfl rfl).trans <| (s_gf2 rfl rfl).trans <| c_gR fun r1 => (s_iload_n rfl rfl).trans <| (s_aaload rfl).trans <| c_aR fun r2 => (s_iload_n rfl rfl).trans <| (s_v1 [.ref r2, .int v2] [] rfl rfl (fun _ => rfl)).trans <| c_rcv <| c_clI fun x2 h2 => (s_goto rfl).trans <| (s_istore_n (ls2 := [.ref a0, .int v1, .int v2, .int x2, .retAddr 0]) rfl (fun _ => rfl)).trans <| (s_iload_n rfl rfl).trans <| (s_iconst rfl).trans <| (s_icmp_ne rfl).trans <| c_ite ((s_iconst rfl).trans <| s_iret1 rfl rfl) ((s_iconst rfl).trans <| (s_istore (ls2 := [.ref a0, .int v1, .int v2, .int x2, .int (nZ 5)]) rfl (fun _ => rfl)).trans <| rfl))
theorem bk_X3_dropBestSet_33 (X : mv_X) (call : mv_G) (h : mv_H) (a0 : Nat) (v1 : Int32) (v2 : Int32) (v3 : Int32) (v4 : Int32) : mv_run X call m_X3_dropBestSet 33 [.ref a0, .int v1, .int v2, .int v3, .int v4] [] h =
  if v4 < 0 then 
  (mv_clI call 264 [.int v3] h mv_raise fun x1 h1 =>
    (some (.inl (some (.int x1)), h1)))
  else (if (v3 &&& ((nZ 1) <<< (v4 &&& 31))) = 0 then 
    (mv_run X call m_X3_dropBestSet 33 [.ref a0, .int v1, .int v2, .int v3, .int (v4 + nZ (-1))] [] h)
    else (mv_rcv X h [.ref a0, .int v1, .int v4] 7 (mv_clI call 52 [.ref a0, .int v1, .int v4] h mv_raise fun x2 h2 =>
      mv_run X call m_X3_dropBestSet 33 [.ref a0, .int v1, .int v2, .int v3, .int (v4 + nZ (-1))] [] h2))) :=
  (s_iload rfl rfl).trans <| (s_if_lt rfl).trans <| c_ite ((s_iload_n rfl rfl).trans <| (s_s1 [.int v3] [] rfl rfl (fun _ => rfl)).trans <| c_clI fun x1 h1 => s_iret1 rfl rfl) ((s_iload_n rfl rfl).trans <| (s_iconst rfl).trans <| (s_iload rfl rfl).trans <| (s_ishl rfl).trans <| (s_iand rfl).trans <| (s_if_eq rfl).trans <| c_ite ((s_iinc (ls2 := [.ref a0, .int v1, .int v2, .int v3, .int (v4 + nZ (-1))]) rfl rfl (fun _ => rfl)).trans <| (s_goto rfl).trans <| rfl) ((s_aload_n rfl rfl).trans <| (s_iload_n rfl rfl).trans <| (s_iload rfl rfl).trans <| (s_v1 [.ref a0, .int v1, .int v4] [] rfl rfl (fun _ => rfl)).trans <| c_rcv <| c_clI fun x2 h2 => (s_popI rfl).trans <| (s_iinc (ls2 := [.ref a0, .int v1, .int v2, .int v3, .int (v4 + nZ (-1))]) rfl rfl (fun _ => rfl)).trans <| (s_goto rfl).trans <| rfl))
theorem mc_X3_replaceWind (X : mv_X) (d : Nat) (h : mv_H) (a0 : Nat) (v1 : Int32) (v2 : Int32) : mv_call X (d + 1) 54 [.ref a0, .int v1, .int v2] h = mv_run X (mv_call X d) m_X3_replaceWind 0 [.ref a0, .int v1, .int v2, .retAddr 0] [] h := rfl
theorem bk_X3_replaceWind_0 (X : mv_X) (call : mv_G) (h : mv_H) (a0 : Nat) (v1 : Int32) (v2 : Int32) : mv_run X call m_X3_replaceWind 0 [.ref a0, .int v1, .int v2, .retAddr 0] [] h =
  mv_clI call 146 [.int v1, .int (nZ 0), .int (nZ 23)] h mv_raise fun x1 h1 =>
  if x1 = 0 then 
  ((some (.inl (some (.int (nZ 0))), h1)))
  else (mv_gR X h1 a0 7 1 fun r1 =>
    mv_aI X h1 1 r1 v1 fun x2 =>
    mv_gR X h1 a0 7 1 fun r2 =>
    mv_as h1 1 r2 v1 (.int v2) fun h2 =>
    (some (.inl (some (.int x2)), h2))) :=
  (s_iload_n rfl rfl).trans <| (s_iconst rfl).trans <| (s_bipush rfl).trans <| (s_s1 [.int v1, .int (nZ 0), .int (nZ 23)] [] rfl rfl (fun _ => rfl)).trans <| c_clI fun x1 h1 => (s_if_ne rfl).trans <| c_ite ((s_iconst rfl).trans <| s_iret1 rfl rfl) ((s_aload_n rfl rfl).trans <| (s_gf2 rfl rfl).trans <| c_gR fun r1 => (s_iload_n rfl rfl).trans <| (s_iaload rfl).trans <| c_aI fun x2 => (s_istore_n (ls2 := [.ref a0, .int v1, .int v2, .int x2]) rfl (fun _ => rfl)).trans <| (s_aload_n rfl rfl).trans <| (s_gf2 rfl rfl).trans <| c_gR fun r2 => (s_iload_n rfl rfl).trans <| (s_iload_n rfl rfl).trans <| (s_iastore rfl).trans <| c_as fun h2 => (s_iload_n rfl rfl).trans <| s_iret1 rfl rfl)
theorem mc_X3_putPilot (X : mv_X) (d : Nat) (h : mv_H) (a0 : Nat) (v1 : Int32) (v2 : Int32) (v3 : Int32) : mv_call X (d + 1) 55 [.ref a0, .int v1, .int v2, .int v3] h = mv_run X (mv_call X d) m_X3_putPilot 0 [.ref a0, .int v1, .int v2, .int v3] [] h := rfl
theorem bk_X3_putPilot_0 (X : mv_X) (call : mv_G) (h : mv_H) (a0 : Nat) (v1 : Int32) (v2 : Int32) (v3 : Int32) : mv_run X call m_X3_putPilot 0 [.ref a0, .int v1, .int v2, .int v3] [] h =
  mv_gI X h a0 7 3 fun x1 =>
  if x1 < (nZ 6) then 
  (mv_gR X h a0 7 2 fun r1 =>
    mv_gI X h a0 7 3 fun x2 =>
    mv_aR X h r1 x2 fun r2 =>
    mv_rcv X h [.ref r2, .int v1, .int v2, .int v3] 9 (mv_clV call 65 [.ref r2, .int v1, .int v2, .int v3] h mv_raise fun h1 =>
    mv_gI X h1 a0 7 3 fun x3 =>
    mv_pf h1 a0 7 3 (.int (x3 + (nZ 1))) fun h2 =>
    mv_gI X h2 a0 7 3 fun x4 =>
    (some (.inl (some (.int (x4 - (nZ 1)))), h2))))
  else ((some (.inl (some (.int (nZ (-1)))), h))) :=
  (s_aload_n rfl rfl).trans <| (s_gf1 rfl rfl).trans <| c_gI fun x1 => (s_bipush rfl).trans <| (s_icmp_lt rfl).trans <| c_ite ((s_aload_n rfl rfl).trans <| (s_gf2 rfl rfl).trans <| c_gR fun r1 => (s_aload_n rfl rfl).trans <| (s_gf1 rfl rfl).trans <| c_gI fun x2 => (s_aaload rfl).trans <| c_aR fun r2 => (s_iload_n rfl rfl).trans <| (s_iload_n rfl rfl).trans <| (s_iload_n rfl rfl).trans <| (s_v0 [.ref r2, .int v1, .int v2, .int v3] [] rfl rfl (fun _ => rfl)).trans <| c_rcv <| c_clV fun h1 => (s_aload_n rfl rfl).trans <| (s_dupR rfl).trans <| (s_gf1 rfl rfl).trans <| c_gI fun x3 => (s_iconst rfl).trans <| (s_iadd rfl).trans <| (s_pf1 rfl rfl).trans <| c_pf fun h2 => (s_aload_n rfl rfl).trans <| (s_gf1 rfl rfl).trans <| c_gI fun x4 => (s_iconst rfl).trans <| (s_isub rfl).trans <| s_iret1 rfl rfl) ((s_iconst rfl).trans <| s_iret1 rfl rfl)
theorem mc_X3_takePilot (X : mv_X) (d : Nat) (h : mv_H) (a0 : Nat) (v1 : Int32) : mv_call X (d + 1) 56 [.ref a0, .int v1] h = mv_run X (mv_call X d) m_X3_takePilot 0 [.ref a0, .int v1, .retAddr 0] [] h := rfl
theorem bk_X3_takePilot_0 (X : mv_X) (call : mv_G) (h : mv_H) (a0 : Nat) (v1 : Int32) : mv_run X call m_X3_takePilot 0 [.ref a0, .int v1, .retAddr 0] [] h =
  mv_rcv X h [.ref a0, .int v1] 7 (mv_clI call 28 [.ref a0, .int v1] h mv_raise fun x1 h1 =>
  if x1 = 0 then 
  (mv_gI X h1 a0 7 3 fun x2 =>
    (some (.inl (some (.int x2)), h1)))
  else (mv_run X call m_X3_takePilot 12 [.ref a0, .int v1, .int (v1 + (nZ 1))] [] h1)) :=
  (s_aload_n rfl rfl).trans <| (s_iload_n rfl rfl).trans <| (s_v1 [.ref a0, .int v1] [] rfl rfl (fun _ => rfl)).trans <| c_rcv <| c_clI fun x1 h1 => (s_if_eq rfl).trans <| c_ite ((s_aload_n rfl rfl).trans <| (s_gf1 rfl rfl).trans <| c_gI fun x2 => s_iret1 rfl rfl) ((s_iload_n rfl rfl).trans <| (s_iconst rfl).trans <| (s_iadd rfl).trans <| (s_istore_n (ls2 := [.ref a0, .int v1, .int (v1 + (nZ 1))]) rfl (fun _ => rfl)).trans <| rfl)
theorem bk_X3_takePilot_12 (X : mv_X) (call : mv_G) (h : mv_H) (a0 : Nat) (v1 : Int32) (v2 : Int32) : mv_run X call m_X3_takePilot 12 [.ref a0, .int v1, .int v2] [] h =
  mv_gI X h a0 7 3 fun x1 =>
  if x1 ≤ v2 then 
  (mv_gI X h a0 7 3 fun x2 =>
    mv_pf h a0 7 3 (.int (x2 - (nZ 1))) fun h1 =>
    mv_gI X h1 a0 7 3 fun x3 =>
    (some (.inl (some (.int x3)), h1)))
  else (mv_gR X h a0 7 2 fun r1 =>
    mv_aR X h r1 (v2 - (nZ 1)) fun r2 =>
    mv_gR X h a0 7 2 fun r3 =>
    mv_aR X h r3 v2 fun r4 =>
    mv_rcv X h [.ref r2, .ref r4] 9 (mv_clV call 66 [.ref r2, .ref r4] h mv_raise fun h2 =>
    mv_run X call m_X3_takePilot 12 [.ref a0, .int v1, .int (v2 + nZ 1)] [] h2)) :=
  (s_iload_n rfl rfl).trans <| (s_aload_n rfl rfl).trans <| (s_gf1 rfl rfl).trans <| c_gI fun x1 => (s_icmp_ge rfl).trans <| c_ite ((s_aload_n rfl rfl).trans <| (s_dupR rfl).trans <| (s_gf1 rfl rfl).trans <| c_gI fun x2 => (s_iconst rfl).trans <| (s_isub rfl).trans <| (s_pf1 rfl rfl).trans <| c_pf fun h1 => (s_aload_n rfl rfl).trans <| (s_gf1 rfl rfl).trans <| c_gI fun x3 => s_iret1 rfl rfl) ((s_aload_n rfl rfl).trans <| (s_gf2 rfl rfl).trans <| c_gR fun r1 => (s_iload_n rfl rfl).trans <| (s_iconst rfl).trans <| (s_isub rfl).trans <| (s_aaload rfl).trans <| c_aR fun r2 => (s_aload_n rfl rfl).trans <| (s_gf2 rfl rfl).trans <| c_gR fun r3 => (s_iload_n rfl rfl).trans <| (s_aaload rfl).trans <| c_aR fun r4 => (s_v0 [.ref r2, .ref r4] [] rfl rfl (fun _ => rfl)).trans <| c_rcv <| c_clV fun h2 => (s_iinc (ls2 := [.ref a0, .int v1, .int (v2 + nZ 1)]) rfl rfl (fun _ => rfl)).trans <| (s_goto rfl).trans <| rfl)
theorem mc_X3_passHours (X : mv_X) (d : Nat) (h : mv_H) (a0 : Nat) (v1 : Int32) : mv_call X (d + 1) 57 [.ref a0, .int v1] h = mv_run X (mv_call X d) m_X3_passHours 0 [.ref a0, .int v1, .retAddr 0, .retAddr 0, .retAddr 0, .retAddr 0] [] h := rfl
theorem bk_X3_passHours_0 (X : mv_X) (call : mv_G) (h : mv_H) (a0 : Nat) (v1 : Int32) : mv_run X call m_X3_passHours 0 [.ref a0, .int v1, .retAddr 0, .retAddr 0, .retAddr 0, .retAddr 0] [] h =
  mv_run X call m_X3_passHours 4 [.ref a0, .int v1, .int (nZ 0), .int (nZ 0), .retAddr 0, .retAddr 0] [] h :=
  (s_iconst rfl).trans <| (s_istore_n (ls2 := [.ref a0, .int v1, .int (nZ 0), .retAddr 0, .retAddr 0, .retAddr 0]) rfl (fun _ => rfl)).trans <| (s_iconst rfl).trans <| (s_istore_n (ls2 := [.ref a0, .int v1, .int (nZ 0), .int (nZ 0), .retAddr 0, .retAddr 0]) rfl (fun _ => rfl)).trans <| rfl
theorem bk_X3_passHours_4 (X : mv_X) (call : mv_G) (h : mv_H) (a0 : Nat) (v1 : Int32) (v2 : Int32) (v3 : Int32) (j4 : Value) (j5 : Value) : mv_run X call m_X3_passHours 4 [.ref a0, .int v1, .int v2, .int v3, j4, j5] [] h =
  if v1 ≤ v3 then 
  ((some (.inl (some (.int v2)), h)))
  else (mv_gI X h a0 7 4 fun x1 =>
    mv_pf h a0 7 4 (.int (x1 + (nZ 1))) fun h1 =>
    mv_rcv X h1 [.ref a0] 7 (mv_clI call 29 [.ref a0] h1 mv_raise fun x2 h2 =>
    mv_clI call 146 [.int x2, .int (nZ 6), .int (nZ 17)] h2 mv_raise fun x3 h3 =>
    if x3 = 0 then 
    (mv_run X call m_X3_passHours 43 [.ref a0, .int v1, .int v2, .int v3, .int (nZ (-1)), .int (nZ 0)] [] h3)
    else (mv_run X call m_X3_passHours 43 [.ref a0, .int v1, .int v2, .int v3, .int (nZ 1), .int (nZ 0)] [] h3))) :=
  (s_iload_n rfl rfl).trans <| (s_iload_n rfl rfl).trans <| (s_icmp_ge rfl).trans <| c_ite ((s_iload_n rfl rfl).trans <| s_iret1 rfl rfl) ((s_aload_n rfl rfl).trans <| (s_dupR rfl).trans <| (s_gf1 rfl rfl).trans <| c_gI fun x1 => (s_iconst rfl).trans <| (s_iadd rfl).trans <| (s_pf1 rfl rfl).trans <| c_pf fun h1 => (s_aload_n rfl rfl).trans <| (s_v1 [.ref a0] [] rfl rfl (fun _ => rfl)).trans <| c_rcv <| c_clI fun x2 h2 => (s_bipush rfl).trans <| (s_bipush rfl).trans <| (s_s1 [.int x2, .int (nZ 6), .int (nZ 17)] [] rfl rfl (fun _ => rfl)).trans <| c_clI fun x3 h3 => (s_if_eq rfl).trans <| c_ite ((s_iconst rfl).trans <| (s_istore (ls2 := [.ref a0, .int v1, .int v2, .int v3, .int (nZ (-1)), j5]) rfl (fun _ => rfl)).trans <| (s_iconst rfl).trans <| (s_istore (ls2 := [.ref a0, .int v1, .int v2, .int v3, .int (nZ (-1)), .int (nZ 0)]) rfl (fun _ => rfl)).trans <| rfl) ((s_iconst rfl).trans <| (s_goto rfl).trans <| (s_istore (ls2 := [.ref a0, .int v1, .int v2, .int v3, .int (nZ 1), j5]) rfl (fun _ => rfl)).trans <| (s_iconst rfl).trans <| (s_istore (ls2 := [.ref a0, .int v1, .int v2, .int v3, .int (nZ 1), .int (nZ 0)]) rfl (fun _ => rfl)).trans <| rfl))
theorem bk_X3_passHours_43 (X : mv_X) (call : mv_G) (h : mv_H) (a0 : Nat) (v1 : Int32) (v2 : Int32) (v3 : Int32) (v4 : Int32) (v5 : Int32) : mv_run X call m_X3_passHours 43 [.ref a0, .int v1, .int v2, .int v3, .int v4, .int v5] [] h =
  if (nZ 10) ≤ v5 then 
  (mv_rcv X h [.ref a0] 7 (mv_clI call 58 [.ref a0] h mv_raise fun x1 h1 =>
    mv_run X call m_X3_passHours 4 [.ref a0, .int v1, .int (v2 + x1), .int (v3 + nZ 1), .int v4, .int v5] [] h1))
  else (mv_gR X h a0 7 0 fun r1 =>
    mv_aR X h r1 v5 fun r2 =>
    mv_rcv X h [.ref r2, .int v4] 4 (mv_clV call 7 [.ref r2, .int v4] h mv_raise fun h2 =>
    mv_run X call m_X3_passHours 43 [.ref a0, .int v1, .int v2, .int v3, .int v4, .int (v5 + nZ 1)] [] h2)) :=
  (s_iload rfl rfl).trans <| (s_bipush rfl).trans <| (s_icmp_ge rfl).trans <| c_ite ((s_iload_n rfl rfl).trans <| (s_aload_n rfl rfl).trans <| (s_v1 [.ref a0] [.int v2] rfl rfl (fun _ => rfl)).trans <| c_rcv <| c_clI fun x1 h1 => (s_iadd rfl).trans <| (s_istore_n (ls2 := [.ref a0, .int v1, .int (v2 + x1), .int v3, .int v4, .int v5]) rfl (fun _ => rfl)).trans <| (s_iinc (ls2 := [.ref a0, .int v1, .int (v2 + x1), .int (v3 + nZ 1), .int v4, .int v5]) rfl rfl (fun _ => rfl)).trans <| (s_goto rfl).trans <| rfl) ((s_aload_n rfl rfl).trans <| (s_gf2 rfl rfl).trans <| c_gR fun r1 => (s_iload rfl rfl).trans <| (s_aaload rfl).trans <| c_aR fun r2 => (s_iload rfl rfl).trans <| (s_v0 [.ref r2, .int v4] [] rfl rfl (fun _ => rfl)).trans <| c_rcv <| c_clV fun h2 => (s_iinc (ls2 := [.ref a0, .int v1, .int v2, .int v3, .int v4, .int (v5 + nZ 1)]) rfl rfl (fun _ => rfl)).trans <| (s_goto rfl).trans <| rfl)
theorem mc_X3_burstBalloons (X : mv_X) (d : Nat) (h : mv_H) (a0 : Nat) : mv_call X (d + 1) 58 [.ref a0] h = mv_run X (mv_call X d) m_X3_burstBalloons 0 [.ref a0, .retAddr 0, .retAddr 0] [] h := rfl
theorem bk_X3_burstBalloons_0 (X : mv_X) (call : mv_G) (h : mv_H) (a0 : Nat) : mv_run X call m_X3_burstBalloons 0 [.ref a0, .retAddr 0, .retAddr 0] [] h =
  mv_pf h a0 7 10 (.int (nZ 0)) fun h1 =>
  mv_pf h1 a0 7 11 (.int (nZ 0)) fun h2 =>
  mv_run X call m_X3_burstBalloons 12 [.ref a0, .int (nZ 0), .retAddr 0] [] h2 :=
  (s_aload_n rfl rfl).trans <| (s_iconst rfl).trans <| (s_pf1 rfl rfl).trans <| c_pf fun h1 => (s_aload_n rfl rfl).trans <| (s_iconst rfl).trans <| (s_pf1 rfl rfl).trans <| c_pf fun h2 => (s_iconst rfl).trans <| (s_istore_n (ls2 := [.ref a0, .int (nZ 0), .retAddr 0]) rfl (fun _ => rfl)).trans <| rfl
theorem bk_X3_burstBalloons_12 (X : mv_X) (call : mv_G) (h : mv_H) (a0 : Nat) (v1 : Int32) : mv_run X call m_X3_burstBalloons 12 [.ref a0, .int v1, .retAddr 0] [] h =
  if (nZ 10) ≤ v1 then 
  (mv_run X call m_X3_burstBalloons 31 [.ref a0, .int (nZ 0), .retAddr 0] [] h)
  else (mv_rcv X h [.ref a0, .int v1] 7 (mv_clV call 60 [.ref a0, .int v1] h mv_raise fun h1 =>
    mv_run X call m_X3_burstBalloons 12 [.ref a0, .int (v1 + nZ 1), .retAddr 0] [] h1)) :=
  (s_iload_n rfl rfl).trans <| (s_bipush rfl).trans <| (s_icmp_ge rfl).trans <| c_ite ((s_iconst rfl).trans <| (s_istore_n (ls2 := [.ref a0, .int (nZ 0), .retAddr 0]) rfl (fun _ => rfl)).trans <| rfl) ((s_aload_n rfl rfl).trans <| (s_iload_n rfl rfl).trans <| (s_v0 [.ref a0, .int v1] [] rfl rfl (fun _ => rfl)).trans <| c_rcv <| c_clV fun h1 => (s_iinc (ls2 := [.ref a0, .int (v1 + nZ 1), .retAddr 0]) rfl rfl (fun _ => rfl)).trans <| (s_goto rfl).trans <| rfl)
theorem bk_X3_burstBalloons_31 (X : mv_X) (call : mv_G) (h : mv_H) (a0 : Nat) (v1 : Int32) (j2 : Value) : mv_run X call m_X3_burstBalloons 31 [.ref a0, .int v1, j2] [] h =
  mv_gI X h a0 7 10 fun x1 =>
  if x1 ≤ v1 then 
  (mv_gI X h a0 7 5 fun x2 =>
    mv_gI X h a0 7 10 fun x3 =>
    mv_pf h a0 7 5 (.int (x2 + x3)) fun h1 =>
    mv_gI X h1 a0 7 10 fun x4 =>
    (some (.inl (some (.int x4)), h1)))
  else (if (nZ 10) ≤ v1 then 
    (mv_gI X h a0 7 5 fun x5 =>
      mv_gI X h a0 7 10 fun x6 =>
      mv_pf h a0 7 5 (.int (x5 + x6)) fun h2 =>
      mv_gI X h2 a0 7 10 fun x7 =>
      (some (.inl (some (.int x7)), h2)))
    else (mv_gR X h a0 7 9 fun r1 =>
      mv_aI X h 1 r1 v1 fun x8 =>
      mv_gR X h a0 7 0 fun r2 =>
      mv_aR X h r2 x8 fun r3 =>
      mv_chk (mv_ok 6 (nZ 0)) (mv_pf h r3 4 0 (.int (nZ 0)) fun h3 =>
      mv_gI X h3 a0 7 8 fun x9 =>
      mv_gR X h3 a0 7 0 fun r4 =>
      mv_aR X h3 r4 x8 fun r5 =>
      mv_gI X h3 r5 4 4 fun x10 =>
      mv_pf h3 a0 7 8 (.int (x9 + x10)) fun h4 =>
      mv_rcv X h4 [.ref a0, .int (x8 - (nZ 1))] 7 (mv_clV call 59 [.ref a0, .int (x8 - (nZ 1))] h4 mv_raise fun h5 =>
      mv_rcv X h5 [.ref a0, .int (x8 - (nZ 1))] 7 (mv_clV call 60 [.ref a0, .int (x8 - (nZ 1))] h5 mv_raise fun h6 =>
      mv_rcv X h6 [.ref a0, .int (x8 + (nZ 1))] 7 (mv_clV call 59 [.ref a0, .int (x8 + (nZ 1))] h6 mv_raise fun h7 =>
      mv_rcv X h7 [.ref a0, .int (x8 + (nZ 1))] 7 (mv_clV call 60 [.ref a0, .int (x8 + (nZ 1))] h7 mv_raise fun h8 =>
      mv_run X call m_X3_burstBalloons 31 [.ref a0, .int (v1 + nZ 1), .int x8] [] h8))))))) :=
  (s_iload_n rfl rfl).trans <| (s_aload_n rfl rfl).trans <| (s_gf1 rfl rfl).trans <| c_gI fun x1 => (s_icmp_ge rfl).trans <| c_ite ((s_aload_n rfl rfl).trans <| (s_dupR rfl).trans <| (s_gf1 rfl rfl).trans <| c_gI fun x2 => (s_aload_n rfl rfl).trans <| (s_gf1 rfl rfl).trans <| c_gI fun x3 => (s_iadd rfl).trans <| (s_pf1 rfl rfl).trans <| c_pf fun h1 => (s_aload_n rfl rfl).trans <| (s_gf1 rfl rfl).trans <| c_gI fun x4 => s_iret1 rfl rfl) ((s_iload_n rfl rfl).trans <| (s_bipush rfl).trans <| (s_icmp_ge rfl).trans <| c_ite ((s_aload_n rfl rfl).trans <| (s_dupR rfl).trans <| (s_gf1 rfl rfl).trans <| c_gI fun x5 => (s_aload_n rfl rfl).trans <| (s_gf1 rfl rfl).trans <| c_gI fun x6 => (s_iadd rfl).trans <| (s_pf1 rfl rfl).trans <| c_pf fun h2 => (s_aload_n rfl rfl).trans <| (s_gf1 rfl rfl).trans <| c_gI fun x7 => s_iret1 rfl rfl) ((s_aload_n rfl rfl).trans <| (s_gf2 rfl rfl).trans <| c_gR fun r1 => (s_iload_n rfl rfl).trans <| (s_iaload rfl).trans <| c_aI fun x8 => (s_istore_n (ls2 := [.ref a0, .int v1, .int x8]) rfl (fun _ => rfl)).trans <| (s_aload_n rfl rfl).trans <| (s_gf2 rfl rfl).trans <| c_gR fun r2 => (s_iload_n rfl rfl).trans <| (s_aaload rfl).trans <| c_aR fun r3 => (s_iconst rfl).trans <| (s_pf6 rfl rfl).trans <| c_chk <| c_pf fun h3 => (s_aload_n rfl rfl).trans <| (s_dupR rfl).trans <| (s_gf1 rfl rfl).trans <| c_gI fun x9 => (s_aload_n rfl rfl).trans <| (s_gf2 rfl rfl).trans <| c_gR fun r4 => (s_iload_n rfl rfl).trans <| (s_aaload rfl).trans <| c_aR fun r5 => (s_gf1 rfl rfl).trans <| c_gI fun x10 => (s_iadd rfl).trans <| (s_pf1 rfl rfl).trans <| c_pf fun h4 => (s_aload_n rfl rfl).trans <| (s_iload_n rfl rfl).trans <| (s_iconst rfl).trans <| (s_isub rfl).trans <| (s_v0 [.ref a0, .int (x8 - (nZ 1))] [] rfl rfl (fun _ => rfl)).trans <| c_rcv <| c_clV fun h5 => (s_aload_n rfl rfl).trans <| (s_iload_n rfl rfl).trans <| (s_iconst rfl).trans <| (s_isub rfl).trans <| (s_v0 [.ref a0, .int (x8 - (nZ 1))] [] rfl rfl (fun _ => rfl)).trans <| c_rcv <| c_clV fun h6 => (s_aload_n rfl rfl).trans <| (s_iload_n rfl rfl).trans <| (s_iconst rfl).trans <| (s_iadd rfl).trans <| (s_v0 [.ref a0, .int (x8 + (nZ 1))] [] rfl rfl (fun _ => rfl)).trans <| c_rcv <| c_clV fun h7 => (s_aload_n rfl rfl).trans <| (s_iload_n rfl rfl).trans <| (s_iconst rfl).trans <| (s_iadd rfl).trans <| (s_v0 [.ref a0, .int (x8 + (nZ 1))] [] rfl rfl (fun _ => rfl)).trans <| c_rcv <| c_clV fun h8 => (s_iinc (ls2 := [.ref a0, .int (v1 + nZ 1), .int x8]) rfl rfl (fun _ => rfl)).trans <| (s_goto rfl).trans <| rfl))
theorem mc_X3_shake (X : mv_X) (d : Nat) (h : mv_H) (a0 : Nat) (v1 : Int32) : mv_call X (d + 1) 59 [.ref a0, .int v1] h = mv_run X (mv_call X d) m_X3_shake 0 [.ref a0, .int v1] [] h := rfl
theorem bk_X3_shake_0 (X : mv_X) (call : mv_G) (h : mv_H) (a0 : Nat) (v1 : Int32) : mv_run X call m_X3_shake 0 [.ref a0, .int v1] [] h =
  mv_rcv X h [.ref a0, .int v1] 7 (mv_clI call 27 [.ref a0, .int v1] h mv_raise fun x1 h1 =>
  if x1 = 0 then 
  ((some (.inl none, h1)))
  else (mv_gI X h1 a0 7 8 fun x2 =>
    mv_gR X h1 a0 7 0 fun r1 =>
    mv_aR X h1 r1 v1 fun r2 =>
    mv_gR X h1 a0 7 0 fun r3 =>
    mv_aR X h1 r3 v1 fun r4 =>
    mv_gI X h1 r4 4 5 fun x3 =>
    mv_rcv X h1 [.ref r2, .int (x3 - (nZ 1))] 4 (mv_clI call 10 [.ref r2, .int (x3 - (nZ 1))] h1 mv_raise fun x4 h2 =>
    mv_pf h2 a0 7 8 (.int (x2 + x4)) fun h3 =>
    (some (.inl none, h3))))) :=
  (s_aload_n rfl rfl).trans <| (s_iload_n rfl rfl).trans <| (s_v1 [.ref a0, .int v1] [] rfl rfl (fun _ => rfl)).trans <| c_rcv <| c_clI fun x1 h1 => (s_if_eq rfl).trans <| c_ite (s_ret rfl rfl) ((s_aload_n rfl rfl).trans <| (s_dupR rfl).trans <| (s_gf1 rfl rfl).trans <| c_gI fun x2 => (s_aload_n rfl rfl).trans <| (s_gf2 rfl rfl).trans <| c_gR fun r1 => (s_iload_n rfl rfl).trans <| (s_aaload rfl).trans <| c_aR fun r2 => (s_aload_n rfl rfl).trans <| (s_gf2 rfl rfl).trans <| c_gR fun r3 => (s_iload_n rfl rfl).trans <| (s_aaload rfl).trans <| c_aR fun r4 => (s_gf1 rfl rfl).trans <| c_gI fun x3 => (s_iconst rfl).trans <| (s_isub rfl).trans <| (s_v1 [.ref r2, .int (x3 - (nZ 1))] [.int x2, .ref a0] rfl rfl (fun _ => rfl)).trans <| c_rcv <| c_clI fun x4 h2 => (s_iadd rfl).trans <| (s_pf1 rfl rfl).trans <| c_pf fun h3 => s_ret rfl rfl)
theorem mc_X3_queueIfOverstrained (X : mv_X) (d : Nat) (h : mv_H) (a0 : Nat) (v1 : Int32) : mv_call X (d + 1) 60 [.ref a0, .int v1] h = mv_run X (mv_call X d) m_X3_queueIfOverstrained 0 [.ref a0, .int v1] [] h := rfl
theorem bk_X3_queueIfOverstrained_0 (X : mv_X) (call : mv_G) (h : mv_H) (a0 : Nat) (v1 : Int32) : mv_run X call m_X3_queueIfOverstrained 0 [.ref a0, .int v1] [] h =
  mv_rcv X h [.ref a0, .int v1] 7 (mv_clI call 27 [.ref a0, .int v1] h mv_raise fun x1 h1 =>
  if x1 = 0 then 
  ((some (.inl none, h1)))
  else (mv_gI X h1 a0 7 11 fun x2 =>
    if (x2 &&& ((nZ 1) <<< (v1 &&& 31))) = 0 then 
    (mv_gR X h1 a0 7 0 fun r1 =>
      mv_aR X h1 r1 v1 fun r2 =>
      mv_rcv X h1 [.ref r2] 4 (mv_clI call 6 [.ref r2] h1 mv_raise fun x3 h2 =>
      if x3 = 0 then 
      ((some (.inl none, h2)))
      else (mv_gI X h2 a0 7 10 fun x4 =>
        if (nZ 10) ≤ x4 then 
        ((some (.inl none, h2)))
        else (mv_gR X h2 a0 7 9 fun r3 =>
          mv_gI X h2 a0 7 10 fun x5 =>
          mv_as h2 1 r3 x5 (.int v1) fun h3 =>
          mv_gI X h3 a0 7 10 fun x6 =>
          mv_pf h3 a0 7 10 (.int (x6 + (nZ 1))) fun h4 =>
          mv_gI X h4 a0 7 11 fun x7 =>
          mv_pf h4 a0 7 11 (.int (x7 ||| ((nZ 1) <<< (v1 &&& 31)))) fun h5 =>
          (some (.inl none, h5))))))
    else ((some (.inl none, h1))))) :=
  (s_aload_n rfl rfl).trans <| (s_iload_n rfl rfl).trans <| (s_v1 [.ref a0, .int v1] [] rfl rfl (fun _ => rfl)).trans <| c_rcv <| c_clI fun x1 h1 => (s_if_eq rfl).trans <| c_ite (s_ret rfl rfl) ((s_aload_n rfl rfl).trans <| (s_gf1 rfl rfl).trans <| c_gI fun x2 => (s_iconst rfl).trans <| (s_iload_n rfl rfl).trans <| (s_ishl rfl).trans <| (s_iand rfl).trans <| (s_if_eq rfl).trans <| c_ite ((s_aload_n rfl rfl).trans <| (s_gf2 rfl rfl).trans <| c_gR fun r1 => (s_iload_n rfl rfl).trans <| (s_aaload rfl).trans <| c_aR fun r2 => (s_v1 [.ref r2] [] rfl rfl (fun _ => rfl)).trans <| c_rcv <| c_clI fun x3 h2 => (s_if_eq rfl).trans <| c_ite (s_ret rfl rfl) ((s_aload_n rfl rfl).trans <| (s_gf1 rfl rfl).trans <| c_gI fun x4 => (s_bipush rfl).trans <| (s_icmp_ge rfl).trans <| c_ite (s_ret rfl rfl) ((s_aload_n rfl rfl).trans <| (s_gf2 rfl rfl).trans <| c_gR fun r3 => (s_aload_n rfl rfl).trans <| (s_gf1 rfl rfl).trans <| c_gI fun x5 => (s_iload_n rfl rfl).trans <| (s_iastore rfl).trans <| c_as fun h3 => (s_aload_n rfl rfl).trans <| (s_dupR rfl).trans <| (s_gf1 rfl rfl).trans <| c_gI fun x6 => (s_iconst rfl).trans <| (s_iadd rfl).trans <| (s_pf1 rfl rfl).trans <| c_pf fun h4 => (s_aload_n rfl rfl).trans <| (s_dupR rfl).trans <| (s_gf1 rfl rfl).trans <| c_gI fun x7 => (s_iconst rfl).trans <| (s_iload_n rfl rfl).trans <| (s_ishl rfl).trans <| (s_ior rfl).trans <| (s_pf1 rfl rfl).trans <| c_pf fun h5 => s_ret rfl rfl))) (s_ret rfl rfl))
theorem mc_X4_init (X : mv_X) (d : Nat) (h : mv_H) (a0 : Nat) : mv_call X (d + 1) 61 [.ref a0] h = mv_run X (mv_call X d) m_X4_init 0 [.ref a0, .retAddr 0] [] h := rfl
theorem bk_X4_init_0 (X : mv_X) (call : mv_G) (h : mv_H) (a0 : Nat) : mv_run X call m_X4_init 0 [.ref a0, .retAddr 0] [] h =
  mv_newa h (.object (mv_cn 7)) .null (nZ 8) fun r1 h1 =>
  mv_pf h1 a0 8 0 (.ref r1) fun h2 =>
  mv_pf h2 a0 8 1 (.int (nZ 0)) fun h3 =>
  mv_pf h3 a0 8 2 (.int (nZ 0)) fun h4 =>
  mv_run X call m_X4_init 25 [.ref a0, .int (nZ 0)] [] h4 :=
  (s_aload_n rfl rfl).trans <| (s_oinit [] rfl rfl (fun _ => rfl)).trans <| (s_aload_n rfl rfl).trans <| (s_bipush rfl).trans <| (s_anewa rfl rfl).trans <| c_newa fun r1 h1 => (s_pf2 rfl rfl).trans <| c_pf fun h2 => (s_aload_n rfl rfl).trans <| (s_iconst rfl).trans <| (s_pf1 rfl rfl).trans <| c_pf fun h3 => (s_aload_n rfl rfl).trans <| (s_iconst rfl).trans <| (s_pf1 rfl rfl).trans <| c_pf fun h4 => (s_iconst rfl).trans <| (s_istore_n (ls2 := [.ref a0, .int (nZ 0)]) rfl (fun _ => rfl)).trans <| rfl
theorem bk_X4_init_25 (X : mv_X) (call : mv_G) (h : mv_H) (a0 : Nat) (v1 : Int32) : mv_run X call m_X4_init 25 [.ref a0, .int v1] [] h =
  if (nZ 8) ≤ v1 then 
  ((some (.inl none, h)))
  else (mv_gR X h a0 8 0 fun r1 =>
    mv_new h (.inl (7, mv_df 7)) 12 fun r2 h1 =>
    mv_clV call 25 [.ref r2] h1 mv_raise fun h2 =>
    mv_aa h2 r1 v1 r2 fun h3 =>
    mv_run X call m_X4_init 25 [.ref a0, .int (v1 + nZ 1)] [] h3) :=
  (s_iload_n rfl rfl).trans <| (s_bipush rfl).trans <| (s_icmp_ge rfl).trans <| c_ite (s_ret rfl rfl) ((s_aload_n rfl rfl).trans <| (s_gf2 rfl rfl).trans <| c_gR fun r1 => (s_iload_n rfl rfl).trans <| (s_new rfl rfl).trans <| c_new fun r2 h1 => (s_dupR rfl).trans <| (s_i0 [] [.ref r2, .int v1, .ref r1] rfl rfl (fun _ => rfl)).trans <| c_clV fun h2 => (s_aastore rfl).trans <| c_aa fun h3 => (s_iinc (ls2 := [.ref a0, .int (v1 + nZ 1)]) rfl rfl (fun _ => rfl)).trans <| (s_goto rfl).trans <| rfl)
theorem mc_X4_remember (X : mv_X) (d : Nat) (h : mv_H) (a0 : Nat) (a1 : Nat) : mv_call X (d + 1) 62 [.ref a0, .ref a1] h = mv_run X (mv_call X d) m_X4_remember 0 [.ref a0, .ref a1] [] h := rfl
theorem bk_X4_remember_0 (X : mv_X) (call : mv_G) (h : mv_H) (a0 : Nat) (a1 : Nat) : mv_run X call m_X4_remember 0 [.ref a0, .ref a1] [] h =
  mv_gR X h a0 8 0 fun r1 =>
  mv_gI X h a0 8 1 fun x1 =>
  mv_aR X h r1 x1 fun r2 =>
  mv_rcv X h [.ref r2, .ref a1] 7 (mv_clV call 26 [.ref r2, .ref a1] h mv_raise fun h1 =>
  mv_gI X h1 a0 8 1 fun x2 =>
  if (nZ 8) = 0 then none else 
  mv_pf h1 a0 8 1 (.int ((x2 + (nZ 1)) - (x2 + (nZ 1)) / (nZ 8) * (nZ 8))) fun h2 =>
  mv_gI X h2 a0 8 2 fun x3 =>
  mv_clI call 267 [.int (x3 + (nZ 1)), .int (nZ 8)] h2 mv_raise fun x4 h3 =>
  mv_pf h3 a0 8 2 (.int x4) fun h4 =>
  (some (.inl none, h4))) :=
  (s_aload_n rfl rfl).trans <| (s_gf2 rfl rfl).trans <| c_gR fun r1 => (s_aload_n rfl rfl).trans <| (s_gf1 rfl rfl).trans <| c_gI fun x1 => (s_aaload rfl).trans <| c_aR fun r2 => (s_aload_n rfl rfl).trans <| (s_v0 [.ref r2, .ref a1] [] rfl rfl (fun _ => rfl)).trans <| c_rcv <| c_clV fun h1 => (s_aload_n rfl rfl).trans <| (s_aload_n rfl rfl).trans <| (s_gf1 rfl rfl).trans <| c_gI fun x2 => (s_iconst rfl).trans <| (s_iadd rfl).trans <| (s_bipush rfl).trans <| (s_irem rfl).trans <| c_ite rfl <| (s_pf1 rfl rfl).trans <| c_pf fun h2 => (s_aload_n rfl rfl).trans <| (s_aload_n rfl rfl).trans <| (s_gf1 rfl rfl).trans <| c_gI fun x3 => (s_iconst rfl).trans <| (s_iadd rfl).trans <| (s_bipush rfl).trans <| (s_s1 [.int (x3 + (nZ 1)), .int (nZ 8)] [.ref a0] rfl rfl (fun _ => rfl)).trans <| c_clI fun x4 h3 => (s_pf1 rfl rfl).trans <| c_pf fun h4 => s_ret rfl rfl
theorem mc_X4_bringBack (X : mv_X) (d : Nat) (h : mv_H) (a0 : Nat) (a1 : Nat) : mv_call X (d + 1) 63 [.ref a0, .ref a1] h = mv_run X (mv_call X d) m_X4_bringBack 0 [.ref a0, .ref a1] [] h := rfl
theorem bk_X4_bringBack_0 (X : mv_X) (call : mv_G) (h : mv_H) (a0 : Nat) (a1 : Nat) : mv_run X call m_X4_bringBack 0 [.ref a0, .ref a1] [] h =
  mv_gI X h a0 8 2 fun x1 =>
  if x1 ≤ 0 then 
  ((some (.inl none, h)))
  else (mv_gI X h a0 8 1 fun x2 =>
    if (nZ 8) = 0 then none else 
    mv_pf h a0 8 1 (.int (((x2 + (nZ 8)) - (nZ 1)) - ((x2 + (nZ 8)) - (nZ 1)) / (nZ 8) * (nZ 8))) fun h1 =>
    mv_gI X h1 a0 8 2 fun x3 =>
    mv_pf h1 a0 8 2 (.int (x3 - (nZ 1))) fun h2 =>
    mv_gR X h2 a0 8 0 fun r1 =>
    mv_gI X h2 a0 8 1 fun x4 =>
    mv_aR X h2 r1 x4 fun r2 =>
    mv_rcv X h2 [.ref a1, .ref r2] 7 (mv_clV call 26 [.ref a1, .ref r2] h2 mv_raise fun h3 =>
    (some (.inl none, h3)))) :=
  (s_aload_n rfl rfl).trans <| (s_gf1 rfl rfl).trans <| c_gI fun x1 => (s_if_le rfl).trans <| c_ite (s_ret rfl rfl) ((s_aload_n rfl rfl).trans <| (s_aload_n rfl rfl).trans <| (s_gf1 rfl rfl).trans <| c_gI fun x2 => (s_bipush rfl).trans <| (s_iadd rfl).trans <| (s_iconst rfl).trans <| (s_isub rfl).trans <| (s_bipush rfl).trans <| (s_irem rfl).trans <| c_ite rfl <| (s_pf1 rfl rfl).trans <| c_pf fun h1 => (s_aload_n rfl rfl).trans <| (s_dupR rfl).trans <| (s_gf1 rfl rfl).trans <| c_gI fun x3 => (s_iconst rfl).trans <| (s_isub rfl).trans <| (s_pf1 rfl rfl).trans <| c_pf fun h2 => (s_aload_n rfl rfl).trans <| (s_aload_n rfl rfl).trans <| (s_gf2 rfl rfl).trans <| c_gR fun r1 => (s_aload_n rfl rfl).trans <| (s_gf1 rfl rfl).trans <| c_gI fun x4 => (s_aaload rfl).trans <| c_aR fun r2 => (s_v0 [.ref a1, .ref r2] [] rfl rfl (fun _ => rfl)).trans <| c_rcv <| c_clV fun h3 => s_ret rfl rfl)
theorem mc_X5_init (X : mv_X) (d : Nat) (h : mv_H) (a0 : Nat) : mv_call X (d + 1) 64 [.ref a0] h = mv_run X (mv_call X d) m_X5_init 0 [.ref a0] [] h := rfl
theorem bk_X5_init_0 (X : mv_X) (call : mv_G) (h : mv_H) (a0 : Nat) : mv_run X call m_X5_init 0 [.ref a0] [] h =
  mv_pf h a0 9 0 (.int (nZ 1)) fun h1 =>
  mv_pf h1 a0 9 1 (.int (nZ 0)) fun h2 =>
  mv_pf h2 a0 9 2 (.int (nZ 0)) fun h3 =>
  (some (.inl none, h3)) :=
  (s_aload_n rfl rfl).trans <| (s_oinit [] rfl rfl (fun _ => rfl)).trans <| (s_aload_n rfl rfl).trans <| (s_iconst rfl).trans <| (s_pf1 rfl rfl).trans <| c_pf fun h1 => (s_aload_n rfl rfl).trans <| (s_iconst rfl).trans <| (s_pf1 rfl rfl).trans <| c_pf fun h2 => (s_aload_n rfl rfl).trans <| (s_iconst rfl).trans <| (s_pf1 rfl rfl).trans <| c_pf fun h3 => s_ret rfl rfl
theorem mc_X5_set (X : mv_X) (d : Nat) (h : mv_H) (a0 : Nat) (v1 : Int32) (v2 : Int32) (v3 : Int32) : mv_call X (d + 1) 65 [.ref a0, .int v1, .int v2, .int v3] h = mv_run X (mv_call X d) m_X5_set 0 [.ref a0, .int v1, .int v2, .int v3] [] h := rfl
theorem bk_X5_set_0 (X : mv_X) (call : mv_G) (h : mv_H) (a0 : Nat) (v1 : Int32) (v2 : Int32) (v3 : Int32) : mv_run X call m_X5_set 0 [.ref a0, .int v1, .int v2, .int v3] [] h =
  mv_pf h a0 9 0 (.int v1) fun h1 =>
  mv_pf h1 a0 9 1 (.int v2) fun h2 =>
  mv_pf h2 a0 9 2 (.int v3) fun h3 =>
  (some (.inl none, h3)) :=
  (s_aload_n rfl rfl).trans <| (s_iload_n rfl rfl).trans <| (s_pf1 rfl rfl).trans <| c_pf fun h1 => (s_aload_n rfl rfl).trans <| (s_iload_n rfl rfl).trans <| (s_pf1 rfl rfl).trans <| c_pf fun h2 => (s_aload_n rfl rfl).trans <| (s_iload_n rfl rfl).trans <| (s_pf1 rfl rfl).trans <| c_pf fun h3 => s_ret rfl rfl
theorem mc_X5_copyFrom (X : mv_X) (d : Nat) (h : mv_H) (a0 : Nat) (a1 : Nat) : mv_call X (d + 1) 66 [.ref a0, .ref a1] h = mv_run X (mv_call X d) m_X5_copyFrom 0 [.ref a0, .ref a1] [] h := rfl
theorem bk_X5_copyFrom_0 (X : mv_X) (call : mv_G) (h : mv_H) (a0 : Nat) (a1 : Nat) : mv_run X call m_X5_copyFrom 0 [.ref a0, .ref a1] [] h =
  mv_gI X h a1 9 0 fun x1 =>
  mv_gI X h a1 9 1 fun x2 =>
  mv_gI X h a1 9 2 fun x3 =>
  mv_rcv X h [.ref a0, .int x1, .int x2, .int x3] 9 (mv_clV call 65 [.ref a0, .int x1, .int x2, .int x3] h mv_raise fun h1 =>
  (some (.inl none, h1))) :=
  (s_aload_n rfl rfl).trans <| (s_aload_n rfl rfl).trans <| (s_gf1 rfl rfl).trans <| c_gI fun x1 => (s_aload_n rfl rfl).trans <| (s_gf1 rfl rfl).trans <| c_gI fun x2 => (s_aload_n rfl rfl).trans <| (s_gf1 rfl rfl).trans <| c_gI fun x3 => (s_v0 [.ref a0, .int x1, .int x2, .int x3] [] rfl rfl (fun _ => rfl)).trans <| c_rcv <| c_clV fun h1 => s_ret rfl rfl
theorem mc_X5_worksAt (X : mv_X) (d : Nat) (h : mv_H) (a0 : Nat) (v1 : Int32) : mv_call X (d + 1) 67 [.ref a0, .int v1] h = mv_run X (mv_call X d) m_X5_worksAt 0 [.ref a0, .int v1] [] h := rfl
theorem bk_X5_worksAt_0 (X : mv_X) (call : mv_G) (h : mv_H) (a0 : Nat) (v1 : Int32) : mv_run X call m_X5_worksAt 0 [.ref a0, .int v1] [] h =
  mv_gI X h a0 9 1 fun x1 =>
  mv_gI X h a0 9 2 fun x2 =>
  if x2 < x1 then 
  (mv_gI X h a0 9 1 fun x3 =>
    if x3 ≤ v1 then 
    ((some (.inl (some (.int (nZ 1))), h)))
    else (mv_gI X h a0 9 2 fun x4 =>
      if x4 < v1 then 
      ((some (.inl (some (.int (nZ 0))), h)))
      else ((some (.inl (some (.int (nZ 1))), h)))))
  else (mv_gI X h a0 9 1 fun x5 =>
    if v1 < x5 then 
    ((some (.inl (some (.int (nZ 0))), h)))
    else (mv_gI X h a0 9 2 fun x6 =>
      if x6 < v1 then 
      ((some (.inl (some (.int (nZ 0))), h)))
      else ((some (.inl (some (.int (nZ 1))), h))))) :=
  (s_aload_n rfl rfl).trans <| (s_gf1 rfl rfl).trans <| c_gI fun x1 => (s_aload_n rfl rfl).trans <| (s_gf1 rfl rfl).trans <| c_gI fun x2 => (s_icmp_gt rfl).trans <| c_ite ((s_iload_n rfl rfl).trans <| (s_aload_n rfl rfl).trans <| (s_gf1 rfl rfl).trans <| c_gI fun x3 => (s_icmp_ge rfl).trans <| c_ite ((s_iconst rfl).trans <| (s_goto rfl).trans <| s_iretb rfl rfl) ((s_iload_n rfl rfl).trans <| (s_aload_n rfl rfl).trans <| (s_gf1 rfl rfl).trans <| c_gI fun x4 => (s_icmp_gt rfl).trans <| c_ite ((s_iconst rfl).trans <| s_iretb rfl rfl) ((s_iconst rfl).trans <| (s_goto rfl).trans <| s_iretb rfl rfl))) ((s_iload_n rfl rfl).trans <| (s_aload_n rfl rfl).trans <| (s_gf1 rfl rfl).trans <| c_gI fun x5 => (s_icmp_lt rfl).trans <| c_ite ((s_iconst rfl).trans <| s_iretb rfl rfl) ((s_iload_n rfl rfl).trans <| (s_aload_n rfl rfl).trans <| (s_gf1 rfl rfl).trans <| c_gI fun x6 => (s_icmp_gt rfl).trans <| c_ite ((s_iconst rfl).trans <| s_iretb rfl rfl) ((s_iconst rfl).trans <| (s_goto rfl).trans <| s_iretb rfl rfl)))
theorem mc_X6_init (X : mv_X) (d : Nat) (h : mv_H) (a0 : Nat) : mv_call X (d + 1) 68 [.ref a0] h = mv_run X (mv_call X d) m_X6_init 0 [.ref a0, .retAddr 0] [] h := rfl
theorem bk_X6_init_0 (X : mv_X) (call : mv_G) (h : mv_H) (a0 : Nat) : mv_run X call m_X6_init 0 [.ref a0, .retAddr 0] [] h =
  mv_newa h .char (.int 0) (nZ 60) fun r1 h1 =>
  mv_pf h1 a0 10 0 (.ref r1) fun h2 =>
  mv_pf h2 a0 10 1 (.int (nZ 0)) fun h3 =>
  mv_newa h3 (.object (mv_cn 5)) .null (nZ 9) fun r2 h4 =>
  mv_pf h4 a0 10 2 (.ref r2) fun h5 =>
  mv_pf h5 a0 10 3 (.int (nZ 0)) fun h6 =>
  mv_pf h6 a0 10 4 (.int (nZ 0)) fun h7 =>
  mv_run X call m_X6_init 38 [.ref a0, .int (nZ 0)] [] h7 :=
  (s_aload_n rfl rfl).trans <| (s_oinit [] rfl rfl (fun _ => rfl)).trans <| (s_aload_n rfl rfl).trans <| (s_bipush rfl).trans <| (s_newa_char rfl).trans <| c_newa fun r1 h1 => (s_pf2 rfl rfl).trans <| c_pf fun h2 => (s_aload_n rfl rfl).trans <| (s_iconst rfl).trans <| (s_pf1 rfl rfl).trans <| c_pf fun h3 => (s_aload_n rfl rfl).trans <| (s_bipush rfl).trans <| (s_anewa rfl rfl).trans <| c_newa fun r2 h4 => (s_pf2 rfl rfl).trans <| c_pf fun h5 => (s_aload_n rfl rfl).trans <| (s_iconst rfl).trans <| (s_pf1 rfl rfl).trans <| c_pf fun h6 => (s_aload_n rfl rfl).trans <| (s_iconst rfl).trans <| (s_pf1 rfl rfl).trans <| c_pf fun h7 => (s_iconst rfl).trans <| (s_istore_n (ls2 := [.ref a0, .int (nZ 0)]) rfl (fun _ => rfl)).trans <| rfl
theorem bk_X6_init_38 (X : mv_X) (call : mv_G) (h : mv_H) (a0 : Nat) (v1 : Int32) : mv_run X call m_X6_init 38 [.ref a0, .int v1] [] h =
  if (nZ 9) ≤ v1 then 
  ((some (.inl none, h)))
  else (mv_gR X h a0 10 2 fun r1 =>
    mv_new h (.inl (5, mv_df 5)) 3 fun r2 h1 =>
    mv_clV call 16 [.ref r2] h1 mv_raise fun h2 =>
    mv_aa h2 r1 v1 r2 fun h3 =>
    mv_run X call m_X6_init 38 [.ref a0, .int (v1 + nZ 1)] [] h3) :=
  (s_iload_n rfl rfl).trans <| (s_bipush rfl).trans <| (s_icmp_ge rfl).trans <| c_ite (s_ret rfl rfl) ((s_aload_n rfl rfl).trans <| (s_gf2 rfl rfl).trans <| c_gR fun r1 => (s_iload_n rfl rfl).trans <| (s_new rfl rfl).trans <| c_new fun r2 h1 => (s_dupR rfl).trans <| (s_i0 [] [.ref r2, .int v1, .ref r1] rfl rfl (fun _ => rfl)).trans <| c_clV fun h2 => (s_aastore rfl).trans <| c_aa fun h3 => (s_iinc (ls2 := [.ref a0, .int (v1 + nZ 1)]) rfl rfl (fun _ => rfl)).trans <| (s_goto rfl).trans <| rfl)
theorem mc_X6_append (X : mv_X) (d : Nat) (h : mv_H) (a0 : Nat) (v1 : Int32) : mv_call X (d + 1) 69 [.ref a0, .int v1] h = mv_run X (mv_call X d) m_X6_append 0 [.ref a0, .int v1] [] h := rfl
theorem bk_X6_append_0 (X : mv_X) (call : mv_G) (h : mv_H) (a0 : Nat) (v1 : Int32) : mv_run X call m_X6_append 0 [.ref a0, .int v1] [] h =
  mv_gI X h a0 10 1 fun x1 =>
  if (nZ 60) ≤ x1 then 
  ((some (.inl none, h)))
  else (mv_gR X h a0 10 0 fun r1 =>
    mv_gI X h a0 10 1 fun x2 =>
    mv_as h 7 r1 x2 (.int (vp_nar .char v1)) fun h1 =>
    mv_gI X h1 a0 10 1 fun x3 =>
    mv_pf h1 a0 10 1 (.int (x3 + (nZ 1))) fun h2 =>
    (some (.inl none, h2))) :=
  (s_aload_n rfl rfl).trans <| (s_gf1 rfl rfl).trans <| c_gI fun x1 => (s_bipush rfl).trans <| (s_icmp_ge rfl).trans <| c_ite (s_ret rfl rfl) ((s_aload_n rfl rfl).trans <| (s_gf2 rfl rfl).trans <| c_gR fun r1 => (s_aload_n rfl rfl).trans <| (s_gf1 rfl rfl).trans <| c_gI fun x2 => (s_iload_n rfl rfl).trans <| (s_castore rfl).trans <| c_as fun h1 => (s_aload_n rfl rfl).trans <| (s_dupR rfl).trans <| (s_gf1 rfl rfl).trans <| c_gI fun x3 => (s_iconst rfl).trans <| (s_iadd rfl).trans <| (s_pf1 rfl rfl).trans <| c_pf fun h2 => s_ret rfl rfl)
theorem mc_X6_read (X : mv_X) (d : Nat) (h : mv_H) (a0 : Nat) : mv_call X (d + 1) 70 [.ref a0] h = mv_run X (mv_call X d) m_X6_read 0 [.ref a0] [] h := rfl
theorem bk_X6_read_0 (X : mv_X) (call : mv_G) (h : mv_H) (a0 : Nat) : mv_run X call m_X6_read 0 [.ref a0] [] h =
  mv_pf h a0 10 4 (.int (nZ 0)) fun h1 =>
  mv_pf h1 a0 10 3 (.int (nZ 0)) fun h2 =>
  mv_run X call m_X6_read 10 [.ref a0] [] h2 :=
  (s_aload_n rfl rfl).trans <| (s_iconst rfl).trans <| (s_pf1 rfl rfl).trans <| c_pf fun h1 => (s_aload_n rfl rfl).trans <| (s_iconst rfl).trans <| (s_pf1 rfl rfl).trans <| c_pf fun h2 => rfl
theorem bk_X6_read_10 (X : mv_X) (call : mv_G) (h : mv_H) (a0 : Nat) : mv_run X call m_X6_read 10 [.ref a0] [] h =
  mv_gI X h a0 10 3 fun x1 =>
  if (nZ 9) ≤ x1 then 
  ((some (.inl (some (.int (nZ 0))), h)))
  else (mv_gR X h a0 10 2 fun r1 =>
    mv_gI X h a0 10 3 fun x2 =>
    mv_aR X h r1 x2 fun r2 =>
    mv_rcv X h [.ref a0, .ref r2] 10 (mv_clI call 71 [.ref a0, .ref r2] h mv_raise fun x3 h1 =>
    if x3 = 0 then 
    ((some (.inl (some (.int (nZ 0))), h1)))
    else (mv_gI X h1 a0 10 3 fun x4 =>
      mv_pf h1 a0 10 3 (.int (x4 + (nZ 1))) fun h2 =>
      mv_gI X h2 a0 10 4 fun x5 =>
      mv_gI X h2 a0 10 1 fun x6 =>
      if x5 < x6 then 
      (mv_rcv X h2 [.ref a0, .int (nZ 59)] 10 (mv_clI call 76 [.ref a0, .int (nZ 59)] h2 mv_raise fun x7 h3 =>
        if x7 = 0 then 
        ((some (.inl (some (.int (nZ 0))), h3)))
        else (mv_run X call m_X6_read 10 [.ref a0] [] h3)))
      else ((some (.inl (some (.int (nZ 1))), h2)))))) :=
  (s_aload_n rfl rfl).trans <| (s_gf1 rfl rfl).trans <| c_gI fun x1 => (s_bipush rfl).trans <| (s_icmp_ge rfl).trans <| c_ite ((s_iconst rfl).trans <| s_iretb rfl rfl) ((s_aload_n rfl rfl).trans <| (s_aload_n rfl rfl).trans <| (s_gf2 rfl rfl).trans <| c_gR fun r1 => (s_aload_n rfl rfl).trans <| (s_gf1 rfl rfl).trans <| c_gI fun x2 => (s_aaload rfl).trans <| c_aR fun r2 => (s_v1 [.ref a0, .ref r2] [] rfl rfl (fun _ => rfl)).trans <| c_rcv <| c_clI fun x3 h1 => (s_if_ne rfl).trans <| c_ite ((s_iconst rfl).trans <| s_iretb rfl rfl) ((s_aload_n rfl rfl).trans <| (s_dupR rfl).trans <| (s_gf1 rfl rfl).trans <| c_gI fun x4 => (s_iconst rfl).trans <| (s_iadd rfl).trans <| (s_pf1 rfl rfl).trans <| c_pf fun h2 => (s_aload_n rfl rfl).trans <| (s_gf1 rfl rfl).trans <| c_gI fun x5 => (s_aload_n rfl rfl).trans <| (s_gf1 rfl rfl).trans <| c_gI fun x6 => (s_icmp_lt rfl).trans <| c_ite ((s_aload_n rfl rfl).trans <| (s_bipush rfl).trans <| (s_v1 [.ref a0, .int (nZ 59)] [] rfl rfl (fun _ => rfl)).trans <| c_rcv <| c_clI fun x7 h3 => (s_if_ne rfl).trans <| c_ite ((s_iconst rfl).trans <| s_iretb rfl rfl) (rfl)) ((s_iconst rfl).trans <| s_iretb rfl rfl)))
theorem mc_X6_readCommand (X : mv_X) (d : Nat) (h : mv_H) (a0 : Nat) (a1 : Nat) : mv_call X (d + 1) 71 [.ref a0, .ref a1] h = mv_run X (mv_call X d) m_X6_readCommand 0 [.ref a0, .ref a1, .retAddr 0, .retAddr 0, .retAddr 0] [] h := rfl
theorem bk_X6_readCommand_0 (X : mv_X) (call : mv_G) (h : mv_H) (a0 : Nat) (a1 : Nat) : mv_run X call m_X6_readCommand 0 [.ref a0, .ref a1, .retAddr 0, .retAddr 0, .retAddr 0] [] h =
  mv_gI X h a0 10 4 fun x1 =>
  mv_run X call m_X6_readCommand 10 [.ref a0, .ref a1, .int x1, .int x1, .int (nZ 0)] [] h :=
  (s_aload_n rfl rfl).trans <| (s_gf1 rfl rfl).trans <| c_gI fun x1 => (s_istore_n (ls2 := [.ref a0, .ref a1, .int x1, .retAddr 0, .retAddr 0]) rfl (fun _ => rfl)).trans <| (s_iload_n rfl rfl).trans <| (s_istore_n (ls2 := [.ref a0, .ref a1, .int x1, .int x1, .retAddr 0]) rfl (fun _ => rfl)).trans <| (s_iconst rfl).trans <| (s_istore (ls2 := [.ref a0, .ref a1, .int x1, .int x1, .int (nZ 0)]) rfl (fun _ => rfl)).trans <| rfl
theorem bk_X6_readCommand_10 (X : mv_X) (call : mv_G) (h : mv_H) (a0 : Nat) (a1 : Nat) (v2 : Int32) (v3 : Int32) (v4 : Int32) : mv_run X call m_X6_readCommand 10 [.ref a0, .ref a1, .int v2, .int v3, .int v4] [] h =
  if (nZ 9) ≤ v4 then 
  (mv_pf h a0 10 4 (.int v3) fun h1 =>
    (some (.inl (some (.int (nZ 0))), h1)))
  else (mv_pf h a0 10 4 (.int v2) fun h2 =>
    mv_rcv X h2 [.ref a0, .int v4, .ref a1] 10 (mv_clI call 72 [.ref a0, .int v4, .ref a1] h2 mv_raise fun x1 h3 =>
    if x1 = 0 then 
    (mv_gI X h3 a0 10 4 fun x2 =>
      mv_clI call 266 [.int v3, .int x2] h3 mv_raise fun x3 h4 =>
      mv_run X call m_X6_readCommand 10 [.ref a0, .ref a1, .int v2, .int x3, .int (v4 + nZ 1)] [] h4)
    else ((some (.inl (some (.int (nZ 1))), h3))))) :=
  (s_iload rfl rfl).trans <| (s_bipush rfl).trans <| (s_icmp_ge rfl).trans <| c_ite ((s_aload_n rfl rfl).trans <| (s_iload_n rfl rfl).trans <| (s_pf1 rfl rfl).trans <| c_pf fun h1 => (s_iconst rfl).trans <| s_iretb rfl rfl) ((s_aload_n rfl rfl).trans <| (s_iload_n rfl rfl).trans <| (s_pf1 rfl rfl).trans <| c_pf fun h2 => (s_aload_n rfl rfl).trans <| (s_iload rfl rfl).trans <| (s_aload_n rfl rfl).trans <| (s_v1 [.ref a0, .int v4, .ref a1] [] rfl rfl (fun _ => rfl)).trans <| c_rcv <| c_clI fun x1 h3 => (s_if_eq rfl).trans <| c_ite ((s_iload_n rfl rfl).trans <| (s_aload_n rfl rfl).trans <| (s_gf1 rfl rfl).trans <| c_gI fun x2 => (s_s1 [.int v3, .int x2] [] rfl rfl (fun _ => rfl)).trans <| c_clI fun x3 h4 => (s_istore_n (ls2 := [.ref a0, .ref a1, .int v2, .int x3, .int v4]) rfl (fun _ => rfl)).trans <| (s_iinc (ls2 := [.ref a0, .ref a1, .int v2, .int x3, .int (v4 + nZ 1)]) rfl rfl (fun _ => rfl)).trans <| (s_goto rfl).trans <| rfl) ((s_iconst rfl).trans <| s_iretb rfl rfl))
theorem mc_X6_readAs (X : mv_X) (d : Nat) (h : mv_H) (a0 : Nat) (v1 : Int32) (a2 : Nat) : mv_call X (d + 1) 72 [.ref a0, .int v1, .ref a2] h = mv_run X (mv_call X d) m_X6_readAs 0 [.ref a0, .int v1, .ref a2, .retAddr 0, .retAddr 0] [] h := rfl
theorem bk_X6_readAs_0 (X : mv_X) (call : mv_G) (h : mv_H) (a0 : Nat) (v1 : Int32) (a2 : Nat) : mv_run X call m_X6_readAs 0 [.ref a0, .int v1, .ref a2, .retAddr 0, .retAddr 0] [] h =
  mv_clR call 73 [.int v1] h mv_raise fun r1 h1 =>
  mv_rcv X h1 [.ref a2, .int v1] 5 (mv_clV call 17 [.ref a2, .int v1] h1 mv_raise fun h2 =>
  mv_run X call m_X6_readAs 13 [.ref a0, .int v1, .ref a2, .ref r1, .int (nZ 0)] [] h2) :=
  (s_iload_n rfl rfl).trans <| (s_s2 [.int v1] [] rfl rfl (fun _ => rfl)).trans <| c_clR fun r1 h1 => (s_astore_n (ls2 := [.ref a0, .int v1, .ref a2, .ref r1, .retAddr 0]) rfl (fun _ => rfl)).trans <| (s_aload_n rfl rfl).trans <| (s_iload_n rfl rfl).trans <| (s_v0 [.ref a2, .int v1] [] rfl rfl (fun _ => rfl)).trans <| c_rcv <| c_clV fun h2 => (s_iconst rfl).trans <| (s_istore (ls2 := [.ref a0, .int v1, .ref a2, .ref r1, .int (nZ 0)]) rfl (fun _ => rfl)).trans <| rfl
theorem bk_X6_readAs_13 (X : mv_X) (call : mv_G) (h : mv_H) (a0 : Nat) (v1 : Int32) (a2 : Nat) (a3 : Nat) (v4 : Int32) : mv_run X call m_X6_readAs 13 [.ref a0, .int v1, .ref a2, .ref a3, .int v4] [] h =
  mv_rcv X h [.ref a3] 0 (mv_clI call 268 [.ref a3] h mv_raise fun x1 h1 =>
  if x1 ≤ v4 then 
  ((some (.inl (some (.int (nZ 1))), h1)))
  else (mv_rcv X h1 [.ref a3, .int v4] 0 (mv_clI call 269 [.ref a3, .int v4] h1 mv_raise fun x2 h2 =>
    mv_rcv X h2 [.ref a0, .int x2, .ref a2] 10 (mv_clI call 74 [.ref a0, .int x2, .ref a2] h2 mv_raise fun x3 h3 =>
    if x3 = 0 then 
    ((some (.inl (some (.int (nZ 0))), h3)))
    else (mv_run X call m_X6_readAs 13 [.ref a0, .int v1, .ref a2, .ref a3, .int (v4 + nZ 1)] [] h3))))) :=
  (s_iload rfl rfl).trans <| (s_aload_n rfl rfl).trans <| (s_v1 [.ref a3] [.int v4] rfl rfl (fun _ => rfl)).trans <| c_rcv <| c_clI fun x1 h1 => (s_icmp_ge rfl).trans <| c_ite ((s_iconst rfl).trans <| s_iretb rfl rfl) ((s_aload_n rfl rfl).trans <| (s_aload_n rfl rfl).trans <| (s_iload rfl rfl).trans <| (s_v1 [.ref a3, .int v4] [.ref a0] rfl rfl (fun _ => rfl)).trans <| c_rcv <| c_clI fun x2 h2 => (s_aload_n rfl rfl).trans <| (s_v1 [.ref a0, .int x2, .ref a2] [] rfl rfl (fun _ => rfl)).trans <| c_rcv <| c_clI fun x3 h3 => (s_if_ne rfl).trans <| c_ite ((s_iconst rfl).trans <| s_iretb rfl rfl) ((s_iinc (ls2 := [.ref a0, .int v1, .ref a2, .ref a3, .int (v4 + nZ 1)]) rfl rfl (fun _ => rfl)).trans <| (s_goto rfl).trans <| rfl))
theorem mc_X6_formOf (X : mv_X) (d : Nat) (h : mv_H) (v0 : Int32) : mv_call X (d + 1) 73 [.int v0] h = mv_run X (mv_call X d) m_X6_formOf 0 [.int v0] [] h := rfl
theorem bk_X6_formOf_0 (X : mv_X) (call : mv_G) (h : mv_H) (v0 : Int32) : mv_run X call m_X6_formOf 0 [.int v0] [] h =
  if v0 = nZ 0 then ((some (.inl (some (.ref (X.2.1 21))), h))) else
  if v0 = nZ 1 then ((some (.inl (some (.ref (X.2.1 22))), h))) else
  if v0 = nZ 2 then ((some (.inl (some (.ref (X.2.1 23))), h))) else
  if v0 = nZ 3 then ((some (.inl (some (.ref (X.2.1 24))), h))) else
  if v0 = nZ 4 then ((some (.inl (some (.ref (X.2.1 25))), h))) else
  if v0 = nZ 5 then ((some (.inl (some (.ref (X.2.1 26))), h))) else
  if v0 = nZ 6 then ((some (.inl (some (.ref (X.2.1 27))), h))) else
  if v0 = nZ 7 then ((some (.inl (some (.ref (X.2.1 28))), h))) else
   ((some (.inl (some (.ref (X.2.1 29))), h))) :=
  (s_iload_n rfl rfl).trans <| (s_tsw rfl).trans <| c_swc ((s_ldcS rfl rfl).trans <| s_areturn rfl rfl) <| c_swc ((s_ldcS rfl rfl).trans <| s_areturn rfl rfl) <| c_swc ((s_ldcS rfl rfl).trans <| s_areturn rfl rfl) <| c_swc ((s_ldcS rfl rfl).trans <| s_areturn rfl rfl) <| c_swc ((s_ldcS rfl rfl).trans <| s_areturn rfl rfl) <| c_swc ((s_ldcS rfl rfl).trans <| s_areturn rfl rfl) <| c_swc ((s_ldcS rfl rfl).trans <| s_areturn rfl rfl) <| c_swc ((s_ldcS rfl rfl).trans <| s_areturn rfl rfl) <| c_swn ((s_ldcS rfl rfl).trans <| s_areturn rfl rfl)
theorem mc_X6_readPart (X : mv_X) (d : Nat) (h : mv_H) (a0 : Nat) (v1 : Int32) (a2 : Nat) : mv_call X (d + 1) 74 [.ref a0, .int v1, .ref a2] h = mv_run X (mv_call X d) m_X6_readPart 0 [.ref a0, .int v1, .ref a2] [] h := rfl
theorem bk_X6_readPart_0 (X : mv_X) (call : mv_G) (h : mv_H) (a0 : Nat) (v1 : Int32) (a2 : Nat) : mv_run X call m_X6_readPart 0 [.ref a0, .int v1, .ref a2] [] h =
  if v1 = nZ 68 then (mv_rcv X h [.ref a0, .int (nZ 1), .int (nZ 1), .ref a2] 10 (mv_clI call 75 [.ref a0, .int (nZ 1), .int (nZ 1), .ref a2] h mv_raise fun x1 h1 =>
    mv_chk (mv_ok 6 x1) (some (.inl (some (.int x1)), h1)))) else
  if v1 = nZ 78 then (mv_rcv X h [.ref a0, .int (nZ 2), .int (nZ 1), .ref a2] 10 (mv_clI call 75 [.ref a0, .int (nZ 2), .int (nZ 1), .ref a2] h mv_raise fun x2 h2 =>
    mv_chk (mv_ok 6 x2) (some (.inl (some (.int x2)), h2)))) else
  if v1 = nZ 83 then (mv_rcv X h [.ref a0, .int (nZ 45)] 10 (mv_clI call 76 [.ref a0, .int (nZ 45)] h mv_raise fun x3 h3 =>
    if x3 = 0 then 
    (mv_rcv X h3 [.ref a0, .int (nZ 1), .int (nZ 1), .ref a2] 10 (mv_clI call 75 [.ref a0, .int (nZ 1), .int (nZ 1), .ref a2] h3 mv_raise fun x4 h4 =>
      mv_chk (mv_ok 6 x4) (some (.inl (some (.int x4)), h4))))
    else (mv_rcv X h3 [.ref a0, .int (nZ 1), .int (nZ (-1)), .ref a2] 10 (mv_clI call 75 [.ref a0, .int (nZ 1), .int (nZ (-1)), .ref a2] h3 mv_raise fun x5 h5 =>
      mv_chk (mv_ok 6 x5) (some (.inl (some (.int x5)), h5)))))) else
   (mv_rcv X h [.ref a0, .int v1] 10 (mv_clI call 76 [.ref a0, .int v1] h mv_raise fun x6 h6 =>
    mv_chk (mv_ok 6 x6) (some (.inl (some (.int x6)), h6)))) :=
  (s_iload_n rfl rfl).trans <| (s_lsw rfl).trans <| c_swc ((s_aload_n rfl rfl).trans <| (s_iconst rfl).trans <| (s_iconst rfl).trans <| (s_aload_n rfl rfl).trans <| (s_v1 [.ref a0, .int (nZ 1), .int (nZ 1), .ref a2] [] rfl rfl (fun _ => rfl)).trans <| c_rcv <| c_clI fun x1 h1 => s_iret rfl) <| c_swc ((s_aload_n rfl rfl).trans <| (s_iconst rfl).trans <| (s_iconst rfl).trans <| (s_aload_n rfl rfl).trans <| (s_v1 [.ref a0, .int (nZ 2), .int (nZ 1), .ref a2] [] rfl rfl (fun _ => rfl)).trans <| c_rcv <| c_clI fun x2 h2 => s_iret rfl) <| c_swc ((s_aload_n rfl rfl).trans <| (s_iconst rfl).trans <| (s_aload_n rfl rfl).trans <| (s_bipush rfl).trans <| (s_v1 [.ref a0, .int (nZ 45)] [.int (nZ 1), .ref a0] rfl rfl (fun _ => rfl)).trans <| c_rcv <| c_clI fun x3 h3 => (s_if_eq rfl).trans <| c_ite ((s_iconst rfl).trans <| (s_aload_n rfl rfl).trans <| (s_v1 [.ref a0, .int (nZ 1), .int (nZ 1), .ref a2] [] rfl rfl (fun _ => rfl)).trans <| c_rcv <| c_clI fun x4 h4 => s_iret rfl) ((s_iconst rfl).trans <| (s_goto rfl).trans <| (s_aload_n rfl rfl).trans <| (s_v1 [.ref a0, .int (nZ 1), .int (nZ (-1)), .ref a2] [] rfl rfl (fun _ => rfl)).trans <| c_rcv <| c_clI fun x5 h5 => s_iret rfl)) <| c_swn ((s_aload_n rfl rfl).trans <| (s_iload_n rfl rfl).trans <| (s_v1 [.ref a0, .int v1] [] rfl rfl (fun _ => rfl)).trans <| c_rcv <| c_clI fun x6 h6 => s_iret rfl)
theorem mc_X6_readNumber (X : mv_X) (d : Nat) (h : mv_H) (a0 : Nat) (v1 : Int32) (v2 : Int32) (a3 : Nat) : mv_call X (d + 1) 75 [.ref a0, .int v1, .int v2, .ref a3] h = mv_run X (mv_call X d) m_X6_readNumber 0 [.ref a0, .int v1, .int v2, .ref a3, .retAddr 0, .retAddr 0] [] h := rfl
theorem bk_X6_readNumber_0 (X : mv_X) (call : mv_G) (h : mv_H) (a0 : Nat) (v1 : Int32) (v2 : Int32) (a3 : Nat) : mv_run X call m_X6_readNumber 0 [.ref a0, .int v1, .int v2, .ref a3, .retAddr 0, .retAddr 0] [] h =
  mv_run X call m_X6_readNumber 6 [.ref a0, .int v1, .int v2, .ref a3, .int (nZ 0), .int (nZ 0)] [] h :=
  (s_iconst rfl).trans <| (s_istore (ls2 := [.ref a0, .int v1, .int v2, .ref a3, .int (nZ 0), .retAddr 0]) rfl (fun _ => rfl)).trans <| (s_iconst rfl).trans <| (s_istore (ls2 := [.ref a0, .int v1, .int v2, .ref a3, .int (nZ 0), .int (nZ 0)]) rfl (fun _ => rfl)).trans <| rfl
theorem bk_X6_readNumber_6 (X : mv_X) (call : mv_G) (h : mv_H) (a0 : Nat) (v1 : Int32) (v2 : Int32) (a3 : Nat) (v4 : Int32) (v5 : Int32) : mv_run X call m_X6_readNumber 6 [.ref a0, .int v1, .int v2, .ref a3, .int v4, .int v5] [] h =
  if v1 ≤ v5 then 
  (mv_rcv X h [.ref a3, .int (v2 * v4)] 5 (mv_clV call 18 [.ref a3, .int (v2 * v4)] h mv_raise fun h1 =>
    if v5 ≤ 0 then 
    ((some (.inl (some (.int (nZ 0))), h1)))
    else ((some (.inl (some (.int (nZ 1))), h1)))))
  else (mv_gI X h a0 10 4 fun x1 =>
    mv_gI X h a0 10 1 fun x2 =>
    if x2 ≤ x1 then 
    (mv_rcv X h [.ref a3, .int (v2 * v4)] 5 (mv_clV call 18 [.ref a3, .int (v2 * v4)] h mv_raise fun h2 =>
      if v5 ≤ 0 then 
      ((some (.inl (some (.int (nZ 0))), h2)))
      else ((some (.inl (some (.int (nZ 1))), h2)))))
    else (mv_gR X h a0 10 0 fun r1 =>
      mv_gI X h a0 10 4 fun x3 =>
      mv_aI X h 7 r1 x3 fun x4 =>
      mv_clI call 146 [.int x4, .int (nZ 48), .int (nZ 57)] h mv_raise fun x5 h3 =>
      if x5 = 0 then 
      (mv_rcv X h3 [.ref a3, .int (v2 * v4)] 5 (mv_clV call 18 [.ref a3, .int (v2 * v4)] h3 mv_raise fun h4 =>
        if v5 ≤ 0 then 
        ((some (.inl (some (.int (nZ 0))), h4)))
        else ((some (.inl (some (.int (nZ 1))), h4)))))
      else (mv_gR X h3 a0 10 0 fun r2 =>
        mv_gI X h3 a0 10 4 fun x6 =>
        mv_aI X h3 7 r2 x6 fun x7 =>
        mv_gI X h3 a0 10 4 fun x8 =>
        mv_pf h3 a0 10 4 (.int (x8 + (nZ 1))) fun h5 =>
        mv_run X call m_X6_readNumber 6 [.ref a0, .int v1, .int v2, .ref a3, .int ((((nZ 10) * v4) + x7) - (nZ 48)), .int (v5 + nZ 1)] [] h5))) :=
  (s_iload rfl rfl).trans <| (s_iload_n rfl rfl).trans <| (s_icmp_ge rfl).trans <| c_ite ((s_aload_n rfl rfl).trans <| (s_iload_n rfl rfl).trans <| (s_iload rfl rfl).trans <| (s_imul rfl).trans <| (s_v0 [.ref a3, .int (v2 * v4)] [] rfl rfl (fun _ => rfl)).trans <| c_rcv <| c_clV fun h1 => (s_iload rfl rfl).trans <| (s_if_le rfl).trans <| c_ite ((s_iconst rfl).trans <| s_iretb rfl rfl) ((s_iconst rfl).trans <| (s_goto rfl).trans <| s_iretb rfl rfl)) ((s_aload_n rfl rfl).trans <| (s_gf1 rfl rfl).trans <| c_gI fun x1 => (s_aload_n rfl rfl).trans <| (s_gf1 rfl rfl).trans <| c_gI fun x2 => (s_icmp_ge rfl).trans <| c_ite ((s_aload_n rfl rfl).trans <| (s_iload_n rfl rfl).trans <| (s_iload rfl rfl).trans <| (s_imul rfl).trans <| (s_v0 [.ref a3, .int (v2 * v4)] [] rfl rfl (fun _ => rfl)).trans <| c_rcv <| c_clV fun h2 => (s_iload rfl rfl).trans <| (s_if_le rfl).trans <| c_ite ((s_iconst rfl).trans <| s_iretb rfl rfl) ((s_iconst rfl).trans <| (s_goto rfl).trans <| s_iretb rfl rfl)) ((s_aload_n rfl rfl).trans <| (s_gf2 rfl rfl).trans <| c_gR fun r1 => (s_aload_n rfl rfl).trans <| (s_gf1 rfl rfl).trans <| c_gI fun x3 => (s_caload rfl).trans <| c_aI fun x4 => (s_bipush rfl).trans <| (s_bipush rfl).trans <| (s_s1 [.int x4, .int (nZ 48), .int (nZ 57)] [] rfl rfl (fun _ => rfl)).trans <| c_clI fun x5 h3 => (s_if_eq rfl).trans <| c_ite ((s_aload_n rfl rfl).trans <| (s_iload_n rfl rfl).trans <| (s_iload rfl rfl).trans <| (s_imul rfl).trans <| (s_v0 [.ref a3, .int (v2 * v4)] [] rfl rfl (fun _ => rfl)).trans <| c_rcv <| c_clV fun h4 => (s_iload rfl rfl).trans <| (s_if_le rfl).trans <| c_ite ((s_iconst rfl).trans <| s_iretb rfl rfl) ((s_iconst rfl).trans <| (s_goto rfl).trans <| s_iretb rfl rfl)) ((s_bipush rfl).trans <| (s_iload rfl rfl).trans <| (s_imul rfl).trans <| (s_aload_n rfl rfl).trans <| (s_gf2 rfl rfl).trans <| c_gR fun r2 => (s_aload_n rfl rfl).trans <| (s_gf1 rfl rfl).trans <| c_gI fun x6 => (s_caload rfl).trans <| c_aI fun x7 => (s_iadd rfl).trans <| (s_bipush rfl).trans <| (s_isub rfl).trans <| (s_istore (ls2 := [.ref a0, .int v1, .int v2, .ref a3, .int ((((nZ 10) * v4) + x7) - (nZ 48)), .int v5]) rfl (fun _ => rfl)).trans <| (s_aload_n rfl rfl).trans <| (s_dupR rfl).trans <| (s_gf1 rfl rfl).trans <| c_gI fun x8 => (s_iconst rfl).trans <| (s_iadd rfl).trans <| (s_pf1 rfl rfl).trans <| c_pf fun h5 => (s_iinc (ls2 := [.ref a0, .int v1, .int v2, .ref a3, .int ((((nZ 10) * v4) + x7) - (nZ 48)), .int (v5 + nZ 1)]) rfl rfl (fun _ => rfl)).trans <| (s_goto rfl).trans <| rfl)))
theorem mc_X6_readCharacter (X : mv_X) (d : Nat) (h : mv_H) (a0 : Nat) (v1 : Int32) : mv_call X (d + 1) 76 [.ref a0, .int v1] h = mv_run X (mv_call X d) m_X6_readCharacter 0 [.ref a0, .int v1] [] h := rfl
theorem bk_X6_readCharacter_0 (X : mv_X) (call : mv_G) (h : mv_H) (a0 : Nat) (v1 : Int32) : mv_run X call m_X6_readCharacter 0 [.ref a0, .int v1] [] h =
  mv_gI X h a0 10 4 fun x1 =>
  mv_gI X h a0 10 1 fun x2 =>
  if x2 ≤ x1 then 
  ((some (.inl (some (.int (nZ 0))), h)))
  else (mv_gR X h a0 10 0 fun r1 =>
    mv_gI X h a0 10 4 fun x3 =>
    mv_aI X h 7 r1 x3 fun x4 =>
    if x4 = v1 then 
    (mv_gI X h a0 10 4 fun x5 =>
      mv_pf h a0 10 4 (.int (x5 + (nZ 1))) fun h1 =>
      (some (.inl (some (.int (nZ 1))), h1)))
    else ((some (.inl (some (.int (nZ 0))), h)))) :=
  (s_aload_n rfl rfl).trans <| (s_gf1 rfl rfl).trans <| c_gI fun x1 => (s_aload_n rfl rfl).trans <| (s_gf1 rfl rfl).trans <| c_gI fun x2 => (s_icmp_ge rfl).trans <| c_ite ((s_iconst rfl).trans <| s_iretb rfl rfl) ((s_aload_n rfl rfl).trans <| (s_gf2 rfl rfl).trans <| c_gR fun r1 => (s_aload_n rfl rfl).trans <| (s_gf1 rfl rfl).trans <| c_gI fun x3 => (s_caload rfl).trans <| c_aI fun x4 => (s_iload_n rfl rfl).trans <| (s_icmp_ne rfl).trans <| c_ite ((s_aload_n rfl rfl).trans <| (s_dupR rfl).trans <| (s_gf1 rfl rfl).trans <| c_gI fun x5 => (s_iconst rfl).trans <| (s_iadd rfl).trans <| (s_pf1 rfl rfl).trans <| c_pf fun h1 => (s_iconst rfl).trans <| s_iretb rfl rfl) ((s_iconst rfl).trans <| s_iretb rfl rfl))
theorem mc_X7_init (X : mv_X) (d : Nat) (h : mv_H) (a0 : Nat) : mv_call X (d + 1) 77 [.ref a0] h = mv_run X (mv_call X d) m_X7_init 0 [.ref a0] [] h := rfl
theorem bk_X7_init_0 (X : mv_X) (call : mv_G) (h : mv_H) (a0 : Nat) : mv_run X call m_X7_init 0 [.ref a0] [] h =
  mv_newa h .int (.int 0) (nZ 10) fun r1 h1 =>
  mv_pf h1 a0 11 0 (.ref r1) fun h2 =>
  mv_newa h2 .int (.int 0) (nZ 10) fun r2 h3 =>
  mv_pf h3 a0 11 1 (.ref r2) fun h4 =>
  (some (.inl none, h4)) :=
  (s_aload_n rfl rfl).trans <| (s_oinit [] rfl rfl (fun _ => rfl)).trans <| (s_aload_n rfl rfl).trans <| (s_bipush rfl).trans <| (s_newa_int rfl).trans <| c_newa fun r1 h1 => (s_pf2 rfl rfl).trans <| c_pf fun h2 => (s_aload_n rfl rfl).trans <| (s_bipush rfl).trans <| (s_newa_int rfl).trans <| c_newa fun r2 h3 => (s_pf2 rfl rfl).trans <| c_pf fun h4 => s_ret rfl rfl
theorem mc_X7_collect (X : mv_X) (d : Nat) (h : mv_H) (a0 : Nat) (a1 : Nat) : mv_call X (d + 1) 78 [.ref a0, .ref a1] h = mv_run X (mv_call X d) m_X7_collect 0 [.ref a0, .ref a1, .retAddr 0, .retAddr 0] [] h := rfl
theorem bk_X7_collect_0 (X : mv_X) (call : mv_G) (h : mv_H) (a0 : Nat) (a1 : Nat) : mv_run X call m_X7_collect 0 [.ref a0, .ref a1, .retAddr 0, .retAddr 0] [] h =
  mv_run X call m_X7_collect 4 [.ref a0, .ref a1, .int (nZ 0), .int (nZ 0)] [] h :=
  (s_iconst rfl).trans <| (s_istore_n (ls2 := [.ref a0, .ref a1, .int (nZ 0), .retAddr 0]) rfl (fun _ => rfl)).trans <| (s_iconst rfl).trans <| (s_istore_n (ls2 := [.ref a0, .ref a1, .int (nZ 0), .int (nZ 0)]) rfl (fun _ => rfl)).trans <| rfl
theorem bk_X7_collect_4 (X : mv_X) (call : mv_G) (h : mv_H) (a0 : Nat) (a1 : Nat) (v2 : Int32) (v3 : Int32) : mv_run X call m_X7_collect 4 [.ref a0, .ref a1, .int v2, .int v3] [] h =
  if (nZ 10) ≤ v3 then 
  ((some (.inl (some (.int v2)), h)))
  else (mv_rcv X h [.ref a1, .int v3] 7 (mv_clI call 27 [.ref a1, .int v3] h mv_raise fun x1 h1 =>
    if x1 = 0 then 
    (mv_run X call m_X7_collect 4 [.ref a0, .ref a1, .int v2, .int (v3 + nZ 1)] [] h1)
    else (mv_gR X h1 a0 11 0 fun r1 =>
      mv_rcv X h1 [.ref a1, .int v3] 7 (mv_clI call 36 [.ref a1, .int v3] h1 mv_raise fun x2 h2 =>
      mv_as h2 1 r1 v2 (.int x2) fun h3 =>
      mv_run X call m_X7_collect 4 [.ref a0, .ref a1, .int (v2 + nZ 1), .int (v3 + nZ 1)] [] h3)))) :=
  (s_iload_n rfl rfl).trans <| (s_bipush rfl).trans <| (s_icmp_ge rfl).trans <| c_ite ((s_iload_n rfl rfl).trans <| s_iret1 rfl rfl) ((s_aload_n rfl rfl).trans <| (s_iload_n rfl rfl).trans <| (s_v1 [.ref a1, .int v3] [] rfl rfl (fun _ => rfl)).trans <| c_rcv <| c_clI fun x1 h1 => (s_if_eq rfl).trans <| c_ite ((s_iinc (ls2 := [.ref a0, .ref a1, .int v2, .int (v3 + nZ 1)]) rfl rfl (fun _ => rfl)).trans <| (s_goto rfl).trans <| rfl) ((s_aload_n rfl rfl).trans <| (s_gf2 rfl rfl).trans <| c_gR fun r1 => (s_iload_n rfl rfl).trans <| (s_aload_n rfl rfl).trans <| (s_iload_n rfl rfl).trans <| (s_v1 [.ref a1, .int v3] [.int v2, .ref r1] rfl rfl (fun _ => rfl)).trans <| c_rcv <| c_clI fun x2 h2 => (s_iastore rfl).trans <| c_as fun h3 => (s_iinc (ls2 := [.ref a0, .ref a1, .int (v2 + nZ 1), .int v3]) rfl rfl (fun _ => rfl)).trans <| (s_iinc (ls2 := [.ref a0, .ref a1, .int (v2 + nZ 1), .int (v3 + nZ 1)]) rfl rfl (fun _ => rfl)).trans <| (s_goto rfl).trans <| rfl))
theorem mc_X7_tangledByPairs (X : mv_X) (d : Nat) (h : mv_H) (a0 : Nat) (a1 : Nat) : mv_call X (d + 1) 79 [.ref a0, .ref a1] h = mv_run X (mv_call X d) m_X7_tangledByPairs 0 [.ref a0, .ref a1, .retAddr 0, .retAddr 0, .retAddr 0, .retAddr 0] [] h := rfl
theorem bk_X7_tangledByPairs_0 (X : mv_X) (call : mv_G) (h : mv_H) (a0 : Nat) (a1 : Nat) : mv_run X call m_X7_tangledByPairs 0 [.ref a0, .ref a1, .retAddr 0, .retAddr 0, .retAddr 0, .retAddr 0] [] h =
  mv_rcv X h [.ref a0, .ref a1] 11 (mv_clI call 78 [.ref a0, .ref a1] h mv_raise fun x1 h1 =>
  mv_run X call m_X7_tangledByPairs 11 [.ref a0, .ref a1, .int x1, .int (nZ 0), .int (nZ 0), .retAddr 0] [] h1) :=
  (s_aload_n rfl rfl).trans <| (s_aload_n rfl rfl).trans <| (s_v1 [.ref a0, .ref a1] [] rfl rfl (fun _ => rfl)).trans <| c_rcv <| c_clI fun x1 h1 => (s_istore_n (ls2 := [.ref a0, .ref a1, .int x1, .retAddr 0, .retAddr 0, .retAddr 0]) rfl (fun _ => rfl)).trans <| (s_iconst rfl).trans <| (s_istore_n (ls2 := [.ref a0, .ref a1, .int x1, .int (nZ 0), .retAddr 0, .retAddr 0]) rfl (fun _ => rfl)).trans <| (s_iconst rfl).trans <| (s_istore (ls2 := [.ref a0, .ref a1, .int x1, .int (nZ 0), .int (nZ 0), .retAddr 0]) rfl (fun _ => rfl)).trans <| rfl
theorem bk_X7_tangledByPairs_11 (X : mv_X) (call : mv_G) (h : mv_H) (a0 : Nat) (a1 : Nat) (v2 : Int32) (v3 : Int32) (v4 : Int32) (j5 : Value) : mv_run X call m_X7_tangledByPairs 11 [.ref a0, .ref a1, .int v2, .int v3, .int v4, j5] [] h =
  if v2 ≤ v4 then 
  ((some (.inl (some (.int v3)), h)))
  else (mv_run X call m_X7_tangledByPairs 23 [.ref a0, .ref a1, .int v2, .int v3, .int v4, .int (v4 + (nZ 1))] [] h) :=
  (s_iload rfl rfl).trans <| (s_iload_n rfl rfl).trans <| (s_icmp_ge rfl).trans <| c_ite ((s_iload_n rfl rfl).trans <| s_iret1 rfl rfl) ((s_iload rfl rfl).trans <| (s_iconst rfl).trans <| (s_iadd rfl).trans <| (s_istore (ls2 := [.ref a0, .ref a1, .int v2, .int v3, .int v4, .int (v4 + (nZ 1))]) rfl (fun _ => rfl)).trans <| rfl)
theorem bk_X7_tangledByPairs_23 (X : mv_X) (call : mv_G) (h : mv_H) (a0 : Nat) (a1 : Nat) (v2 : Int32) (v3 : Int32) (v4 : Int32) (v5 : Int32) : mv_run X call m_X7_tangledByPairs 23 [.ref a0, .ref a1, .int v2, .int v3, .int v4, .int v5] [] h =
  if v2 ≤ v5 then 
  (mv_run X call m_X7_tangledByPairs 11 [.ref a0, .ref a1, .int v2, .int v3, .int (v4 + nZ 1), .int v5] [] h)
  else (mv_gR X h a0 11 0 fun r1 =>
    mv_aI X h 1 r1 v4 fun x1 =>
    mv_gR X h a0 11 0 fun r2 =>
    mv_aI X h 1 r2 v5 fun x2 =>
    if x1 ≤ x2 then 
    (mv_run X call m_X7_tangledByPairs 23 [.ref a0, .ref a1, .int v2, .int v3, .int v4, .int (v5 + nZ 1)] [] h)
    else (mv_run X call m_X7_tangledByPairs 23 [.ref a0, .ref a1, .int v2, .int (v3 + nZ 1), .int v4, .int (v5 + nZ 1)] [] h)) :=
  (s_iload rfl rfl).trans <| (s_iload_n rfl rfl).trans <| (s_icmp_ge rfl).trans <| c_ite ((s_iinc (ls2 := [.ref a0, .ref a1, .int v2, .int v3, .int (v4 + nZ 1), .int v5]) rfl rfl (fun _ => rfl)).trans <| (s_goto rfl).trans <| rfl) ((s_aload_n rfl rfl).trans <| (s_gf2 rfl rfl).trans <| c_gR fun r1 => (s_iload rfl rfl).trans <| (s_iaload rfl).trans <| c_aI fun x1 => (s_aload_n rfl rfl).trans <| (s_gf2 rfl rfl).trans <| c_gR fun r2 => (s_iload rfl rfl).trans <| (s_iaload rfl).trans <| c_aI fun x2 => (s_icmp_le rfl).trans <| c_ite ((s_iinc (ls2 := [.ref a0, .ref a1, .int v2, .int v3, .int v4, .int (v5 + nZ 1)]) rfl rfl (fun _ => rfl)).trans <| (s_goto rfl).trans <| rfl) ((s_iinc (ls2 := [.ref a0, .ref a1, .int v2, .int (v3 + nZ 1), .int v4, .int v5]) rfl rfl (fun _ => rfl)).trans <| (s_iinc (ls2 := [.ref a0, .ref a1, .int v2, .int (v3 + nZ 1), .int v4, .int (v5 + nZ 1)]) rfl rfl (fun _ => rfl)).trans <| (s_goto rfl).trans <| rfl))
theorem mc_X7_tangledByMerging (X : mv_X) (d : Nat) (h : mv_H) (a0 : Nat) (a1 : Nat) : mv_call X (d + 1) 80 [.ref a0, .ref a1] h = mv_run X (mv_call X d) m_X7_tangledByMerging 0 [.ref a0, .ref a1] [] h := rfl
theorem bk_X7_tangledByMerging_0 (X : mv_X) (call : mv_G) (h : mv_H) (a0 : Nat) (a1 : Nat) : mv_run X call m_X7_tangledByMerging 0 [.ref a0, .ref a1] [] h =
  mv_gR X h a0 11 0 fun r1 =>
  mv_gR X h a0 11 1 fun r2 =>
  mv_rcv X h [.ref a0, .ref a1] 11 (mv_clI call 78 [.ref a0, .ref a1] h mv_raise fun x1 h1 =>
  mv_clI call 81 [.ref r1, .ref r2, .int (nZ 0), .int x1, .int (nZ 0)] h1 mv_raise fun x2 h2 =>
  (some (.inl (some (.int x2)), h2))) :=
  (s_aload_n rfl rfl).trans <| (s_gf2 rfl rfl).trans <| c_gR fun r1 => (s_aload_n rfl rfl).trans <| (s_gf2 rfl rfl).trans <| c_gR fun r2 => (s_iconst rfl).trans <| (s_aload_n rfl rfl).trans <| (s_aload_n rfl rfl).trans <| (s_v1 [.ref a0, .ref a1] [.int (nZ 0), .ref r2, .ref r1] rfl rfl (fun _ => rfl)).trans <| c_rcv <| c_clI fun x1 h1 => (s_iconst rfl).trans <| (s_s1 [.ref r1, .ref r2, .int (nZ 0), .int x1, .int (nZ 0)] [] rfl rfl (fun _ => rfl)).trans <| c_clI fun x2 h2 => s_iret1 rfl rfl
theorem mc_X7_sortAndCount (X : mv_X) (d : Nat) (h : mv_H) (a0 : Nat) (a1 : Nat) (v2 : Int32) (v3 : Int32) (v4 : Int32) : mv_call X (d + 1) 81 [.ref a0, .ref a1, .int v2, .int v3, .int v4] h = mv_run X (mv_call X d) m_X7_sortAndCount 0 [.ref a0, .ref a1, .int v2, .int v3, .int v4, .retAddr 0] [] h := rfl
theorem bk_X7_sortAndCount_0 (X : mv_X) (call : mv_G) (h : mv_H) (a0 : Nat) (a1 : Nat) (v2 : Int32) (v3 : Int32) (v4 : Int32) : mv_run X call m_X7_sortAndCount 0 [.ref a0, .ref a1, .int v2, .int v3, .int v4, .retAddr 0] [] h =
  if (v3 - v2) < (nZ 2) then 
  ((some (.inl (some (.int (nZ 0))), h)))
  else (if v4 ≤ (nZ 4) then 
    (if (nZ 2) = 0 then none else 
      mv_clI call 81 [.ref a0, .ref a1, .int v2, .int ((v2 + v3) / (nZ 2)), .int (v4 + (nZ 1))] h mv_raise fun x1 h1 =>
      mv_clI call 81 [.ref a0, .ref a1, .int ((v2 + v3) / (nZ 2)), .int v3, .int (v4 + (nZ 1))] h1 mv_raise fun x2 h2 =>
      mv_clI call 82 [.ref a0, .ref a1, .int v2, .int ((v2 + v3) / (nZ 2)), .int v3] h2 mv_raise fun x3 h3 =>
      (some (.inl (some (.int ((x1 + x2) + x3))), h3)))
    else ((some (.inl (some (.int (nZ 0))), h)))) :=
  (s_iload_n rfl rfl).trans <| (s_iload_n rfl rfl).trans <| (s_isub rfl).trans <| (s_iconst rfl).trans <| (s_icmp_lt rfl).trans <| c_ite ((s_iconst rfl).trans <| s_iret1 rfl rfl) ((s_iload rfl rfl).trans <| (s_iconst rfl).trans <| (s_icmp_le rfl).trans <| c_ite ((s_iload_n rfl rfl).trans <| (s_iload_n rfl rfl).trans <| (s_iadd rfl).trans <| (s_iconst rfl).trans <| (s_idiv rfl).trans <| c_ite rfl <| (s_istore (ls2 := [.ref a0, .ref a1, .int v2, .int v3, .int v4, .int ((v2 + v3) / (nZ 2))]) rfl (fun _ => rfl)).trans <| (s_aload_n rfl rfl).trans <| (s_aload_n rfl rfl).trans <| (s_iload_n rfl rfl).trans <| (s_iload rfl rfl).trans <| (s_iload rfl rfl).trans <| (s_iconst rfl).trans <| (s_iadd rfl).trans <| (s_s1 [.ref a0, .ref a1, .int v2, .int ((v2 + v3) / (nZ 2)), .int (v4 + (nZ 1))] [] rfl rfl (fun _ => rfl)).trans <| c_clI fun x1 h1 => (s_aload_n rfl rfl).trans <| (s_aload_n rfl rfl).trans <| (s_iload rfl rfl).trans <| (s_iload_n rfl rfl).trans <| (s_iload rfl rfl).trans <| (s_iconst rfl).trans <| (s_iadd rfl).trans <| (s_s1 [.ref a0, .ref a1, .int ((v2 + v3) / (nZ 2)), .int v3, .int (v4 + (nZ 1))] [.int x1] rfl rfl (fun _ => rfl)).trans <| c_clI fun x2 h2 => (s_iadd rfl).trans <| (s_aload_n rfl rfl).trans <| (s_aload_n rfl rfl).trans <| (s_iload_n rfl rfl).trans <| (s_iload rfl rfl).trans <| (s_iload_n rfl rfl).trans <| (s_s1 [.ref a0, .ref a1, .int v2, .int ((v2 + v3) / (nZ 2)), .int v3] [.int (x1 + x2)] rfl rfl (fun _ => rfl)).trans <| c_clI fun x3 h3 => (s_iadd rfl).trans <| s_iret1 rfl rfl) ((s_iconst rfl).trans <| s_iret1 rfl rfl))
theorem mc_X7_mergeAndCount (X : mv_X) (d : Nat) (h : mv_H) (a0 : Nat) (a1 : Nat) (v2 : Int32) (v3 : Int32) (v4 : Int32) : mv_call X (d + 1) 82 [.ref a0, .ref a1, .int v2, .int v3, .int v4] h = mv_run X (mv_call X d) m_X7_mergeAndCount 0 [.ref a0, .ref a1, .int v2, .int v3, .int v4, .retAddr 0, .retAddr 0, .retAddr 0, .retAddr 0] [] h := rfl
theorem bk_X7_mergeAndCount_0 (X : mv_X) (call : mv_G) (h : mv_H) (a0 : Nat) (a1 : Nat) (v2 : Int32) (v3 : Int32) (v4 : Int32) : mv_run X call m_X7_mergeAndCount 0 [.ref a0, .ref a1, .int v2, .int v3, .int v4, .retAddr 0, .retAddr 0, .retAddr 0, .retAddr 0] [] h =
  mv_run X call m_X7_mergeAndCount 12 [.ref a0, .ref a1, .int v2, .int v3, .int v4, .int v2, .int v3, .int (nZ 0), .int v2] [] h :=
  (s_iload_n rfl rfl).trans <| (s_istore (ls2 := [.ref a0, .ref a1, .int v2, .int v3, .int v4, .int v2, .retAddr 0, .retAddr 0, .retAddr 0]) rfl (fun _ => rfl)).trans <| (s_iload_n rfl rfl).trans <| (s_istore (ls2 := [.ref a0, .ref a1, .int v2, .int v3, .int v4, .int v2, .int v3, .retAddr 0, .retAddr 0]) rfl (fun _ => rfl)).trans <| (s_iconst rfl).trans <| (s_istore (ls2 := [.ref a0, .ref a1, .int v2, .int v3, .int v4, .int v2, .int v3, .int (nZ 0), .retAddr 0]) rfl (fun _ => rfl)).trans <| (s_iload_n rfl rfl).trans <| (s_istore (ls2 := [.ref a0, .ref a1, .int v2, .int v3, .int v4, .int v2, .int v3, .int (nZ 0), .int v2]) rfl (fun _ => rfl)).trans <| rfl
theorem bk_X7_mergeAndCount_12 (X : mv_X) (call : mv_G) (h : mv_H) (a0 : Nat) (a1 : Nat) (v2 : Int32) (v3 : Int32) (v4 : Int32) (v5 : Int32) (v6 : Int32) (v7 : Int32) (v8 : Int32) : mv_run X call m_X7_mergeAndCount 12 [.ref a0, .ref a1, .int v2, .int v3, .int v4, .int v5, .int v6, .int v7, .int v8] [] h =
  if v4 ≤ v8 then 
  (mv_cpy X h a1 v2 a0 v2 (v4 - v2) fun h1 =>
    (some (.inl (some (.int v7)), h1)))
  else (if v4 ≤ v6 then 
    (mv_aI X h 1 a0 v5 fun x1 =>
      mv_as h 1 a1 v8 (.int x1) fun h2 =>
      mv_run X call m_X7_mergeAndCount 12 [.ref a0, .ref a1, .int v2, .int v3, .int v4, .int (v5 + nZ 1), .int v6, .int v7, .int (v8 + nZ 1)] [] h2)
    else (if v3 ≤ v5 then 
      (mv_aI X h 1 a0 v6 fun x2 =>
        mv_as h 1 a1 v8 (.int x2) fun h3 =>
        mv_run X call m_X7_mergeAndCount 12 [.ref a0, .ref a1, .int v2, .int v3, .int v4, .int v5, .int (v6 + nZ 1), .int (v7 + (v3 - v5)), .int (v8 + nZ 1)] [] h3)
      else (mv_aI X h 1 a0 v5 fun x3 =>
        mv_aI X h 1 a0 v6 fun x4 =>
        if x4 < x3 then 
        (mv_aI X h 1 a0 v6 fun x5 =>
          mv_as h 1 a1 v8 (.int x5) fun h4 =>
          mv_run X call m_X7_mergeAndCount 12 [.ref a0, .ref a1, .int v2, .int v3, .int v4, .int v5, .int (v6 + nZ 1), .int (v7 + (v3 - v5)), .int (v8 + nZ 1)] [] h4)
        else (mv_aI X h 1 a0 v5 fun x6 =>
          mv_as h 1 a1 v8 (.int x6) fun h5 =>
          mv_run X call m_X7_mergeAndCount 12 [.ref a0, .ref a1, .int v2, .int v3, .int v4, .int (v5 + nZ 1), .int v6, .int v7, .int (v8 + nZ 1)] [] h5)))) :=
  (s_iload rfl rfl).trans <| (s_iload rfl rfl).trans <| (s_icmp_ge rfl).trans <| c_ite ((s_aload_n rfl rfl).trans <| (s_iload_n rfl rfl).trans <| (s_aload_n rfl rfl).trans <| (s_iload_n rfl rfl).trans <| (s_iload rfl rfl).trans <| (s_iload_n rfl rfl).trans <| (s_isub rfl).trans <| (s_cpy [] rfl rfl (fun _ => rfl)).trans <| c_cpy fun h1 => (s_iload rfl rfl).trans <| s_iret1 rfl rfl) ((s_iload rfl rfl).trans <| (s_iload rfl rfl).trans <| (s_icmp_ge rfl).trans <| c_ite ((s_aload_n rfl rfl).trans <| (s_iload rfl rfl).trans <| (s_aload_n rfl rfl).trans <| (s_iload rfl rfl).trans <| (s_iaload rfl).trans <| c_aI fun x1 => (s_iastore rfl).trans <| c_as fun h2 => (s_iinc (ls2 := [.ref a0, .ref a1, .int v2, .int v3, .int v4, .int (v5 + nZ 1), .int v6, .int v7, .int v8]) rfl rfl (fun _ => rfl)).trans <| (s_goto rfl).trans <| (s_iinc (ls2 := [.ref a0, .ref a1, .int v2, .int v3, .int v4, .int (v5 + nZ 1), .int v6, .int v7, .int (v8 + nZ 1)]) rfl rfl (fun _ => rfl)).trans <| (s_goto rfl).trans <| rfl) ((s_iload rfl rfl).trans <| (s_iload_n rfl rfl).trans <| (s_icmp_ge rfl).trans <| c_ite ((s_aload_n rfl rfl).trans <| (s_iload rfl rfl).trans <| (s_aload_n rfl rfl).trans <| (s_iload rfl rfl).trans <| (s_iaload rfl).trans <| c_aI fun x2 => (s_iastore rfl).trans <| c_as fun h3 => (s_iinc (ls2 := [.ref a0, .ref a1, .int v2, .int v3, .int v4, .int v5, .int (v6 + nZ 1), .int v7, .int v8]) rfl rfl (fun _ => rfl)).trans <| (s_iload rfl rfl).trans <| (s_iload_n rfl rfl).trans <| (s_iload rfl rfl).trans <| (s_isub rfl).trans <| (s_iadd rfl).trans <| (s_istore (ls2 := [.ref a0, .ref a1, .int v2, .int v3, .int v4, .int v5, .int (v6 + nZ 1), .int (v7 + (v3 - v5)), .int v8]) rfl (fun _ => rfl)).trans <| (s_iinc (ls2 := [.ref a0, .ref a1, .int v2, .int v3, .int v4, .int v5, .int (v6 + nZ 1), .int (v7 + (v3 - v5)), .int (v8 + nZ 1)]) rfl rfl (fun _ => rfl)).trans <| (s_goto rfl).trans <| rfl) ((s_aload_n rfl rfl).trans <| (s_iload rfl rfl).trans <| (s_iaload rfl).trans <| c_aI fun x3 => (s_aload_n rfl rfl).trans <| (s_iload rfl rfl).trans <| (s_iaload rfl).trans <| c_aI fun x4 => (s_icmp_gt rfl).trans <| c_ite ((s_aload_n rfl rfl).trans <| (s_iload rfl rfl).trans <| (s_aload_n rfl rfl).trans <| (s_iload rfl rfl).trans <| (s_iaload rfl).trans <| c_aI fun x5 => (s_iastore rfl).trans <| c_as fun h4 => (s_iinc (ls2 := [.ref a0, .ref a1, .int v2, .int v3, .int v4, .int v5, .int (v6 + nZ 1), .int v7, .int v8]) rfl rfl (fun _ => rfl)).trans <| (s_iload rfl rfl).trans <| (s_iload_n rfl rfl).trans <| (s_iload rfl rfl).trans <| (s_isub rfl).trans <| (s_iadd rfl).trans <| (s_istore (ls2 := [.ref a0, .ref a1, .int v2, .int v3, .int v4, .int v5, .int (v6 + nZ 1), .int (v7 + (v3 - v5)), .int v8]) rfl (fun _ => rfl)).trans <| (s_iinc (ls2 := [.ref a0, .ref a1, .int v2, .int v3, .int v4, .int v5, .int (v6 + nZ 1), .int (v7 + (v3 - v5)), .int (v8 + nZ 1)]) rfl rfl (fun _ => rfl)).trans <| (s_goto rfl).trans <| rfl) ((s_aload_n rfl rfl).trans <| (s_iload rfl rfl).trans <| (s_aload_n rfl rfl).trans <| (s_iload rfl rfl).trans <| (s_iaload rfl).trans <| c_aI fun x6 => (s_iastore rfl).trans <| c_as fun h5 => (s_iinc (ls2 := [.ref a0, .ref a1, .int v2, .int v3, .int v4, .int (v5 + nZ 1), .int v6, .int v7, .int v8]) rfl rfl (fun _ => rfl)).trans <| (s_goto rfl).trans <| (s_iinc (ls2 := [.ref a0, .ref a1, .int v2, .int v3, .int v4, .int (v5 + nZ 1), .int v6, .int v7, .int (v8 + nZ 1)]) rfl rfl (fun _ => rfl)).trans <| (s_goto rfl).trans <| rfl))))
theorem mc_X8_init (X : mv_X) (d : Nat) (h : mv_H) (a0 : Nat) : mv_call X (d + 1) 83 [.ref a0] h = mv_run X (mv_call X d) m_X8_init 0 [.ref a0] [] h := rfl
theorem bk_X8_init_0 (X : mv_X) (call : mv_G) (h : mv_H) (a0 : Nat) : mv_run X call m_X8_init 0 [.ref a0] [] h =
  mv_new h (.inl (7, mv_df 7)) 12 fun r1 h1 =>
  mv_clV call 25 [.ref r1] h1 mv_raise fun h2 =>
  mv_pf h2 a0 12 0 (.ref r1) fun h3 =>
  mv_new h3 (.inl (7, mv_df 7)) 12 fun r2 h4 =>
  mv_clV call 25 [.ref r2] h4 mv_raise fun h5 =>
  mv_pf h5 a0 12 1 (.ref r2) fun h6 =>
  mv_new h6 (.inl (7, mv_df 7)) 12 fun r3 h7 =>
  mv_clV call 25 [.ref r3] h7 mv_raise fun h8 =>
  mv_pf h8 a0 12 2 (.ref r3) fun h9 =>
  mv_chk (mv_ok 6 (nZ 0)) (mv_pf h9 a0 12 3 (.int (nZ 0)) fun h10 =>
  mv_new h10 (.inl (8, mv_df 8)) 3 fun r4 h11 =>
  mv_clV call 61 [.ref r4] h11 mv_raise fun h12 =>
  mv_pf h12 a0 12 4 (.ref r4) fun h13 =>
  mv_new h13 (.inl (5, mv_df 5)) 3 fun r5 h14 =>
  mv_clV call 16 [.ref r5] h14 mv_raise fun h15 =>
  mv_pf h15 a0 12 5 (.ref r5) fun h16 =>
  mv_new h16 (.inl (10, mv_df 10)) 5 fun r6 h17 =>
  mv_clV call 68 [.ref r6] h17 mv_raise fun h18 =>
  mv_pf h18 a0 12 6 (.ref r6) fun h19 =>
  mv_new h19 (.inl (1, mv_df 1)) 4 fun r7 h20 =>
  mv_clV call 273 [.ref r7] h20 mv_raise fun h21 =>
  mv_pf h21 a0 12 7 (.ref r7) fun h22 =>
  mv_new h22 (.inl (11, mv_df 11)) 2 fun r8 h23 =>
  mv_clV call 77 [.ref r8] h23 mv_raise fun h24 =>
  mv_pf h24 a0 12 8 (.ref r8) fun h25 =>
  mv_new h25 (.inl (6, mv_df 6)) 3 fun r9 h26 =>
  mv_clV call 20 [.ref r9] h26 mv_raise fun h27 =>
  mv_pf h27 a0 12 9 (.ref r9) fun h28 =>
  mv_pf h28 a0 12 10 (.int (nZ (-1))) fun h29 =>
  mv_pf h29 a0 12 11 (.int (nZ (-1))) fun h30 =>
  mv_pf h30 a0 12 12 (.int (nZ 0)) fun h31 =>
  mv_pf h31 a0 12 13 (.int (nZ (-1))) fun h32 =>
  (some (.inl none, h32))) :=
  (s_aload_n rfl rfl).trans <| (s_oinit [] rfl rfl (fun _ => rfl)).trans <| (s_aload_n rfl rfl).trans <| (s_new rfl rfl).trans <| c_new fun r1 h1 => (s_dupR rfl).trans <| (s_i0 [] [.ref r1, .ref a0] rfl rfl (fun _ => rfl)).trans <| c_clV fun h2 => (s_pf2 rfl rfl).trans <| c_pf fun h3 => (s_aload_n rfl rfl).trans <| (s_new rfl rfl).trans <| c_new fun r2 h4 => (s_dupR rfl).trans <| (s_i0 [] [.ref r2, .ref a0] rfl rfl (fun _ => rfl)).trans <| c_clV fun h5 => (s_pf2 rfl rfl).trans <| c_pf fun h6 => (s_aload_n rfl rfl).trans <| (s_new rfl rfl).trans <| c_new fun r3 h7 => (s_dupR rfl).trans <| (s_i0 [] [.ref r3, .ref a0] rfl rfl (fun _ => rfl)).trans <| c_clV fun h8 => (s_pf2 rfl rfl).trans <| c_pf fun h9 => (s_aload_n rfl rfl).trans <| (s_iconst rfl).trans <| (s_pf6 rfl rfl).trans <| c_chk <| c_pf fun h10 => (s_aload_n rfl rfl).trans <| (s_new rfl rfl).trans <| c_new fun r4 h11 => (s_dupR rfl).trans <| (s_i0 [] [.ref r4, .ref a0] rfl rfl (fun _ => rfl)).trans <| c_clV fun h12 => (s_pf2 rfl rfl).trans <| c_pf fun h13 => (s_aload_n rfl rfl).trans <| (s_new rfl rfl).trans <| c_new fun r5 h14 => (s_dupR rfl).trans <| (s_i0 [] [.ref r5, .ref a0] rfl rfl (fun _ => rfl)).trans <| c_clV fun h15 => (s_pf2 rfl rfl).trans <| c_pf fun h16 => (s_aload_n rfl rfl).trans <| (s_new rfl rfl).trans <| c_new fun r6 h17 => (s_dupR rfl).trans <| (s_i0 [] [.ref r6, .ref a0] rfl rfl (fun _ => rfl)).trans <| c_clV fun h18 => (s_pf2 rfl rfl).trans <| c_pf fun h19 => (s_aload_n rfl rfl).trans <| (s_new rfl rfl).trans <| c_new fun r7 h20 => (s_dupR rfl).trans <| (s_i0 [] [.ref r7, .ref a0] rfl rfl (fun _ => rfl)).trans <| c_clV fun h21 => (s_pf2 rfl rfl).trans <| c_pf fun h22 => (s_aload_n rfl rfl).trans <| (s_new rfl rfl).trans <| c_new fun r8 h23 => (s_dupR rfl).trans <| (s_i0 [] [.ref r8, .ref a0] rfl rfl (fun _ => rfl)).trans <| c_clV fun h24 => (s_pf2 rfl rfl).trans <| c_pf fun h25 => (s_aload_n rfl rfl).trans <| (s_new rfl rfl).trans <| c_new fun r9 h26 => (s_dupR rfl).trans <| (s_i0 [] [.ref r9, .ref a0] rfl rfl (fun _ => rfl)).trans <| c_clV fun h27 => (s_pf2 rfl rfl).trans <| c_pf fun h28 => (s_aload_n rfl rfl).trans <| (s_iconst rfl).trans <| (s_pf1 rfl rfl).trans <| c_pf fun h29 => (s_aload_n rfl rfl).trans <| (s_iconst rfl).trans <| (s_pf1 rfl rfl).trans <| c_pf fun h30 => (s_aload_n rfl rfl).trans <| (s_iconst rfl).trans <| (s_pf1 rfl rfl).trans <| c_pf fun h31 => (s_aload_n rfl rfl).trans <| (s_iconst rfl).trans <| (s_pf1 rfl rfl).trans <| c_pf fun h32 => s_ret rfl rfl
theorem mc_X8_moor (X : mv_X) (d : Nat) (h : mv_H) (a0 : Nat) (v1 : Int32) (v2 : Int32) (v3 : Int32) (v4 : Int32) : mv_call X (d + 1) 84 [.ref a0, .int v1, .int v2, .int v3, .int v4] h = mv_run X (mv_call X d) m_X8_moor 0 [.ref a0, .int v1, .int v2, .int v3, .int v4] [] h := rfl
theorem bk_X8_moor_0 (X : mv_X) (call : mv_G) (h : mv_H) (a0 : Nat) (v1 : Int32) (v2 : Int32) (v3 : Int32) (v4 : Int32) : mv_run X call m_X8_moor 0 [.ref a0, .int v1, .int v2, .int v3, .int v4] [] h =
  mv_rcv X h [.ref a0, .int (nZ 0), .int v1, .int v2, .int v3, .int v4] 12 (mv_clI call 137 [.ref a0, .int (nZ 0), .int v1, .int v2, .int v3, .int v4] h mv_raise fun x1 h1 =>
  (some (.inl (some (.int x1)), h1))) :=
  (s_aload_n rfl rfl).trans <| (s_iconst rfl).trans <| (s_iload_n rfl rfl).trans <| (s_iload_n rfl rfl).trans <| (s_iload_n rfl rfl).trans <| (s_iload rfl rfl).trans <| (s_v1 [.ref a0, .int (nZ 0), .int v1, .int v2, .int v3, .int v4] [] rfl rfl (fun _ => rfl)).trans <| c_rcv <| c_clI fun x1 h1 => s_iret1 rfl rfl
theorem mc_X8_castOff (X : mv_X) (d : Nat) (h : mv_H) (a0 : Nat) (v1 : Int32) : mv_call X (d + 1) 85 [.ref a0, .int v1] h = mv_run X (mv_call X d) m_X8_castOff 0 [.ref a0, .int v1] [] h := rfl
theorem bk_X8_castOff_0 (X : mv_X) (call : mv_G) (h : mv_H) (a0 : Nat) (v1 : Int32) : mv_run X call m_X8_castOff 0 [.ref a0, .int v1] [] h =
  mv_rcv X h [.ref a0, .int (nZ 1), .int v1, .int (nZ 0), .int (nZ 0), .int (nZ 0)] 12 (mv_clI call 137 [.ref a0, .int (nZ 1), .int v1, .int (nZ 0), .int (nZ 0), .int (nZ 0)] h mv_raise fun x1 h1 =>
  (some (.inl (some (.int x1)), h1))) :=
  (s_aload_n rfl rfl).trans <| (s_iconst rfl).trans <| (s_iload_n rfl rfl).trans <| (s_iconst rfl).trans <| (s_iconst rfl).trans <| (s_iconst rfl).trans <| (s_v1 [.ref a0, .int (nZ 1), .int v1, .int (nZ 0), .int (nZ 0), .int (nZ 0)] [] rfl rfl (fun _ => rfl)).trans <| c_rcv <| c_clI fun x1 h1 => s_iret1 rfl rfl
theorem mc_X8_balloonCount (X : mv_X) (d : Nat) (h : mv_H) (a0 : Nat) : mv_call X (d + 1) 86 [.ref a0] h = mv_run X (mv_call X d) m_X8_balloonCount 0 [.ref a0] [] h := rfl
theorem bk_X8_balloonCount_0 (X : mv_X) (call : mv_G) (h : mv_H) (a0 : Nat) : mv_run X call m_X8_balloonCount 0 [.ref a0] [] h =
  mv_gR X h a0 12 0 fun r1 =>
  mv_rcv X h [.ref r1] 7 (mv_clI call 30 [.ref r1] h mv_raise fun x1 h1 =>
  (some (.inl (some (.int x1)), h1))) :=
  (s_aload_n rfl rfl).trans <| (s_gf2 rfl rfl).trans <| c_gR fun r1 => (s_v1 [.ref r1] [] rfl rfl (fun _ => rfl)).trans <| c_rcv <| c_clI fun x1 h1 => s_iret1 rfl rfl
theorem mc_X8_isMoored (X : mv_X) (d : Nat) (h : mv_H) (a0 : Nat) (v1 : Int32) : mv_call X (d + 1) 87 [.ref a0, .int v1] h = mv_run X (mv_call X d) m_X8_isMoored 0 [.ref a0, .int v1] [] h := rfl
theorem bk_X8_isMoored_0 (X : mv_X) (call : mv_G) (h : mv_H) (a0 : Nat) (v1 : Int32) : mv_run X call m_X8_isMoored 0 [.ref a0, .int v1] [] h =
  mv_clI call 146 [.int v1, .int (nZ 0), .int (nZ 9)] h mv_raise fun x1 h1 =>
  if x1 = 0 then 
  (mv_raise 0 h1.2.1 (h1.1, h1.2.1 + 1, h1.2.2 + 6))
  else (mv_gR X h1 a0 12 0 fun r1 =>
    mv_rcv X h1 [.ref r1, .int v1] 7 (mv_clI call 27 [.ref r1, .int v1] h1 mv_raise fun x2 h2 =>
    mv_chk (mv_ok 6 x2) (some (.inl (some (.int x2)), h2)))) :=
  (s_iload_n rfl rfl).trans <| (s_iconst rfl).trans <| (s_bipush rfl).trans <| (s_s1 [.int v1, .int (nZ 0), .int (nZ 9)] [] rfl rfl (fun _ => rfl)).trans <| c_clI fun x1 h1 => (s_if_ne rfl).trans <| c_ite (s_exc rfl rfl rfl) ((s_aload_n rfl rfl).trans <| (s_gf2 rfl rfl).trans <| c_gR fun r1 => (s_iload_n rfl rfl).trans <| (s_v1 [.ref r1, .int v1] [] rfl rfl (fun _ => rfl)).trans <| c_rcv <| c_clI fun x2 h2 => s_iret rfl)
theorem mc_X8_lift (X : mv_X) (d : Nat) (h : mv_H) (a0 : Nat) (v1 : Int32) : mv_call X (d + 1) 88 [.ref a0, .int v1] h = mv_run X (mv_call X d) m_X8_lift 0 [.ref a0, .int v1] [] h := rfl
theorem bk_X8_lift_0 (X : mv_X) (call : mv_G) (h : mv_H) (a0 : Nat) (v1 : Int32) : mv_run X call m_X8_lift 0 [.ref a0, .int v1] [] h =
  mv_rcv X h [.ref a0, .int v1] 12 (mv_clR call 140 [.ref a0, .int v1] h mv_raise fun r1 h1 =>
  mv_gI X h1 r1 4 1 fun x1 =>
  (some (.inl (some (.int x1)), h1))) :=
  (s_aload_n rfl rfl).trans <| (s_iload_n rfl rfl).trans <| (s_v2 [.ref a0, .int v1] [] rfl rfl (fun _ => rfl)).trans <| c_rcv <| c_clR fun r1 h1 => (s_gf1 rfl rfl).trans <| c_gI fun x1 => s_iret1 rfl rfl
theorem mc_X8_ballast (X : mv_X) (d : Nat) (h : mv_H) (a0 : Nat) (v1 : Int32) : mv_call X (d + 1) 89 [.ref a0, .int v1] h = mv_run X (mv_call X d) m_X8_ballast 0 [.ref a0, .int v1] [] h := rfl
theorem bk_X8_ballast_0 (X : mv_X) (call : mv_G) (h : mv_H) (a0 : Nat) (v1 : Int32) : mv_run X call m_X8_ballast 0 [.ref a0, .int v1] [] h =
  mv_rcv X h [.ref a0, .int v1] 12 (mv_clR call 140 [.ref a0, .int v1] h mv_raise fun r1 h1 =>
  mv_gI X h1 r1 4 4 fun x1 =>
  (some (.inl (some (.int x1)), h1))) :=
  (s_aload_n rfl rfl).trans <| (s_iload_n rfl rfl).trans <| (s_v2 [.ref a0, .int v1] [] rfl rfl (fun _ => rfl)).trans <| c_rcv <| c_clR fun r1 h1 => (s_gf1 rfl rfl).trans <| c_gI fun x1 => s_iret1 rfl rfl
theorem mc_X8_height (X : mv_X) (d : Nat) (h : mv_H) (a0 : Nat) (v1 : Int32) : mv_call X (d + 1) 90 [.ref a0, .int v1] h = mv_run X (mv_call X d) m_X8_height 0 [.ref a0, .int v1] [] h := rfl
theorem bk_X8_height_0 (X : mv_X) (call : mv_G) (h : mv_H) (a0 : Nat) (v1 : Int32) : mv_run X call m_X8_height 0 [.ref a0, .int v1] [] h =
  mv_rcv X h [.ref a0, .int v1] 12 (mv_clR call 140 [.ref a0, .int v1] h mv_raise fun r1 h1 =>
  mv_rcv X h1 [.ref r1] 4 (mv_clI call 5 [.ref r1] h1 mv_raise fun x1 h2 =>
  (some (.inl (some (.int x1)), h2)))) :=
  (s_aload_n rfl rfl).trans <| (s_iload_n rfl rfl).trans <| (s_v2 [.ref a0, .int v1] [] rfl rfl (fun _ => rfl)).trans <| c_rcv <| c_clR fun r1 h1 => (s_v1 [.ref r1] [] rfl rfl (fun _ => rfl)).trans <| c_rcv <| c_clI fun x1 h2 => s_iret1 rfl rfl
theorem mc_X8_isBursting (X : mv_X) (d : Nat) (h : mv_H) (a0 : Nat) (v1 : Int32) : mv_call X (d + 1) 91 [.ref a0, .int v1] h = mv_run X (mv_call X d) m_X8_isBursting 0 [.ref a0, .int v1] [] h := rfl
theorem bk_X8_isBursting_0 (X : mv_X) (call : mv_G) (h : mv_H) (a0 : Nat) (v1 : Int32) : mv_run X call m_X8_isBursting 0 [.ref a0, .int v1] [] h =
  mv_rcv X h [.ref a0, .int v1] 12 (mv_clR call 140 [.ref a0, .int v1] h mv_raise fun r1 h1 =>
  mv_rcv X h1 [.ref r1] 4 (mv_clI call 6 [.ref r1] h1 mv_raise fun x1 h2 =>
  mv_chk (mv_ok 6 x1) (some (.inl (some (.int x1)), h2)))) :=
  (s_aload_n rfl rfl).trans <| (s_iload_n rfl rfl).trans <| (s_v2 [.ref a0, .int v1] [] rfl rfl (fun _ => rfl)).trans <| c_rcv <| c_clR fun r1 h1 => (s_v1 [.ref r1] [] rfl rfl (fun _ => rfl)).trans <| c_rcv <| c_clI fun x1 h2 => s_iret rfl
theorem mc_X8_berthByHeight (X : mv_X) (d : Nat) (h : mv_H) (a0 : Nat) (v1 : Int32) : mv_call X (d + 1) 92 [.ref a0, .int v1] h = mv_run X (mv_call X d) m_X8_berthByHeight 0 [.ref a0, .int v1, .retAddr 0] [] h := rfl
theorem bk_X8_berthByHeight_0 (X : mv_X) (call : mv_G) (h : mv_H) (a0 : Nat) (v1 : Int32) : mv_run X call m_X8_berthByHeight 0 [.ref a0, .int v1, .retAddr 0] [] h =
  mv_gR X h a0 12 0 fun r1 =>
  mv_rcv X h [.ref r1, .int v1] 7 (mv_clI call 33 [.ref r1, .int v1] h mv_raise fun x1 h1 =>
  if x1 = (nZ (-1)) then 
  (mv_raise 1 h1.2.1 (h1.1, h1.2.1 + 1, h1.2.2 + 6))
  else ((some (.inl (some (.int x1)), h1)))) :=
  (s_aload_n rfl rfl).trans <| (s_gf2 rfl rfl).trans <| c_gR fun r1 => (s_iload_n rfl rfl).trans <| (s_v1 [.ref r1, .int v1] [] rfl rfl (fun _ => rfl)).trans <| c_rcv <| c_clI fun x1 h1 => (s_istore_n (ls2 := [.ref a0, .int v1, .int x1]) rfl (fun _ => rfl)).trans <| (s_iload_n rfl rfl).trans <| (s_iconst rfl).trans <| (s_icmp_ne rfl).trans <| c_ite (s_exc rfl rfl rfl) ((s_iload_n rfl rfl).trans <| s_iret1 rfl rfl)
theorem mc_X8_load (X : mv_X) (d : Nat) (h : mv_H) (a0 : Nat) (v1 : Int32) (v2 : Int32) : mv_call X (d + 1) 93 [.ref a0, .int v1, .int v2] h = mv_run X (mv_call X d) m_X8_load 0 [.ref a0, .int v1, .int v2] [] h := rfl
theorem bk_X8_load_0 (X : mv_X) (call : mv_G) (h : mv_H) (a0 : Nat) (v1 : Int32) (v2 : Int32) : mv_run X call m_X8_load 0 [.ref a0, .int v1, .int v2] [] h =
  mv_rcv X h [.ref a0, .int (nZ 2), .int v1, .int v2, .int (nZ 0), .int (nZ 0)] 12 (mv_clI call 137 [.ref a0, .int (nZ 2), .int v1, .int v2, .int (nZ 0), .int (nZ 0)] h mv_raise fun x1 h1 =>
  (some (.inl (some (.int x1)), h1))) :=
  (s_aload_n rfl rfl).trans <| (s_iconst rfl).trans <| (s_iload_n rfl rfl).trans <| (s_iload_n rfl rfl).trans <| (s_iconst rfl).trans <| (s_iconst rfl).trans <| (s_v1 [.ref a0, .int (nZ 2), .int v1, .int v2, .int (nZ 0), .int (nZ 0)] [] rfl rfl (fun _ => rfl)).trans <| c_rcv <| c_clI fun x1 h1 => s_iret1 rfl rfl
theorem mc_X8_drop (X : mv_X) (d : Nat) (h : mv_H) (a0 : Nat) (v1 : Int32) (v2 : Int32) : mv_call X (d + 1) 94 [.ref a0, .int v1, .int v2] h = mv_run X (mv_call X d) m_X8_drop 0 [.ref a0, .int v1, .int v2] [] h := rfl
theorem bk_X8_drop_0 (X : mv_X) (call : mv_G) (h : mv_H) (a0 : Nat) (v1 : Int32) (v2 : Int32) : mv_run X call m_X8_drop 0 [.ref a0, .int v1, .int v2] [] h =
  mv_rcv X h [.ref a0, .int (nZ 3), .int v1, .int v2, .int (nZ 0), .int (nZ 0)] 12 (mv_clI call 137 [.ref a0, .int (nZ 3), .int v1, .int v2, .int (nZ 0), .int (nZ 0)] h mv_raise fun x1 h1 =>
  (some (.inl (some (.int x1)), h1))) :=
  (s_aload_n rfl rfl).trans <| (s_iconst rfl).trans <| (s_iload_n rfl rfl).trans <| (s_iload_n rfl rfl).trans <| (s_iconst rfl).trans <| (s_iconst rfl).trans <| (s_v1 [.ref a0, .int (nZ 3), .int v1, .int v2, .int (nZ 0), .int (nZ 0)] [] rfl rfl (fun _ => rfl)).trans <| c_rcv <| c_clI fun x1 h1 => s_iret1 rfl rfl
theorem mc_X8_rise (X : mv_X) (d : Nat) (h : mv_H) (a0 : Nat) (v1 : Int32) (v2 : Int32) : mv_call X (d + 1) 95 [.ref a0, .int v1, .int v2] h = mv_run X (mv_call X d) m_X8_rise 0 [.ref a0, .int v1, .int v2] [] h := rfl
theorem bk_X8_rise_0 (X : mv_X) (call : mv_G) (h : mv_H) (a0 : Nat) (v1 : Int32) (v2 : Int32) : mv_run X call m_X8_rise 0 [.ref a0, .int v1, .int v2] [] h =
  mv_rcv X h [.ref a0, .int (nZ 4), .int v1, .int v2, .int (nZ 0), .int (nZ 0)] 12 (mv_clI call 137 [.ref a0, .int (nZ 4), .int v1, .int v2, .int (nZ 0), .int (nZ 0)] h mv_raise fun x1 h1 =>
  (some (.inl (some (.int x1)), h1))) :=
  (s_aload_n rfl rfl).trans <| (s_iconst rfl).trans <| (s_iload_n rfl rfl).trans <| (s_iload_n rfl rfl).trans <| (s_iconst rfl).trans <| (s_iconst rfl).trans <| (s_v1 [.ref a0, .int (nZ 4), .int v1, .int v2, .int (nZ 0), .int (nZ 0)] [] rfl rfl (fun _ => rfl)).trans <| c_rcv <| c_clI fun x1 h1 => s_iret1 rfl rfl
theorem mc_X8_bagCount (X : mv_X) (d : Nat) (h : mv_H) (a0 : Nat) (v1 : Int32) : mv_call X (d + 1) 96 [.ref a0, .int v1] h = mv_run X (mv_call X d) m_X8_bagCount 0 [.ref a0, .int v1] [] h := rfl
theorem bk_X8_bagCount_0 (X : mv_X) (call : mv_G) (h : mv_H) (a0 : Nat) (v1 : Int32) : mv_run X call m_X8_bagCount 0 [.ref a0, .int v1] [] h =
  mv_rcv X h [.ref a0, .int v1] 12 (mv_clR call 140 [.ref a0, .int v1] h mv_raise fun r1 h1 =>
  mv_gI X h1 r1 4 5 fun x1 =>
  (some (.inl (some (.int x1)), h1))) :=
  (s_aload_n rfl rfl).trans <| (s_iload_n rfl rfl).trans <| (s_v2 [.ref a0, .int v1] [] rfl rfl (fun _ => rfl)).trans <| c_rcv <| c_clR fun r1 h1 => (s_gf1 rfl rfl).trans <| c_gI fun x1 => s_iret1 rfl rfl
theorem mc_X8_bagWeight (X : mv_X) (d : Nat) (h : mv_H) (a0 : Nat) (v1 : Int32) (v2 : Int32) : mv_call X (d + 1) 97 [.ref a0, .int v1, .int v2] h = mv_run X (mv_call X d) m_X8_bagWeight 0 [.ref a0, .int v1, .int v2, .retAddr 0] [] h := rfl
theorem bk_X8_bagWeight_0 (X : mv_X) (call : mv_G) (h : mv_H) (a0 : Nat) (v1 : Int32) (v2 : Int32) : mv_run X call m_X8_bagWeight 0 [.ref a0, .int v1, .int v2, .retAddr 0] [] h =
  mv_rcv X h [.ref a0, .int v1] 12 (mv_clR call 140 [.ref a0, .int v1] h mv_raise fun r1 h1 =>
  mv_rcv X h1 [.ref r1, .int v2] 4 (mv_clI call 8 [.ref r1, .int v2] h1 mv_raise fun x1 h2 =>
  if x1 = 0 then 
  (mv_raise 2 h2.2.1 (h2.1, h2.2.1 + 1, h2.2.2 + 6))
  else (mv_gR X h2 r1 4 6 fun r2 =>
    mv_aI X h2 1 r2 v2 fun x2 =>
    (some (.inl (some (.int x2)), h2))))) :=
  (s_aload_n rfl rfl).trans <| (s_iload_n rfl rfl).trans <| (s_v2 [.ref a0, .int v1] [] rfl rfl (fun _ => rfl)).trans <| c_rcv <| c_clR fun r1 h1 => (s_astore_n (ls2 := [.ref a0, .int v1, .int v2, .ref r1]) rfl (fun _ => rfl)).trans <| (s_aload_n rfl rfl).trans <| (s_iload_n rfl rfl).trans <| (s_v1 [.ref r1, .int v2] [] rfl rfl (fun _ => rfl)).trans <| c_rcv <| c_clI fun x1 h2 => (s_if_ne rfl).trans <| c_ite (s_exc rfl rfl rfl) ((s_aload_n rfl rfl).trans <| (s_gf2 rfl rfl).trans <| c_gR fun r2 => (s_iload_n rfl rfl).trans <| (s_iaload rfl).trans <| c_aI fun x2 => s_iret1 rfl rfl)
theorem mc_X8_fewestDrops (X : mv_X) (d : Nat) (h : mv_H) (a0 : Nat) (v1 : Int32) (v2 : Int32) : mv_call X (d + 1) 98 [.ref a0, .int v1, .int v2] h = mv_run X (mv_call X d) m_X8_fewestDrops 0 [.ref a0, .int v1, .int v2, .retAddr 0] [] h := rfl
theorem bk_X8_fewestDrops_0 (X : mv_X) (call : mv_G) (h : mv_H) (a0 : Nat) (v1 : Int32) (v2 : Int32) : mv_run X call m_X8_fewestDrops 0 [.ref a0, .int v1, .int v2, .retAddr 0] [] h =
  mv_clV call 143 [.int v2] h mv_raise fun h1 =>
  mv_rcv X h1 [.ref a0, .int v1] 12 (mv_clR call 140 [.ref a0, .int v1] h1 mv_raise fun r1 h2 =>
  mv_rcv X h2 [.ref r1, .int v2] 4 (mv_clI call 14 [.ref r1, .int v2] h2 mv_raise fun x1 h3 =>
  if x1 = (nZ (-1)) then 
  (mv_raise 1 h3.2.1 (h3.1, h3.2.1 + 1, h3.2.2 + 6))
  else ((some (.inl (some (.int x1)), h3))))) :=
  (s_iload_n rfl rfl).trans <| (s_s0 [.int v2] [] rfl rfl (fun _ => rfl)).trans <| c_clV fun h1 => (s_aload_n rfl rfl).trans <| (s_iload_n rfl rfl).trans <| (s_v2 [.ref a0, .int v1] [] rfl rfl (fun _ => rfl)).trans <| c_rcv <| c_clR fun r1 h2 => (s_iload_n rfl rfl).trans <| (s_v1 [.ref r1, .int v2] [] rfl rfl (fun _ => rfl)).trans <| c_rcv <| c_clI fun x1 h3 => (s_istore_n (ls2 := [.ref a0, .int v1, .int v2, .int x1]) rfl (fun _ => rfl)).trans <| (s_iload_n rfl rfl).trans <| (s_iconst rfl).trans <| (s_icmp_ne rfl).trans <| c_ite (s_exc rfl rfl rfl) ((s_iload_n rfl rfl).trans <| s_iret1 rfl rfl)
theorem mc_X8_fewestDropsBySets (X : mv_X) (d : Nat) (h : mv_H) (a0 : Nat) (v1 : Int32) (v2 : Int32) : mv_call X (d + 1) 99 [.ref a0, .int v1, .int v2] h = mv_run X (mv_call X d) m_X8_fewestDropsBySets 0 [.ref a0, .int v1, .int v2] [] h := rfl
theorem bk_X8_fewestDropsBySets_0 (X : mv_X) (call : mv_G) (h : mv_H) (a0 : Nat) (v1 : Int32) (v2 : Int32) : mv_run X call m_X8_fewestDropsBySets 0 [.ref a0, .int v1, .int v2] [] h =
  mv_clV call 143 [.int v2] h mv_raise fun h1 =>
  mv_rcv X h1 [.ref a0, .int v1] 12 (mv_clR call 140 [.ref a0, .int v1] h1 mv_raise fun r1 h2 =>
  mv_clI call 145 [.ref r1, .int v2] h2 mv_raise fun x1 h3 =>
  mv_clI call 264 [.int x1] h3 mv_raise fun x2 h4 =>
  (some (.inl (some (.int x2)), h4))) :=
  (s_iload_n rfl rfl).trans <| (s_s0 [.int v2] [] rfl rfl (fun _ => rfl)).trans <| c_clV fun h1 => (s_aload_n rfl rfl).trans <| (s_iload_n rfl rfl).trans <| (s_v2 [.ref a0, .int v1] [] rfl rfl (fun _ => rfl)).trans <| c_rcv <| c_clR fun r1 h2 => (s_iload_n rfl rfl).trans <| (s_s1 [.ref r1, .int v2] [] rfl rfl (fun _ => rfl)).trans <| c_clI fun x1 h3 => (s_s1 [.int x1] [] rfl rfl (fun _ => rfl)).trans <| c_clI fun x2 h4 => s_iret1 rfl rfl
theorem mc_X8_dropWeight (X : mv_X) (d : Nat) (h : mv_H) (a0 : Nat) (v1 : Int32) (v2 : Int32) : mv_call X (d + 1) 100 [.ref a0, .int v1, .int v2] h = mv_run X (mv_call X d) m_X8_dropWeight 0 [.ref a0, .int v1, .int v2, .retAddr 0] [] h := rfl
theorem bk_X8_dropWeight_0 (X : mv_X) (call : mv_G) (h : mv_H) (a0 : Nat) (v1 : Int32) (v2 : Int32) : mv_run X call m_X8_dropWeight 0 [.ref a0, .int v1, .int v2, .retAddr 0] [] h =
  mv_clV call 143 [.int v2] h mv_raise fun h1 =>
  mv_rcv X h1 [.ref a0, .int v1] 12 (mv_clR call 140 [.ref a0, .int v1] h1 mv_raise fun r1 h2 =>
  mv_clI call 145 [.ref r1, .int v2] h2 mv_raise fun x1 h3 =>
  mv_rcv X h3 [.ref r1, .int x1] 4 (mv_clI call 11 [.ref r1, .int x1] h3 mv_raise fun x2 h4 =>
  (some (.inl (some (.int x2)), h4)))) :=
  (s_iload_n rfl rfl).trans <| (s_s0 [.int v2] [] rfl rfl (fun _ => rfl)).trans <| c_clV fun h1 => (s_aload_n rfl rfl).trans <| (s_iload_n rfl rfl).trans <| (s_v2 [.ref a0, .int v1] [] rfl rfl (fun _ => rfl)).trans <| c_rcv <| c_clR fun r1 h2 => (s_astore_n (ls2 := [.ref a0, .int v1, .int v2, .ref r1]) rfl (fun _ => rfl)).trans <| (s_aload_n rfl rfl).trans <| (s_aload_n rfl rfl).trans <| (s_iload_n rfl rfl).trans <| (s_s1 [.ref r1, .int v2] [.ref r1] rfl rfl (fun _ => rfl)).trans <| c_clI fun x1 h3 => (s_v1 [.ref r1, .int x1] [] rfl rfl (fun _ => rfl)).trans <| c_rcv <| c_clI fun x2 h4 => s_iret1 rfl rfl
theorem mc_X8_setWind (X : mv_X) (d : Nat) (h : mv_H) (a0 : Nat) (v1 : Int32) (v2 : Int32) : mv_call X (d + 1) 101 [.ref a0, .int v1, .int v2] h = mv_run X (mv_call X d) m_X8_setWind 0 [.ref a0, .int v1, .int v2] [] h := rfl
theorem bk_X8_setWind_0 (X : mv_X) (call : mv_G) (h : mv_H) (a0 : Nat) (v1 : Int32) (v2 : Int32) : mv_run X call m_X8_setWind 0 [.ref a0, .int v1, .int v2] [] h =
  mv_rcv X h [.ref a0, .int (nZ 5), .int v1, .int v2, .int (nZ 0), .int (nZ 0)] 12 (mv_clI call 137 [.ref a0, .int (nZ 5), .int v1, .int v2, .int (nZ 0), .int (nZ 0)] h mv_raise fun x1 h1 =>
  (some (.inl (some (.int x1)), h1))) :=
  (s_aload_n rfl rfl).trans <| (s_iconst rfl).trans <| (s_iload_n rfl rfl).trans <| (s_iload_n rfl rfl).trans <| (s_iconst rfl).trans <| (s_iconst rfl).trans <| (s_v1 [.ref a0, .int (nZ 5), .int v1, .int v2, .int (nZ 0), .int (nZ 0)] [] rfl rfl (fun _ => rfl)).trans <| c_rcv <| c_clI fun x1 h1 => s_iret1 rfl rfl
theorem mc_X8_wind (X : mv_X) (d : Nat) (h : mv_H) (a0 : Nat) (v1 : Int32) : mv_call X (d + 1) 102 [.ref a0, .int v1] h = mv_run X (mv_call X d) m_X8_wind 0 [.ref a0, .int v1] [] h := rfl
theorem bk_X8_wind_0 (X : mv_X) (call : mv_G) (h : mv_H) (a0 : Nat) (v1 : Int32) : mv_run X call m_X8_wind 0 [.ref a0, .int v1] [] h =
  mv_clI call 146 [.int v1, .int (nZ 0), .int (nZ 23)] h mv_raise fun x1 h1 =>
  if x1 = 0 then 
  (mv_raise 0 h1.2.1 (h1.1, h1.2.1 + 1, h1.2.2 + 6))
  else (mv_gR X h1 a0 12 0 fun r1 =>
    mv_gR X h1 r1 7 1 fun r2 =>
    mv_aI X h1 1 r2 v1 fun x2 =>
    (some (.inl (some (.int x2)), h1))) :=
  (s_iload_n rfl rfl).trans <| (s_iconst rfl).trans <| (s_bipush rfl).trans <| (s_s1 [.int v1, .int (nZ 0), .int (nZ 23)] [] rfl rfl (fun _ => rfl)).trans <| c_clI fun x1 h1 => (s_if_ne rfl).trans <| c_ite (s_exc rfl rfl rfl) ((s_aload_n rfl rfl).trans <| (s_gf2 rfl rfl).trans <| c_gR fun r1 => (s_gf2 rfl rfl).trans <| c_gR fun r2 => (s_iload_n rfl rfl).trans <| (s_iaload rfl).trans <| c_aI fun x2 => s_iret1 rfl rfl)
theorem mc_X8_top (X : mv_X) (d : Nat) (h : mv_H) (a0 : Nat) (v1 : Int32) : mv_call X (d + 1) 103 [.ref a0, .int v1] h = mv_run X (mv_call X d) m_X8_top 0 [.ref a0, .int v1] [] h := rfl
theorem bk_X8_top_0 (X : mv_X) (call : mv_G) (h : mv_H) (a0 : Nat) (v1 : Int32) : mv_run X call m_X8_top 0 [.ref a0, .int v1] [] h =
  mv_rcv X h [.ref a0, .int v1] 12 (mv_clR call 140 [.ref a0, .int v1] h mv_raise fun r1 h1 =>
  mv_gR X h1 a0 12 0 fun r2 =>
  mv_rcv X h1 [.ref r2, .int v1] 7 (mv_clI call 36 [.ref r2, .int v1] h1 mv_raise fun x1 h2 =>
  (some (.inl (some (.int x1)), h2)))) :=
  (s_aload_n rfl rfl).trans <| (s_iload_n rfl rfl).trans <| (s_v2 [.ref a0, .int v1] [] rfl rfl (fun _ => rfl)).trans <| c_rcv <| c_clR fun r1 h1 => (s_popR rfl).trans <| (s_aload_n rfl rfl).trans <| (s_gf2 rfl rfl).trans <| c_gR fun r2 => (s_iload_n rfl rfl).trans <| (s_v1 [.ref r2, .int v1] [] rfl rfl (fun _ => rfl)).trans <| c_rcv <| c_clI fun x1 h2 => s_iret1 rfl rfl
theorem mc_X8_tangles (X : mv_X) (d : Nat) (h : mv_H) (a0 : Nat) : mv_call X (d + 1) 104 [.ref a0] h = mv_run X (mv_call X d) m_X8_tangles 0 [.ref a0] [] h := rfl
theorem bk_X8_tangles_0 (X : mv_X) (call : mv_G) (h : mv_H) (a0 : Nat) : mv_run X call m_X8_tangles 0 [.ref a0] [] h =
  mv_gR X h a0 12 8 fun r1 =>
  mv_gR X h a0 12 0 fun r2 =>
  mv_rcv X h [.ref r1, .ref r2] 11 (mv_clI call 79 [.ref r1, .ref r2] h mv_raise fun x1 h1 =>
  (some (.inl (some (.int x1)), h1))) :=
  (s_aload_n rfl rfl).trans <| (s_gf2 rfl rfl).trans <| c_gR fun r1 => (s_aload_n rfl rfl).trans <| (s_gf2 rfl rfl).trans <| c_gR fun r2 => (s_v1 [.ref r1, .ref r2] [] rfl rfl (fun _ => rfl)).trans <| c_rcv <| c_clI fun x1 h1 => s_iret1 rfl rfl
theorem mc_X8_tanglesByMerging (X : mv_X) (d : Nat) (h : mv_H) (a0 : Nat) : mv_call X (d + 1) 105 [.ref a0] h = mv_run X (mv_call X d) m_X8_tanglesByMerging 0 [.ref a0] [] h := rfl
theorem bk_X8_tanglesByMerging_0 (X : mv_X) (call : mv_G) (h : mv_H) (a0 : Nat) : mv_run X call m_X8_tanglesByMerging 0 [.ref a0] [] h =
  mv_gR X h a0 12 8 fun r1 =>
  mv_gR X h a0 12 0 fun r2 =>
  mv_rcv X h [.ref r1, .ref r2] 11 (mv_clI call 80 [.ref r1, .ref r2] h mv_raise fun x1 h1 =>
  (some (.inl (some (.int x1)), h1))) :=
  (s_aload_n rfl rfl).trans <| (s_gf2 rfl rfl).trans <| c_gR fun r1 => (s_aload_n rfl rfl).trans <| (s_gf2 rfl rfl).trans <| c_gR fun r2 => (s_v1 [.ref r1, .ref r2] [] rfl rfl (fun _ => rfl)).trans <| c_rcv <| c_clI fun x1 h1 => s_iret1 rfl rfl
theorem mc_X8_longestCalm (X : mv_X) (d : Nat) (h : mv_H) (a0 : Nat) (v1 : Int32) : mv_call X (d + 1) 106 [.ref a0, .int v1] h = mv_run X (mv_call X d) m_X8_longestCalm 0 [.ref a0, .int v1] [] h := rfl
theorem bk_X8_longestCalm_0 (X : mv_X) (call : mv_G) (h : mv_H) (a0 : Nat) (v1 : Int32) : mv_run X call m_X8_longestCalm 0 [.ref a0, .int v1] [] h =
  mv_clV call 144 [.int v1] h mv_raise fun h1 =>
  mv_gR X h1 a0 12 0 fun r1 =>
  mv_rcv X h1 [.ref r1, .int v1] 7 (mv_clI call 37 [.ref r1, .int v1] h1 mv_raise fun x1 h2 =>
  (some (.inl (some (.int x1)), h2))) :=
  (s_iload_n rfl rfl).trans <| (s_s0 [.int v1] [] rfl rfl (fun _ => rfl)).trans <| c_clV fun h1 => (s_aload_n rfl rfl).trans <| (s_gf2 rfl rfl).trans <| c_gR fun r1 => (s_iload_n rfl rfl).trans <| (s_v1 [.ref r1, .int v1] [] rfl rfl (fun _ => rfl)).trans <| c_rcv <| c_clI fun x1 h2 => s_iret1 rfl rfl
theorem mc_X8_longestCalmByTrying (X : mv_X) (d : Nat) (h : mv_H) (a0 : Nat) (v1 : Int32) : mv_call X (d + 1) 107 [.ref a0, .int v1] h = mv_run X (mv_call X d) m_X8_longestCalmByTrying 0 [.ref a0, .int v1] [] h := rfl
theorem bk_X8_longestCalmByTrying_0 (X : mv_X) (call : mv_G) (h : mv_H) (a0 : Nat) (v1 : Int32) : mv_run X call m_X8_longestCalmByTrying 0 [.ref a0, .int v1] [] h =
  mv_clV call 144 [.int v1] h mv_raise fun h1 =>
  mv_gR X h1 a0 12 0 fun r1 =>
  mv_rcv X h1 [.ref r1, .int v1] 7 (mv_clI call 38 [.ref r1, .int v1] h1 mv_raise fun x1 h2 =>
  (some (.inl (some (.int x1)), h2))) :=
  (s_iload_n rfl rfl).trans <| (s_s0 [.int v1] [] rfl rfl (fun _ => rfl)).trans <| c_clV fun h1 => (s_aload_n rfl rfl).trans <| (s_gf2 rfl rfl).trans <| c_gR fun r1 => (s_iload_n rfl rfl).trans <| (s_v1 [.ref r1, .int v1] [] rfl rfl (fun _ => rfl)).trans <| c_rcv <| c_clI fun x1 h2 => s_iret1 rfl rfl
theorem mc_X8_addPilot (X : mv_X) (d : Nat) (h : mv_H) (a0 : Nat) (v1 : Int32) (v2 : Int32) (v3 : Int32) : mv_call X (d + 1) 108 [.ref a0, .int v1, .int v2, .int v3] h = mv_run X (mv_call X d) m_X8_addPilot 0 [.ref a0, .int v1, .int v2, .int v3] [] h := rfl
theorem bk_X8_addPilot_0 (X : mv_X) (call : mv_G) (h : mv_H) (a0 : Nat) (v1 : Int32) (v2 : Int32) (v3 : Int32) : mv_run X call m_X8_addPilot 0 [.ref a0, .int v1, .int v2, .int v3] [] h =
  mv_rcv X h [.ref a0, .int (nZ 7), .int v1, .int v2, .int v3, .int (nZ 0)] 12 (mv_clI call 137 [.ref a0, .int (nZ 7), .int v1, .int v2, .int v3, .int (nZ 0)] h mv_raise fun x1 h1 =>
  (some (.inl (some (.int x1)), h1))) :=
  (s_aload_n rfl rfl).trans <| (s_bipush rfl).trans <| (s_iload_n rfl rfl).trans <| (s_iload_n rfl rfl).trans <| (s_iload_n rfl rfl).trans <| (s_iconst rfl).trans <| (s_v1 [.ref a0, .int (nZ 7), .int v1, .int v2, .int v3, .int (nZ 0)] [] rfl rfl (fun _ => rfl)).trans <| c_rcv <| c_clI fun x1 h1 => s_iret1 rfl rfl
theorem mc_X8_removePilot (X : mv_X) (d : Nat) (h : mv_H) (a0 : Nat) (v1 : Int32) : mv_call X (d + 1) 109 [.ref a0, .int v1] h = mv_run X (mv_call X d) m_X8_removePilot 0 [.ref a0, .int v1] [] h := rfl
theorem bk_X8_removePilot_0 (X : mv_X) (call : mv_G) (h : mv_H) (a0 : Nat) (v1 : Int32) : mv_run X call m_X8_removePilot 0 [.ref a0, .int v1] [] h =
  mv_rcv X h [.ref a0, .int (nZ 8), .int v1, .int (nZ 0), .int (nZ 0), .int (nZ 0)] 12 (mv_clI call 137 [.ref a0, .int (nZ 8), .int v1, .int (nZ 0), .int (nZ 0), .int (nZ 0)] h mv_raise fun x1 h1 =>
  (some (.inl (some (.int x1)), h1))) :=
  (s_aload_n rfl rfl).trans <| (s_bipush rfl).trans <| (s_iload_n rfl rfl).trans <| (s_iconst rfl).trans <| (s_iconst rfl).trans <| (s_iconst rfl).trans <| (s_v1 [.ref a0, .int (nZ 8), .int v1, .int (nZ 0), .int (nZ 0), .int (nZ 0)] [] rfl rfl (fun _ => rfl)).trans <| c_rcv <| c_clI fun x1 h1 => s_iret1 rfl rfl
theorem mc_X8_pilotCount (X : mv_X) (d : Nat) (h : mv_H) (a0 : Nat) : mv_call X (d + 1) 110 [.ref a0] h = mv_run X (mv_call X d) m_X8_pilotCount 0 [.ref a0] [] h := rfl
theorem bk_X8_pilotCount_0 (X : mv_X) (call : mv_G) (h : mv_H) (a0 : Nat) : mv_run X call m_X8_pilotCount 0 [.ref a0] [] h =
  mv_gR X h a0 12 0 fun r1 =>
  mv_gI X h r1 7 3 fun x1 =>
  (some (.inl (some (.int x1)), h)) :=
  (s_aload_n rfl rfl).trans <| (s_gf2 rfl rfl).trans <| c_gR fun r1 => (s_gf1 rfl rfl).trans <| c_gI fun x1 => s_iret1 rfl rfl
theorem mc_X8_isOnDuty (X : mv_X) (d : Nat) (h : mv_H) (a0 : Nat) (v1 : Int32) (v2 : Int32) : mv_call X (d + 1) 111 [.ref a0, .int v1, .int v2] h = mv_run X (mv_call X d) m_X8_isOnDuty 0 [.ref a0, .int v1, .int v2] [] h := rfl
theorem bk_X8_isOnDuty_0 (X : mv_X) (call : mv_G) (h : mv_H) (a0 : Nat) (v1 : Int32) (v2 : Int32) : mv_run X call m_X8_isOnDuty 0 [.ref a0, .int v1, .int v2] [] h =
  mv_rcv X h [.ref a0, .int v1] 12 (mv_clV call 141 [.ref a0, .int v1] h mv_raise fun h1 =>
  mv_clI call 146 [.int v2, .int (nZ 0), .int (nZ 23)] h1 mv_raise fun x1 h2 =>
  if x1 = 0 then 
  (mv_raise 0 h2.2.1 (h2.1, h2.2.1 + 1, h2.2.2 + 6))
  else (mv_gR X h2 a0 12 0 fun r1 =>
    mv_gR X h2 r1 7 2 fun r2 =>
    mv_aR X h2 r2 v1 fun r3 =>
    mv_rcv X h2 [.ref r3, .int v2] 9 (mv_clI call 67 [.ref r3, .int v2] h2 mv_raise fun x2 h3 =>
    mv_chk (mv_ok 6 x2) (some (.inl (some (.int x2)), h3))))) :=
  (s_aload_n rfl rfl).trans <| (s_iload_n rfl rfl).trans <| (s_v0 [.ref a0, .int v1] [] rfl rfl (fun _ => rfl)).trans <| c_rcv <| c_clV fun h1 => (s_iload_n rfl rfl).trans <| (s_iconst rfl).trans <| (s_bipush rfl).trans <| (s_s1 [.int v2, .int (nZ 0), .int (nZ 23)] [] rfl rfl (fun _ => rfl)).trans <| c_clI fun x1 h2 => (s_if_ne rfl).trans <| c_ite (s_exc rfl rfl rfl) ((s_aload_n rfl rfl).trans <| (s_gf2 rfl rfl).trans <| c_gR fun r1 => (s_gf2 rfl rfl).trans <| c_gR fun r2 => (s_iload_n rfl rfl).trans <| (s_aaload rfl).trans <| c_aR fun r3 => (s_iload_n rfl rfl).trans <| (s_v1 [.ref r3, .int v2] [] rfl rfl (fun _ => rfl)).trans <| c_rcv <| c_clI fun x2 h3 => s_iret rfl)
theorem mc_X8_canCrew (X : mv_X) (d : Nat) (h : mv_H) (a0 : Nat) (v1 : Int32) (v2 : Int32) : mv_call X (d + 1) 112 [.ref a0, .int v1, .int v2] h = mv_run X (mv_call X d) m_X8_canCrew 0 [.ref a0, .int v1, .int v2] [] h := rfl
theorem bk_X8_canCrew_0 (X : mv_X) (call : mv_G) (h : mv_H) (a0 : Nat) (v1 : Int32) (v2 : Int32) : mv_run X call m_X8_canCrew 0 [.ref a0, .int v1, .int v2] [] h =
  mv_rcv X h [.ref a0, .int v1] 12 (mv_clV call 141 [.ref a0, .int v1] h mv_raise fun h1 =>
  mv_rcv X h1 [.ref a0, .int v2] 12 (mv_clR call 140 [.ref a0, .int v2] h1 mv_raise fun r1 h2 =>
  mv_gR X h2 a0 12 0 fun r2 =>
  mv_rcv X h2 [.ref r2, .int v1, .int v2] 7 (mv_clI call 39 [.ref r2, .int v1, .int v2] h2 mv_raise fun x1 h3 =>
  mv_chk (mv_ok 6 x1) (some (.inl (some (.int x1)), h3))))) :=
  (s_aload_n rfl rfl).trans <| (s_iload_n rfl rfl).trans <| (s_v0 [.ref a0, .int v1] [] rfl rfl (fun _ => rfl)).trans <| c_rcv <| c_clV fun h1 => (s_aload_n rfl rfl).trans <| (s_iload_n rfl rfl).trans <| (s_v2 [.ref a0, .int v2] [] rfl rfl (fun _ => rfl)).trans <| c_rcv <| c_clR fun r1 h2 => (s_popR rfl).trans <| (s_aload_n rfl rfl).trans <| (s_gf2 rfl rfl).trans <| c_gR fun r2 => (s_iload_n rfl rfl).trans <| (s_iload_n rfl rfl).trans <| (s_v1 [.ref r2, .int v1, .int v2] [] rfl rfl (fun _ => rfl)).trans <| c_rcv <| c_clI fun x1 h3 => s_iret rfl
theorem mc_X8_mostCrewed (X : mv_X) (d : Nat) (h : mv_H) (a0 : Nat) : mv_call X (d + 1) 113 [.ref a0] h = mv_run X (mv_call X d) m_X8_mostCrewed 0 [.ref a0] [] h := rfl
theorem bk_X8_mostCrewed_0 (X : mv_X) (call : mv_G) (h : mv_H) (a0 : Nat) : mv_run X call m_X8_mostCrewed 0 [.ref a0] [] h =
  mv_gR X h a0 12 9 fun r1 =>
  mv_gR X h a0 12 0 fun r2 =>
  mv_rcv X h [.ref r1, .ref r2] 6 (mv_clI call 21 [.ref r1, .ref r2] h mv_raise fun x1 h1 =>
  (some (.inl (some (.int x1)), h1))) :=
  (s_aload_n rfl rfl).trans <| (s_gf2 rfl rfl).trans <| c_gR fun r1 => (s_aload_n rfl rfl).trans <| (s_gf2 rfl rfl).trans <| c_gR fun r2 => (s_v1 [.ref r1, .ref r2] [] rfl rfl (fun _ => rfl)).trans <| c_rcv <| c_clI fun x1 h1 => s_iret1 rfl rfl
theorem mc_X8_mostCrewedBySets (X : mv_X) (d : Nat) (h : mv_H) (a0 : Nat) : mv_call X (d + 1) 114 [.ref a0] h = mv_run X (mv_call X d) m_X8_mostCrewedBySets 0 [.ref a0] [] h := rfl
theorem bk_X8_mostCrewedBySets_0 (X : mv_X) (call : mv_G) (h : mv_H) (a0 : Nat) : mv_run X call m_X8_mostCrewedBySets 0 [.ref a0] [] h =
  mv_gR X h a0 12 9 fun r1 =>
  mv_gR X h a0 12 0 fun r2 =>
  mv_rcv X h [.ref r1, .ref r2] 6 (mv_clI call 23 [.ref r1, .ref r2] h mv_raise fun x1 h1 =>
  (some (.inl (some (.int x1)), h1))) :=
  (s_aload_n rfl rfl).trans <| (s_gf2 rfl rfl).trans <| c_gR fun r1 => (s_aload_n rfl rfl).trans <| (s_gf2 rfl rfl).trans <| c_gR fun r2 => (s_v1 [.ref r1, .ref r2] [] rfl rfl (fun _ => rfl)).trans <| c_rcv <| c_clI fun x1 h1 => s_iret1 rfl rfl
theorem mc_X8_pass (X : mv_X) (d : Nat) (h : mv_H) (a0 : Nat) (v1 : Int32) : mv_call X (d + 1) 115 [.ref a0, .int v1] h = mv_run X (mv_call X d) m_X8_pass 0 [.ref a0, .int v1] [] h := rfl
theorem bk_X8_pass_0 (X : mv_X) (call : mv_G) (h : mv_H) (a0 : Nat) (v1 : Int32) : mv_run X call m_X8_pass 0 [.ref a0, .int v1] [] h =
  mv_rcv X h [.ref a0, .int (nZ 6), .int v1, .int (nZ 0), .int (nZ 0), .int (nZ 0)] 12 (mv_clI call 137 [.ref a0, .int (nZ 6), .int v1, .int (nZ 0), .int (nZ 0), .int (nZ 0)] h mv_raise fun x1 h1 =>
  (some (.inl (some (.int x1)), h1))) :=
  (s_aload_n rfl rfl).trans <| (s_bipush rfl).trans <| (s_iload_n rfl rfl).trans <| (s_iconst rfl).trans <| (s_iconst rfl).trans <| (s_iconst rfl).trans <| (s_v1 [.ref a0, .int (nZ 6), .int v1, .int (nZ 0), .int (nZ 0), .int (nZ 0)] [] rfl rfl (fun _ => rfl)).trans <| c_rcv <| c_clI fun x1 h1 => s_iret1 rfl rfl
theorem mc_X8_burstsAhead (X : mv_X) (d : Nat) (h : mv_H) (a0 : Nat) : mv_call X (d + 1) 116 [.ref a0] h = mv_run X (mv_call X d) m_X8_burstsAhead 0 [.ref a0] [] h := rfl
theorem bk_X8_burstsAhead_0 (X : mv_X) (call : mv_G) (h : mv_H) (a0 : Nat) : mv_run X call m_X8_burstsAhead 0 [.ref a0] [] h =
  mv_gR X h a0 12 1 fun r1 =>
  mv_gR X h a0 12 0 fun r2 =>
  mv_rcv X h [.ref r1, .ref r2] 7 (mv_clV call 26 [.ref r1, .ref r2] h mv_raise fun h1 =>
  mv_gR X h1 a0 12 1 fun r3 =>
  mv_rcv X h1 [.ref r3, .int (nZ 1)] 7 (mv_clI call 57 [.ref r3, .int (nZ 1)] h1 mv_raise fun x1 h2 =>
  (some (.inl (some (.int x1)), h2)))) :=
  (s_aload_n rfl rfl).trans <| (s_gf2 rfl rfl).trans <| c_gR fun r1 => (s_aload_n rfl rfl).trans <| (s_gf2 rfl rfl).trans <| c_gR fun r2 => (s_v0 [.ref r1, .ref r2] [] rfl rfl (fun _ => rfl)).trans <| c_rcv <| c_clV fun h1 => (s_aload_n rfl rfl).trans <| (s_gf2 rfl rfl).trans <| c_gR fun r3 => (s_iconst rfl).trans <| (s_v1 [.ref r3, .int (nZ 1)] [] rfl rfl (fun _ => rfl)).trans <| c_rcv <| c_clI fun x1 h2 => s_iret1 rfl rfl
theorem mc_X8_hour (X : mv_X) (d : Nat) (h : mv_H) (a0 : Nat) : mv_call X (d + 1) 117 [.ref a0] h = mv_run X (mv_call X d) m_X8_hour 0 [.ref a0] [] h := rfl
theorem bk_X8_hour_0 (X : mv_X) (call : mv_G) (h : mv_H) (a0 : Nat) : mv_run X call m_X8_hour 0 [.ref a0] [] h =
  mv_gR X h a0 12 0 fun r1 =>
  mv_gI X h r1 7 4 fun x1 =>
  (some (.inl (some (.int x1)), h)) :=
  (s_aload_n rfl rfl).trans <| (s_gf2 rfl rfl).trans <| c_gR fun r1 => (s_gf1 rfl rfl).trans <| c_gI fun x1 => s_iret1 rfl rfl
theorem mc_X8_bursts (X : mv_X) (d : Nat) (h : mv_H) (a0 : Nat) : mv_call X (d + 1) 118 [.ref a0] h = mv_run X (mv_call X d) m_X8_bursts 0 [.ref a0] [] h := rfl
theorem bk_X8_bursts_0 (X : mv_X) (call : mv_G) (h : mv_H) (a0 : Nat) : mv_run X call m_X8_bursts 0 [.ref a0] [] h =
  mv_gR X h a0 12 0 fun r1 =>
  mv_gI X h r1 7 5 fun x1 =>
  (some (.inl (some (.int x1)), h)) :=
  (s_aload_n rfl rfl).trans <| (s_gf2 rfl rfl).trans <| c_gR fun r1 => (s_gf1 rfl rfl).trans <| c_gI fun x1 => s_iret1 rfl rfl
theorem mc_X8_loaded (X : mv_X) (d : Nat) (h : mv_H) (a0 : Nat) : mv_call X (d + 1) 119 [.ref a0] h = mv_run X (mv_call X d) m_X8_loaded 0 [.ref a0] [] h := rfl
theorem bk_X8_loaded_0 (X : mv_X) (call : mv_G) (h : mv_H) (a0 : Nat) : mv_run X call m_X8_loaded 0 [.ref a0] [] h =
  mv_gR X h a0 12 0 fun r1 =>
  mv_gI X h r1 7 6 fun x1 =>
  (some (.inl (some (.int x1)), h)) :=
  (s_aload_n rfl rfl).trans <| (s_gf2 rfl rfl).trans <| c_gR fun r1 => (s_gf1 rfl rfl).trans <| c_gI fun x1 => s_iret1 rfl rfl
theorem mc_X8_aboard (X : mv_X) (d : Nat) (h : mv_H) (a0 : Nat) : mv_call X (d + 1) 120 [.ref a0] h = mv_run X (mv_call X d) m_X8_aboard 0 [.ref a0] [] h := rfl
theorem bk_X8_aboard_0 (X : mv_X) (call : mv_G) (h : mv_H) (a0 : Nat) : mv_run X call m_X8_aboard 0 [.ref a0] [] h =
  mv_gR X h a0 12 0 fun r1 =>
  mv_rcv X h [.ref r1] 7 (mv_clI call 31 [.ref r1] h mv_raise fun x1 h1 =>
  (some (.inl (some (.int x1)), h1))) :=
  (s_aload_n rfl rfl).trans <| (s_gf2 rfl rfl).trans <| c_gR fun r1 => (s_v1 [.ref r1] [] rfl rfl (fun _ => rfl)).trans <| c_rcv <| c_clI fun x1 h1 => s_iret1 rfl rfl
theorem mc_X8_dropped (X : mv_X) (d : Nat) (h : mv_H) (a0 : Nat) : mv_call X (d + 1) 121 [.ref a0] h = mv_run X (mv_call X d) m_X8_dropped 0 [.ref a0] [] h := rfl
theorem bk_X8_dropped_0 (X : mv_X) (call : mv_G) (h : mv_H) (a0 : Nat) : mv_run X call m_X8_dropped 0 [.ref a0] [] h =
  mv_gR X h a0 12 0 fun r1 =>
  mv_gI X h r1 7 7 fun x1 =>
  (some (.inl (some (.int x1)), h)) :=
  (s_aload_n rfl rfl).trans <| (s_gf2 rfl rfl).trans <| c_gR fun r1 => (s_gf1 rfl rfl).trans <| c_gI fun x1 => s_iret1 rfl rfl
theorem mc_X8_lost (X : mv_X) (d : Nat) (h : mv_H) (a0 : Nat) : mv_call X (d + 1) 122 [.ref a0] h = mv_run X (mv_call X d) m_X8_lost 0 [.ref a0] [] h := rfl
theorem bk_X8_lost_0 (X : mv_X) (call : mv_G) (h : mv_H) (a0 : Nat) : mv_run X call m_X8_lost 0 [.ref a0] [] h =
  mv_gR X h a0 12 0 fun r1 =>
  mv_gI X h r1 7 8 fun x1 =>
  (some (.inl (some (.int x1)), h)) :=
  (s_aload_n rfl rfl).trans <| (s_gf2 rfl rfl).trans <| c_gR fun r1 => (s_gf1 rfl rfl).trans <| c_gI fun x1 => s_iret1 rfl rfl
theorem mc_X8_meanHeight (X : mv_X) (d : Nat) (h : mv_H) (a0 : Nat) : mv_call X (d + 1) 123 [.ref a0] h = mv_run X (mv_call X d) m_X8_meanHeight 0 [.ref a0, .retAddr 0] [] h := rfl
theorem bk_X8_meanHeight_0 (X : mv_X) (call : mv_G) (h : mv_H) (a0 : Nat) : mv_run X call m_X8_meanHeight 0 [.ref a0, .retAddr 0] [] h =
  mv_gR X h a0 12 0 fun r1 =>
  mv_rcv X h [.ref r1] 7 (mv_clI call 30 [.ref r1] h mv_raise fun x1 h1 =>
  if x1 = 0 then 
  (mv_raise 5 h1.2.1 (h1.1, h1.2.1 + 1, h1.2.2 + 6))
  else (mv_gR X h1 a0 12 0 fun r2 =>
    mv_rcv X h1 [.ref r2] 7 (mv_clI call 32 [.ref r2] h1 mv_raise fun x2 h2 =>
    mv_chk (decide ((FP.ddiv (FP.i2d x2) (FP.i2d x1)) &&& 0x7fffffffffffffff ≤ 0x7ff0000000000000)) (
    (some (.inl (some (.double (FP.ddiv (FP.i2d x2) (FP.i2d x1)))), h2)))))) :=
  (s_aload_n rfl rfl).trans <| (s_gf2 rfl rfl).trans <| c_gR fun r1 => (s_v1 [.ref r1] [] rfl rfl (fun _ => rfl)).trans <| c_rcv <| c_clI fun x1 h1 => (s_istore_n (ls2 := [.ref a0, .int x1]) rfl (fun _ => rfl)).trans <| (s_iload_n rfl rfl).trans <| (s_if_ne rfl).trans <| c_ite (s_exc rfl rfl rfl) ((s_aload_n rfl rfl).trans <| (s_gf2 rfl rfl).trans <| c_gR fun r2 => (s_v1 [.ref r2] [] rfl rfl (fun _ => rfl)).trans <| c_rcv <| c_clI fun x2 h2 => (s_i2d rfl).trans <| (s_iload_n rfl rfl).trans <| (s_i2d rfl).trans <| (s_ddiv rfl).trans <| c_chk <| s_dreturn rfl rfl)
theorem mc_X8_strain (X : mv_X) (d : Nat) (h : mv_H) (a0 : Nat) (v1 : Int32) : mv_call X (d + 1) 124 [.ref a0, .int v1] h = mv_run X (mv_call X d) m_X8_strain 0 [.ref a0, .int v1, .retAddr 0] [] h := rfl
theorem bk_X8_strain_0 (X : mv_X) (call : mv_G) (h : mv_H) (a0 : Nat) (v1 : Int32) : mv_run X call m_X8_strain 0 [.ref a0, .int v1, .retAddr 0] [] h =
  mv_rcv X h [.ref a0, .int v1] 12 (mv_clR call 140 [.ref a0, .int v1] h mv_raise fun r1 h1 =>
  mv_rcv X h1 [.ref r1] 4 (mv_clI call 5 [.ref r1] h1 mv_raise fun x1 h2 =>
  mv_gI X h2 r1 4 3 fun x2 =>
  mv_chk (decide ((FP.fdiv (FP.i2f x1) (FP.i2f x2)) &&& 0x7fffffff ≤ 0x7f800000)) (
  (some (.inl (some (.float (FP.fdiv (FP.i2f x1) (FP.i2f x2)))), h2))))) :=
  (s_aload_n rfl rfl).trans <| (s_iload_n rfl rfl).trans <| (s_v2 [.ref a0, .int v1] [] rfl rfl (fun _ => rfl)).trans <| c_rcv <| c_clR fun r1 h1 => (s_astore_n (ls2 := [.ref a0, .int v1, .ref r1]) rfl (fun _ => rfl)).trans <| (s_aload_n rfl rfl).trans <| (s_v1 [.ref r1] [] rfl rfl (fun _ => rfl)).trans <| c_rcv <| c_clI fun x1 h2 => (s_i2f rfl).trans <| (s_aload_n rfl rfl).trans <| (s_gf1 rfl rfl).trans <| c_gI fun x2 => (s_i2f rfl).trans <| (s_fdiv rfl).trans <| c_chk <| s_freturn rfl rfl
theorem mc_X8_feed (X : mv_X) (d : Nat) (h : mv_H) (a0 : Nat) (v1 : Int32) : mv_call X (d + 1) 125 [.ref a0, .int v1] h = mv_run X (mv_call X d) m_X8_feed 0 [.ref a0, .int v1] [] h := rfl
theorem bk_X8_feed_0 (X : mv_X) (call : mv_G) (h : mv_H) (a0 : Nat) (v1 : Int32) : mv_run X call m_X8_feed 0 [.ref a0, .int v1] [] h =
  mv_gR X h a0 12 6 fun r1 =>
  mv_gI X h r1 10 1 fun x1 =>
  if x1 < (nZ 60) then 
  (mv_gR X h a0 12 6 fun r2 =>
    mv_rcv X h [.ref r2, .int v1] 10 (mv_clV call 69 [.ref r2, .int v1] h mv_raise fun h1 =>
    mv_gR X h1 a0 12 6 fun r3 =>
    mv_gI X h1 r3 10 1 fun x2 =>
    (some (.inl (some (.int x2)), h1))))
  else (mv_raise 4 h.2.1 (h.1, h.2.1 + 1, h.2.2 + 6)) :=
  (s_aload_n rfl rfl).trans <| (s_gf2 rfl rfl).trans <| c_gR fun r1 => (s_gf1 rfl rfl).trans <| c_gI fun x1 => (s_bipush rfl).trans <| (s_icmp_lt rfl).trans <| c_ite ((s_aload_n rfl rfl).trans <| (s_gf2 rfl rfl).trans <| c_gR fun r2 => (s_iload_n rfl rfl).trans <| (s_v0 [.ref r2, .int v1] [] rfl rfl (fun _ => rfl)).trans <| c_rcv <| c_clV fun h1 => (s_aload_n rfl rfl).trans <| (s_gf2 rfl rfl).trans <| c_gR fun r3 => (s_gf1 rfl rfl).trans <| c_gI fun x2 => s_iret1 rfl rfl) (s_exc rfl rfl rfl)
theorem mc_X8_execute (X : mv_X) (d : Nat) (h : mv_H) (a0 : Nat) : mv_call X (d + 1) 126 [.ref a0] h = mv_run X (mv_call X d) m_X8_execute 0 [.ref a0, .retAddr 0, .retAddr 0, .retAddr 0] [] h := rfl
theorem i_X8_execute_0 : mv_look m_X8_execute.2.2.2.1 32 0 = some (.aload_n 0, 0, []) := by decide +kernel
theorem i_X8_execute_1 : mv_look m_X8_execute.2.2.2.1 32 1 = some (.getfield 43, 0, []) := by decide +kernel
theorem i_X8_execute_4 : mv_look m_X8_execute.2.2.2.1 32 4 = some (.invokevirtual 265, 0, []) := by decide +kernel
theorem i_X8_execute_7 : mv_look m_X8_execute.2.2.2.1 32 7 = some (.istore_n 1, 0, []) := by decide +kernel
theorem i_X8_execute_8 : mv_look m_X8_execute.2.2.2.1 32 8 = some (.aload_n 0, 0, []) := by decide +kernel
theorem i_X8_execute_9 : mv_look m_X8_execute.2.2.2.1 32 9 = some (.getfield 43, 0, []) := by decide +kernel
theorem i_X8_execute_12 : mv_look m_X8_execute.2.2.2.1 32 12 = some (.iconst 0, 0, []) := by decide +kernel
theorem i_X8_execute_13 : mv_look m_X8_execute.2.2.2.1 32 13 = some (.putfield 253, 0, []) := by decide +kernel
theorem i_X8_execute_16 : mv_look m_X8_execute.2.2.2.1 32 16 = some (.iload_n 1, 0, []) := by decide +kernel
theorem i_X8_execute_17 : mv_look m_X8_execute.2.2.2.1 32 17 = some (.ifCond .ne 25, 42, []) := by decide +kernel
theorem i_X8_execute_20 : mv_look m_X8_execute.2.2.2.1 32 20 = some (.aload_n 0, 0, []) := by decide +kernel
theorem i_X8_execute_21 : mv_look m_X8_execute.2.2.2.1 32 21 = some (.aload_n 0, 0, []) := by decide +kernel
theorem i_X8_execute_22 : mv_look m_X8_execute.2.2.2.1 32 22 = some (.getfield 43, 0, []) := by decide +kernel
theorem i_X8_execute_25 : mv_look m_X8_execute.2.2.2.1 32 25 = some (.getfield 268, 0, []) := by decide +kernel
theorem i_X8_execute_28 : mv_look m_X8_execute.2.2.2.1 32 28 = some (.putfield 68, 0, []) := by decide +kernel
theorem i_X8_execute_31 : mv_look m_X8_execute.2.2.2.1 32 31 = some (.new 93, 2, []) := by decide +kernel
theorem i_X8_execute_42 : mv_look m_X8_execute.2.2.2.1 32 42 = some (.aload_n 0, 0, []) := by decide +kernel
theorem i_X8_execute_43 : mv_look m_X8_execute.2.2.2.1 32 43 = some (.getfield 16, 0, []) := by decide +kernel
theorem i_X8_execute_46 : mv_look m_X8_execute.2.2.2.1 32 46 = some (.aload_n 0, 0, []) := by decide +kernel
theorem i_X8_execute_47 : mv_look m_X8_execute.2.2.2.1 32 47 = some (.getfield 10, 0, []) := by decide +kernel
theorem i_X8_execute_50 : mv_look m_X8_execute.2.2.2.1 32 50 = some (.invokevirtual 217, 0, []) := by decide +kernel
theorem i_X8_execute_53 : mv_look m_X8_execute.2.2.2.1 32 53 = some (.iconst 0, 0, []) := by decide +kernel
theorem i_X8_execute_54 : mv_look m_X8_execute.2.2.2.1 32 54 = some (.istore_n 2, 0, []) := by decide +kernel
theorem i_X8_execute_55 : mv_look m_X8_execute.2.2.2.1 32 55 = some (.iload_n 2, 0, []) := by decide +kernel
theorem i_X8_execute_56 : mv_look m_X8_execute.2.2.2.1 32 56 = some (.aload_n 0, 0, []) := by decide +kernel
theorem i_X8_execute_57 : mv_look m_X8_execute.2.2.2.1 32 57 = some (.getfield 43, 0, []) := by decide +kernel
theorem i_X8_execute_60 : mv_look m_X8_execute.2.2.2.1 32 60 = some (.getfield 273, 0, []) := by decide +kernel
theorem i_X8_execute_63 : mv_look m_X8_execute.2.2.2.1 32 63 = some (.if_icmp .ge 77, 140, []) := by decide +kernel
theorem i_X8_execute_66 : mv_look m_X8_execute.2.2.2.1 32 66 = some (.aload_n 0, 0, []) := by decide +kernel
theorem i_X8_execute_67 : mv_look m_X8_execute.2.2.2.1 32 67 = some (.getfield 16, 0, []) := by decide +kernel
theorem i_X8_execute_70 : mv_look m_X8_execute.2.2.2.1 32 70 = some (.aload_n 0, 0, []) := by decide +kernel
theorem i_X8_execute_71 : mv_look m_X8_execute.2.2.2.1 32 71 = some (.getfield 43, 0, []) := by decide +kernel
theorem i_X8_execute_74 : mv_look m_X8_execute.2.2.2.1 32 74 = some (.getfield 276, 0, []) := by decide +kernel
theorem i_X8_execute_77 : mv_look m_X8_execute.2.2.2.1 32 77 = some (.iload_n 2, 0, []) := by decide +kernel
theorem i_X8_execute_78 : mv_look m_X8_execute.2.2.2.1 32 78 = some (.aaload, 0, []) := by decide +kernel
theorem i_X8_execute_79 : mv_look m_X8_execute.2.2.2.1 32 79 = some (.invokevirtual 280, 0, []) := by decide +kernel
theorem i_X8_execute_82 : mv_look m_X8_execute.2.2.2.1 32 82 = some (.istore_n 3, 0, []) := by decide +kernel
theorem i_X8_execute_83 : mv_look m_X8_execute.2.2.2.1 32 83 = some (.iload_n 3, 0, []) := by decide +kernel
theorem i_X8_execute_84 : mv_look m_X8_execute.2.2.2.1 32 84 = some (.ifCond .eq 33, 117, []) := by decide +kernel
theorem i_X8_execute_87 : mv_look m_X8_execute.2.2.2.1 32 87 = some (.aload_n 0, 0, []) := by decide +kernel
theorem i_X8_execute_88 : mv_look m_X8_execute.2.2.2.1 32 88 = some (.bipush 6, 0, []) := by decide +kernel
theorem i_X8_execute_90 : mv_look m_X8_execute.2.2.2.1 32 90 = some (.iload_n 2, 0, []) := by decide +kernel
theorem i_X8_execute_91 : mv_look m_X8_execute.2.2.2.1 32 91 = some (.iload_n 3, 0, []) := by decide +kernel
theorem i_X8_execute_92 : mv_look m_X8_execute.2.2.2.1 32 92 = some (.bipush 6, 0, []) := by decide +kernel
theorem i_X8_execute_94 : mv_look m_X8_execute.2.2.2.1 32 94 = some (.if_icmp .ge 7, 101, []) := by decide +kernel
theorem i_X8_execute_97 : mv_look m_X8_execute.2.2.2.1 32 97 = some (.iload_n 3, 0, []) := by decide +kernel
theorem i_X8_execute_98 : mv_look m_X8_execute.2.2.2.1 32 98 = some (.goto 5, 103, []) := by decide +kernel
theorem i_X8_execute_101 : mv_look m_X8_execute.2.2.2.1 32 101 = some (.bipush 7, 0, []) := by decide +kernel
theorem i_X8_execute_103 : mv_look m_X8_execute.2.2.2.1 32 103 = some (.invokevirtual 284, 0, []) := by decide +kernel
theorem i_X8_execute_106 : mv_look m_X8_execute.2.2.2.1 32 106 = some (.new 288, 2, []) := by decide +kernel
theorem i_X8_execute_117 : mv_look m_X8_execute.2.2.2.1 32 117 = some (.aload_n 0, 0, []) := by decide +kernel
theorem i_X8_execute_118 : mv_look m_X8_execute.2.2.2.1 32 118 = some (.getfield 16, 0, []) := by decide +kernel
theorem i_X8_execute_121 : mv_look m_X8_execute.2.2.2.1 32 121 = some (.aload_n 0, 0, []) := by decide +kernel
theorem i_X8_execute_122 : mv_look m_X8_execute.2.2.2.1 32 122 = some (.getfield 43, 0, []) := by decide +kernel
theorem i_X8_execute_125 : mv_look m_X8_execute.2.2.2.1 32 125 = some (.getfield 276, 0, []) := by decide +kernel
theorem i_X8_execute_128 : mv_look m_X8_execute.2.2.2.1 32 128 = some (.iload_n 2, 0, []) := by decide +kernel
theorem i_X8_execute_129 : mv_look m_X8_execute.2.2.2.1 32 129 = some (.aaload, 0, []) := by decide +kernel
theorem i_X8_execute_130 : mv_look m_X8_execute.2.2.2.1 32 130 = some (.invokevirtual 293, 0, []) := by decide +kernel
theorem i_X8_execute_133 : mv_look m_X8_execute.2.2.2.1 32 133 = some (.pop, 0, []) := by decide +kernel
theorem i_X8_execute_134 : mv_look m_X8_execute.2.2.2.1 32 134 = some (.iinc 2 1, 0, []) := by decide +kernel
theorem i_X8_execute_137 : mv_look m_X8_execute.2.2.2.1 32 137 = some (.goto (-82), 55, []) := by decide +kernel
theorem i_X8_execute_140 : mv_look m_X8_execute.2.2.2.1 32 140 = some (.aload_n 0, 0, []) := by decide +kernel
theorem i_X8_execute_141 : mv_look m_X8_execute.2.2.2.1 32 141 = some (.getfield 29, 0, []) := by decide +kernel
theorem i_X8_execute_144 : mv_look m_X8_execute.2.2.2.1 32 144 = some (.aload_n 0, 0, []) := by decide +kernel
theorem i_X8_execute_145 : mv_look m_X8_execute.2.2.2.1 32 145 = some (.getfield 10, 0, []) := by decide +kernel
theorem i_X8_execute_148 : mv_look m_X8_execute.2.2.2.1 32 148 = some (.invokevirtual 296, 0, []) := by decide +kernel
theorem i_X8_execute_151 : mv_look m_X8_execute.2.2.2.1 32 151 = some (.aload_n 0, 0, []) := by decide +kernel
theorem i_X8_execute_152 : mv_look m_X8_execute.2.2.2.1 32 152 = some (.getfield 10, 0, []) := by decide +kernel
theorem i_X8_execute_155 : mv_look m_X8_execute.2.2.2.1 32 155 = some (.aload_n 0, 0, []) := by decide +kernel
theorem i_X8_execute_156 : mv_look m_X8_execute.2.2.2.1 32 156 = some (.getfield 16, 0, []) := by decide +kernel
theorem i_X8_execute_159 : mv_look m_X8_execute.2.2.2.1 32 159 = some (.invokevirtual 217, 0, []) := by decide +kernel
theorem i_X8_execute_162 : mv_look m_X8_execute.2.2.2.1 32 162 = some (.aload_n 0, 0, []) := by decide +kernel
theorem i_X8_execute_163 : mv_look m_X8_execute.2.2.2.1 32 163 = some (.getfield 43, 0, []) := by decide +kernel
theorem i_X8_execute_166 : mv_look m_X8_execute.2.2.2.1 32 166 = some (.getfield 273, 0, []) := by decide +kernel
theorem i_X8_execute_169 : mv_look m_X8_execute.2.2.2.1 32 169 = some (.ireturn, 0, []) := by decide +kernel
theorem bk_X8_execute_0 (X : mv_X) (call : mv_G) (h : mv_H) (a0 : Nat) : mv_run X call m_X8_execute 0 [.ref a0, .retAddr 0, .retAddr 0, .retAddr 0] [] h =
  mv_gR X h a0 12 6 fun r1 =>
  mv_rcv X h [.ref r1] 10 (mv_clI call 70 [.ref r1] h mv_raise fun x1 h1 =>
  mv_gR X h1 a0 12 6 fun r2 =>
  mv_pf h1 r2 10 1 (.int (nZ 0)) fun h2 =>
  if x1 = 0 then 
  (mv_gR X h2 a0 12 6 fun r3 =>
    mv_gI X h2 r3 10 4 fun x2 =>
    mv_pf h2 a0 12 10 (.int x2) fun h3 =>
    mv_raise 0 h3.2.1 (h3.1, h3.2.1 + 1, h3.2.2 + 6))
  else (mv_gR X h2 a0 12 1 fun r4 =>
    mv_gR X h2 a0 12 0 fun r5 =>
    mv_rcv X h2 [.ref r4, .ref r5] 7 (mv_clV call 26 [.ref r4, .ref r5] h2 mv_raise fun h4 =>
    mv_run X call m_X8_execute 55 [.ref a0, .int x1, .int (nZ 0), .retAddr 0] [] h4))) :=
  (s_aload_n i_X8_execute_0 rfl).trans <| (s_gf2 i_X8_execute_1 rfl).trans <| c_gR fun r1 => (s_v1 [.ref r1] [] i_X8_execute_4 rfl (fun _ => rfl)).trans <| c_rcv <| c_clI fun x1 h1 => (s_istore_n (ls2 := [.ref a0, .int x1, .retAddr 0, .retAddr 0]) i_X8_execute_7 (fun _ => rfl)).trans <| (s_aload_n i_X8_execute_8 rfl).trans <| (s_gf2 i_X8_execute_9 rfl).trans <| c_gR fun r2 => (s_iconst i_X8_execute_12).trans <| (s_pf1 i_X8_execute_13 rfl).trans <| c_pf fun h2 => (s_iload_n i_X8_execute_16 rfl).trans <| (s_if_ne i_X8_execute_17).trans <| c_ite ((s_aload_n i_X8_execute_20 rfl).trans <| (s_aload_n i_X8_execute_21 rfl).trans <| (s_gf2 i_X8_execute_22 rfl).trans <| c_gR fun r3 => (s_gf1 i_X8_execute_25 rfl).trans <| c_gI fun x2 => (s_pf1 i_X8_execute_28 rfl).trans <| c_pf fun h3 => s_exc i_X8_execute_31 rfl rfl) ((s_aload_n i_X8_execute_42 rfl).trans <| (s_gf2 i_X8_execute_43 rfl).trans <| c_gR fun r4 => (s_aload_n i_X8_execute_46 rfl).trans <| (s_gf2 i_X8_execute_47 rfl).trans <| c_gR fun r5 => (s_v0 [.ref r4, .ref r5] [] i_X8_execute_50 rfl (fun _ => rfl)).trans <| c_rcv <| c_clV fun h4 => (s_iconst i_X8_execute_53).trans <| (s_istore_n (ls2 := [.ref a0, .int x1, .int (nZ 0), .retAddr 0]) i_X8_execute_54 (fun _ => rfl)).trans <| rfl)
theorem bk_X8_execute_55 (X : mv_X) (call : mv_G) (h : mv_H) (a0 : Nat) (v1 : Int32) (v2 : Int32) (j3 : Value) : mv_run X call m_X8_execute 55 [.ref a0, .int v1, .int v2, j3] [] h =
  mv_gR X h a0 12 6 fun r1 =>
  mv_gI X h r1 10 3 fun x1 =>
  if x1 ≤ v2 then 
  (mv_gR X h a0 12 4 fun r2 =>
    mv_gR X h a0 12 0 fun r3 =>
    mv_rcv X h [.ref r2, .ref r3] 8 (mv_clV call 62 [.ref r2, .ref r3] h mv_raise fun h1 =>
    mv_gR X h1 a0 12 0 fun r4 =>
    mv_gR X h1 a0 12 1 fun r5 =>
    mv_rcv X h1 [.ref r4, .ref r5] 7 (mv_clV call 26 [.ref r4, .ref r5] h1 mv_raise fun h2 =>
    mv_gR X h2 a0 12 6 fun r6 =>
    mv_gI X h2 r6 10 3 fun x2 =>
    (some (.inl (some (.int x2)), h2)))))
  else (mv_gR X h a0 12 1 fun r7 =>
    mv_gR X h a0 12 6 fun r8 =>
    mv_gR X h r8 10 2 fun r9 =>
    mv_aR X h r9 v2 fun r10 =>
    mv_rcv X h [.ref r7, .ref r10] 7 (mv_clI call 40 [.ref r7, .ref r10] h mv_raise fun x3 h3 =>
    if x3 = 0 then 
    (mv_gR X h3 a0 12 1 fun r11 =>
      mv_gR X h3 a0 12 6 fun r12 =>
      mv_gR X h3 r12 10 2 fun r13 =>
      mv_aR X h3 r13 v2 fun r14 =>
      mv_rcv X h3 [.ref r11, .ref r14] 7 (mv_clI call 48 [.ref r11, .ref r14] h3 mv_raise fun x4 h4 =>
      mv_run X call m_X8_execute 55 [.ref a0, .int v1, .int (v2 + nZ 1), .int x3] [] h4))
    else (if (nZ 6) ≤ x3 then 
      (mv_rcv X h3 [.ref a0, .int (nZ 6), .int v2, .int (nZ 7)] 12 (mv_clV call 139 [.ref a0, .int (nZ 6), .int v2, .int (nZ 7)] h3 mv_raise fun h5 =>
        mv_raise 3 h5.2.1 (h5.1, h5.2.1 + 1, h5.2.2 + 6)))
      else (mv_rcv X h3 [.ref a0, .int (nZ 6), .int v2, .int x3] 12 (mv_clV call 139 [.ref a0, .int (nZ 6), .int v2, .int x3] h3 mv_raise fun h6 =>
        mv_raise 3 h6.2.1 (h6.1, h6.2.1 + 1, h6.2.2 + 6)))))) :=
  (s_iload_n i_X8_execute_55 rfl).trans <| (s_aload_n i_X8_execute_56 rfl).trans <| (s_gf2 i_X8_execute_57 rfl).trans <| c_gR fun r1 => (s_gf1 i_X8_execute_60 rfl).trans <| c_gI fun x1 => (s_icmp_ge i_X8_execute_63).trans <| c_ite ((s_aload_n i_X8_execute_140 rfl).trans <| (s_gf2 i_X8_execute_141 rfl).trans <| c_gR fun r2 => (s_aload_n i_X8_execute_144 rfl).trans <| (s_gf2 i_X8_execute_145 rfl).trans <| c_gR fun r3 => (s_v0 [.ref r2, .ref r3] [] i_X8_execute_148 rfl (fun _ => rfl)).trans <| c_rcv <| c_clV fun h1 => (s_aload_n i_X8_execute_151 rfl).trans <| (s_gf2 i_X8_execute_152 rfl).trans <| c_gR fun r4 => (s_aload_n i_X8_execute_155 rfl).trans <| (s_gf2 i_X8_execute_156 rfl).trans <| c_gR fun r5 => (s_v0 [.ref r4, .ref r5] [] i_X8_execute_159 rfl (fun _ => rfl)).trans <| c_rcv <| c_clV fun h2 => (s_aload_n i_X8_execute_162 rfl).trans <| (s_gf2 i_X8_execute_163 rfl).trans <| c_gR fun r6 => (s_gf1 i_X8_execute_166 rfl).trans <| c_gI fun x2 => s_iret1 i_X8_execute_169 rfl) ((s_aload_n i_X8_execute_66 rfl).trans <| (s_gf2 i_X8_execute_67 rfl).trans <| c_gR fun r7 => (s_aload_n i_X8_execute_70 rfl).trans <| (s_gf2 i_X8_execute_71 rfl).trans <| c_gR fun r8 => (s_gf2 i_X8_execute_74 rfl).trans <| c_gR fun r9 => (s_iload_n i_X8_execute_77 rfl).trans <| (s_aaload i_X8_execute_78).trans <| c_aR fun r10 => (s_v1 [.ref r7, .ref r10] [] i_X8_execute_79 rfl (fun _ => rfl)).trans <| c_rcv <| c_clI fun x3 h3 => (s_istore_n (ls2 := [.ref a0, .int v1, .int v2, .int x3]) i_X8_execute_82 (fun _ => rfl)).trans <| (s_iload_n i_X8_execute_83 rfl).trans <| (s_if_eq i_X8_execute_84).trans <| c_ite ((s_aload_n i_X8_execute_117 rfl).trans <| (s_gf2 i_X8_execute_118 rfl).trans <| c_gR fun r11 => (s_aload_n i_X8_execute_121 rfl).trans <| (s_gf2 i_X8_execute_122 rfl).trans <| c_gR fun r12 => (s_gf2 i_X8_execute_125 rfl).trans <| c_gR fun r13 => (s_iload_n i_X8_execute_128 rfl).trans <| (s_aaload i_X8_execute_129).trans <| c_aR fun r14 => (s_v1 [.ref r11, .ref r14] [] i_X8_execute_130 rfl (fun _ => rfl)).trans <| c_rcv <| c_clI fun x4 h4 => (s_popI i_X8_execute_133).trans <| (s_iinc (ls2 := [.ref a0, .int v1, .int (v2 + nZ 1), .int x3]) i_X8_execute_134 rfl (fun _ => rfl)).trans <| (s_goto i_X8_execute_137).trans <| rfl) ((s_aload_n i_X8_execute_87 rfl).trans <| (s_bipush i_X8_execute_88).trans <| (s_iload_n i_X8_execute_90 rfl).trans <| (s_iload_n i_X8_execute_91 rfl).trans <| (s_bipush i_X8_execute_92).trans <| (s_icmp_ge i_X8_execute_94).trans <| c_ite ((s_bipush i_X8_execute_101).trans <| (s_v0 [.ref a0, .int (nZ 6), .int v2, .int (nZ 7)] [] i_X8_execute_103 rfl (fun _ => rfl)).trans <| c_rcv <| c_clV fun h5 => s_exc i_X8_execute_106 rfl rfl) ((s_iload_n i_X8_execute_97 rfl).trans <| (s_goto i_X8_execute_98).trans <| (s_v0 [.ref a0, .int (nZ 6), .int v2, .int x3] [] i_X8_execute_103 rfl (fun _ => rfl)).trans <| c_rcv <| c_clV fun h6 => s_exc i_X8_execute_106 rfl rfl)))
theorem mc_X8_writeBalloon (X : mv_X) (d : Nat) (h : mv_H) (a0 : Nat) (v1 : Int32) : mv_call X (d + 1) 128 [.ref a0, .int v1] h = mv_run X (mv_call X d) m_X8_writeBalloon 0 [.ref a0, .int v1, .retAddr 0, .retAddr 0] [] h := rfl
theorem bk_X8_writeBalloon_0 (X : mv_X) (call : mv_G) (h : mv_H) (a0 : Nat) (v1 : Int32) : mv_run X call m_X8_writeBalloon 0 [.ref a0, .int v1, .retAddr 0, .retAddr 0] [] h =
  mv_rcv X h [.ref a0, .int v1] 12 (mv_clR call 140 [.ref a0, .int v1] h mv_raise fun r1 h1 =>
  mv_gR X h1 a0 12 7 fun r2 =>
  mv_rcv X h1 [.ref r2, .int (nZ 0)] 1 (mv_clV call 277 [.ref r2, .int (nZ 0)] h1 mv_raise fun h2 =>
  mv_gR X h2 a0 12 7 fun r3 =>
  mv_rcv X h2 [.ref r3, .int v1] 1 (mv_clR call 275 [.ref r3, .int v1] h2 mv_raise fun r4 h3 =>
  mv_rcv X h3 [.ref r4, .int (nZ 58)] 1 (mv_clR call 274 [.ref r4, .int (nZ 58)] h3 mv_raise fun r5 h4 =>
  mv_rcv X h4 [.ref r1] 4 (mv_clI call 5 [.ref r1] h4 mv_raise fun x1 h5 =>
  mv_rcv X h5 [.ref r5, .int x1] 1 (mv_clR call 275 [.ref r5, .int x1] h5 mv_raise fun r6 h6 =>
  mv_rcv X h6 [.ref r6, .int (nZ 47)] 1 (mv_clR call 274 [.ref r6, .int (nZ 47)] h6 mv_raise fun r7 h7 =>
  mv_gI X h7 r1 4 2 fun x2 =>
  mv_rcv X h7 [.ref r7, .int x2] 1 (mv_clR call 275 [.ref r7, .int x2] h7 mv_raise fun r8 h8 =>
  mv_rcv X h8 [.ref r1] 4 (mv_clI call 6 [.ref r1] h8 mv_raise fun x3 h9 =>
  if x3 = 0 then 
  (mv_run X call m_X8_writeBalloon 66 [.ref a0, .int v1, .ref r1, .int (nZ 0)] [] h9)
  else (mv_gR X h9 a0 12 7 fun r9 =>
    mv_rcv X h9 [.ref r9, .int (nZ 33)] 1 (mv_clR call 274 [.ref r9, .int (nZ 33)] h9 mv_raise fun r10 h10 =>
    mv_run X call m_X8_writeBalloon 66 [.ref a0, .int v1, .ref r1, .int (nZ 0)] [] h10))))))))))) :=
  (s_aload_n rfl rfl).trans <| (s_iload_n rfl rfl).trans <| (s_v2 [.ref a0, .int v1] [] rfl rfl (fun _ => rfl)).trans <| c_rcv <| c_clR fun r1 h1 => (s_astore_n (ls2 := [.ref a0, .int v1, .ref r1, .retAddr 0]) rfl (fun _ => rfl)).trans <| (s_aload_n rfl rfl).trans <| (s_gf2 rfl rfl).trans <| c_gR fun r2 => (s_iconst rfl).trans <| (s_v0 [.ref r2, .int (nZ 0)] [] rfl rfl (fun _ => rfl)).trans <| c_rcv <| c_clV fun h2 => (s_aload_n rfl rfl).trans <| (s_gf2 rfl rfl).trans <| c_gR fun r3 => (s_iload_n rfl rfl).trans <| (s_v2 [.ref r3, .int v1] [] rfl rfl (fun _ => rfl)).trans <| c_rcv <| c_clR fun r4 h3 => (s_bipush rfl).trans <| (s_v2 [.ref r4, .int (nZ 58)] [] rfl rfl (fun _ => rfl)).trans <| c_rcv <| c_clR fun r5 h4 => (s_aload_n rfl rfl).trans <| (s_v1 [.ref r1] [.ref r5] rfl rfl (fun _ => rfl)).trans <| c_rcv <| c_clI fun x1 h5 => (s_v2 [.ref r5, .int x1] [] rfl rfl (fun _ => rfl)).trans <| c_rcv <| c_clR fun r6 h6 => (s_bipush rfl).trans <| (s_v2 [.ref r6, .int (nZ 47)] [] rfl rfl (fun _ => rfl)).trans <| c_rcv <| c_clR fun r7 h7 => (s_aload_n rfl rfl).trans <| (s_gf1 rfl rfl).trans <| c_gI fun x2 => (s_v2 [.ref r7, .int x2] [] rfl rfl (fun _ => rfl)).trans <| c_rcv <| c_clR fun r8 h8 => (s_popR rfl).trans <| (s_aload_n rfl rfl).trans <| (s_v1 [.ref r1] [] rfl rfl (fun _ => rfl)).trans <| c_rcv <| c_clI fun x3 h9 => (s_if_eq rfl).trans <| c_ite ((s_iconst rfl).trans <| (s_istore_n (ls2 := [.ref a0, .int v1, .ref r1, .int (nZ 0)]) rfl (fun _ => rfl)).trans <| rfl) ((s_aload_n rfl rfl).trans <| (s_gf2 rfl rfl).trans <| c_gR fun r9 => (s_bipush rfl).trans <| (s_v2 [.ref r9, .int (nZ 33)] [] rfl rfl (fun _ => rfl)).trans <| c_rcv <| c_clR fun r10 h10 => (s_popR rfl).trans <| (s_iconst rfl).trans <| (s_istore_n (ls2 := [.ref a0, .int v1, .ref r1, .int (nZ 0)]) rfl (fun _ => rfl)).trans <| rfl)
theorem bk_X8_writeBalloon_66 (X : mv_X) (call : mv_G) (h : mv_H) (a0 : Nat) (v1 : Int32) (a2 : Nat) (v3 : Int32) : mv_run X call m_X8_writeBalloon 66 [.ref a0, .int v1, .ref a2, .int v3] [] h =
  mv_gI X h a2 4 5 fun x1 =>
  if x1 ≤ v3 then 
  (mv_gR X h a0 12 7 fun r1 =>
    mv_rcv X h [.ref r1] 1 (mv_clI call 278 [.ref r1] h mv_raise fun x2 h1 =>
    (some (.inl (some (.int x2)), h1))))
  else (mv_gR X h a0 12 7 fun r2 =>
    mv_rcv X h [.ref r2, .int (nZ 43)] 1 (mv_clR call 274 [.ref r2, .int (nZ 43)] h mv_raise fun r3 h2 =>
    mv_gR X h2 a2 4 6 fun r4 =>
    mv_aI X h2 1 r4 v3 fun x3 =>
    mv_rcv X h2 [.ref r3, .int x3] 1 (mv_clR call 275 [.ref r3, .int x3] h2 mv_raise fun r5 h3 =>
    mv_run X call m_X8_writeBalloon 66 [.ref a0, .int v1, .ref a2, .int (v3 + nZ 1)] [] h3))) :=
  (s_iload_n rfl rfl).trans <| (s_aload_n rfl rfl).trans <| (s_gf1 rfl rfl).trans <| c_gI fun x1 => (s_icmp_ge rfl).trans <| c_ite ((s_aload_n rfl rfl).trans <| (s_gf2 rfl rfl).trans <| c_gR fun r1 => (s_v1 [.ref r1] [] rfl rfl (fun _ => rfl)).trans <| c_rcv <| c_clI fun x2 h1 => s_iret1 rfl rfl) ((s_aload_n rfl rfl).trans <| (s_gf2 rfl rfl).trans <| c_gR fun r2 => (s_bipush rfl).trans <| (s_v2 [.ref r2, .int (nZ 43)] [] rfl rfl (fun _ => rfl)).trans <| c_rcv <| c_clR fun r3 h2 => (s_aload_n rfl rfl).trans <| (s_gf2 rfl rfl).trans <| c_gR fun r4 => (s_iload_n rfl rfl).trans <| (s_iaload rfl).trans <| c_aI fun x3 => (s_v2 [.ref r3, .int x3] [] rfl rfl (fun _ => rfl)).trans <| c_rcv <| c_clR fun r5 h3 => (s_popR rfl).trans <| (s_iinc (ls2 := [.ref a0, .int v1, .ref a2, .int (v3 + nZ 1)]) rfl rfl (fun _ => rfl)).trans <| (s_goto rfl).trans <| rfl)
theorem mc_X8_denial (X : mv_X) (d : Nat) (h : mv_H) (a0 : Nat) : mv_call X (d + 1) 130 [.ref a0] h = mv_run X (mv_call X d) m_X8_denial 0 [.ref a0] [] h := rfl
theorem bk_X8_denial_0 (X : mv_X) (call : mv_G) (h : mv_H) (a0 : Nat) : mv_run X call m_X8_denial 0 [.ref a0] [] h =
  mv_rcv X h [.ref a0] 12 (mv_clV call 142 [.ref a0] h mv_raise fun h1 =>
  mv_gI X h1 a0 12 11 fun x1 =>
  (some (.inl (some (.int x1)), h1))) :=
  (s_aload_n rfl rfl).trans <| (s_v0 [.ref a0] [] rfl rfl (fun _ => rfl)).trans <| c_rcv <| c_clV fun h1 => (s_aload_n rfl rfl).trans <| (s_gf1 rfl rfl).trans <| c_gI fun x1 => s_iret1 rfl rfl
theorem mc_X8_denialDetail (X : mv_X) (d : Nat) (h : mv_H) (a0 : Nat) : mv_call X (d + 1) 131 [.ref a0] h = mv_run X (mv_call X d) m_X8_denialDetail 0 [.ref a0] [] h := rfl
theorem bk_X8_denialDetail_0 (X : mv_X) (call : mv_G) (h : mv_H) (a0 : Nat) : mv_run X call m_X8_denialDetail 0 [.ref a0] [] h =
  mv_rcv X h [.ref a0] 12 (mv_clV call 142 [.ref a0] h mv_raise fun h1 =>
  mv_gI X h1 a0 12 12 fun x1 =>
  (some (.inl (some (.int x1)), h1))) :=
  (s_aload_n rfl rfl).trans <| (s_v0 [.ref a0] [] rfl rfl (fun _ => rfl)).trans <| c_rcv <| c_clV fun h1 => (s_aload_n rfl rfl).trans <| (s_gf1 rfl rfl).trans <| c_gI fun x1 => s_iret1 rfl rfl
theorem mc_X8_undo (X : mv_X) (d : Nat) (h : mv_H) (a0 : Nat) : mv_call X (d + 1) 133 [.ref a0] h = mv_run X (mv_call X d) m_X8_undo 0 [.ref a0] [] h := rfl
theorem bk_X8_undo_0 (X : mv_X) (call : mv_G) (h : mv_H) (a0 : Nat) : mv_run X call m_X8_undo 0 [.ref a0] [] h =
  mv_gR X h a0 12 4 fun r1 =>
  mv_gI X h r1 8 2 fun x1 =>
  if x1 = 0 then 
  (mv_raise 4 h.2.1 (h.1, h.2.1 + 1, h.2.2 + 6))
  else (mv_gR X h a0 12 4 fun r2 =>
    mv_gR X h a0 12 0 fun r3 =>
    mv_rcv X h [.ref r2, .ref r3] 8 (mv_clV call 63 [.ref r2, .ref r3] h mv_raise fun h1 =>
    mv_gR X h1 a0 12 4 fun r4 =>
    mv_gI X h1 r4 8 2 fun x2 =>
    (some (.inl (some (.int x2)), h1)))) :=
  (s_aload_n rfl rfl).trans <| (s_gf2 rfl rfl).trans <| c_gR fun r1 => (s_gf1 rfl rfl).trans <| c_gI fun x1 => (s_if_ne rfl).trans <| c_ite (s_exc rfl rfl rfl) ((s_aload_n rfl rfl).trans <| (s_gf2 rfl rfl).trans <| c_gR fun r2 => (s_aload_n rfl rfl).trans <| (s_gf2 rfl rfl).trans <| c_gR fun r3 => (s_v0 [.ref r2, .ref r3] [] rfl rfl (fun _ => rfl)).trans <| c_rcv <| c_clV fun h1 => (s_aload_n rfl rfl).trans <| (s_gf2 rfl rfl).trans <| c_gR fun r4 => (s_gf1 rfl rfl).trans <| c_gI fun x2 => s_iret1 rfl rfl)
theorem mc_X8_undoCount (X : mv_X) (d : Nat) (h : mv_H) (a0 : Nat) : mv_call X (d + 1) 134 [.ref a0] h = mv_run X (mv_call X d) m_X8_undoCount 0 [.ref a0] [] h := rfl
theorem bk_X8_undoCount_0 (X : mv_X) (call : mv_G) (h : mv_H) (a0 : Nat) : mv_run X call m_X8_undoCount 0 [.ref a0] [] h =
  mv_gR X h a0 12 4 fun r1 =>
  mv_gI X h r1 8 2 fun x1 =>
  (some (.inl (some (.int x1)), h)) :=
  (s_aload_n rfl rfl).trans <| (s_gf2 rfl rfl).trans <| c_gR fun r1 => (s_gf1 rfl rfl).trans <| c_gI fun x1 => s_iret1 rfl rfl
theorem mc_X8_saveSnapshot (X : mv_X) (d : Nat) (h : mv_H) (a0 : Nat) : mv_call X (d + 1) 135 [.ref a0] h = mv_run X (mv_call X d) m_X8_saveSnapshot 0 [.ref a0] [] h := rfl
theorem bk_X8_saveSnapshot_0 (X : mv_X) (call : mv_G) (h : mv_H) (a0 : Nat) : mv_run X call m_X8_saveSnapshot 0 [.ref a0] [] h =
  mv_gR X h a0 12 2 fun r1 =>
  mv_gR X h a0 12 0 fun r2 =>
  mv_rcv X h [.ref r1, .ref r2] 7 (mv_clV call 26 [.ref r1, .ref r2] h mv_raise fun h1 =>
  mv_chk (mv_ok 6 (nZ 1)) (mv_pf h1 a0 12 3 (.int (nZ 1)) fun h2 =>
  mv_gR X h2 a0 12 0 fun r3 =>
  mv_rcv X h2 [.ref r3] 7 (mv_clI call 30 [.ref r3] h2 mv_raise fun x1 h3 =>
  (some (.inl (some (.int x1)), h3))))) :=
  (s_aload_n rfl rfl).trans <| (s_gf2 rfl rfl).trans <| c_gR fun r1 => (s_aload_n rfl rfl).trans <| (s_gf2 rfl rfl).trans <| c_gR fun r2 => (s_v0 [.ref r1, .ref r2] [] rfl rfl (fun _ => rfl)).trans <| c_rcv <| c_clV fun h1 => (s_aload_n rfl rfl).trans <| (s_iconst rfl).trans <| (s_pf6 rfl rfl).trans <| c_chk <| c_pf fun h2 => (s_aload_n rfl rfl).trans <| (s_gf2 rfl rfl).trans <| c_gR fun r3 => (s_v1 [.ref r3] [] rfl rfl (fun _ => rfl)).trans <| c_rcv <| c_clI fun x1 h3 => s_iret1 rfl rfl
theorem mc_X8_restoreSnapshot (X : mv_X) (d : Nat) (h : mv_H) (a0 : Nat) : mv_call X (d + 1) 136 [.ref a0] h = mv_run X (mv_call X d) m_X8_restoreSnapshot 0 [.ref a0] [] h := rfl
theorem bk_X8_restoreSnapshot_0 (X : mv_X) (call : mv_G) (h : mv_H) (a0 : Nat) : mv_run X call m_X8_restoreSnapshot 0 [.ref a0] [] h =
  mv_gI X h a0 12 3 fun x1 =>
  if x1 = 0 then 
  (mv_raise 4 h.2.1 (h.1, h.2.1 + 1, h.2.2 + 6))
  else (mv_gR X h a0 12 0 fun r1 =>
    mv_gR X h a0 12 2 fun r2 =>
    mv_rcv X h [.ref r1, .ref r2] 7 (mv_clV call 26 [.ref r1, .ref r2] h mv_raise fun h1 =>
    mv_gR X h1 a0 12 4 fun r3 =>
    mv_pf h1 r3 8 2 (.int (nZ 0)) fun h2 =>
    mv_gR X h2 a0 12 0 fun r4 =>
    mv_rcv X h2 [.ref r4] 7 (mv_clI call 30 [.ref r4] h2 mv_raise fun x2 h3 =>
    (some (.inl (some (.int x2)), h3))))) :=
  (s_aload_n rfl rfl).trans <| (s_gf6 rfl rfl).trans <| c_gI fun x1 => (s_if_ne rfl).trans <| c_ite (s_exc rfl rfl rfl) ((s_aload_n rfl rfl).trans <| (s_gf2 rfl rfl).trans <| c_gR fun r1 => (s_aload_n rfl rfl).trans <| (s_gf2 rfl rfl).trans <| c_gR fun r2 => (s_v0 [.ref r1, .ref r2] [] rfl rfl (fun _ => rfl)).trans <| c_rcv <| c_clV fun h1 => (s_aload_n rfl rfl).trans <| (s_gf2 rfl rfl).trans <| c_gR fun r3 => (s_iconst rfl).trans <| (s_pf1 rfl rfl).trans <| c_pf fun h2 => (s_aload_n rfl rfl).trans <| (s_gf2 rfl rfl).trans <| c_gR fun r4 => (s_v1 [.ref r4] [] rfl rfl (fun _ => rfl)).trans <| c_rcv <| c_clI fun x2 h3 => s_iret1 rfl rfl)
theorem mc_X8_change (X : mv_X) (d : Nat) (h : mv_H) (a0 : Nat) (v1 : Int32) (v2 : Int32) (v3 : Int32) (v4 : Int32) (v5 : Int32) : mv_call X (d + 1) 137 [.ref a0, .int v1, .int v2, .int v3, .int v4, .int v5] h = mv_run X (mv_call X d) m_X8_change 0 [.ref a0, .int v1, .int v2, .int v3, .int v4, .int v5, .retAddr 0] [] h := rfl
theorem bk_X8_change_0 (X : mv_X) (call : mv_G) (h : mv_H) (a0 : Nat) (v1 : Int32) (v2 : Int32) (v3 : Int32) (v4 : Int32) (v5 : Int32) : mv_run X call m_X8_change 0 [.ref a0, .int v1, .int v2, .int v3, .int v4, .int v5, .retAddr 0] [] h =
  mv_gR X h a0 12 5 fun r1 =>
  mv_rcv X h [.ref r1, .int v1, .int v2, .int v3, .int v4, .int v5] 5 (mv_clV call 19 [.ref r1, .int v1, .int v2, .int v3, .int v4, .int v5] h mv_raise fun h1 =>
  mv_gR X h1 a0 12 0 fun r2 =>
  mv_gR X h1 a0 12 5 fun r3 =>
  mv_rcv X h1 [.ref r2, .ref r3] 7 (mv_clI call 40 [.ref r2, .ref r3] h1 mv_raise fun x1 h2 =>
  if x1 = 0 then 
  (mv_gR X h2 a0 12 4 fun r4 =>
    mv_gR X h2 a0 12 0 fun r5 =>
    mv_rcv X h2 [.ref r4, .ref r5] 8 (mv_clV call 62 [.ref r4, .ref r5] h2 mv_raise fun h3 =>
    mv_gR X h3 a0 12 0 fun r6 =>
    mv_gR X h3 a0 12 5 fun r7 =>
    mv_rcv X h3 [.ref r6, .ref r7] 7 (mv_clI call 48 [.ref r6, .ref r7] h3 mv_raise fun x2 h4 =>
    (some (.inl (some (.int x2)), h4)))))
  else (mv_rcv X h2 [.ref a0, .int x1] 12 (mv_clV call 138 [.ref a0, .int x1] h2 mv_raise fun h5 =>
    mv_gR X h5 a0 12 4 fun r8 =>
    mv_gR X h5 a0 12 0 fun r9 =>
    mv_rcv X h5 [.ref r8, .ref r9] 8 (mv_clV call 62 [.ref r8, .ref r9] h5 mv_raise fun h6 =>
    mv_gR X h6 a0 12 0 fun r10 =>
    mv_gR X h6 a0 12 5 fun r11 =>
    mv_rcv X h6 [.ref r10, .ref r11] 7 (mv_clI call 48 [.ref r10, .ref r11] h6 mv_raise fun x3 h7 =>
    (some (.inl (some (.int x3)), h7)))))))) :=
  (s_aload_n rfl rfl).trans <| (s_gf2 rfl rfl).trans <| c_gR fun r1 => (s_iload_n rfl rfl).trans <| (s_iload_n rfl rfl).trans <| (s_iload_n rfl rfl).trans <| (s_iload rfl rfl).trans <| (s_iload rfl rfl).trans <| (s_v0 [.ref r1, .int v1, .int v2, .int v3, .int v4, .int v5] [] rfl rfl (fun _ => rfl)).trans <| c_rcv <| c_clV fun h1 => (s_aload_n rfl rfl).trans <| (s_gf2 rfl rfl).trans <| c_gR fun r2 => (s_aload_n rfl rfl).trans <| (s_gf2 rfl rfl).trans <| c_gR fun r3 => (s_v1 [.ref r2, .ref r3] [] rfl rfl (fun _ => rfl)).trans <| c_rcv <| c_clI fun x1 h2 => (s_istore (ls2 := [.ref a0, .int v1, .int v2, .int v3, .int v4, .int v5, .int x1]) rfl (fun _ => rfl)).trans <| (s_iload rfl rfl).trans <| (s_if_eq rfl).trans <| c_ite ((s_aload_n rfl rfl).trans <| (s_gf2 rfl rfl).trans <| c_gR fun r4 => (s_aload_n rfl rfl).trans <| (s_gf2 rfl rfl).trans <| c_gR fun r5 => (s_v0 [.ref r4, .ref r5] [] rfl rfl (fun _ => rfl)).trans <| c_rcv <| c_clV fun h3 => (s_aload_n rfl rfl).trans <| (s_gf2 rfl rfl).trans <| c_gR fun r6 => (s_aload_n rfl rfl).trans <| (s_gf2 rfl rfl).trans <| c_gR fun r7 => (s_v1 [.ref r6, .ref r7] [] rfl rfl (fun _ => rfl)).trans <| c_rcv <| c_clI fun x2 h4 => s_iret1 rfl rfl) ((s_aload_n rfl rfl).trans <| (s_iload rfl rfl).trans <| (s_v0 [.ref a0, .int x1] [] rfl rfl (fun _ => rfl)).trans <| c_rcv <| c_clV fun h5 => (s_aload_n rfl rfl).trans <| (s_gf2 rfl rfl).trans <| c_gR fun r8 => (s_aload_n rfl rfl).trans <| (s_gf2 rfl rfl).trans <| c_gR fun r9 => (s_v0 [.ref r8, .ref r9] [] rfl rfl (fun _ => rfl)).trans <| c_rcv <| c_clV fun h6 => (s_aload_n rfl rfl).trans <| (s_gf2 rfl rfl).trans <| c_gR fun r10 => (s_aload_n rfl rfl).trans <| (s_gf2 rfl rfl).trans <| c_gR fun r11 => (s_v1 [.ref r10, .ref r11] [] rfl rfl (fun _ => rfl)).trans <| c_rcv <| c_clI fun x3 h7 => s_iret1 rfl rfl)
theorem mc_X8_refuse (X : mv_X) (d : Nat) (h : mv_H) (a0 : Nat) (v1 : Int32) : mv_call X (d + 1) 138 [.ref a0, .int v1] h = mv_run X (mv_call X d) m_X8_refuse 0 [.ref a0, .int v1] [] h := rfl
theorem bk_X8_refuse_0 (X : mv_X) (call : mv_G) (h : mv_H) (a0 : Nat) (v1 : Int32) : mv_run X call m_X8_refuse 0 [.ref a0, .int v1] [] h =
  if v1 = nZ 8 then (mv_raise 0 h.2.1 (h.1, h.2.1 + 1, h.2.2 + 6)) else
  if v1 = nZ 9 then (mv_raise 1 h.2.1 (h.1, h.2.1 + 1, h.2.2 + 6)) else
  if v1 = nZ 10 then (mv_raise 2 h.2.1 (h.1, h.2.1 + 1, h.2.2 + 6)) else
   (mv_gR X h a0 12 0 fun r1 =>
    mv_gR X h a0 12 5 fun r2 =>
    mv_rcv X h [.ref r1, .int v1, .ref r2] 7 (mv_clI call 47 [.ref r1, .int v1, .ref r2] h mv_raise fun x1 h1 =>
    mv_rcv X h1 [.ref a0, .int v1, .int x1, .int (nZ (-1))] 12 (mv_clV call 139 [.ref a0, .int v1, .int x1, .int (nZ (-1))] h1 mv_raise fun h2 =>
    mv_raise 3 h2.2.1 (h2.1, h2.2.1 + 1, h2.2.2 + 6)))) :=
  (s_iload_n rfl rfl).trans <| (s_tsw rfl).trans <| c_swc (s_exc rfl rfl rfl) <| c_swc (s_exc rfl rfl rfl) <| c_swc (s_exc rfl rfl rfl) <| c_swn ((s_aload_n rfl rfl).trans <| (s_iload_n rfl rfl).trans <| (s_aload_n rfl rfl).trans <| (s_gf2 rfl rfl).trans <| c_gR fun r1 => (s_iload_n rfl rfl).trans <| (s_aload_n rfl rfl).trans <| (s_gf2 rfl rfl).trans <| c_gR fun r2 => (s_v1 [.ref r1, .int v1, .ref r2] [.int v1, .ref a0] rfl rfl (fun _ => rfl)).trans <| c_rcv <| c_clI fun x1 h1 => (s_iconst rfl).trans <| (s_v0 [.ref a0, .int v1, .int x1, .int (nZ (-1))] [] rfl rfl (fun _ => rfl)).trans <| c_rcv <| c_clV fun h2 => s_exc rfl rfl rfl)
theorem mc_X8_keepDenial (X : mv_X) (d : Nat) (h : mv_H) (a0 : Nat) (v1 : Int32) (v2 : Int32) (v3 : Int32) : mv_call X (d + 1) 139 [.ref a0, .int v1, .int v2, .int v3] h = mv_run X (mv_call X d) m_X8_keepDenial 0 [.ref a0, .int v1, .int v2, .int v3] [] h := rfl
theorem bk_X8_keepDenial_0 (X : mv_X) (call : mv_G) (h : mv_H) (a0 : Nat) (v1 : Int32) (v2 : Int32) (v3 : Int32) : mv_run X call m_X8_keepDenial 0 [.ref a0, .int v1, .int v2, .int v3] [] h =
  mv_pf h a0 12 11 (.int v1) fun h1 =>
  mv_pf h1 a0 12 12 (.int v2) fun h2 =>
  mv_pf h2 a0 12 13 (.int v3) fun h3 =>
  (some (.inl none, h3)) :=
  (s_aload_n rfl rfl).trans <| (s_iload_n rfl rfl).trans <| (s_pf1 rfl rfl).trans <| c_pf fun h1 => (s_aload_n rfl rfl).trans <| (s_iload_n rfl rfl).trans <| (s_pf1 rfl rfl).trans <| c_pf fun h2 => (s_aload_n rfl rfl).trans <| (s_iload_n rfl rfl).trans <| (s_pf1 rfl rfl).trans <| c_pf fun h3 => s_ret rfl rfl
theorem mc_X8_balloonAt (X : mv_X) (d : Nat) (h : mv_H) (a0 : Nat) (v1 : Int32) : mv_call X (d + 1) 140 [.ref a0, .int v1] h = mv_run X (mv_call X d) m_X8_balloonAt 0 [.ref a0, .int v1] [] h := rfl
theorem bk_X8_balloonAt_0 (X : mv_X) (call : mv_G) (h : mv_H) (a0 : Nat) (v1 : Int32) : mv_run X call m_X8_balloonAt 0 [.ref a0, .int v1] [] h =
  mv_gR X h a0 12 0 fun r1 =>
  mv_rcv X h [.ref r1, .int v1] 7 (mv_clI call 27 [.ref r1, .int v1] h mv_raise fun x1 h1 =>
  if x1 = 0 then 
  (mv_raise 1 h1.2.1 (h1.1, h1.2.1 + 1, h1.2.2 + 6))
  else (mv_gR X h1 a0 12 0 fun r2 =>
    mv_gR X h1 r2 7 0 fun r3 =>
    mv_aR X h1 r3 v1 fun r4 =>
    (some (.inl (some (.ref r4)), h1)))) :=
  (s_aload_n rfl rfl).trans <| (s_gf2 rfl rfl).trans <| c_gR fun r1 => (s_iload_n rfl rfl).trans <| (s_v1 [.ref r1, .int v1] [] rfl rfl (fun _ => rfl)).trans <| c_rcv <| c_clI fun x1 h1 => (s_if_ne rfl).trans <| c_ite (s_exc rfl rfl rfl) ((s_aload_n rfl rfl).trans <| (s_gf2 rfl rfl).trans <| c_gR fun r2 => (s_gf2 rfl rfl).trans <| c_gR fun r3 => (s_iload_n rfl rfl).trans <| (s_aaload rfl).trans <| c_aR fun r4 => s_areturn rfl rfl)
theorem mc_X8_requirePilot (X : mv_X) (d : Nat) (h : mv_H) (a0 : Nat) (v1 : Int32) : mv_call X (d + 1) 141 [.ref a0, .int v1] h = mv_run X (mv_call X d) m_X8_requirePilot 0 [.ref a0, .int v1] [] h := rfl
theorem bk_X8_requirePilot_0 (X : mv_X) (call : mv_G) (h : mv_H) (a0 : Nat) (v1 : Int32) : mv_run X call m_X8_requirePilot 0 [.ref a0, .int v1] [] h =
  mv_gR X h a0 12 0 fun r1 =>
  mv_rcv X h [.ref r1, .int v1] 7 (mv_clI call 28 [.ref r1, .int v1] h mv_raise fun x1 h1 =>
  if x1 = 0 then 
  (mv_raise 2 h1.2.1 (h1.1, h1.2.1 + 1, h1.2.2 + 6))
  else ((some (.inl none, h1)))) :=
  (s_aload_n rfl rfl).trans <| (s_gf2 rfl rfl).trans <| c_gR fun r1 => (s_iload_n rfl rfl).trans <| (s_v1 [.ref r1, .int v1] [] rfl rfl (fun _ => rfl)).trans <| c_rcv <| c_clI fun x1 h1 => (s_if_ne rfl).trans <| c_ite (s_exc rfl rfl rfl) (s_ret rfl rfl)
theorem mc_X8_requireDenial (X : mv_X) (d : Nat) (h : mv_H) (a0 : Nat) : mv_call X (d + 1) 142 [.ref a0] h = mv_run X (mv_call X d) m_X8_requireDenial 0 [.ref a0] [] h := rfl
theorem bk_X8_requireDenial_0 (X : mv_X) (call : mv_G) (h : mv_H) (a0 : Nat) : mv_run X call m_X8_requireDenial 0 [.ref a0] [] h =
  mv_gI X h a0 12 11 fun x1 =>
  if x1 = (nZ (-1)) then 
  (mv_raise 1 h.2.1 (h.1, h.2.1 + 1, h.2.2 + 6))
  else ((some (.inl none, h))) :=
  (s_aload_n rfl rfl).trans <| (s_gf1 rfl rfl).trans <| c_gI fun x1 => (s_iconst rfl).trans <| (s_icmp_ne rfl).trans <| c_ite (s_exc rfl rfl rfl) (s_ret rfl rfl)
theorem mc_X8_requireHeight (X : mv_X) (d : Nat) (h : mv_H) (v0 : Int32) : mv_call X (d + 1) 143 [.int v0] h = mv_run X (mv_call X d) m_X8_requireHeight 0 [.int v0] [] h := rfl
theorem bk_X8_requireHeight_0 (X : mv_X) (call : mv_G) (h : mv_H) (v0 : Int32) : mv_run X call m_X8_requireHeight 0 [.int v0] [] h =
  mv_clI call 146 [.int v0, .int (nZ 1), .int (nZ 40)] h mv_raise fun x1 h1 =>
  if x1 = 0 then 
  (mv_raise 0 h1.2.1 (h1.1, h1.2.1 + 1, h1.2.2 + 6))
  else ((some (.inl none, h1))) :=
  (s_iload_n rfl rfl).trans <| (s_iconst rfl).trans <| (s_bipush rfl).trans <| (s_s1 [.int v0, .int (nZ 1), .int (nZ 40)] [] rfl rfl (fun _ => rfl)).trans <| c_clI fun x1 h1 => (s_if_ne rfl).trans <| c_ite (s_exc rfl rfl rfl) (s_ret rfl rfl)
theorem mc_X8_requireWindStrength (X : mv_X) (d : Nat) (h : mv_H) (v0 : Int32) : mv_call X (d + 1) 144 [.int v0] h = mv_run X (mv_call X d) m_X8_requireWindStrength 0 [.int v0] [] h := rfl
theorem bk_X8_requireWindStrength_0 (X : mv_X) (call : mv_G) (h : mv_H) (v0 : Int32) : mv_run X call m_X8_requireWindStrength 0 [.int v0] [] h =
  mv_clI call 146 [.int v0, .int (nZ 0), .int (nZ 9)] h mv_raise fun x1 h1 =>
  if x1 = 0 then 
  (mv_raise 0 h1.2.1 (h1.1, h1.2.1 + 1, h1.2.2 + 6))
  else ((some (.inl none, h1))) :=
  (s_iload_n rfl rfl).trans <| (s_iconst rfl).trans <| (s_bipush rfl).trans <| (s_s1 [.int v0, .int (nZ 0), .int (nZ 9)] [] rfl rfl (fun _ => rfl)).trans <| c_clI fun x1 h1 => (s_if_ne rfl).trans <| c_ite (s_exc rfl rfl rfl) (s_ret rfl rfl)
theorem mc_X8_requireDropSet (X : mv_X) (d : Nat) (h : mv_H) (a0 : Nat) (v1 : Int32) : mv_call X (d + 1) 145 [.ref a0, .int v1] h = mv_run X (mv_call X d) m_X8_requireDropSet 0 [.ref a0, .int v1, .retAddr 0] [] h := rfl
theorem bk_X8_requireDropSet_0 (X : mv_X) (call : mv_G) (h : mv_H) (a0 : Nat) (v1 : Int32) : mv_run X call m_X8_requireDropSet 0 [.ref a0, .int v1, .retAddr 0] [] h =
  mv_rcv X h [.ref a0, .int v1] 4 (mv_clI call 12 [.ref a0, .int v1] h mv_raise fun x1 h1 =>
  if x1 = (nZ (-1)) then 
  (mv_raise 1 h1.2.1 (h1.1, h1.2.1 + 1, h1.2.2 + 6))
  else ((some (.inl (some (.int x1)), h1)))) :=
  (s_aload_n rfl rfl).trans <| (s_iload_n rfl rfl).trans <| (s_v1 [.ref a0, .int v1] [] rfl rfl (fun _ => rfl)).trans <| c_rcv <| c_clI fun x1 h1 => (s_istore_n (ls2 := [.ref a0, .int v1, .int x1]) rfl (fun _ => rfl)).trans <| (s_iload_n rfl rfl).trans <| (s_iconst rfl).trans <| (s_icmp_ne rfl).trans <| c_ite (s_exc rfl rfl rfl) ((s_iload_n rfl rfl).trans <| s_iret1 rfl rfl)
theorem mc_X8_isWithin (X : mv_X) (d : Nat) (h : mv_H) (v0 : Int32) (v1 : Int32) (v2 : Int32) : mv_call X (d + 1) 146 [.int v0, .int v1, .int v2] h = mv_run X (mv_call X d) m_X8_isWithin 0 [.int v0, .int v1, .int v2] [] h := rfl
theorem bk_X8_isWithin_0 (X : mv_X) (call : mv_G) (h : mv_H) (v0 : Int32) (v1 : Int32) (v2 : Int32) : mv_run X call m_X8_isWithin 0 [.int v0, .int v1, .int v2] [] h =
  if v0 < v1 then 
  ((some (.inl (some (.int (nZ 0))), h)))
  else (if v2 < v0 then 
    ((some (.inl (some (.int (nZ 0))), h)))
    else ((some (.inl (some (.int (nZ 1))), h)))) :=
  (s_iload_n rfl rfl).trans <| (s_iload_n rfl rfl).trans <| (s_icmp_lt rfl).trans <| c_ite ((s_iconst rfl).trans <| s_iretb rfl rfl) ((s_iload_n rfl rfl).trans <| (s_iload_n rfl rfl).trans <| (s_icmp_gt rfl).trans <| c_ite ((s_iconst rfl).trans <| s_iretb rfl rfl) ((s_iconst rfl).trans <| (s_goto rfl).trans <| s_iretb rfl rfl))
