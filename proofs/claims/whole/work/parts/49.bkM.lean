theorem mc_X9_init (X : mv_X) (d : Nat) (h : mv_H) (a0 : Nat) : mv_call X (d + 1) 147 [.ref a0] h = mv_run X (mv_call X d) m_X9_init 0 [.ref a0] [] h := rfl
theorem bk_X9_init_0 (X : mv_X) (call : mv_G) (h : mv_H) (a0 : Nat) : mv_run X call m_X9_init 0 [.ref a0] [] h =
  mv_newa h .int (.int 0) (nZ 158) fun r1 h1 =>
  mv_pf h1 a0 13 1 (.ref r1) fun h2 =>
  mv_newa h2 .int (.int 0) (nZ 158) fun r2 h3 =>
  mv_pf h3 a0 13 2 (.ref r2) fun h4 =>
  mv_newa h4 .int (.int 0) (nZ 158) fun r3 h5 =>
  mv_pf h5 a0 13 3 (.ref r3) fun h6 =>
  mv_newa h6 .int (.int 0) (nZ 1264) fun r4 h7 =>
  mv_pf h7 a0 13 4 (.ref r4) fun h8 =>
  mv_newa h8 .int (.int 0) (nZ 158) fun r5 h9 =>
  mv_pf h9 a0 13 5 (.ref r5) fun h10 =>
  mv_newa h10 .int (.int 0) (nZ 60) fun r6 h11 =>
  mv_pf h11 a0 13 8 (.ref r6) fun h12 =>
  mv_newa h12 .int (.int 0) (nZ 300) fun r7 h13 =>
  mv_pf h13 a0 13 9 (.ref r7) fun h14 =>
  mv_newa h14 .int (.int 0) (nZ 40) fun r8 h15 =>
  mv_pf h15 a0 13 10 (.ref r8) fun h16 =>
  mv_newa h16 .int (.int 0) (nZ 10) fun r9 h17 =>
  mv_pf h17 a0 13 11 (.ref r9) fun h18 =>
  mv_newa h18 .int (.int 0) (nZ 10) fun r10 h19 =>
  mv_pf h19 a0 13 12 (.ref r10) fun h20 =>
  mv_newa h20 .int (.int 0) (nZ 64) fun r11 h21 =>
  mv_pf h21 a0 13 13 (.ref r11) fun h22 =>
  mv_newa h22 .int (.int 0) (nZ 64) fun r12 h23 =>
  mv_pf h23 a0 13 14 (.ref r12) fun h24 =>
  mv_pf h24 a0 13 17 (.int (nZ (-1))) fun h25 =>
  (some (.inl none, h25)) :=
  (s_aload_n rfl rfl).trans <| (s_oinit [] rfl rfl (fun _ => rfl)).trans <| (s_aload_n rfl rfl).trans <| (s_sipush rfl).trans <| (s_newa_int rfl).trans <| c_newa fun r1 h1 => (s_pf2 rfl rfl).trans <| c_pf fun h2 => (s_aload_n rfl rfl).trans <| (s_sipush rfl).trans <| (s_newa_int rfl).trans <| c_newa fun r2 h3 => (s_pf2 rfl rfl).trans <| c_pf fun h4 => (s_aload_n rfl rfl).trans <| (s_sipush rfl).trans <| (s_newa_int rfl).trans <| c_newa fun r3 h5 => (s_pf2 rfl rfl).trans <| c_pf fun h6 => (s_aload_n rfl rfl).trans <| (s_sipush rfl).trans <| (s_newa_int rfl).trans <| c_newa fun r4 h7 => (s_pf2 rfl rfl).trans <| c_pf fun h8 => (s_aload_n rfl rfl).trans <| (s_sipush rfl).trans <| (s_newa_int rfl).trans <| c_newa fun r5 h9 => (s_pf2 rfl rfl).trans <| c_pf fun h10 => (s_aload_n rfl rfl).trans <| (s_bipush rfl).trans <| (s_newa_int rfl).trans <| c_newa fun r6 h11 => (s_pf2 rfl rfl).trans <| c_pf fun h12 => (s_aload_n rfl rfl).trans <| (s_sipush rfl).trans <| (s_newa_int rfl).trans <| c_newa fun r7 h13 => (s_pf2 rfl rfl).trans <| c_pf fun h14 => (s_aload_n rfl rfl).trans <| (s_bipush rfl).trans <| (s_newa_int rfl).trans <| c_newa fun r8 h15 => (s_pf2 rfl rfl).trans <| c_pf fun h16 => (s_aload_n rfl rfl).trans <| (s_bipush rfl).trans <| (s_newa_int rfl).trans <| c_newa fun r9 h17 => (s_pf2 rfl rfl).trans <| c_pf fun h18 => (s_aload_n rfl rfl).trans <| (s_bipush rfl).trans <| (s_newa_int rfl).trans <| c_newa fun r10 h19 => (s_pf2 rfl rfl).trans <| c_pf fun h20 => (s_aload_n rfl rfl).trans <| (s_bipush rfl).trans <| (s_newa_int rfl).trans <| c_newa fun r11 h21 => (s_pf2 rfl rfl).trans <| c_pf fun h22 => (s_aload_n rfl rfl).trans <| (s_bipush rfl).trans <| (s_newa_int rfl).trans <| c_newa fun r12 h23 => (s_pf2 rfl rfl).trans <| c_pf fun h24 => (s_aload_n rfl rfl).trans <| (s_iconst rfl).trans <| (s_pf1 rfl rfl).trans <| c_pf fun h25 => s_ret rfl rfl
theorem mc_X9_thrown (X : mv_X) (d : Nat) (h : mv_H) (a0 : Nat) : mv_call X (d + 1) 148 [.ref a0] h = mv_run X (mv_call X d) m_X9_thrown 0 [.ref a0] [] h := rfl
theorem bk_X9_thrown_0 (X : mv_X) (call : mv_G) (h : mv_H) (a0 : Nat) : mv_run X call m_X9_thrown 0 [.ref a0] [] h =
  mv_gI X h a0 13 0 fun x1 =>
  (some (.inl (some (.int x1)), h)) :=
  (s_aload_n rfl rfl).trans <| (s_gf1 rfl rfl).trans <| c_gI fun x1 => s_iret1 rfl rfl
theorem mc_X9_fails (X : mv_X) (d : Nat) (h : mv_H) (a0 : Nat) (v1 : Int32) : mv_call X (d + 1) 149 [.ref a0, .int v1] h = mv_run X (mv_call X d) m_X9_fails 0 [.ref a0, .int v1] [] h := rfl
theorem bk_X9_fails_0 (X : mv_X) (call : mv_G) (h : mv_H) (a0 : Nat) (v1 : Int32) : mv_run X call m_X9_fails 0 [.ref a0, .int v1] [] h =
  mv_pf h a0 13 0 (.int v1) fun h1 =>
  (some (.inl (some (.int (nZ 0))), h1)) :=
  (s_aload_n rfl rfl).trans <| (s_iload_n rfl rfl).trans <| (s_pf1 rfl rfl).trans <| c_pf fun h1 => (s_iconst rfl).trans <| s_iret1 rfl rfl
theorem mc_X9_in (X : mv_X) (d : Nat) (h : mv_H) (v0 : Int32) (v1 : Int32) (v2 : Int32) : mv_call X (d + 1) 150 [.int v0, .int v1, .int v2] h = mv_run X (mv_call X d) m_X9_in 0 [.int v0, .int v1, .int v2] [] h := rfl
theorem bk_X9_in_0 (X : mv_X) (call : mv_G) (h : mv_H) (v0 : Int32) (v1 : Int32) (v2 : Int32) : mv_run X call m_X9_in 0 [.int v0, .int v1, .int v2] [] h =
  if v0 < v1 then 
  ((some (.inl (some (.int (nZ 0))), h)))
  else (if v2 < v0 then 
    ((some (.inl (some (.int (nZ 0))), h)))
    else ((some (.inl (some (.int (nZ 1))), h)))) :=
  (s_iload_n rfl rfl).trans <| (s_iload_n rfl rfl).trans <| (s_icmp_lt rfl).trans <| c_ite ((s_iconst rfl).trans <| s_iretb rfl rfl) ((s_iload_n rfl rfl).trans <| (s_iload_n rfl rfl).trans <| (s_icmp_gt rfl).trans <| c_ite ((s_iconst rfl).trans <| s_iretb rfl rfl) ((s_iconst rfl).trans <| (s_goto rfl).trans <| s_iretb rfl rfl))
theorem mc_X9_remembers (X : mv_X) (d : Nat) (h : mv_H) (a0 : Nat) : mv_call X (d + 1) 151 [.ref a0] h = mv_run X (mv_call X d) m_X9_remembers 0 [.ref a0, .retAddr 0] [] h := rfl
theorem bk_X9_remembers_0 (X : mv_X) (call : mv_G) (h : mv_H) (a0 : Nat) : mv_run X call m_X9_remembers 0 [.ref a0, .retAddr 0] [] h =
  mv_pf h a0 13 0 (.int (nZ 0)) fun h1 =>
  mv_run X call m_X9_remembers 7 [.ref a0, .int (nZ 0)] [] h1 :=
  (s_aload_n rfl rfl).trans <| (s_iconst rfl).trans <| (s_pf1 rfl rfl).trans <| c_pf fun h1 => (s_iconst rfl).trans <| (s_istore_n (ls2 := [.ref a0, .int (nZ 0)]) rfl (fun _ => rfl)).trans <| rfl
theorem bk_X9_remembers_7 (X : mv_X) (call : mv_G) (h : mv_H) (a0 : Nat) (v1 : Int32) : mv_run X call m_X9_remembers 7 [.ref a0, .int v1] [] h =
  if (nZ 158) ≤ v1 then 
  ((some (.inl none, h)))
  else (mv_gR X h a0 13 2 fun r1 =>
    mv_gR X h a0 13 1 fun r2 =>
    mv_aI X h 1 r2 v1 fun x1 =>
    mv_as h 1 r1 v1 (.int x1) fun h1 =>
    mv_run X call m_X9_remembers 7 [.ref a0, .int (v1 + nZ 1)] [] h1) :=
  (s_iload_n rfl rfl).trans <| (s_sipush rfl).trans <| (s_icmp_ge rfl).trans <| c_ite (s_ret rfl rfl) ((s_aload_n rfl rfl).trans <| (s_gf2 rfl rfl).trans <| c_gR fun r1 => (s_iload_n rfl rfl).trans <| (s_aload_n rfl rfl).trans <| (s_gf2 rfl rfl).trans <| c_gR fun r2 => (s_iload_n rfl rfl).trans <| (s_iaload rfl).trans <| c_aI fun x1 => (s_iastore rfl).trans <| c_as fun h1 => (s_iinc (ls2 := [.ref a0, .int (v1 + nZ 1)]) rfl rfl (fun _ => rfl)).trans <| (s_goto rfl).trans <| rfl)
theorem mc_X9_changed (X : mv_X) (d : Nat) (h : mv_H) (a0 : Nat) (v1 : Int32) : mv_call X (d + 1) 152 [.ref a0, .int v1] h = mv_run X (mv_call X d) m_X9_changed 0 [.ref a0, .int v1, .retAddr 0] [] h := rfl
theorem bk_X9_changed_0 (X : mv_X) (call : mv_G) (h : mv_H) (a0 : Nat) (v1 : Int32) : mv_run X call m_X9_changed 0 [.ref a0, .int v1, .retAddr 0] [] h =
  mv_gI X h a0 13 6 fun x1 =>
  if x1 = (nZ 8) then 
  (mv_run X call m_X9_changed 11 [.ref a0, .int v1, .int (nZ 0)] [] h)
  else (mv_gI X h a0 13 6 fun x2 =>
    mv_pf h a0 13 6 (.int (x2 + (nZ 1))) fun h1 =>
    mv_run X call m_X9_changed 55 [.ref a0, .int v1, .int (nZ 0)] [] h1) :=
  (s_aload_n rfl rfl).trans <| (s_gf1 rfl rfl).trans <| c_gI fun x1 => (s_bipush rfl).trans <| (s_icmp_ne rfl).trans <| c_ite ((s_iconst rfl).trans <| (s_istore_n (ls2 := [.ref a0, .int v1, .int (nZ 0)]) rfl (fun _ => rfl)).trans <| rfl) ((s_aload_n rfl rfl).trans <| (s_dupR rfl).trans <| (s_gf1 rfl rfl).trans <| c_gI fun x2 => (s_iconst rfl).trans <| (s_iadd rfl).trans <| (s_pf1 rfl rfl).trans <| c_pf fun h1 => (s_iconst rfl).trans <| (s_istore_n (ls2 := [.ref a0, .int v1, .int (nZ 0)]) rfl (fun _ => rfl)).trans <| rfl)
theorem bk_X9_changed_11 (X : mv_X) (call : mv_G) (h : mv_H) (a0 : Nat) (v1 : Int32) (v2 : Int32) : mv_run X call m_X9_changed 11 [.ref a0, .int v1, .int v2] [] h =
  if (nZ 1106) ≤ v2 then 
  (mv_run X call m_X9_changed 55 [.ref a0, .int v1, .int (nZ 0)] [] h)
  else (mv_gR X h a0 13 4 fun r1 =>
    mv_gR X h a0 13 4 fun r2 =>
    mv_aI X h 1 r2 (v2 + (nZ 158)) fun x1 =>
    mv_as h 1 r1 v2 (.int x1) fun h1 =>
    mv_run X call m_X9_changed 11 [.ref a0, .int v1, .int (v2 + nZ 1)] [] h1) :=
  (s_iload_n rfl rfl).trans <| (s_sipush rfl).trans <| (s_icmp_ge rfl).trans <| c_ite ((s_goto rfl).trans <| (s_iconst rfl).trans <| (s_istore_n (ls2 := [.ref a0, .int v1, .int (nZ 0)]) rfl (fun _ => rfl)).trans <| rfl) ((s_aload_n rfl rfl).trans <| (s_gf2 rfl rfl).trans <| c_gR fun r1 => (s_iload_n rfl rfl).trans <| (s_aload_n rfl rfl).trans <| (s_gf2 rfl rfl).trans <| c_gR fun r2 => (s_iload_n rfl rfl).trans <| (s_sipush rfl).trans <| (s_iadd rfl).trans <| (s_iaload rfl).trans <| c_aI fun x1 => (s_iastore rfl).trans <| c_as fun h1 => (s_iinc (ls2 := [.ref a0, .int v1, .int (v2 + nZ 1)]) rfl rfl (fun _ => rfl)).trans <| (s_goto rfl).trans <| rfl)
theorem bk_X9_changed_55 (X : mv_X) (call : mv_G) (h : mv_H) (a0 : Nat) (v1 : Int32) (v2 : Int32) : mv_run X call m_X9_changed 55 [.ref a0, .int v1, .int v2] [] h =
  if (nZ 158) ≤ v2 then 
  ((some (.inl (some (.int v1)), h)))
  else (mv_gR X h a0 13 4 fun r1 =>
    mv_gI X h a0 13 6 fun x1 =>
    mv_gR X h a0 13 2 fun r2 =>
    mv_aI X h 1 r2 v2 fun x2 =>
    mv_as h 1 r1 (((nZ 158) * (x1 - (nZ 1))) + v2) (.int x2) fun h1 =>
    mv_run X call m_X9_changed 55 [.ref a0, .int v1, .int (v2 + nZ 1)] [] h1) :=
  (s_iload_n rfl rfl).trans <| (s_sipush rfl).trans <| (s_icmp_ge rfl).trans <| c_ite ((s_iload_n rfl rfl).trans <| s_iret1 rfl rfl) ((s_aload_n rfl rfl).trans <| (s_gf2 rfl rfl).trans <| c_gR fun r1 => (s_sipush rfl).trans <| (s_aload_n rfl rfl).trans <| (s_gf1 rfl rfl).trans <| c_gI fun x1 => (s_iconst rfl).trans <| (s_isub rfl).trans <| (s_imul rfl).trans <| (s_iload_n rfl rfl).trans <| (s_iadd rfl).trans <| (s_aload_n rfl rfl).trans <| (s_gf2 rfl rfl).trans <| c_gR fun r2 => (s_iload_n rfl rfl).trans <| (s_iaload rfl).trans <| c_aI fun x2 => (s_iastore rfl).trans <| c_as fun h1 => (s_iinc (ls2 := [.ref a0, .int v1, .int (v2 + nZ 1)]) rfl rfl (fun _ => rfl)).trans <| (s_goto rfl).trans <| rfl)
theorem mc_X9_done (X : mv_X) (d : Nat) (h : mv_H) (a0 : Nat) (v1 : Int32) : mv_call X (d + 1) 153 [.ref a0, .int v1] h = mv_run X (mv_call X d) m_X9_done 0 [.ref a0, .int v1] [] h := rfl
theorem bk_X9_done_0 (X : mv_X) (call : mv_G) (h : mv_H) (a0 : Nat) (v1 : Int32) : mv_run X call m_X9_done 0 [.ref a0, .int v1] [] h =
  mv_pf h a0 13 18 (.int v1) fun h1 =>
  (some (.inl (some (.int (nZ 0))), h1)) :=
  (s_aload_n rfl rfl).trans <| (s_iload_n rfl rfl).trans <| (s_pf1 rfl rfl).trans <| c_pf fun h1 => (s_iconst rfl).trans <| s_iret1 rfl rfl
theorem mc_X9_denied (X : mv_X) (d : Nat) (h : mv_H) (a0 : Nat) (v1 : Int32) (v2 : Int32) : mv_call X (d + 1) 154 [.ref a0, .int v1, .int v2] h = mv_run X (mv_call X d) m_X9_denied 0 [.ref a0, .int v1, .int v2] [] h := rfl
theorem bk_X9_denied_0 (X : mv_X) (call : mv_G) (h : mv_H) (a0 : Nat) (v1 : Int32) (v2 : Int32) : mv_run X call m_X9_denied 0 [.ref a0, .int v1, .int v2] [] h =
  mv_pf h a0 13 19 (.int v1) fun h1 =>
  mv_pf h1 a0 13 20 (.int v2) fun h2 =>
  mv_pf h2 a0 13 21 (.int (nZ 0)) fun h3 =>
  (some (.inl (some (.int (-v1))), h3)) :=
  (s_aload_n rfl rfl).trans <| (s_iload_n rfl rfl).trans <| (s_pf1 rfl rfl).trans <| c_pf fun h1 => (s_aload_n rfl rfl).trans <| (s_iload_n rfl rfl).trans <| (s_pf1 rfl rfl).trans <| c_pf fun h2 => (s_aload_n rfl rfl).trans <| (s_iconst rfl).trans <| (s_pf1 rfl rfl).trans <| c_pf fun h3 => (s_iload_n rfl rfl).trans <| (s_ineg rfl).trans <| s_iret1 rfl rfl
theorem mc_X9_ends (X : mv_X) (d : Nat) (h : mv_H) (a0 : Nat) (v1 : Int32) (v2 : Int32) : mv_call X (d + 1) 155 [.ref a0, .int v1, .int v2] h = mv_run X (mv_call X d) m_X9_ends 0 [.ref a0, .int v1, .int v2] [] h := rfl
theorem bk_X9_ends_0 (X : mv_X) (call : mv_G) (h : mv_H) (a0 : Nat) (v1 : Int32) (v2 : Int32) : mv_run X call m_X9_ends 0 [.ref a0, .int v1, .int v2] [] h =
  if v1 = 0 then 
  (mv_gI X h a0 13 18 fun x1 =>
    mv_rcv X h [.ref a0, .int x1] 13 (mv_clI call 152 [.ref a0, .int x1] h mv_raise fun x2 h1 =>
    (some (.inl (some (.int x2)), h1))))
  else (if 0 ≤ v1 then 
    (mv_rcv X h [.ref a0, .int v1] 13 (mv_clI call 149 [.ref a0, .int v1] h mv_raise fun x3 h2 =>
      (some (.inl (some (.int x3)), h2))))
    else (mv_rcv X h [.ref a0, .int v2] 13 (mv_clI call 149 [.ref a0, .int v2] h mv_raise fun x4 h3 =>
      (some (.inl (some (.int x4)), h3))))) :=
  (s_iload_n rfl rfl).trans <| (s_if_ne rfl).trans <| c_ite ((s_aload_n rfl rfl).trans <| (s_aload_n rfl rfl).trans <| (s_gf1 rfl rfl).trans <| c_gI fun x1 => (s_v1 [.ref a0, .int x1] [] rfl rfl (fun _ => rfl)).trans <| c_rcv <| c_clI fun x2 h1 => (s_goto rfl).trans <| s_iret1 rfl rfl) ((s_aload_n rfl rfl).trans <| (s_iload_n rfl rfl).trans <| (s_if_ge rfl).trans <| c_ite ((s_iload_n rfl rfl).trans <| (s_v1 [.ref a0, .int v1] [] rfl rfl (fun _ => rfl)).trans <| c_rcv <| c_clI fun x3 h2 => s_iret1 rfl rfl) ((s_iload_n rfl rfl).trans <| (s_goto rfl).trans <| (s_v1 [.ref a0, .int v2] [] rfl rfl (fun _ => rfl)).trans <| c_rcv <| c_clI fun x4 h3 => s_iret1 rfl rfl))
theorem mc_X9_isBerth (X : mv_X) (d : Nat) (h : mv_H) (v0 : Int32) : mv_call X (d + 1) 156 [.int v0] h = mv_run X (mv_call X d) m_X9_isBerth 0 [.int v0] [] h := rfl
theorem bk_X9_isBerth_0 (X : mv_X) (call : mv_G) (h : mv_H) (v0 : Int32) : mv_run X call m_X9_isBerth 0 [.int v0] [] h =
  mv_clI call 150 [.int v0, .int (nZ 0), .int (nZ 9)] h mv_raise fun x1 h1 =>
  mv_chk (mv_ok 6 x1) (some (.inl (some (.int x1)), h1)) :=
  (s_iload_n rfl rfl).trans <| (s_iconst rfl).trans <| (s_bipush rfl).trans <| (s_s1 [.int v0, .int (nZ 0), .int (nZ 9)] [] rfl rfl (fun _ => rfl)).trans <| c_clI fun x1 h1 => s_iret rfl
theorem mc_X9_isHour (X : mv_X) (d : Nat) (h : mv_H) (v0 : Int32) : mv_call X (d + 1) 157 [.int v0] h = mv_run X (mv_call X d) m_X9_isHour 0 [.int v0] [] h := rfl
theorem bk_X9_isHour_0 (X : mv_X) (call : mv_G) (h : mv_H) (v0 : Int32) : mv_run X call m_X9_isHour 0 [.int v0] [] h =
  mv_clI call 150 [.int v0, .int (nZ 0), .int (nZ 23)] h mv_raise fun x1 h1 =>
  mv_chk (mv_ok 6 x1) (some (.inl (some (.int x1)), h1)) :=
  (s_iload_n rfl rfl).trans <| (s_iconst rfl).trans <| (s_bipush rfl).trans <| (s_s1 [.int v0, .int (nZ 0), .int (nZ 23)] [] rfl rfl (fun _ => rfl)).trans <| c_clI fun x1 h1 => s_iret rfl
theorem mc_X9_of (X : mv_X) (d : Nat) (h : mv_H) (a0 : Nat) (v1 : Int32) (v2 : Int32) : mv_call X (d + 1) 158 [.ref a0, .int v1, .int v2] h = mv_run X (mv_call X d) m_X9_of 0 [.ref a0, .int v1, .int v2] [] h := rfl
theorem bk_X9_of_0 (X : mv_X) (call : mv_G) (h : mv_H) (a0 : Nat) (v1 : Int32) (v2 : Int32) : mv_run X call m_X9_of 0 [.ref a0, .int v1, .int v2] [] h =
  mv_gR X h a0 13 1 fun r1 =>
  mv_aI X h 1 r1 (((nZ 6) + ((nZ 11) * v1)) + v2) fun x1 =>
  (some (.inl (some (.int x1)), h)) :=
  (s_aload_n rfl rfl).trans <| (s_gf2 rfl rfl).trans <| c_gR fun r1 => (s_bipush rfl).trans <| (s_bipush rfl).trans <| (s_iload_n rfl rfl).trans <| (s_imul rfl).trans <| (s_iadd rfl).trans <| (s_iload_n rfl rfl).trans <| (s_iadd rfl).trans <| (s_iaload rfl).trans <| c_aI fun x1 => s_iret1 rfl rfl
theorem mc_X9_sets (X : mv_X) (d : Nat) (h : mv_H) (a0 : Nat) (v1 : Int32) (v2 : Int32) (v3 : Int32) : mv_call X (d + 1) 159 [.ref a0, .int v1, .int v2, .int v3] h = mv_run X (mv_call X d) m_X9_sets 0 [.ref a0, .int v1, .int v2, .int v3] [] h := rfl
theorem bk_X9_sets_0 (X : mv_X) (call : mv_G) (h : mv_H) (a0 : Nat) (v1 : Int32) (v2 : Int32) (v3 : Int32) : mv_run X call m_X9_sets 0 [.ref a0, .int v1, .int v2, .int v3] [] h =
  mv_gR X h a0 13 1 fun r1 =>
  mv_as h 1 r1 (((nZ 6) + ((nZ 11) * v1)) + v2) (.int v3) fun h1 =>
  (some (.inl none, h1)) :=
  (s_aload_n rfl rfl).trans <| (s_gf2 rfl rfl).trans <| c_gR fun r1 => (s_bipush rfl).trans <| (s_bipush rfl).trans <| (s_iload_n rfl rfl).trans <| (s_imul rfl).trans <| (s_iadd rfl).trans <| (s_iload_n rfl rfl).trans <| (s_iadd rfl).trans <| (s_iload_n rfl rfl).trans <| (s_iastore rfl).trans <| c_as fun h1 => s_ret rfl rfl
theorem mc_X9_isHere (X : mv_X) (d : Nat) (h : mv_H) (a0 : Nat) (v1 : Int32) : mv_call X (d + 1) 160 [.ref a0, .int v1] h = mv_run X (mv_call X d) m_X9_isHere 0 [.ref a0, .int v1] [] h := rfl
theorem bk_X9_isHere_0 (X : mv_X) (call : mv_G) (h : mv_H) (a0 : Nat) (v1 : Int32) : mv_run X call m_X9_isHere 0 [.ref a0, .int v1] [] h =
  mv_clI call 156 [.int v1] h mv_raise fun x1 h1 =>
  if x1 = 0 then 
  ((some (.inl (some (.int (nZ 0))), h1)))
  else (mv_rcv X h1 [.ref a0, .int v1, .int (nZ 0)] 13 (mv_clI call 158 [.ref a0, .int v1, .int (nZ 0)] h1 mv_raise fun x2 h2 =>
    if x2 = (nZ 1) then 
    ((some (.inl (some (.int (nZ 1))), h2)))
    else ((some (.inl (some (.int (nZ 0))), h2))))) :=
  (s_iload_n rfl rfl).trans <| (s_s1 [.int v1] [] rfl rfl (fun _ => rfl)).trans <| c_clI fun x1 h1 => (s_if_eq rfl).trans <| c_ite ((s_iconst rfl).trans <| s_iretb rfl rfl) ((s_aload_n rfl rfl).trans <| (s_iload_n rfl rfl).trans <| (s_iconst rfl).trans <| (s_v1 [.ref a0, .int v1, .int (nZ 0)] [] rfl rfl (fun _ => rfl)).trans <| c_rcv <| c_clI fun x2 h2 => (s_iconst rfl).trans <| (s_icmp_ne rfl).trans <| c_ite ((s_iconst rfl).trans <| (s_goto rfl).trans <| s_iretb rfl rfl) ((s_iconst rfl).trans <| s_iretb rfl rfl))
theorem mc_X9_isPilot (X : mv_X) (d : Nat) (h : mv_H) (a0 : Nat) (v1 : Int32) : mv_call X (d + 1) 161 [.ref a0, .int v1] h = mv_run X (mv_call X d) m_X9_isPilot 0 [.ref a0, .int v1] [] h := rfl
theorem bk_X9_isPilot_0 (X : mv_X) (call : mv_G) (h : mv_H) (a0 : Nat) (v1 : Int32) : mv_run X call m_X9_isPilot 0 [.ref a0, .int v1] [] h =
  mv_gR X h a0 13 1 fun r1 =>
  mv_aI X h 1 r1 (nZ 5) fun x1 =>
  mv_clI call 150 [.int v1, .int (nZ 0), .int (x1 - (nZ 1))] h mv_raise fun x2 h1 =>
  mv_chk (mv_ok 6 x2) (some (.inl (some (.int x2)), h1)) :=
  (s_iload_n rfl rfl).trans <| (s_iconst rfl).trans <| (s_aload_n rfl rfl).trans <| (s_gf2 rfl rfl).trans <| c_gR fun r1 => (s_iconst rfl).trans <| (s_iaload rfl).trans <| c_aI fun x1 => (s_iconst rfl).trans <| (s_isub rfl).trans <| (s_s1 [.int v1, .int (nZ 0), .int (x1 - (nZ 1))] [] rfl rfl (fun _ => rfl)).trans <| c_clI fun x2 h1 => s_iret rfl
theorem mc_X9_pilot (X : mv_X) (d : Nat) (h : mv_H) (a0 : Nat) (v1 : Int32) (v2 : Int32) : mv_call X (d + 1) 162 [.ref a0, .int v1, .int v2] h = mv_run X (mv_call X d) m_X9_pilot 0 [.ref a0, .int v1, .int v2] [] h := rfl
theorem bk_X9_pilot_0 (X : mv_X) (call : mv_G) (h : mv_H) (a0 : Nat) (v1 : Int32) (v2 : Int32) : mv_run X call m_X9_pilot 0 [.ref a0, .int v1, .int v2] [] h =
  mv_gR X h a0 13 1 fun r1 =>
  mv_aI X h 1 r1 (((nZ 140) + ((nZ 3) * v1)) + v2) fun x1 =>
  (some (.inl (some (.int x1)), h)) :=
  (s_aload_n rfl rfl).trans <| (s_gf2 rfl rfl).trans <| c_gR fun r1 => (s_sipush rfl).trans <| (s_iconst rfl).trans <| (s_iload_n rfl rfl).trans <| (s_imul rfl).trans <| (s_iadd rfl).trans <| (s_iload_n rfl rfl).trans <| (s_iadd rfl).trans <| (s_iaload rfl).trans <| c_aI fun x1 => s_iret1 rfl rfl
theorem mc_X9_now (X : mv_X) (d : Nat) (h : mv_H) (a0 : Nat) : mv_call X (d + 1) 163 [.ref a0] h = mv_run X (mv_call X d) m_X9_now 0 [.ref a0] [] h := rfl
theorem bk_X9_now_0 (X : mv_X) (call : mv_G) (h : mv_H) (a0 : Nat) : mv_run X call m_X9_now 0 [.ref a0] [] h =
  mv_gR X h a0 13 1 fun r1 =>
  mv_aI X h 1 r1 (nZ 0) fun x1 =>
  if (nZ 24) = 0 then none else 
  (some (.inl (some (.int (x1 - x1 / (nZ 24) * (nZ 24)))), h)) :=
  (s_aload_n rfl rfl).trans <| (s_gf2 rfl rfl).trans <| c_gR fun r1 => (s_iconst rfl).trans <| (s_iaload rfl).trans <| c_aI fun x1 => (s_bipush rfl).trans <| (s_irem rfl).trans <| c_ite rfl <| s_iret1 rfl rfl
theorem mc_X9_ballastWithout (X : mv_X) (d : Nat) (h : mv_H) (a0 : Nat) (v1 : Int32) (v2 : Int32) : mv_call X (d + 1) 164 [.ref a0, .int v1, .int v2] h = mv_run X (mv_call X d) m_X9_ballastWithout 0 [.ref a0, .int v1, .int v2, .retAddr 0, .retAddr 0] [] h := rfl
theorem bk_X9_ballastWithout_0 (X : mv_X) (call : mv_G) (h : mv_H) (a0 : Nat) (v1 : Int32) (v2 : Int32) : mv_run X call m_X9_ballastWithout 0 [.ref a0, .int v1, .int v2, .retAddr 0, .retAddr 0] [] h =
  mv_run X call m_X9_ballastWithout 5 [.ref a0, .int v1, .int v2, .int (nZ 0), .int (nZ 0)] [] h :=
  (s_iconst rfl).trans <| (s_istore_n (ls2 := [.ref a0, .int v1, .int v2, .int (nZ 0), .retAddr 0]) rfl (fun _ => rfl)).trans <| (s_iconst rfl).trans <| (s_istore (ls2 := [.ref a0, .int v1, .int v2, .int (nZ 0), .int (nZ 0)]) rfl (fun _ => rfl)).trans <| rfl
theorem bk_X9_ballastWithout_5 (X : mv_X) (call : mv_G) (h : mv_H) (a0 : Nat) (v1 : Int32) (v2 : Int32) (v3 : Int32) (v4 : Int32) : mv_run X call m_X9_ballastWithout 5 [.ref a0, .int v1, .int v2, .int v3, .int v4] [] h =
  mv_rcv X h [.ref a0, .int v1, .int (nZ 4)] 13 (mv_clI call 158 [.ref a0, .int v1, .int (nZ 4)] h mv_raise fun x1 h1 =>
  if x1 ≤ v4 then 
  ((some (.inl (some (.int v3)), h1)))
  else (if ((v2 >>> (v4 &&& 31)) &&& (nZ 1)) = (nZ 1) then 
    (mv_run X call m_X9_ballastWithout 5 [.ref a0, .int v1, .int v2, .int (v3 + (nZ 0)), .int (v4 + nZ 1)] [] h1)
    else (mv_rcv X h1 [.ref a0, .int v1, .int ((nZ 5) + v4)] 13 (mv_clI call 158 [.ref a0, .int v1, .int ((nZ 5) + v4)] h1 mv_raise fun x2 h2 =>
      mv_run X call m_X9_ballastWithout 5 [.ref a0, .int v1, .int v2, .int (v3 + x2), .int (v4 + nZ 1)] [] h2)))) :=
  (s_iload rfl rfl).trans <| (s_aload_n rfl rfl).trans <| (s_iload_n rfl rfl).trans <| (s_iconst rfl).trans <| (s_v1 [.ref a0, .int v1, .int (nZ 4)] [.int v4] rfl rfl (fun _ => rfl)).trans <| c_rcv <| c_clI fun x1 h1 => (s_icmp_ge rfl).trans <| c_ite ((s_iload_n rfl rfl).trans <| s_iret1 rfl rfl) ((s_iload_n rfl rfl).trans <| (s_iload_n rfl rfl).trans <| (s_iload rfl rfl).trans <| (s_ishr rfl).trans <| (s_iconst rfl).trans <| (s_iand rfl).trans <| (s_iconst rfl).trans <| (s_icmp_ne rfl).trans <| c_ite ((s_iconst rfl).trans <| (s_goto rfl).trans <| (s_iadd rfl).trans <| (s_istore_n (ls2 := [.ref a0, .int v1, .int v2, .int (v3 + (nZ 0)), .int v4]) rfl (fun _ => rfl)).trans <| (s_iinc (ls2 := [.ref a0, .int v1, .int v2, .int (v3 + (nZ 0)), .int (v4 + nZ 1)]) rfl rfl (fun _ => rfl)).trans <| (s_goto rfl).trans <| rfl) ((s_aload_n rfl rfl).trans <| (s_iload_n rfl rfl).trans <| (s_iconst rfl).trans <| (s_iload rfl rfl).trans <| (s_iadd rfl).trans <| (s_v1 [.ref a0, .int v1, .int ((nZ 5) + v4)] [.int v3] rfl rfl (fun _ => rfl)).trans <| c_rcv <| c_clI fun x2 h2 => (s_iadd rfl).trans <| (s_istore_n (ls2 := [.ref a0, .int v1, .int v2, .int (v3 + x2), .int v4]) rfl (fun _ => rfl)).trans <| (s_iinc (ls2 := [.ref a0, .int v1, .int v2, .int (v3 + x2), .int (v4 + nZ 1)]) rfl rfl (fun _ => rfl)).trans <| (s_goto rfl).trans <| rfl))
theorem mc_X9_spare (X : mv_X) (d : Nat) (h : mv_H) (a0 : Nat) (v1 : Int32) (v2 : Int32) : mv_call X (d + 1) 165 [.ref a0, .int v1, .int v2] h = mv_run X (mv_call X d) m_X9_spare 0 [.ref a0, .int v1, .int v2, .retAddr 0] [] h := rfl
theorem bk_X9_spare_0 (X : mv_X) (call : mv_G) (h : mv_H) (a0 : Nat) (v1 : Int32) (v2 : Int32) : mv_run X call m_X9_spare 0 [.ref a0, .int v1, .int v2, .retAddr 0] [] h =
  mv_rcv X h [.ref a0, .int v1, .int (nZ 1)] 13 (mv_clI call 158 [.ref a0, .int v1, .int (nZ 1)] h mv_raise fun x1 h1 =>
  mv_rcv X h1 [.ref a0, .int v1, .int v2] 13 (mv_clI call 164 [.ref a0, .int v1, .int v2] h1 mv_raise fun x2 h2 =>
  if 0 ≤ (x1 - x2) then 
  ((some (.inl (some (.int (x1 - x2))), h2)))
  else ((some (.inl (some (.int (nZ 0))), h2))))) :=
  (s_aload_n rfl rfl).trans <| (s_iload_n rfl rfl).trans <| (s_iconst rfl).trans <| (s_v1 [.ref a0, .int v1, .int (nZ 1)] [] rfl rfl (fun _ => rfl)).trans <| c_rcv <| c_clI fun x1 h1 => (s_aload_n rfl rfl).trans <| (s_iload_n rfl rfl).trans <| (s_iload_n rfl rfl).trans <| (s_v1 [.ref a0, .int v1, .int v2] [.int x1] rfl rfl (fun _ => rfl)).trans <| c_rcv <| c_clI fun x2 h2 => (s_isub rfl).trans <| (s_istore_n (ls2 := [.ref a0, .int v1, .int v2, .int (x1 - x2)]) rfl (fun _ => rfl)).trans <| (s_iload_n rfl rfl).trans <| (s_if_ge rfl).trans <| c_ite ((s_iload_n rfl rfl).trans <| s_iret1 rfl rfl) ((s_iconst rfl).trans <| (s_goto rfl).trans <| s_iret1 rfl rfl)
theorem mc_X9_highOf (X : mv_X) (d : Nat) (h : mv_H) (a0 : Nat) (v1 : Int32) (v2 : Int32) : mv_call X (d + 1) 166 [.ref a0, .int v1, .int v2] h = mv_run X (mv_call X d) m_X9_highOf 0 [.ref a0, .int v1, .int v2] [] h := rfl
theorem bk_X9_highOf_0 (X : mv_X) (call : mv_G) (h : mv_H) (a0 : Nat) (v1 : Int32) (v2 : Int32) : mv_run X call m_X9_highOf 0 [.ref a0, .int v1, .int v2] [] h =
  mv_rcv X h [.ref a0, .int v1, .int v2] 13 (mv_clI call 165 [.ref a0, .int v1, .int v2] h mv_raise fun x1 h1 =>
  mv_rcv X h1 [.ref a0, .int v1, .int (nZ 2)] 13 (mv_clI call 158 [.ref a0, .int v1, .int (nZ 2)] h1 mv_raise fun x2 h2 =>
  if x2 ≤ x1 then 
  (mv_rcv X h2 [.ref a0, .int v1, .int (nZ 2)] 13 (mv_clI call 158 [.ref a0, .int v1, .int (nZ 2)] h2 mv_raise fun x3 h3 =>
    (some (.inl (some (.int x3)), h3))))
  else (mv_rcv X h2 [.ref a0, .int v1, .int v2] 13 (mv_clI call 165 [.ref a0, .int v1, .int v2] h2 mv_raise fun x4 h4 =>
    (some (.inl (some (.int x4)), h4)))))) :=
  (s_aload_n rfl rfl).trans <| (s_iload_n rfl rfl).trans <| (s_iload_n rfl rfl).trans <| (s_v1 [.ref a0, .int v1, .int v2] [] rfl rfl (fun _ => rfl)).trans <| c_rcv <| c_clI fun x1 h1 => (s_aload_n rfl rfl).trans <| (s_iload_n rfl rfl).trans <| (s_iconst rfl).trans <| (s_v1 [.ref a0, .int v1, .int (nZ 2)] [.int x1] rfl rfl (fun _ => rfl)).trans <| c_rcv <| c_clI fun x2 h2 => (s_icmp_ge rfl).trans <| c_ite ((s_aload_n rfl rfl).trans <| (s_iload_n rfl rfl).trans <| (s_iconst rfl).trans <| (s_v1 [.ref a0, .int v1, .int (nZ 2)] [] rfl rfl (fun _ => rfl)).trans <| c_rcv <| c_clI fun x3 h3 => s_iret1 rfl rfl) ((s_aload_n rfl rfl).trans <| (s_iload_n rfl rfl).trans <| (s_iload_n rfl rfl).trans <| (s_v1 [.ref a0, .int v1, .int v2] [] rfl rfl (fun _ => rfl)).trans <| c_rcv <| c_clI fun x4 h4 => (s_goto rfl).trans <| s_iret1 rfl rfl)
theorem mc_X9_high (X : mv_X) (d : Nat) (h : mv_H) (a0 : Nat) (v1 : Int32) : mv_call X (d + 1) 167 [.ref a0, .int v1] h = mv_run X (mv_call X d) m_X9_high 0 [.ref a0, .int v1] [] h := rfl
theorem bk_X9_high_0 (X : mv_X) (call : mv_G) (h : mv_H) (a0 : Nat) (v1 : Int32) : mv_run X call m_X9_high 0 [.ref a0, .int v1] [] h =
  mv_rcv X h [.ref a0, .int v1, .int (nZ 0)] 13 (mv_clI call 166 [.ref a0, .int v1, .int (nZ 0)] h mv_raise fun x1 h1 =>
  (some (.inl (some (.int x1)), h1))) :=
  (s_aload_n rfl rfl).trans <| (s_iload_n rfl rfl).trans <| (s_iconst rfl).trans <| (s_v1 [.ref a0, .int v1, .int (nZ 0)] [] rfl rfl (fun _ => rfl)).trans <| c_rcv <| c_clI fun x1 h1 => s_iret1 rfl rfl
theorem mc_X9_isTooHigh (X : mv_X) (d : Nat) (h : mv_H) (a0 : Nat) (v1 : Int32) : mv_call X (d + 1) 168 [.ref a0, .int v1] h = mv_run X (mv_call X d) m_X9_isTooHigh 0 [.ref a0, .int v1] [] h := rfl
theorem bk_X9_isTooHigh_0 (X : mv_X) (call : mv_G) (h : mv_H) (a0 : Nat) (v1 : Int32) : mv_run X call m_X9_isTooHigh 0 [.ref a0, .int v1] [] h =
  mv_rcv X h [.ref a0, .int v1] 13 (mv_clI call 167 [.ref a0, .int v1] h mv_raise fun x1 h1 =>
  mv_rcv X h1 [.ref a0, .int v1, .int (nZ 3)] 13 (mv_clI call 158 [.ref a0, .int v1, .int (nZ 3)] h1 mv_raise fun x2 h2 =>
  if x1 ≤ x2 then 
  ((some (.inl (some (.int (nZ 0))), h2)))
  else ((some (.inl (some (.int (nZ 1))), h2))))) :=
  (s_aload_n rfl rfl).trans <| (s_iload_n rfl rfl).trans <| (s_v1 [.ref a0, .int v1] [] rfl rfl (fun _ => rfl)).trans <| c_rcv <| c_clI fun x1 h1 => (s_aload_n rfl rfl).trans <| (s_iload_n rfl rfl).trans <| (s_iconst rfl).trans <| (s_v1 [.ref a0, .int v1, .int (nZ 3)] [.int x1] rfl rfl (fun _ => rfl)).trans <| c_rcv <| c_clI fun x2 h2 => (s_icmp_le rfl).trans <| c_ite ((s_iconst rfl).trans <| s_iretb rfl rfl) ((s_iconst rfl).trans <| (s_goto rfl).trans <| s_iretb rfl rfl)
theorem mc_X9_topOf (X : mv_X) (d : Nat) (h : mv_H) (a0 : Nat) (v1 : Int32) : mv_call X (d + 1) 169 [.ref a0, .int v1] h = mv_run X (mv_call X d) m_X9_topOf 0 [.ref a0, .int v1] [] h := rfl
theorem bk_X9_topOf_0 (X : mv_X) (call : mv_G) (h : mv_H) (a0 : Nat) (v1 : Int32) : mv_run X call m_X9_topOf 0 [.ref a0, .int v1] [] h =
  mv_rcv X h [.ref a0, .int v1] 13 (mv_clI call 167 [.ref a0, .int v1] h mv_raise fun x1 h1 =>
  mv_gR X h1 a0 13 1 fun r1 =>
  mv_rcv X h1 [.ref a0] 13 (mv_clI call 163 [.ref a0] h1 mv_raise fun x2 h2 =>
  mv_aI X h2 1 r1 ((nZ 116) + x2) fun x3 =>
  (some (.inl (some (.int (((nZ 10) * v1) + (x1 * x3)))), h2)))) :=
  (s_bipush rfl).trans <| (s_iload_n rfl rfl).trans <| (s_imul rfl).trans <| (s_aload_n rfl rfl).trans <| (s_iload_n rfl rfl).trans <| (s_v1 [.ref a0, .int v1] [.int ((nZ 10) * v1)] rfl rfl (fun _ => rfl)).trans <| c_rcv <| c_clI fun x1 h1 => (s_aload_n rfl rfl).trans <| (s_gf2 rfl rfl).trans <| c_gR fun r1 => (s_bipush rfl).trans <| (s_aload_n rfl rfl).trans <| (s_v1 [.ref a0] [.int (nZ 116), .ref r1, .int x1, .int ((nZ 10) * v1)] rfl rfl (fun _ => rfl)).trans <| c_rcv <| c_clI fun x2 h2 => (s_iadd rfl).trans <| (s_iaload rfl).trans <| c_aI fun x3 => (s_imul rfl).trans <| (s_iadd rfl).trans <| s_iret1 rfl rfl
theorem mc_X9_bits (X : mv_X) (d : Nat) (h : mv_H) (v0 : Int32) : mv_call X (d + 1) 170 [.int v0] h = mv_run X (mv_call X d) m_X9_bits 0 [.int v0, .retAddr 0, .retAddr 0] [] h := rfl
theorem bk_X9_bits_0 (X : mv_X) (call : mv_G) (h : mv_H) (v0 : Int32) : mv_run X call m_X9_bits 0 [.int v0, .retAddr 0, .retAddr 0] [] h =
  mv_run X call m_X9_bits 4 [.int v0, .int (nZ 0), .int (nZ 0)] [] h :=
  (s_iconst rfl).trans <| (s_istore_n (ls2 := [.int v0, .int (nZ 0), .retAddr 0]) rfl (fun _ => rfl)).trans <| (s_iconst rfl).trans <| (s_istore_n (ls2 := [.int v0, .int (nZ 0), .int (nZ 0)]) rfl (fun _ => rfl)).trans <| rfl
theorem bk_X9_bits_4 (X : mv_X) (call : mv_G) (h : mv_H) (v0 : Int32) (v1 : Int32) (v2 : Int32) : mv_run X call m_X9_bits 4 [.int v0, .int v1, .int v2] [] h =
  if (nZ 6) ≤ v2 then 
  ((some (.inl (some (.int v1)), h)))
  else (mv_run X call m_X9_bits 4 [.int v0, .int (v1 + ((v0 >>> (v2 &&& 31)) &&& (nZ 1))), .int (v2 + nZ 1)] [] h) :=
  (s_iload_n rfl rfl).trans <| (s_bipush rfl).trans <| (s_icmp_ge rfl).trans <| c_ite ((s_iload_n rfl rfl).trans <| s_iret1 rfl rfl) ((s_iload_n rfl rfl).trans <| (s_iload_n rfl rfl).trans <| (s_iload_n rfl rfl).trans <| (s_ishr rfl).trans <| (s_iconst rfl).trans <| (s_iand rfl).trans <| (s_iadd rfl).trans <| (s_istore_n (ls2 := [.int v0, .int (v1 + ((v0 >>> (v2 &&& 31)) &&& (nZ 1))), .int v2]) rfl (fun _ => rfl)).trans <| (s_iinc (ls2 := [.int v0, .int (v1 + ((v0 >>> (v2 &&& 31)) &&& (nZ 1))), .int (v2 + nZ 1)]) rfl rfl (fun _ => rfl)).trans <| (s_goto rfl).trans <| rfl)
theorem mc_X9_isBetter (X : mv_X) (d : Nat) (h : mv_H) (a0 : Nat) (v1 : Int32) (v2 : Int32) (v3 : Int32) : mv_call X (d + 1) 171 [.ref a0, .int v1, .int v2, .int v3] h = mv_run X (mv_call X d) m_X9_isBetter 0 [.ref a0, .int v1, .int v2, .int v3, .retAddr 0, .retAddr 0] [] h := rfl
theorem bk_X9_isBetter_0 (X : mv_X) (call : mv_G) (h : mv_H) (a0 : Nat) (v1 : Int32) (v2 : Int32) (v3 : Int32) : mv_run X call m_X9_isBetter 0 [.ref a0, .int v1, .int v2, .int v3, .retAddr 0, .retAddr 0] [] h =
  mv_clI call 170 [.int v2] h mv_raise fun x1 h1 =>
  mv_clI call 170 [.int v3] h1 mv_raise fun x2 h2 =>
  if x1 = x2 then 
  (mv_rcv X h2 [.ref a0, .int v1, .int v2] 13 (mv_clI call 164 [.ref a0, .int v1, .int v2] h2 mv_raise fun x3 h3 =>
    mv_rcv X h3 [.ref a0, .int v1, .int v3] 13 (mv_clI call 164 [.ref a0, .int v1, .int v3] h3 mv_raise fun x4 h4 =>
    if (x3 - x4) = 0 then 
    (mv_run X call m_X9_isBetter 62 [.ref a0, .int v1, .int v2, .int v3, .int (x3 - x4), .int (nZ 1)] [] h4)
    else (if (x3 - x4) ≤ 0 then 
      ((some (.inl (some (.int (nZ 0))), h4)))
      else ((some (.inl (some (.int (nZ 1))), h4)))))))
  else (mv_clI call 170 [.int v2] h2 mv_raise fun x5 h5 =>
    mv_clI call 170 [.int v3] h5 mv_raise fun x6 h6 =>
    if x6 ≤ x5 then 
    ((some (.inl (some (.int (nZ 0))), h6)))
    else ((some (.inl (some (.int (nZ 1))), h6)))) :=
  (s_iload_n rfl rfl).trans <| (s_s1 [.int v2] [] rfl rfl (fun _ => rfl)).trans <| c_clI fun x1 h1 => (s_iload_n rfl rfl).trans <| (s_s1 [.int v3] [.int x1] rfl rfl (fun _ => rfl)).trans <| c_clI fun x2 h2 => (s_icmp_eq rfl).trans <| c_ite ((s_aload_n rfl rfl).trans <| (s_iload_n rfl rfl).trans <| (s_iload_n rfl rfl).trans <| (s_v1 [.ref a0, .int v1, .int v2] [] rfl rfl (fun _ => rfl)).trans <| c_rcv <| c_clI fun x3 h3 => (s_aload_n rfl rfl).trans <| (s_iload_n rfl rfl).trans <| (s_iload_n rfl rfl).trans <| (s_v1 [.ref a0, .int v1, .int v3] [.int x3] rfl rfl (fun _ => rfl)).trans <| c_rcv <| c_clI fun x4 h4 => (s_isub rfl).trans <| (s_istore (ls2 := [.ref a0, .int v1, .int v2, .int v3, .int (x3 - x4), .retAddr 0]) rfl (fun _ => rfl)).trans <| (s_iload rfl rfl).trans <| (s_if_eq rfl).trans <| c_ite ((s_iconst rfl).trans <| (s_istore (ls2 := [.ref a0, .int v1, .int v2, .int v3, .int (x3 - x4), .int (nZ 1)]) rfl (fun _ => rfl)).trans <| rfl) ((s_iload rfl rfl).trans <| (s_if_le rfl).trans <| c_ite ((s_iconst rfl).trans <| s_iretb rfl rfl) ((s_iconst rfl).trans <| (s_goto rfl).trans <| s_iretb rfl rfl))) ((s_iload_n rfl rfl).trans <| (s_s1 [.int v2] [] rfl rfl (fun _ => rfl)).trans <| c_clI fun x5 h5 => (s_iload_n rfl rfl).trans <| (s_s1 [.int v3] [.int x5] rfl rfl (fun _ => rfl)).trans <| c_clI fun x6 h6 => (s_icmp_ge rfl).trans <| c_ite ((s_iconst rfl).trans <| s_iretb rfl rfl) ((s_iconst rfl).trans <| (s_goto rfl).trans <| s_iretb rfl rfl))
theorem bk_X9_isBetter_62 (X : mv_X) (call : mv_G) (h : mv_H) (a0 : Nat) (v1 : Int32) (v2 : Int32) (v3 : Int32) (v4 : Int32) (v5 : Int32) : mv_run X call m_X9_isBetter 62 [.ref a0, .int v1, .int v2, .int v3, .int v4, .int v5] [] h =
  if ((v2 ^^^ v3) &&& v5) = 0 then 
  (mv_run X call m_X9_isBetter 62 [.ref a0, .int v1, .int v2, .int v3, .int v4, .int (v5 * (nZ 2))] [] h)
  else (if (v2 &&& v5) = 0 then 
    ((some (.inl (some (.int (nZ 0))), h)))
    else ((some (.inl (some (.int (nZ 1))), h)))) :=
  (s_iload_n rfl rfl).trans <| (s_iload_n rfl rfl).trans <| (s_ixor rfl).trans <| (s_iload rfl rfl).trans <| (s_iand rfl).trans <| (s_if_ne rfl).trans <| c_ite ((s_iload rfl rfl).trans <| (s_iconst rfl).trans <| (s_imul rfl).trans <| (s_istore (ls2 := [.ref a0, .int v1, .int v2, .int v3, .int v4, .int (v5 * (nZ 2))]) rfl (fun _ => rfl)).trans <| (s_goto rfl).trans <| rfl) ((s_iload_n rfl rfl).trans <| (s_iload rfl rfl).trans <| (s_iand rfl).trans <| (s_if_eq rfl).trans <| c_ite ((s_iconst rfl).trans <| s_iretb rfl rfl) ((s_iconst rfl).trans <| (s_goto rfl).trans <| s_iretb rfl rfl))
theorem mc_X9_best (X : mv_X) (d : Nat) (h : mv_H) (a0 : Nat) (v1 : Int32) (v2 : Int32) : mv_call X (d + 1) 172 [.ref a0, .int v1, .int v2] h = mv_run X (mv_call X d) m_X9_best 0 [.ref a0, .int v1, .int v2, .retAddr 0, .retAddr 0] [] h := rfl
theorem bk_X9_best_0 (X : mv_X) (call : mv_G) (h : mv_H) (a0 : Nat) (v1 : Int32) (v2 : Int32) : mv_run X call m_X9_best 0 [.ref a0, .int v1, .int v2, .retAddr 0, .retAddr 0] [] h =
  mv_run X call m_X9_best 5 [.ref a0, .int v1, .int v2, .int (nZ (-1)), .int (nZ 0)] [] h :=
  (s_iconst rfl).trans <| (s_istore_n (ls2 := [.ref a0, .int v1, .int v2, .int (nZ (-1)), .retAddr 0]) rfl (fun _ => rfl)).trans <| (s_iconst rfl).trans <| (s_istore (ls2 := [.ref a0, .int v1, .int v2, .int (nZ (-1)), .int (nZ 0)]) rfl (fun _ => rfl)).trans <| rfl
theorem bk_X9_best_5 (X : mv_X) (call : mv_G) (h : mv_H) (a0 : Nat) (v1 : Int32) (v2 : Int32) (v3 : Int32) (v4 : Int32) : mv_run X call m_X9_best 5 [.ref a0, .int v1, .int v2, .int v3, .int v4] [] h =
  mv_rcv X h [.ref a0, .int v1, .int (nZ 4)] 13 (mv_clI call 158 [.ref a0, .int v1, .int (nZ 4)] h mv_raise fun x1 h1 =>
  if ((nZ 1) <<< (x1 &&& 31)) ≤ v4 then 
  ((some (.inl (some (.int v3)), h1)))
  else (mv_rcv X h1 [.ref a0, .int v1, .int v4] 13 (mv_clI call 166 [.ref a0, .int v1, .int v4] h1 mv_raise fun x2 h2 =>
    if x2 < v2 then 
    (mv_run X call m_X9_best 5 [.ref a0, .int v1, .int v2, .int v3, .int (v4 + nZ 1)] [] h2)
    else (if v3 = (nZ (-1)) then 
      (mv_run X call m_X9_best 5 [.ref a0, .int v1, .int v2, .int v4, .int (v4 + nZ 1)] [] h2)
      else (mv_rcv X h2 [.ref a0, .int v1, .int v4, .int v3] 13 (mv_clI call 171 [.ref a0, .int v1, .int v4, .int v3] h2 mv_raise fun x3 h3 =>
        if x3 = 0 then 
        (mv_run X call m_X9_best 5 [.ref a0, .int v1, .int v2, .int v3, .int (v4 + nZ 1)] [] h3)
        else (mv_run X call m_X9_best 5 [.ref a0, .int v1, .int v2, .int v4, .int (v4 + nZ 1)] [] h3))))))) :=
  (s_iload rfl rfl).trans <| (s_iconst rfl).trans <| (s_aload_n rfl rfl).trans <| (s_iload_n rfl rfl).trans <| (s_iconst rfl).trans <| (s_v1 [.ref a0, .int v1, .int (nZ 4)] [.int (nZ 1), .int v4] rfl rfl (fun _ => rfl)).trans <| c_rcv <| c_clI fun x1 h1 => (s_ishl rfl).trans <| (s_icmp_ge rfl).trans <| c_ite ((s_iload_n rfl rfl).trans <| s_iret1 rfl rfl) ((s_aload_n rfl rfl).trans <| (s_iload_n rfl rfl).trans <| (s_iload rfl rfl).trans <| (s_v1 [.ref a0, .int v1, .int v4] [] rfl rfl (fun _ => rfl)).trans <| c_rcv <| c_clI fun x2 h2 => (s_iload_n rfl rfl).trans <| (s_icmp_lt rfl).trans <| c_ite ((s_iinc (ls2 := [.ref a0, .int v1, .int v2, .int v3, .int (v4 + nZ 1)]) rfl rfl (fun _ => rfl)).trans <| (s_goto rfl).trans <| rfl) ((s_iload_n rfl rfl).trans <| (s_iconst rfl).trans <| (s_icmp_eq rfl).trans <| c_ite ((s_iload rfl rfl).trans <| (s_istore_n (ls2 := [.ref a0, .int v1, .int v2, .int v4, .int v4]) rfl (fun _ => rfl)).trans <| (s_iinc (ls2 := [.ref a0, .int v1, .int v2, .int v4, .int (v4 + nZ 1)]) rfl rfl (fun _ => rfl)).trans <| (s_goto rfl).trans <| rfl) ((s_aload_n rfl rfl).trans <| (s_iload_n rfl rfl).trans <| (s_iload rfl rfl).trans <| (s_iload_n rfl rfl).trans <| (s_v1 [.ref a0, .int v1, .int v4, .int v3] [] rfl rfl (fun _ => rfl)).trans <| c_rcv <| c_clI fun x3 h3 => (s_if_eq rfl).trans <| c_ite ((s_iinc (ls2 := [.ref a0, .int v1, .int v2, .int v3, .int (v4 + nZ 1)]) rfl rfl (fun _ => rfl)).trans <| (s_goto rfl).trans <| rfl) ((s_iload rfl rfl).trans <| (s_istore_n (ls2 := [.ref a0, .int v1, .int v2, .int v4, .int v4]) rfl (fun _ => rfl)).trans <| (s_iinc (ls2 := [.ref a0, .int v1, .int v2, .int v4, .int (v4 + nZ 1)]) rfl rfl (fun _ => rfl)).trans <| (s_goto rfl).trans <| rfl))))
theorem mc_X9_takesBag (X : mv_X) (d : Nat) (h : mv_H) (a0 : Nat) (v1 : Int32) (v2 : Int32) : mv_call X (d + 1) 173 [.ref a0, .int v1, .int v2] h = mv_run X (mv_call X d) m_X9_takesBag 0 [.ref a0, .int v1, .int v2, .retAddr 0, .retAddr 0] [] h := rfl
theorem bk_X9_takesBag_0 (X : mv_X) (call : mv_G) (h : mv_H) (a0 : Nat) (v1 : Int32) (v2 : Int32) : mv_run X call m_X9_takesBag 0 [.ref a0, .int v1, .int v2, .retAddr 0, .retAddr 0] [] h =
  mv_rcv X h [.ref a0, .int v1, .int (nZ 4)] 13 (mv_clI call 158 [.ref a0, .int v1, .int (nZ 4)] h mv_raise fun x1 h1 =>
  mv_run X call m_X9_takesBag 12 [.ref a0, .int v1, .int v2, .int (x1 - (nZ 1)), .int v2] [] h1) :=
  (s_aload_n rfl rfl).trans <| (s_iload_n rfl rfl).trans <| (s_iconst rfl).trans <| (s_v1 [.ref a0, .int v1, .int (nZ 4)] [] rfl rfl (fun _ => rfl)).trans <| c_rcv <| c_clI fun x1 h1 => (s_iconst rfl).trans <| (s_isub rfl).trans <| (s_istore_n (ls2 := [.ref a0, .int v1, .int v2, .int (x1 - (nZ 1)), .retAddr 0]) rfl (fun _ => rfl)).trans <| (s_iload_n rfl rfl).trans <| (s_istore (ls2 := [.ref a0, .int v1, .int v2, .int (x1 - (nZ 1)), .int v2]) rfl (fun _ => rfl)).trans <| rfl
theorem bk_X9_takesBag_12 (X : mv_X) (call : mv_G) (h : mv_H) (a0 : Nat) (v1 : Int32) (v2 : Int32) (v3 : Int32) (v4 : Int32) : mv_run X call m_X9_takesBag 12 [.ref a0, .int v1, .int v2, .int v3, .int v4] [] h =
  if v3 ≤ v4 then 
  (mv_rcv X h [.ref a0, .int v1, .int ((nZ 5) + v3), .int (nZ 0)] 13 (mv_clV call 159 [.ref a0, .int v1, .int ((nZ 5) + v3), .int (nZ 0)] h mv_raise fun h1 =>
    mv_rcv X h1 [.ref a0, .int v1, .int (nZ 4), .int v3] 13 (mv_clV call 159 [.ref a0, .int v1, .int (nZ 4), .int v3] h1 mv_raise fun h2 =>
    (some (.inl none, h2)))))
  else (mv_rcv X h [.ref a0, .int v1, .int (((nZ 5) + v4) + (nZ 1))] 13 (mv_clI call 158 [.ref a0, .int v1, .int (((nZ 5) + v4) + (nZ 1))] h mv_raise fun x1 h3 =>
    mv_rcv X h3 [.ref a0, .int v1, .int ((nZ 5) + v4), .int x1] 13 (mv_clV call 159 [.ref a0, .int v1, .int ((nZ 5) + v4), .int x1] h3 mv_raise fun h4 =>
    mv_run X call m_X9_takesBag 12 [.ref a0, .int v1, .int v2, .int v3, .int (v4 + nZ 1)] [] h4))) :=
  (s_iload rfl rfl).trans <| (s_iload_n rfl rfl).trans <| (s_icmp_ge rfl).trans <| c_ite ((s_aload_n rfl rfl).trans <| (s_iload_n rfl rfl).trans <| (s_iconst rfl).trans <| (s_iload_n rfl rfl).trans <| (s_iadd rfl).trans <| (s_iconst rfl).trans <| (s_v0 [.ref a0, .int v1, .int ((nZ 5) + v3), .int (nZ 0)] [] rfl rfl (fun _ => rfl)).trans <| c_rcv <| c_clV fun h1 => (s_aload_n rfl rfl).trans <| (s_iload_n rfl rfl).trans <| (s_iconst rfl).trans <| (s_iload_n rfl rfl).trans <| (s_v0 [.ref a0, .int v1, .int (nZ 4), .int v3] [] rfl rfl (fun _ => rfl)).trans <| c_rcv <| c_clV fun h2 => s_ret rfl rfl) ((s_aload_n rfl rfl).trans <| (s_iload_n rfl rfl).trans <| (s_iconst rfl).trans <| (s_iload rfl rfl).trans <| (s_iadd rfl).trans <| (s_aload_n rfl rfl).trans <| (s_iload_n rfl rfl).trans <| (s_iconst rfl).trans <| (s_iload rfl rfl).trans <| (s_iadd rfl).trans <| (s_iconst rfl).trans <| (s_iadd rfl).trans <| (s_v1 [.ref a0, .int v1, .int (((nZ 5) + v4) + (nZ 1))] [.int ((nZ 5) + v4), .int v1, .ref a0] rfl rfl (fun _ => rfl)).trans <| c_rcv <| c_clI fun x1 h3 => (s_v0 [.ref a0, .int v1, .int ((nZ 5) + v4), .int x1] [] rfl rfl (fun _ => rfl)).trans <| c_rcv <| c_clV fun h4 => (s_iinc (ls2 := [.ref a0, .int v1, .int v2, .int v3, .int (v4 + nZ 1)]) rfl rfl (fun _ => rfl)).trans <| (s_goto rfl).trans <| rfl)
theorem mc_X9_clears (X : mv_X) (d : Nat) (h : mv_H) (a0 : Nat) (v1 : Int32) : mv_call X (d + 1) 174 [.ref a0, .int v1] h = mv_run X (mv_call X d) m_X9_clears 0 [.ref a0, .int v1, .retAddr 0] [] h := rfl
theorem bk_X9_clears_0 (X : mv_X) (call : mv_G) (h : mv_H) (a0 : Nat) (v1 : Int32) : mv_run X call m_X9_clears 0 [.ref a0, .int v1, .retAddr 0] [] h =
  mv_run X call m_X9_clears 2 [.ref a0, .int v1, .int (nZ 0)] [] h :=
  (s_iconst rfl).trans <| (s_istore_n (ls2 := [.ref a0, .int v1, .int (nZ 0)]) rfl (fun _ => rfl)).trans <| rfl
theorem bk_X9_clears_2 (X : mv_X) (call : mv_G) (h : mv_H) (a0 : Nat) (v1 : Int32) (v2 : Int32) : mv_run X call m_X9_clears 2 [.ref a0, .int v1, .int v2] [] h =
  if (nZ 11) ≤ v2 then 
  ((some (.inl none, h)))
  else (mv_rcv X h [.ref a0, .int v1, .int v2, .int (nZ 0)] 13 (mv_clV call 159 [.ref a0, .int v1, .int v2, .int (nZ 0)] h mv_raise fun h1 =>
    mv_run X call m_X9_clears 2 [.ref a0, .int v1, .int (v2 + nZ 1)] [] h1)) :=
  (s_iload_n rfl rfl).trans <| (s_bipush rfl).trans <| (s_icmp_ge rfl).trans <| c_ite (s_ret rfl rfl) ((s_aload_n rfl rfl).trans <| (s_iload_n rfl rfl).trans <| (s_iload_n rfl rfl).trans <| (s_iconst rfl).trans <| (s_v0 [.ref a0, .int v1, .int v2, .int (nZ 0)] [] rfl rfl (fun _ => rfl)).trans <| c_rcv <| c_clV fun h1 => (s_iinc (ls2 := [.ref a0, .int v1, .int (v2 + nZ 1)]) rfl rfl (fun _ => rfl)).trans <| (s_goto rfl).trans <| rfl)
theorem mc_X9_waits (X : mv_X) (d : Nat) (h : mv_H) (a0 : Nat) (v1 : Int32) : mv_call X (d + 1) 175 [.ref a0, .int v1] h = mv_run X (mv_call X d) m_X9_waits 0 [.ref a0, .int v1] [] h := rfl
theorem bk_X9_waits_0 (X : mv_X) (call : mv_G) (h : mv_H) (a0 : Nat) (v1 : Int32) : mv_run X call m_X9_waits 0 [.ref a0, .int v1] [] h =
  mv_gR X h a0 13 11 fun r1 =>
  mv_gI X h a0 13 22 fun x1 =>
  mv_as h 1 r1 x1 (.int v1) fun h1 =>
  mv_gR X h1 a0 13 12 fun r2 =>
  mv_as h1 1 r2 v1 (.int (nZ 1)) fun h2 =>
  mv_gI X h2 a0 13 22 fun x2 =>
  mv_pf h2 a0 13 22 (.int (x2 + (nZ 1))) fun h3 =>
  (some (.inl none, h3)) :=
  (s_aload_n rfl rfl).trans <| (s_gf2 rfl rfl).trans <| c_gR fun r1 => (s_aload_n rfl rfl).trans <| (s_gf1 rfl rfl).trans <| c_gI fun x1 => (s_iload_n rfl rfl).trans <| (s_iastore rfl).trans <| c_as fun h1 => (s_aload_n rfl rfl).trans <| (s_gf2 rfl rfl).trans <| c_gR fun r2 => (s_iload_n rfl rfl).trans <| (s_iconst rfl).trans <| (s_iastore rfl).trans <| c_as fun h2 => (s_aload_n rfl rfl).trans <| (s_dupR rfl).trans <| (s_gf1 rfl rfl).trans <| c_gI fun x2 => (s_iconst rfl).trans <| (s_iadd rfl).trans <| (s_pf1 rfl rfl).trans <| c_pf fun h3 => s_ret rfl rfl
theorem mc_X9_shakes (X : mv_X) (d : Nat) (h : mv_H) (a0 : Nat) (v1 : Int32) : mv_call X (d + 1) 176 [.ref a0, .int v1] h = mv_run X (mv_call X d) m_X9_shakes 0 [.ref a0, .int v1] [] h := rfl
theorem bk_X9_shakes_0 (X : mv_X) (call : mv_G) (h : mv_H) (a0 : Nat) (v1 : Int32) : mv_run X call m_X9_shakes 0 [.ref a0, .int v1] [] h =
  mv_rcv X h [.ref a0, .int v1] 13 (mv_clI call 160 [.ref a0, .int v1] h mv_raise fun x1 h1 =>
  if x1 = 0 then 
  ((some (.inl none, h1)))
  else (mv_rcv X h1 [.ref a0, .int v1, .int (nZ 4)] 13 (mv_clI call 158 [.ref a0, .int v1, .int (nZ 4)] h1 mv_raise fun x2 h2 =>
    if x2 ≤ 0 then 
    (mv_rcv X h2 [.ref a0, .int v1] 13 (mv_clI call 168 [.ref a0, .int v1] h2 mv_raise fun x3 h3 =>
      if x3 = 0 then 
      ((some (.inl none, h3)))
      else (mv_gR X h3 a0 13 12 fun r1 =>
        mv_aI X h3 1 r1 v1 fun x4 =>
        if x4 = 0 then 
        (mv_rcv X h3 [.ref a0, .int v1] 13 (mv_clV call 175 [.ref a0, .int v1] h3 mv_raise fun h4 =>
          (some (.inl none, h4))))
        else ((some (.inl none, h3))))))
    else (mv_gR X h2 a0 13 1 fun r2 =>
      mv_aI X h2 1 r2 (nZ 4) fun x5 =>
      mv_rcv X h2 [.ref a0, .int v1, .int (nZ 4)] 13 (mv_clI call 158 [.ref a0, .int v1, .int (nZ 4)] h2 mv_raise fun x6 h5 =>
      mv_rcv X h5 [.ref a0, .int v1, .int (((nZ 5) + x6) - (nZ 1))] 13 (mv_clI call 158 [.ref a0, .int v1, .int (((nZ 5) + x6) - (nZ 1))] h5 mv_raise fun x7 h6 =>
      mv_as h6 1 r2 (nZ 4) (.int (x5 + x7)) fun h7 =>
      mv_rcv X h7 [.ref a0, .int v1, .int (nZ 4)] 13 (mv_clI call 158 [.ref a0, .int v1, .int (nZ 4)] h7 mv_raise fun x8 h8 =>
      mv_rcv X h8 [.ref a0, .int v1, .int (x8 - (nZ 1))] 13 (mv_clV call 173 [.ref a0, .int v1, .int (x8 - (nZ 1))] h8 mv_raise fun h9 =>
      mv_rcv X h9 [.ref a0, .int v1] 13 (mv_clI call 168 [.ref a0, .int v1] h9 mv_raise fun x9 h10 =>
      if x9 = 0 then 
      ((some (.inl none, h10)))
      else (mv_gR X h10 a0 13 12 fun r3 =>
        mv_aI X h10 1 r3 v1 fun x10 =>
        if x10 = 0 then 
        (mv_rcv X h10 [.ref a0, .int v1] 13 (mv_clV call 175 [.ref a0, .int v1] h10 mv_raise fun h11 =>
          (some (.inl none, h11))))
        else ((some (.inl none, h10))))))))))))) :=
  (s_aload_n rfl rfl).trans <| (s_iload_n rfl rfl).trans <| (s_v1 [.ref a0, .int v1] [] rfl rfl (fun _ => rfl)).trans <| c_rcv <| c_clI fun x1 h1 => (s_if_ne rfl).trans <| c_ite (s_ret rfl rfl) ((s_aload_n rfl rfl).trans <| (s_iload_n rfl rfl).trans <| (s_iconst rfl).trans <| (s_v1 [.ref a0, .int v1, .int (nZ 4)] [] rfl rfl (fun _ => rfl)).trans <| c_rcv <| c_clI fun x2 h2 => (s_if_le rfl).trans <| c_ite ((s_aload_n rfl rfl).trans <| (s_iload_n rfl rfl).trans <| (s_v1 [.ref a0, .int v1] [] rfl rfl (fun _ => rfl)).trans <| c_rcv <| c_clI fun x3 h3 => (s_if_eq rfl).trans <| c_ite (s_ret rfl rfl) ((s_aload_n rfl rfl).trans <| (s_gf2 rfl rfl).trans <| c_gR fun r1 => (s_iload_n rfl rfl).trans <| (s_iaload rfl).trans <| c_aI fun x4 => (s_if_ne rfl).trans <| c_ite ((s_aload_n rfl rfl).trans <| (s_iload_n rfl rfl).trans <| (s_v0 [.ref a0, .int v1] [] rfl rfl (fun _ => rfl)).trans <| c_rcv <| c_clV fun h4 => s_ret rfl rfl) (s_ret rfl rfl))) ((s_aload_n rfl rfl).trans <| (s_gf2 rfl rfl).trans <| c_gR fun r2 => (s_iconst rfl).trans <| (s_dup2 rfl).trans <| (s_iaload rfl).trans <| c_aI fun x5 => (s_aload_n rfl rfl).trans <| (s_iload_n rfl rfl).trans <| (s_iconst rfl).trans <| (s_aload_n rfl rfl).trans <| (s_iload_n rfl rfl).trans <| (s_iconst rfl).trans <| (s_v1 [.ref a0, .int v1, .int (nZ 4)] [.int (nZ 5), .int v1, .ref a0, .int x5, .int (nZ 4), .ref r2] rfl rfl (fun _ => rfl)).trans <| c_rcv <| c_clI fun x6 h5 => (s_iadd rfl).trans <| (s_iconst rfl).trans <| (s_isub rfl).trans <| (s_v1 [.ref a0, .int v1, .int (((nZ 5) + x6) - (nZ 1))] [.int x5, .int (nZ 4), .ref r2] rfl rfl (fun _ => rfl)).trans <| c_rcv <| c_clI fun x7 h6 => (s_iadd rfl).trans <| (s_iastore rfl).trans <| c_as fun h7 => (s_aload_n rfl rfl).trans <| (s_iload_n rfl rfl).trans <| (s_aload_n rfl rfl).trans <| (s_iload_n rfl rfl).trans <| (s_iconst rfl).trans <| (s_v1 [.ref a0, .int v1, .int (nZ 4)] [.int v1, .ref a0] rfl rfl (fun _ => rfl)).trans <| c_rcv <| c_clI fun x8 h8 => (s_iconst rfl).trans <| (s_isub rfl).trans <| (s_v0 [.ref a0, .int v1, .int (x8 - (nZ 1))] [] rfl rfl (fun _ => rfl)).trans <| c_rcv <| c_clV fun h9 => (s_aload_n rfl rfl).trans <| (s_iload_n rfl rfl).trans <| (s_v1 [.ref a0, .int v1] [] rfl rfl (fun _ => rfl)).trans <| c_rcv <| c_clI fun x9 h10 => (s_if_eq rfl).trans <| c_ite (s_ret rfl rfl) ((s_aload_n rfl rfl).trans <| (s_gf2 rfl rfl).trans <| c_gR fun r3 => (s_iload_n rfl rfl).trans <| (s_iaload rfl).trans <| c_aI fun x10 => (s_if_ne rfl).trans <| c_ite ((s_aload_n rfl rfl).trans <| (s_iload_n rfl rfl).trans <| (s_v0 [.ref a0, .int v1] [] rfl rfl (fun _ => rfl)).trans <| c_rcv <| c_clV fun h11 => s_ret rfl rfl) (s_ret rfl rfl))))
theorem mc_X9_oneHour (X : mv_X) (d : Nat) (h : mv_H) (a0 : Nat) : mv_call X (d + 1) 177 [.ref a0] h = mv_run X (mv_call X d) m_X9_oneHour 0 [.ref a0, .retAddr 0, .retAddr 0, .retAddr 0] [] h := rfl
theorem i_X9_oneHour_0 : mv_look m_X9_oneHour.2.2.2.1 32 0 = some (.aload_n 0, 0, []) := by decide +kernel
theorem i_X9_oneHour_1 : mv_look m_X9_oneHour.2.2.2.1 32 1 = some (.getfield 7, 0, []) := by decide +kernel
theorem i_X9_oneHour_4 : mv_look m_X9_oneHour.2.2.2.1 32 4 = some (.iconst 0, 0, []) := by decide +kernel
theorem i_X9_oneHour_5 : mv_look m_X9_oneHour.2.2.2.1 32 5 = some (.dup2, 0, []) := by decide +kernel
theorem i_X9_oneHour_6 : mv_look m_X9_oneHour.2.2.2.1 32 6 = some (.iaload, 0, []) := by decide +kernel
theorem i_X9_oneHour_7 : mv_look m_X9_oneHour.2.2.2.1 32 7 = some (.iconst 1, 0, []) := by decide +kernel
theorem i_X9_oneHour_8 : mv_look m_X9_oneHour.2.2.2.1 32 8 = some (.iadd, 0, []) := by decide +kernel
theorem i_X9_oneHour_9 : mv_look m_X9_oneHour.2.2.2.1 32 9 = some (.iastore, 0, []) := by decide +kernel
theorem i_X9_oneHour_10 : mv_look m_X9_oneHour.2.2.2.1 32 10 = some (.aload_n 0, 0, []) := by decide +kernel
theorem i_X9_oneHour_11 : mv_look m_X9_oneHour.2.2.2.1 32 11 = some (.invokevirtual 99, 0, []) := by decide +kernel
theorem i_X9_oneHour_14 : mv_look m_X9_oneHour.2.2.2.1 32 14 = some (.bipush 6, 0, []) := by decide +kernel
theorem i_X9_oneHour_16 : mv_look m_X9_oneHour.2.2.2.1 32 16 = some (.bipush 17, 0, []) := by decide +kernel
theorem i_X9_oneHour_18 : mv_look m_X9_oneHour.2.2.2.1 32 18 = some (.invokestatic 75, 0, []) := by decide +kernel
theorem i_X9_oneHour_21 : mv_look m_X9_oneHour.2.2.2.1 32 21 = some (.istore_n 1, 0, []) := by decide +kernel
theorem i_X9_oneHour_22 : mv_look m_X9_oneHour.2.2.2.1 32 22 = some (.aload_n 0, 0, []) := by decide +kernel
theorem i_X9_oneHour_23 : mv_look m_X9_oneHour.2.2.2.1 32 23 = some (.iconst 0, 0, []) := by decide +kernel
theorem i_X9_oneHour_24 : mv_look m_X9_oneHour.2.2.2.1 32 24 = some (.putfield 113, 0, []) := by decide +kernel
theorem i_X9_oneHour_27 : mv_look m_X9_oneHour.2.2.2.1 32 27 = some (.iconst 0, 0, []) := by decide +kernel
theorem i_X9_oneHour_28 : mv_look m_X9_oneHour.2.2.2.1 32 28 = some (.istore_n 2, 0, []) := by decide +kernel
theorem i_X9_oneHour_29 : mv_look m_X9_oneHour.2.2.2.1 32 29 = some (.iload_n 2, 0, []) := by decide +kernel
theorem i_X9_oneHour_30 : mv_look m_X9_oneHour.2.2.2.1 32 30 = some (.bipush 10, 0, []) := by decide +kernel
theorem i_X9_oneHour_32 : mv_look m_X9_oneHour.2.2.2.1 32 32 = some (.if_icmp .ge 72, 104, []) := by decide +kernel
theorem i_X9_oneHour_35 : mv_look m_X9_oneHour.2.2.2.1 32 35 = some (.aload_n 0, 0, []) := by decide +kernel
theorem i_X9_oneHour_36 : mv_look m_X9_oneHour.2.2.2.1 32 36 = some (.getfield 37, 0, []) := by decide +kernel
theorem i_X9_oneHour_39 : mv_look m_X9_oneHour.2.2.2.1 32 39 = some (.iload_n 2, 0, []) := by decide +kernel
theorem i_X9_oneHour_40 : mv_look m_X9_oneHour.2.2.2.1 32 40 = some (.iconst 0, 0, []) := by decide +kernel
theorem i_X9_oneHour_41 : mv_look m_X9_oneHour.2.2.2.1 32 41 = some (.iastore, 0, []) := by decide +kernel
theorem i_X9_oneHour_42 : mv_look m_X9_oneHour.2.2.2.1 32 42 = some (.aload_n 0, 0, []) := by decide +kernel
theorem i_X9_oneHour_43 : mv_look m_X9_oneHour.2.2.2.1 32 43 = some (.iload_n 2, 0, []) := by decide +kernel
theorem i_X9_oneHour_44 : mv_look m_X9_oneHour.2.2.2.1 32 44 = some (.iconst 0, 0, []) := by decide +kernel
theorem i_X9_oneHour_45 : mv_look m_X9_oneHour.2.2.2.1 32 45 = some (.invokevirtual 83, 0, []) := by decide +kernel
theorem i_X9_oneHour_48 : mv_look m_X9_oneHour.2.2.2.1 32 48 = some (.ifCond .ne 6, 54, []) := by decide +kernel
theorem i_X9_oneHour_51 : mv_look m_X9_oneHour.2.2.2.1 32 51 = some (.goto 47, 98, []) := by decide +kernel
theorem i_X9_oneHour_54 : mv_look m_X9_oneHour.2.2.2.1 32 54 = some (.aload_n 0, 0, []) := by decide +kernel
theorem i_X9_oneHour_55 : mv_look m_X9_oneHour.2.2.2.1 32 55 = some (.iload_n 2, 0, []) := by decide +kernel
theorem i_X9_oneHour_56 : mv_look m_X9_oneHour.2.2.2.1 32 56 = some (.iconst 1, 0, []) := by decide +kernel
theorem i_X9_oneHour_57 : mv_look m_X9_oneHour.2.2.2.1 32 57 = some (.invokevirtual 83, 0, []) := by decide +kernel
theorem i_X9_oneHour_60 : mv_look m_X9_oneHour.2.2.2.1 32 60 = some (.iload_n 1, 0, []) := by decide +kernel
theorem i_X9_oneHour_61 : mv_look m_X9_oneHour.2.2.2.1 32 61 = some (.ifCond .eq 7, 68, []) := by decide +kernel
theorem i_X9_oneHour_64 : mv_look m_X9_oneHour.2.2.2.1 32 64 = some (.iconst 1, 0, []) := by decide +kernel
theorem i_X9_oneHour_65 : mv_look m_X9_oneHour.2.2.2.1 32 65 = some (.goto 4, 69, []) := by decide +kernel
theorem i_X9_oneHour_68 : mv_look m_X9_oneHour.2.2.2.1 32 68 = some (.iconst (-1), 0, []) := by decide +kernel
theorem i_X9_oneHour_69 : mv_look m_X9_oneHour.2.2.2.1 32 69 = some (.iadd, 0, []) := by decide +kernel
theorem i_X9_oneHour_70 : mv_look m_X9_oneHour.2.2.2.1 32 70 = some (.istore_n 3, 0, []) := by decide +kernel
theorem i_X9_oneHour_71 : mv_look m_X9_oneHour.2.2.2.1 32 71 = some (.aload_n 0, 0, []) := by decide +kernel
theorem i_X9_oneHour_72 : mv_look m_X9_oneHour.2.2.2.1 32 72 = some (.iload_n 2, 0, []) := by decide +kernel
theorem i_X9_oneHour_73 : mv_look m_X9_oneHour.2.2.2.1 32 73 = some (.iconst 1, 0, []) := by decide +kernel
theorem i_X9_oneHour_74 : mv_look m_X9_oneHour.2.2.2.1 32 74 = some (.iload_n 3, 0, []) := by decide +kernel
theorem i_X9_oneHour_75 : mv_look m_X9_oneHour.2.2.2.1 32 75 = some (.bipush 99, 0, []) := by decide +kernel
theorem i_X9_oneHour_77 : mv_look m_X9_oneHour.2.2.2.1 32 77 = some (.if_icmp .le 8, 85, []) := by decide +kernel
theorem i_X9_oneHour_80 : mv_look m_X9_oneHour.2.2.2.1 32 80 = some (.bipush 99, 0, []) := by decide +kernel
theorem i_X9_oneHour_82 : mv_look m_X9_oneHour.2.2.2.1 32 82 = some (.goto 13, 95, []) := by decide +kernel
theorem i_X9_oneHour_85 : mv_look m_X9_oneHour.2.2.2.1 32 85 = some (.iload_n 3, 0, []) := by decide +kernel
theorem i_X9_oneHour_86 : mv_look m_X9_oneHour.2.2.2.1 32 86 = some (.iconst 1, 0, []) := by decide +kernel
theorem i_X9_oneHour_87 : mv_look m_X9_oneHour.2.2.2.1 32 87 = some (.if_icmp .ge 7, 94, []) := by decide +kernel
theorem i_X9_oneHour_90 : mv_look m_X9_oneHour.2.2.2.1 32 90 = some (.iconst 1, 0, []) := by decide +kernel
theorem i_X9_oneHour_91 : mv_look m_X9_oneHour.2.2.2.1 32 91 = some (.goto 4, 95, []) := by decide +kernel
theorem i_X9_oneHour_94 : mv_look m_X9_oneHour.2.2.2.1 32 94 = some (.iload_n 3, 0, []) := by decide +kernel
theorem i_X9_oneHour_95 : mv_look m_X9_oneHour.2.2.2.1 32 95 = some (.invokevirtual 109, 0, []) := by decide +kernel
theorem i_X9_oneHour_98 : mv_look m_X9_oneHour.2.2.2.1 32 98 = some (.iinc 2 1, 0, []) := by decide +kernel
theorem i_X9_oneHour_101 : mv_look m_X9_oneHour.2.2.2.1 32 101 = some (.goto (-72), 29, []) := by decide +kernel
theorem i_X9_oneHour_104 : mv_look m_X9_oneHour.2.2.2.1 32 104 = some (.iconst 0, 0, []) := by decide +kernel
theorem i_X9_oneHour_105 : mv_look m_X9_oneHour.2.2.2.1 32 105 = some (.istore_n 2, 0, []) := by decide +kernel
theorem i_X9_oneHour_106 : mv_look m_X9_oneHour.2.2.2.1 32 106 = some (.iload_n 2, 0, []) := by decide +kernel
theorem i_X9_oneHour_107 : mv_look m_X9_oneHour.2.2.2.1 32 107 = some (.bipush 10, 0, []) := by decide +kernel
theorem i_X9_oneHour_109 : mv_look m_X9_oneHour.2.2.2.1 32 109 = some (.if_icmp .ge 30, 139, []) := by decide +kernel
theorem i_X9_oneHour_112 : mv_look m_X9_oneHour.2.2.2.1 32 112 = some (.aload_n 0, 0, []) := by decide +kernel
theorem i_X9_oneHour_113 : mv_look m_X9_oneHour.2.2.2.1 32 113 = some (.iload_n 2, 0, []) := by decide +kernel
theorem i_X9_oneHour_114 : mv_look m_X9_oneHour.2.2.2.1 32 114 = some (.invokevirtual 116, 0, []) := by decide +kernel
theorem i_X9_oneHour_117 : mv_look m_X9_oneHour.2.2.2.1 32 117 = some (.ifCond .eq 16, 133, []) := by decide +kernel
theorem i_X9_oneHour_120 : mv_look m_X9_oneHour.2.2.2.1 32 120 = some (.aload_n 0, 0, []) := by decide +kernel
theorem i_X9_oneHour_121 : mv_look m_X9_oneHour.2.2.2.1 32 121 = some (.iload_n 2, 0, []) := by decide +kernel
theorem i_X9_oneHour_122 : mv_look m_X9_oneHour.2.2.2.1 32 122 = some (.invokevirtual 123, 0, []) := by decide +kernel
theorem i_X9_oneHour_125 : mv_look m_X9_oneHour.2.2.2.1 32 125 = some (.ifCond .eq 8, 133, []) := by decide +kernel
theorem i_X9_oneHour_128 : mv_look m_X9_oneHour.2.2.2.1 32 128 = some (.aload_n 0, 0, []) := by decide +kernel
theorem i_X9_oneHour_129 : mv_look m_X9_oneHour.2.2.2.1 32 129 = some (.iload_n 2, 0, []) := by decide +kernel
theorem i_X9_oneHour_130 : mv_look m_X9_oneHour.2.2.2.1 32 130 = some (.invokevirtual 126, 0, []) := by decide +kernel
theorem i_X9_oneHour_133 : mv_look m_X9_oneHour.2.2.2.1 32 133 = some (.iinc 2 1, 0, []) := by decide +kernel
theorem i_X9_oneHour_136 : mv_look m_X9_oneHour.2.2.2.1 32 136 = some (.goto (-30), 106, []) := by decide +kernel
theorem i_X9_oneHour_139 : mv_look m_X9_oneHour.2.2.2.1 32 139 = some (.iconst 0, 0, []) := by decide +kernel
theorem i_X9_oneHour_140 : mv_look m_X9_oneHour.2.2.2.1 32 140 = some (.istore_n 2, 0, []) := by decide +kernel
theorem i_X9_oneHour_141 : mv_look m_X9_oneHour.2.2.2.1 32 141 = some (.iload_n 2, 0, []) := by decide +kernel
theorem i_X9_oneHour_142 : mv_look m_X9_oneHour.2.2.2.1 32 142 = some (.aload_n 0, 0, []) := by decide +kernel
theorem i_X9_oneHour_143 : mv_look m_X9_oneHour.2.2.2.1 32 143 = some (.getfield 113, 0, []) := by decide +kernel
theorem i_X9_oneHour_146 : mv_look m_X9_oneHour.2.2.2.1 32 146 = some (.if_icmp .ge 50, 196, []) := by decide +kernel
theorem i_X9_oneHour_149 : mv_look m_X9_oneHour.2.2.2.1 32 149 = some (.aload_n 0, 0, []) := by decide +kernel
theorem i_X9_oneHour_150 : mv_look m_X9_oneHour.2.2.2.1 32 150 = some (.getfield 34, 0, []) := by decide +kernel
theorem i_X9_oneHour_153 : mv_look m_X9_oneHour.2.2.2.1 32 153 = some (.iload_n 2, 0, []) := by decide +kernel
theorem i_X9_oneHour_154 : mv_look m_X9_oneHour.2.2.2.1 32 154 = some (.iaload, 0, []) := by decide +kernel
theorem i_X9_oneHour_155 : mv_look m_X9_oneHour.2.2.2.1 32 155 = some (.istore_n 3, 0, []) := by decide +kernel
theorem i_X9_oneHour_156 : mv_look m_X9_oneHour.2.2.2.1 32 156 = some (.aload_n 0, 0, []) := by decide +kernel
theorem i_X9_oneHour_157 : mv_look m_X9_oneHour.2.2.2.1 32 157 = some (.getfield 7, 0, []) := by decide +kernel
theorem i_X9_oneHour_160 : mv_look m_X9_oneHour.2.2.2.1 32 160 = some (.iconst 4, 0, []) := by decide +kernel
theorem i_X9_oneHour_161 : mv_look m_X9_oneHour.2.2.2.1 32 161 = some (.dup2, 0, []) := by decide +kernel
theorem i_X9_oneHour_162 : mv_look m_X9_oneHour.2.2.2.1 32 162 = some (.iaload, 0, []) := by decide +kernel
theorem i_X9_oneHour_163 : mv_look m_X9_oneHour.2.2.2.1 32 163 = some (.aload_n 0, 0, []) := by decide +kernel
theorem i_X9_oneHour_164 : mv_look m_X9_oneHour.2.2.2.1 32 164 = some (.iload_n 3, 0, []) := by decide +kernel
theorem i_X9_oneHour_165 : mv_look m_X9_oneHour.2.2.2.1 32 165 = some (.iconst 0, 0, []) := by decide +kernel
theorem i_X9_oneHour_166 : mv_look m_X9_oneHour.2.2.2.1 32 166 = some (.invokevirtual 87, 0, []) := by decide +kernel
theorem i_X9_oneHour_169 : mv_look m_X9_oneHour.2.2.2.1 32 169 = some (.iadd, 0, []) := by decide +kernel
theorem i_X9_oneHour_170 : mv_look m_X9_oneHour.2.2.2.1 32 170 = some (.iastore, 0, []) := by decide +kernel
theorem i_X9_oneHour_171 : mv_look m_X9_oneHour.2.2.2.1 32 171 = some (.aload_n 0, 0, []) := by decide +kernel
theorem i_X9_oneHour_172 : mv_look m_X9_oneHour.2.2.2.1 32 172 = some (.iload_n 3, 0, []) := by decide +kernel
theorem i_X9_oneHour_173 : mv_look m_X9_oneHour.2.2.2.1 32 173 = some (.invokevirtual 130, 0, []) := by decide +kernel
theorem i_X9_oneHour_176 : mv_look m_X9_oneHour.2.2.2.1 32 176 = some (.aload_n 0, 0, []) := by decide +kernel
theorem i_X9_oneHour_177 : mv_look m_X9_oneHour.2.2.2.1 32 177 = some (.iload_n 3, 0, []) := by decide +kernel
theorem i_X9_oneHour_178 : mv_look m_X9_oneHour.2.2.2.1 32 178 = some (.iconst 1, 0, []) := by decide +kernel
theorem i_X9_oneHour_179 : mv_look m_X9_oneHour.2.2.2.1 32 179 = some (.isub, 0, []) := by decide +kernel
theorem i_X9_oneHour_180 : mv_look m_X9_oneHour.2.2.2.1 32 180 = some (.invokevirtual 133, 0, []) := by decide +kernel
theorem i_X9_oneHour_183 : mv_look m_X9_oneHour.2.2.2.1 32 183 = some (.aload_n 0, 0, []) := by decide +kernel
theorem i_X9_oneHour_184 : mv_look m_X9_oneHour.2.2.2.1 32 184 = some (.iload_n 3, 0, []) := by decide +kernel
theorem i_X9_oneHour_185 : mv_look m_X9_oneHour.2.2.2.1 32 185 = some (.iconst 1, 0, []) := by decide +kernel
theorem i_X9_oneHour_186 : mv_look m_X9_oneHour.2.2.2.1 32 186 = some (.iadd, 0, []) := by decide +kernel
theorem i_X9_oneHour_187 : mv_look m_X9_oneHour.2.2.2.1 32 187 = some (.invokevirtual 133, 0, []) := by decide +kernel
theorem i_X9_oneHour_190 : mv_look m_X9_oneHour.2.2.2.1 32 190 = some (.iinc 2 1, 0, []) := by decide +kernel
theorem i_X9_oneHour_193 : mv_look m_X9_oneHour.2.2.2.1 32 193 = some (.goto (-52), 141, []) := by decide +kernel
theorem i_X9_oneHour_196 : mv_look m_X9_oneHour.2.2.2.1 32 196 = some (.aload_n 0, 0, []) := by decide +kernel
theorem i_X9_oneHour_197 : mv_look m_X9_oneHour.2.2.2.1 32 197 = some (.getfield 7, 0, []) := by decide +kernel
theorem i_X9_oneHour_200 : mv_look m_X9_oneHour.2.2.2.1 32 200 = some (.iconst 1, 0, []) := by decide +kernel
theorem i_X9_oneHour_201 : mv_look m_X9_oneHour.2.2.2.1 32 201 = some (.dup2, 0, []) := by decide +kernel
theorem i_X9_oneHour_202 : mv_look m_X9_oneHour.2.2.2.1 32 202 = some (.iaload, 0, []) := by decide +kernel
theorem i_X9_oneHour_203 : mv_look m_X9_oneHour.2.2.2.1 32 203 = some (.iload_n 2, 0, []) := by decide +kernel
theorem i_X9_oneHour_204 : mv_look m_X9_oneHour.2.2.2.1 32 204 = some (.iadd, 0, []) := by decide +kernel
theorem i_X9_oneHour_205 : mv_look m_X9_oneHour.2.2.2.1 32 205 = some (.iastore, 0, []) := by decide +kernel
theorem i_X9_oneHour_206 : mv_look m_X9_oneHour.2.2.2.1 32 206 = some (.iload_n 2, 0, []) := by decide +kernel
theorem i_X9_oneHour_207 : mv_look m_X9_oneHour.2.2.2.1 32 207 = some (.ireturn, 0, []) := by decide +kernel
theorem bk_X9_oneHour_0 (X : mv_X) (call : mv_G) (h : mv_H) (a0 : Nat) : mv_run X call m_X9_oneHour 0 [.ref a0, .retAddr 0, .retAddr 0, .retAddr 0] [] h =
  mv_gR X h a0 13 1 fun r1 =>
  mv_aI X h 1 r1 (nZ 0) fun x1 =>
  mv_as h 1 r1 (nZ 0) (.int (x1 + (nZ 1))) fun h1 =>
  mv_rcv X h1 [.ref a0] 13 (mv_clI call 163 [.ref a0] h1 mv_raise fun x2 h2 =>
  mv_clI call 150 [.int x2, .int (nZ 6), .int (nZ 17)] h2 mv_raise fun x3 h3 =>
  mv_pf h3 a0 13 22 (.int (nZ 0)) fun h4 =>
  mv_run X call m_X9_oneHour 29 [.ref a0, .int x3, .int (nZ 0), .retAddr 0] [] h4) :=
  (s_aload_n i_X9_oneHour_0 rfl).trans <| (s_gf2 i_X9_oneHour_1 rfl).trans <| c_gR fun r1 => (s_iconst i_X9_oneHour_4).trans <| (s_dup2 i_X9_oneHour_5).trans <| (s_iaload i_X9_oneHour_6).trans <| c_aI fun x1 => (s_iconst i_X9_oneHour_7).trans <| (s_iadd i_X9_oneHour_8).trans <| (s_iastore i_X9_oneHour_9).trans <| c_as fun h1 => (s_aload_n i_X9_oneHour_10 rfl).trans <| (s_v1 [.ref a0] [] i_X9_oneHour_11 rfl (fun _ => rfl)).trans <| c_rcv <| c_clI fun x2 h2 => (s_bipush i_X9_oneHour_14).trans <| (s_bipush i_X9_oneHour_16).trans <| (s_s1 [.int x2, .int (nZ 6), .int (nZ 17)] [] i_X9_oneHour_18 rfl (fun _ => rfl)).trans <| c_clI fun x3 h3 => (s_istore_n (ls2 := [.ref a0, .int x3, .retAddr 0, .retAddr 0]) i_X9_oneHour_21 (fun _ => rfl)).trans <| (s_aload_n i_X9_oneHour_22 rfl).trans <| (s_iconst i_X9_oneHour_23).trans <| (s_pf1 i_X9_oneHour_24 rfl).trans <| c_pf fun h4 => (s_iconst i_X9_oneHour_27).trans <| (s_istore_n (ls2 := [.ref a0, .int x3, .int (nZ 0), .retAddr 0]) i_X9_oneHour_28 (fun _ => rfl)).trans <| rfl
theorem bk_X9_oneHour_29 (X : mv_X) (call : mv_G) (h : mv_H) (a0 : Nat) (v1 : Int32) (v2 : Int32) (j3 : Value) : mv_run X call m_X9_oneHour 29 [.ref a0, .int v1, .int v2, j3] [] h =
  if (nZ 10) ≤ v2 then 
  (mv_run X call m_X9_oneHour 106 [.ref a0, .int v1, .int (nZ 0), j3] [] h)
  else (mv_gR X h a0 13 12 fun r1 =>
    mv_as h 1 r1 v2 (.int (nZ 0)) fun h1 =>
    mv_rcv X h1 [.ref a0, .int v2, .int (nZ 0)] 13 (mv_clI call 158 [.ref a0, .int v2, .int (nZ 0)] h1 mv_raise fun x1 h2 =>
    if x1 = 0 then 
    (mv_run X call m_X9_oneHour 29 [.ref a0, .int v1, .int (v2 + nZ 1), j3] [] h2)
    else (mv_rcv X h2 [.ref a0, .int v2, .int (nZ 1)] 13 (mv_clI call 158 [.ref a0, .int v2, .int (nZ 1)] h2 mv_raise fun x2 h3 =>
      if v1 = 0 then 
      (if (x2 + (nZ (-1))) ≤ (nZ 99) then 
        (if (nZ 1) ≤ (x2 + (nZ (-1))) then 
          (mv_rcv X h3 [.ref a0, .int v2, .int (nZ 1), .int (x2 + (nZ (-1)))] 13 (mv_clV call 159 [.ref a0, .int v2, .int (nZ 1), .int (x2 + (nZ (-1)))] h3 mv_raise fun h4 =>
            mv_run X call m_X9_oneHour 29 [.ref a0, .int v1, .int (v2 + nZ 1), .int (x2 + (nZ (-1)))] [] h4))
          else (mv_rcv X h3 [.ref a0, .int v2, .int (nZ 1), .int (nZ 1)] 13 (mv_clV call 159 [.ref a0, .int v2, .int (nZ 1), .int (nZ 1)] h3 mv_raise fun h5 =>
            mv_run X call m_X9_oneHour 29 [.ref a0, .int v1, .int (v2 + nZ 1), .int (x2 + (nZ (-1)))] [] h5)))
        else (mv_rcv X h3 [.ref a0, .int v2, .int (nZ 1), .int (nZ 99)] 13 (mv_clV call 159 [.ref a0, .int v2, .int (nZ 1), .int (nZ 99)] h3 mv_raise fun h6 =>
          mv_run X call m_X9_oneHour 29 [.ref a0, .int v1, .int (v2 + nZ 1), .int (x2 + (nZ (-1)))] [] h6)))
      else (if (x2 + (nZ 1)) ≤ (nZ 99) then 
        (if (nZ 1) ≤ (x2 + (nZ 1)) then 
          (mv_rcv X h3 [.ref a0, .int v2, .int (nZ 1), .int (x2 + (nZ 1))] 13 (mv_clV call 159 [.ref a0, .int v2, .int (nZ 1), .int (x2 + (nZ 1))] h3 mv_raise fun h7 =>
            mv_run X call m_X9_oneHour 29 [.ref a0, .int v1, .int (v2 + nZ 1), .int (x2 + (nZ 1))] [] h7))
          else (mv_rcv X h3 [.ref a0, .int v2, .int (nZ 1), .int (nZ 1)] 13 (mv_clV call 159 [.ref a0, .int v2, .int (nZ 1), .int (nZ 1)] h3 mv_raise fun h8 =>
            mv_run X call m_X9_oneHour 29 [.ref a0, .int v1, .int (v2 + nZ 1), .int (x2 + (nZ 1))] [] h8)))
        else (mv_rcv X h3 [.ref a0, .int v2, .int (nZ 1), .int (nZ 99)] 13 (mv_clV call 159 [.ref a0, .int v2, .int (nZ 1), .int (nZ 99)] h3 mv_raise fun h9 =>
          mv_run X call m_X9_oneHour 29 [.ref a0, .int v1, .int (v2 + nZ 1), .int (x2 + (nZ 1))] [] h9))))))) :=
  (s_iload_n i_X9_oneHour_29 rfl).trans <| (s_bipush i_X9_oneHour_30).trans <| (s_icmp_ge i_X9_oneHour_32).trans <| c_ite ((s_iconst i_X9_oneHour_104).trans <| (s_istore_n (ls2 := [.ref a0, .int v1, .int (nZ 0), j3]) i_X9_oneHour_105 (fun _ => rfl)).trans <| rfl) ((s_aload_n i_X9_oneHour_35 rfl).trans <| (s_gf2 i_X9_oneHour_36 rfl).trans <| c_gR fun r1 => (s_iload_n i_X9_oneHour_39 rfl).trans <| (s_iconst i_X9_oneHour_40).trans <| (s_iastore i_X9_oneHour_41).trans <| c_as fun h1 => (s_aload_n i_X9_oneHour_42 rfl).trans <| (s_iload_n i_X9_oneHour_43 rfl).trans <| (s_iconst i_X9_oneHour_44).trans <| (s_v1 [.ref a0, .int v2, .int (nZ 0)] [] i_X9_oneHour_45 rfl (fun _ => rfl)).trans <| c_rcv <| c_clI fun x1 h2 => (s_if_ne i_X9_oneHour_48).trans <| c_ite ((s_goto i_X9_oneHour_51).trans <| (s_iinc (ls2 := [.ref a0, .int v1, .int (v2 + nZ 1), j3]) i_X9_oneHour_98 rfl (fun _ => rfl)).trans <| (s_goto i_X9_oneHour_101).trans <| rfl) ((s_aload_n i_X9_oneHour_54 rfl).trans <| (s_iload_n i_X9_oneHour_55 rfl).trans <| (s_iconst i_X9_oneHour_56).trans <| (s_v1 [.ref a0, .int v2, .int (nZ 1)] [] i_X9_oneHour_57 rfl (fun _ => rfl)).trans <| c_rcv <| c_clI fun x2 h3 => (s_iload_n i_X9_oneHour_60 rfl).trans <| (s_if_eq i_X9_oneHour_61).trans <| c_ite ((s_iconst i_X9_oneHour_68).trans <| (s_iadd i_X9_oneHour_69).trans <| (s_istore_n (ls2 := [.ref a0, .int v1, .int v2, .int (x2 + (nZ (-1)))]) i_X9_oneHour_70 (fun _ => rfl)).trans <| (s_aload_n i_X9_oneHour_71 rfl).trans <| (s_iload_n i_X9_oneHour_72 rfl).trans <| (s_iconst i_X9_oneHour_73).trans <| (s_iload_n i_X9_oneHour_74 rfl).trans <| (s_bipush i_X9_oneHour_75).trans <| (s_icmp_le i_X9_oneHour_77).trans <| c_ite ((s_iload_n i_X9_oneHour_85 rfl).trans <| (s_iconst i_X9_oneHour_86).trans <| (s_icmp_ge i_X9_oneHour_87).trans <| c_ite ((s_iload_n i_X9_oneHour_94 rfl).trans <| (s_v0 [.ref a0, .int v2, .int (nZ 1), .int (x2 + (nZ (-1)))] [] i_X9_oneHour_95 rfl (fun _ => rfl)).trans <| c_rcv <| c_clV fun h4 => (s_iinc (ls2 := [.ref a0, .int v1, .int (v2 + nZ 1), .int (x2 + (nZ (-1)))]) i_X9_oneHour_98 rfl (fun _ => rfl)).trans <| (s_goto i_X9_oneHour_101).trans <| rfl) ((s_iconst i_X9_oneHour_90).trans <| (s_goto i_X9_oneHour_91).trans <| (s_v0 [.ref a0, .int v2, .int (nZ 1), .int (nZ 1)] [] i_X9_oneHour_95 rfl (fun _ => rfl)).trans <| c_rcv <| c_clV fun h5 => (s_iinc (ls2 := [.ref a0, .int v1, .int (v2 + nZ 1), .int (x2 + (nZ (-1)))]) i_X9_oneHour_98 rfl (fun _ => rfl)).trans <| (s_goto i_X9_oneHour_101).trans <| rfl)) ((s_bipush i_X9_oneHour_80).trans <| (s_goto i_X9_oneHour_82).trans <| (s_v0 [.ref a0, .int v2, .int (nZ 1), .int (nZ 99)] [] i_X9_oneHour_95 rfl (fun _ => rfl)).trans <| c_rcv <| c_clV fun h6 => (s_iinc (ls2 := [.ref a0, .int v1, .int (v2 + nZ 1), .int (x2 + (nZ (-1)))]) i_X9_oneHour_98 rfl (fun _ => rfl)).trans <| (s_goto i_X9_oneHour_101).trans <| rfl)) ((s_iconst i_X9_oneHour_64).trans <| (s_goto i_X9_oneHour_65).trans <| (s_iadd i_X9_oneHour_69).trans <| (s_istore_n (ls2 := [.ref a0, .int v1, .int v2, .int (x2 + (nZ 1))]) i_X9_oneHour_70 (fun _ => rfl)).trans <| (s_aload_n i_X9_oneHour_71 rfl).trans <| (s_iload_n i_X9_oneHour_72 rfl).trans <| (s_iconst i_X9_oneHour_73).trans <| (s_iload_n i_X9_oneHour_74 rfl).trans <| (s_bipush i_X9_oneHour_75).trans <| (s_icmp_le i_X9_oneHour_77).trans <| c_ite ((s_iload_n i_X9_oneHour_85 rfl).trans <| (s_iconst i_X9_oneHour_86).trans <| (s_icmp_ge i_X9_oneHour_87).trans <| c_ite ((s_iload_n i_X9_oneHour_94 rfl).trans <| (s_v0 [.ref a0, .int v2, .int (nZ 1), .int (x2 + (nZ 1))] [] i_X9_oneHour_95 rfl (fun _ => rfl)).trans <| c_rcv <| c_clV fun h7 => (s_iinc (ls2 := [.ref a0, .int v1, .int (v2 + nZ 1), .int (x2 + (nZ 1))]) i_X9_oneHour_98 rfl (fun _ => rfl)).trans <| (s_goto i_X9_oneHour_101).trans <| rfl) ((s_iconst i_X9_oneHour_90).trans <| (s_goto i_X9_oneHour_91).trans <| (s_v0 [.ref a0, .int v2, .int (nZ 1), .int (nZ 1)] [] i_X9_oneHour_95 rfl (fun _ => rfl)).trans <| c_rcv <| c_clV fun h8 => (s_iinc (ls2 := [.ref a0, .int v1, .int (v2 + nZ 1), .int (x2 + (nZ 1))]) i_X9_oneHour_98 rfl (fun _ => rfl)).trans <| (s_goto i_X9_oneHour_101).trans <| rfl)) ((s_bipush i_X9_oneHour_80).trans <| (s_goto i_X9_oneHour_82).trans <| (s_v0 [.ref a0, .int v2, .int (nZ 1), .int (nZ 99)] [] i_X9_oneHour_95 rfl (fun _ => rfl)).trans <| c_rcv <| c_clV fun h9 => (s_iinc (ls2 := [.ref a0, .int v1, .int (v2 + nZ 1), .int (x2 + (nZ 1))]) i_X9_oneHour_98 rfl (fun _ => rfl)).trans <| (s_goto i_X9_oneHour_101).trans <| rfl))))
theorem bk_X9_oneHour_106 (X : mv_X) (call : mv_G) (h : mv_H) (a0 : Nat) (v1 : Int32) (v2 : Int32) (j3 : Value) : mv_run X call m_X9_oneHour 106 [.ref a0, .int v1, .int v2, j3] [] h =
  if (nZ 10) ≤ v2 then 
  (mv_run X call m_X9_oneHour 141 [.ref a0, .int v1, .int (nZ 0), j3] [] h)
  else (mv_rcv X h [.ref a0, .int v2] 13 (mv_clI call 160 [.ref a0, .int v2] h mv_raise fun x1 h1 =>
    if x1 = 0 then 
    (mv_run X call m_X9_oneHour 106 [.ref a0, .int v1, .int (v2 + nZ 1), j3] [] h1)
    else (mv_rcv X h1 [.ref a0, .int v2] 13 (mv_clI call 168 [.ref a0, .int v2] h1 mv_raise fun x2 h2 =>
      if x2 = 0 then 
      (mv_run X call m_X9_oneHour 106 [.ref a0, .int v1, .int (v2 + nZ 1), j3] [] h2)
      else (mv_rcv X h2 [.ref a0, .int v2] 13 (mv_clV call 175 [.ref a0, .int v2] h2 mv_raise fun h3 =>
        mv_run X call m_X9_oneHour 106 [.ref a0, .int v1, .int (v2 + nZ 1), j3] [] h3)))))) :=
  (s_iload_n i_X9_oneHour_106 rfl).trans <| (s_bipush i_X9_oneHour_107).trans <| (s_icmp_ge i_X9_oneHour_109).trans <| c_ite ((s_iconst i_X9_oneHour_139).trans <| (s_istore_n (ls2 := [.ref a0, .int v1, .int (nZ 0), j3]) i_X9_oneHour_140 (fun _ => rfl)).trans <| rfl) ((s_aload_n i_X9_oneHour_112 rfl).trans <| (s_iload_n i_X9_oneHour_113 rfl).trans <| (s_v1 [.ref a0, .int v2] [] i_X9_oneHour_114 rfl (fun _ => rfl)).trans <| c_rcv <| c_clI fun x1 h1 => (s_if_eq i_X9_oneHour_117).trans <| c_ite ((s_iinc (ls2 := [.ref a0, .int v1, .int (v2 + nZ 1), j3]) i_X9_oneHour_133 rfl (fun _ => rfl)).trans <| (s_goto i_X9_oneHour_136).trans <| rfl) ((s_aload_n i_X9_oneHour_120 rfl).trans <| (s_iload_n i_X9_oneHour_121 rfl).trans <| (s_v1 [.ref a0, .int v2] [] i_X9_oneHour_122 rfl (fun _ => rfl)).trans <| c_rcv <| c_clI fun x2 h2 => (s_if_eq i_X9_oneHour_125).trans <| c_ite ((s_iinc (ls2 := [.ref a0, .int v1, .int (v2 + nZ 1), j3]) i_X9_oneHour_133 rfl (fun _ => rfl)).trans <| (s_goto i_X9_oneHour_136).trans <| rfl) ((s_aload_n i_X9_oneHour_128 rfl).trans <| (s_iload_n i_X9_oneHour_129 rfl).trans <| (s_v0 [.ref a0, .int v2] [] i_X9_oneHour_130 rfl (fun _ => rfl)).trans <| c_rcv <| c_clV fun h3 => (s_iinc (ls2 := [.ref a0, .int v1, .int (v2 + nZ 1), j3]) i_X9_oneHour_133 rfl (fun _ => rfl)).trans <| (s_goto i_X9_oneHour_136).trans <| rfl)))
theorem bk_X9_oneHour_141 (X : mv_X) (call : mv_G) (h : mv_H) (a0 : Nat) (v1 : Int32) (v2 : Int32) (j3 : Value) : mv_run X call m_X9_oneHour 141 [.ref a0, .int v1, .int v2, j3] [] h =
  mv_gI X h a0 13 22 fun x1 =>
  if x1 ≤ v2 then 
  (mv_gR X h a0 13 1 fun r1 =>
    mv_aI X h 1 r1 (nZ 1) fun x2 =>
    mv_as h 1 r1 (nZ 1) (.int (x2 + v2)) fun h1 =>
    (some (.inl (some (.int v2)), h1)))
  else (mv_gR X h a0 13 11 fun r2 =>
    mv_aI X h 1 r2 v2 fun x3 =>
    mv_gR X h a0 13 1 fun r3 =>
    mv_aI X h 1 r3 (nZ 4) fun x4 =>
    mv_rcv X h [.ref a0, .int x3, .int (nZ 0)] 13 (mv_clI call 164 [.ref a0, .int x3, .int (nZ 0)] h mv_raise fun x5 h2 =>
    mv_as h2 1 r3 (nZ 4) (.int (x4 + x5)) fun h3 =>
    mv_rcv X h3 [.ref a0, .int x3] 13 (mv_clV call 174 [.ref a0, .int x3] h3 mv_raise fun h4 =>
    mv_rcv X h4 [.ref a0, .int (x3 - (nZ 1))] 13 (mv_clV call 176 [.ref a0, .int (x3 - (nZ 1))] h4 mv_raise fun h5 =>
    mv_rcv X h5 [.ref a0, .int (x3 + (nZ 1))] 13 (mv_clV call 176 [.ref a0, .int (x3 + (nZ 1))] h5 mv_raise fun h6 =>
    mv_run X call m_X9_oneHour 141 [.ref a0, .int v1, .int (v2 + nZ 1), .int x3] [] h6))))) :=
  (s_iload_n i_X9_oneHour_141 rfl).trans <| (s_aload_n i_X9_oneHour_142 rfl).trans <| (s_gf1 i_X9_oneHour_143 rfl).trans <| c_gI fun x1 => (s_icmp_ge i_X9_oneHour_146).trans <| c_ite ((s_aload_n i_X9_oneHour_196 rfl).trans <| (s_gf2 i_X9_oneHour_197 rfl).trans <| c_gR fun r1 => (s_iconst i_X9_oneHour_200).trans <| (s_dup2 i_X9_oneHour_201).trans <| (s_iaload i_X9_oneHour_202).trans <| c_aI fun x2 => (s_iload_n i_X9_oneHour_203 rfl).trans <| (s_iadd i_X9_oneHour_204).trans <| (s_iastore i_X9_oneHour_205).trans <| c_as fun h1 => (s_iload_n i_X9_oneHour_206 rfl).trans <| s_iret1 i_X9_oneHour_207 rfl) ((s_aload_n i_X9_oneHour_149 rfl).trans <| (s_gf2 i_X9_oneHour_150 rfl).trans <| c_gR fun r2 => (s_iload_n i_X9_oneHour_153 rfl).trans <| (s_iaload i_X9_oneHour_154).trans <| c_aI fun x3 => (s_istore_n (ls2 := [.ref a0, .int v1, .int v2, .int x3]) i_X9_oneHour_155 (fun _ => rfl)).trans <| (s_aload_n i_X9_oneHour_156 rfl).trans <| (s_gf2 i_X9_oneHour_157 rfl).trans <| c_gR fun r3 => (s_iconst i_X9_oneHour_160).trans <| (s_dup2 i_X9_oneHour_161).trans <| (s_iaload i_X9_oneHour_162).trans <| c_aI fun x4 => (s_aload_n i_X9_oneHour_163 rfl).trans <| (s_iload_n i_X9_oneHour_164 rfl).trans <| (s_iconst i_X9_oneHour_165).trans <| (s_v1 [.ref a0, .int x3, .int (nZ 0)] [.int x4, .int (nZ 4), .ref r3] i_X9_oneHour_166 rfl (fun _ => rfl)).trans <| c_rcv <| c_clI fun x5 h2 => (s_iadd i_X9_oneHour_169).trans <| (s_iastore i_X9_oneHour_170).trans <| c_as fun h3 => (s_aload_n i_X9_oneHour_171 rfl).trans <| (s_iload_n i_X9_oneHour_172 rfl).trans <| (s_v0 [.ref a0, .int x3] [] i_X9_oneHour_173 rfl (fun _ => rfl)).trans <| c_rcv <| c_clV fun h4 => (s_aload_n i_X9_oneHour_176 rfl).trans <| (s_iload_n i_X9_oneHour_177 rfl).trans <| (s_iconst i_X9_oneHour_178).trans <| (s_isub i_X9_oneHour_179).trans <| (s_v0 [.ref a0, .int (x3 - (nZ 1))] [] i_X9_oneHour_180 rfl (fun _ => rfl)).trans <| c_rcv <| c_clV fun h5 => (s_aload_n i_X9_oneHour_183 rfl).trans <| (s_iload_n i_X9_oneHour_184 rfl).trans <| (s_iconst i_X9_oneHour_185).trans <| (s_iadd i_X9_oneHour_186).trans <| (s_v0 [.ref a0, .int (x3 + (nZ 1))] [] i_X9_oneHour_187 rfl (fun _ => rfl)).trans <| c_rcv <| c_clV fun h6 => (s_iinc (ls2 := [.ref a0, .int v1, .int (v2 + nZ 1), .int x3]) i_X9_oneHour_190 rfl (fun _ => rfl)).trans <| (s_goto i_X9_oneHour_193).trans <| rfl)
theorem mc_X9_moors (X : mv_X) (d : Nat) (h : mv_H) (a0 : Nat) (v1 : Int32) (v2 : Int32) (v3 : Int32) (v4 : Int32) : mv_call X (d + 1) 178 [.ref a0, .int v1, .int v2, .int v3, .int v4] h = mv_run X (mv_call X d) m_X9_moors 0 [.ref a0, .int v1, .int v2, .int v3, .int v4] [] h := rfl
theorem bk_X9_moors_0 (X : mv_X) (call : mv_G) (h : mv_H) (a0 : Nat) (v1 : Int32) (v2 : Int32) (v3 : Int32) (v4 : Int32) : mv_run X call m_X9_moors 0 [.ref a0, .int v1, .int v2, .int v3, .int v4] [] h =
  mv_clI call 156 [.int v1] h mv_raise fun x1 h1 =>
  if x1 = 0 then 
  ((some (.inl (some (.int (nZ 1))), h1)))
  else (mv_clI call 150 [.int v2, .int (nZ 1), .int (nZ 99)] h1 mv_raise fun x2 h2 =>
    if x2 = 0 then 
    ((some (.inl (some (.int (nZ 1))), h2)))
    else (mv_clI call 150 [.int v3, .int (nZ 1), .int (nZ 40)] h2 mv_raise fun x3 h3 =>
      if x3 = 0 then 
      ((some (.inl (some (.int (nZ 1))), h3)))
      else (mv_clI call 150 [.int v4, .int (nZ 1), .int (nZ 60)] h3 mv_raise fun x4 h4 =>
        if x4 = 0 then 
        ((some (.inl (some (.int (nZ 1))), h4)))
        else (mv_rcv X h4 [.ref a0, .int v1] 13 (mv_clI call 160 [.ref a0, .int v1] h4 mv_raise fun x5 h5 =>
          if x5 = 0 then 
          (mv_rcv X h5 [.ref a0, .int v1] 13 (mv_clV call 174 [.ref a0, .int v1] h5 mv_raise fun h6 =>
            mv_rcv X h6 [.ref a0, .int v1, .int (nZ 0), .int (nZ 1)] 13 (mv_clV call 159 [.ref a0, .int v1, .int (nZ 0), .int (nZ 1)] h6 mv_raise fun h7 =>
            mv_rcv X h7 [.ref a0, .int v1, .int (nZ 1), .int v2] 13 (mv_clV call 159 [.ref a0, .int v1, .int (nZ 1), .int v2] h7 mv_raise fun h8 =>
            mv_rcv X h8 [.ref a0, .int v1, .int (nZ 2), .int v3] 13 (mv_clV call 159 [.ref a0, .int v1, .int (nZ 2), .int v3] h8 mv_raise fun h9 =>
            mv_rcv X h9 [.ref a0, .int v1, .int (nZ 3), .int v4] 13 (mv_clV call 159 [.ref a0, .int v1, .int (nZ 3), .int v4] h9 mv_raise fun h10 =>
            mv_rcv X h10 [.ref a0, .int v1] 13 (mv_clI call 167 [.ref a0, .int v1] h10 mv_raise fun x6 h11 =>
            mv_rcv X h11 [.ref a0, .int x6] 13 (mv_clI call 153 [.ref a0, .int x6] h11 mv_raise fun x7 h12 =>
            (some (.inl (some (.int x7)), h12))))))))))
          else (mv_rcv X h5 [.ref a0, .int v1] 13 (mv_clI call 167 [.ref a0, .int v1] h5 mv_raise fun x8 h13 =>
            mv_rcv X h13 [.ref a0, .int (nZ 2), .int x8] 13 (mv_clI call 154 [.ref a0, .int (nZ 2), .int x8] h13 mv_raise fun x9 h14 =>
            (some (.inl (some (.int x9)), h14)))))))))) :=
  (s_iload_n rfl rfl).trans <| (s_s1 [.int v1] [] rfl rfl (fun _ => rfl)).trans <| c_clI fun x1 h1 => (s_if_eq rfl).trans <| c_ite ((s_iconst rfl).trans <| s_iret1 rfl rfl) ((s_iload_n rfl rfl).trans <| (s_iconst rfl).trans <| (s_bipush rfl).trans <| (s_s1 [.int v2, .int (nZ 1), .int (nZ 99)] [] rfl rfl (fun _ => rfl)).trans <| c_clI fun x2 h2 => (s_if_eq rfl).trans <| c_ite ((s_iconst rfl).trans <| s_iret1 rfl rfl) ((s_iload_n rfl rfl).trans <| (s_iconst rfl).trans <| (s_bipush rfl).trans <| (s_s1 [.int v3, .int (nZ 1), .int (nZ 40)] [] rfl rfl (fun _ => rfl)).trans <| c_clI fun x3 h3 => (s_if_eq rfl).trans <| c_ite ((s_iconst rfl).trans <| s_iret1 rfl rfl) ((s_iload rfl rfl).trans <| (s_iconst rfl).trans <| (s_bipush rfl).trans <| (s_s1 [.int v4, .int (nZ 1), .int (nZ 60)] [] rfl rfl (fun _ => rfl)).trans <| c_clI fun x4 h4 => (s_if_ne rfl).trans <| c_ite ((s_iconst rfl).trans <| s_iret1 rfl rfl) ((s_aload_n rfl rfl).trans <| (s_iload_n rfl rfl).trans <| (s_v1 [.ref a0, .int v1] [] rfl rfl (fun _ => rfl)).trans <| c_rcv <| c_clI fun x5 h5 => (s_if_eq rfl).trans <| c_ite ((s_aload_n rfl rfl).trans <| (s_iload_n rfl rfl).trans <| (s_v0 [.ref a0, .int v1] [] rfl rfl (fun _ => rfl)).trans <| c_rcv <| c_clV fun h6 => (s_aload_n rfl rfl).trans <| (s_iload_n rfl rfl).trans <| (s_iconst rfl).trans <| (s_iconst rfl).trans <| (s_v0 [.ref a0, .int v1, .int (nZ 0), .int (nZ 1)] [] rfl rfl (fun _ => rfl)).trans <| c_rcv <| c_clV fun h7 => (s_aload_n rfl rfl).trans <| (s_iload_n rfl rfl).trans <| (s_iconst rfl).trans <| (s_iload_n rfl rfl).trans <| (s_v0 [.ref a0, .int v1, .int (nZ 1), .int v2] [] rfl rfl (fun _ => rfl)).trans <| c_rcv <| c_clV fun h8 => (s_aload_n rfl rfl).trans <| (s_iload_n rfl rfl).trans <| (s_iconst rfl).trans <| (s_iload_n rfl rfl).trans <| (s_v0 [.ref a0, .int v1, .int (nZ 2), .int v3] [] rfl rfl (fun _ => rfl)).trans <| c_rcv <| c_clV fun h9 => (s_aload_n rfl rfl).trans <| (s_iload_n rfl rfl).trans <| (s_iconst rfl).trans <| (s_iload rfl rfl).trans <| (s_v0 [.ref a0, .int v1, .int (nZ 3), .int v4] [] rfl rfl (fun _ => rfl)).trans <| c_rcv <| c_clV fun h10 => (s_aload_n rfl rfl).trans <| (s_aload_n rfl rfl).trans <| (s_iload_n rfl rfl).trans <| (s_v1 [.ref a0, .int v1] [.ref a0] rfl rfl (fun _ => rfl)).trans <| c_rcv <| c_clI fun x6 h11 => (s_v1 [.ref a0, .int x6] [] rfl rfl (fun _ => rfl)).trans <| c_rcv <| c_clI fun x7 h12 => s_iret1 rfl rfl) ((s_aload_n rfl rfl).trans <| (s_iconst rfl).trans <| (s_aload_n rfl rfl).trans <| (s_iload_n rfl rfl).trans <| (s_v1 [.ref a0, .int v1] [.int (nZ 2), .ref a0] rfl rfl (fun _ => rfl)).trans <| c_rcv <| c_clI fun x8 h13 => (s_v1 [.ref a0, .int (nZ 2), .int x8] [] rfl rfl (fun _ => rfl)).trans <| c_rcv <| c_clI fun x9 h14 => s_iret1 rfl rfl)))))
theorem mc_X9_casts (X : mv_X) (d : Nat) (h : mv_H) (a0 : Nat) (v1 : Int32) : mv_call X (d + 1) 179 [.ref a0, .int v1] h = mv_run X (mv_call X d) m_X9_casts 0 [.ref a0, .int v1, .retAddr 0] [] h := rfl
theorem bk_X9_casts_0 (X : mv_X) (call : mv_G) (h : mv_H) (a0 : Nat) (v1 : Int32) : mv_run X call m_X9_casts 0 [.ref a0, .int v1, .retAddr 0] [] h =
  mv_rcv X h [.ref a0, .int v1] 13 (mv_clI call 160 [.ref a0, .int v1] h mv_raise fun x1 h1 =>
  if x1 = 0 then 
  ((some (.inl (some (.int (nZ 1))), h1)))
  else (mv_rcv X h1 [.ref a0, .int v1, .int (nZ 0)] 13 (mv_clI call 164 [.ref a0, .int v1, .int (nZ 0)] h1 mv_raise fun x2 h2 =>
    mv_gR X h2 a0 13 1 fun r1 =>
    mv_aI X h2 1 r1 (nZ 3) fun x3 =>
    mv_as h2 1 r1 (nZ 3) (.int (x3 + x2)) fun h3 =>
    mv_rcv X h3 [.ref a0, .int v1] 13 (mv_clV call 174 [.ref a0, .int v1] h3 mv_raise fun h4 =>
    mv_rcv X h4 [.ref a0, .int x2] 13 (mv_clI call 153 [.ref a0, .int x2] h4 mv_raise fun x4 h5 =>
    (some (.inl (some (.int x4)), h5))))))) :=
  (s_aload_n rfl rfl).trans <| (s_iload_n rfl rfl).trans <| (s_v1 [.ref a0, .int v1] [] rfl rfl (fun _ => rfl)).trans <| c_rcv <| c_clI fun x1 h1 => (s_if_ne rfl).trans <| c_ite ((s_iconst rfl).trans <| s_iret1 rfl rfl) ((s_aload_n rfl rfl).trans <| (s_iload_n rfl rfl).trans <| (s_iconst rfl).trans <| (s_v1 [.ref a0, .int v1, .int (nZ 0)] [] rfl rfl (fun _ => rfl)).trans <| c_rcv <| c_clI fun x2 h2 => (s_istore_n (ls2 := [.ref a0, .int v1, .int x2]) rfl (fun _ => rfl)).trans <| (s_aload_n rfl rfl).trans <| (s_gf2 rfl rfl).trans <| c_gR fun r1 => (s_iconst rfl).trans <| (s_dup2 rfl).trans <| (s_iaload rfl).trans <| c_aI fun x3 => (s_iload_n rfl rfl).trans <| (s_iadd rfl).trans <| (s_iastore rfl).trans <| c_as fun h3 => (s_aload_n rfl rfl).trans <| (s_iload_n rfl rfl).trans <| (s_v0 [.ref a0, .int v1] [] rfl rfl (fun _ => rfl)).trans <| c_rcv <| c_clV fun h4 => (s_aload_n rfl rfl).trans <| (s_iload_n rfl rfl).trans <| (s_v1 [.ref a0, .int x2] [] rfl rfl (fun _ => rfl)).trans <| c_rcv <| c_clI fun x4 h5 => s_iret1 rfl rfl)
theorem mc_X9_loads (X : mv_X) (d : Nat) (h : mv_H) (a0 : Nat) (v1 : Int32) (v2 : Int32) : mv_call X (d + 1) 180 [.ref a0, .int v1, .int v2] h = mv_run X (mv_call X d) m_X9_loads 0 [.ref a0, .int v1, .int v2] [] h := rfl
theorem bk_X9_loads_0 (X : mv_X) (call : mv_G) (h : mv_H) (a0 : Nat) (v1 : Int32) (v2 : Int32) : mv_run X call m_X9_loads 0 [.ref a0, .int v1, .int v2] [] h =
  mv_rcv X h [.ref a0, .int v1] 13 (mv_clI call 160 [.ref a0, .int v1] h mv_raise fun x1 h1 =>
  if x1 = 0 then 
  ((some (.inl (some (.int (nZ 1))), h1)))
  else (mv_clI call 150 [.int v2, .int (nZ 1), .int (nZ 20)] h1 mv_raise fun x2 h2 =>
    if x2 = 0 then 
    ((some (.inl (some (.int (nZ 2))), h2)))
    else (mv_rcv X h2 [.ref a0, .int v1, .int (nZ 4)] 13 (mv_clI call 158 [.ref a0, .int v1, .int (nZ 4)] h2 mv_raise fun x3 h3 =>
      if x3 = (nZ 6) then 
      (mv_rcv X h3 [.ref a0, .int (nZ 1), .int (nZ 6)] 13 (mv_clI call 154 [.ref a0, .int (nZ 1), .int (nZ 6)] h3 mv_raise fun x4 h4 =>
        (some (.inl (some (.int x4)), h4))))
      else (mv_rcv X h3 [.ref a0, .int v1, .int (nZ 4)] 13 (mv_clI call 158 [.ref a0, .int v1, .int (nZ 4)] h3 mv_raise fun x5 h5 =>
        mv_rcv X h5 [.ref a0, .int v1, .int ((nZ 5) + x5), .int v2] 13 (mv_clV call 159 [.ref a0, .int v1, .int ((nZ 5) + x5), .int v2] h5 mv_raise fun h6 =>
        mv_rcv X h6 [.ref a0, .int v1, .int (nZ 4)] 13 (mv_clI call 158 [.ref a0, .int v1, .int (nZ 4)] h6 mv_raise fun x6 h7 =>
        mv_rcv X h7 [.ref a0, .int v1, .int (nZ 4), .int (x6 + (nZ 1))] 13 (mv_clV call 159 [.ref a0, .int v1, .int (nZ 4), .int (x6 + (nZ 1))] h7 mv_raise fun h8 =>
        mv_gR X h8 a0 13 1 fun r1 =>
        mv_aI X h8 1 r1 (nZ 2) fun x7 =>
        mv_as h8 1 r1 (nZ 2) (.int (x7 + v2)) fun h9 =>
        mv_rcv X h9 [.ref a0, .int v1, .int (nZ 0)] 13 (mv_clI call 164 [.ref a0, .int v1, .int (nZ 0)] h9 mv_raise fun x8 h10 =>
        mv_rcv X h10 [.ref a0, .int x8] 13 (mv_clI call 153 [.ref a0, .int x8] h10 mv_raise fun x9 h11 =>
        (some (.inl (some (.int x9)), h11))))))))))))) :=
  (s_aload_n rfl rfl).trans <| (s_iload_n rfl rfl).trans <| (s_v1 [.ref a0, .int v1] [] rfl rfl (fun _ => rfl)).trans <| c_rcv <| c_clI fun x1 h1 => (s_if_ne rfl).trans <| c_ite ((s_iconst rfl).trans <| s_iret1 rfl rfl) ((s_iload_n rfl rfl).trans <| (s_iconst rfl).trans <| (s_bipush rfl).trans <| (s_s1 [.int v2, .int (nZ 1), .int (nZ 20)] [] rfl rfl (fun _ => rfl)).trans <| c_clI fun x2 h2 => (s_if_ne rfl).trans <| c_ite ((s_iconst rfl).trans <| s_iret1 rfl rfl) ((s_aload_n rfl rfl).trans <| (s_iload_n rfl rfl).trans <| (s_iconst rfl).trans <| (s_v1 [.ref a0, .int v1, .int (nZ 4)] [] rfl rfl (fun _ => rfl)).trans <| c_rcv <| c_clI fun x3 h3 => (s_bipush rfl).trans <| (s_icmp_ne rfl).trans <| c_ite ((s_aload_n rfl rfl).trans <| (s_iconst rfl).trans <| (s_bipush rfl).trans <| (s_v1 [.ref a0, .int (nZ 1), .int (nZ 6)] [] rfl rfl (fun _ => rfl)).trans <| c_rcv <| c_clI fun x4 h4 => s_iret1 rfl rfl) ((s_aload_n rfl rfl).trans <| (s_iload_n rfl rfl).trans <| (s_iconst rfl).trans <| (s_aload_n rfl rfl).trans <| (s_iload_n rfl rfl).trans <| (s_iconst rfl).trans <| (s_v1 [.ref a0, .int v1, .int (nZ 4)] [.int (nZ 5), .int v1, .ref a0] rfl rfl (fun _ => rfl)).trans <| c_rcv <| c_clI fun x5 h5 => (s_iadd rfl).trans <| (s_iload_n rfl rfl).trans <| (s_v0 [.ref a0, .int v1, .int ((nZ 5) + x5), .int v2] [] rfl rfl (fun _ => rfl)).trans <| c_rcv <| c_clV fun h6 => (s_aload_n rfl rfl).trans <| (s_iload_n rfl rfl).trans <| (s_iconst rfl).trans <| (s_aload_n rfl rfl).trans <| (s_iload_n rfl rfl).trans <| (s_iconst rfl).trans <| (s_v1 [.ref a0, .int v1, .int (nZ 4)] [.int (nZ 4), .int v1, .ref a0] rfl rfl (fun _ => rfl)).trans <| c_rcv <| c_clI fun x6 h7 => (s_iconst rfl).trans <| (s_iadd rfl).trans <| (s_v0 [.ref a0, .int v1, .int (nZ 4), .int (x6 + (nZ 1))] [] rfl rfl (fun _ => rfl)).trans <| c_rcv <| c_clV fun h8 => (s_aload_n rfl rfl).trans <| (s_gf2 rfl rfl).trans <| c_gR fun r1 => (s_iconst rfl).trans <| (s_dup2 rfl).trans <| (s_iaload rfl).trans <| c_aI fun x7 => (s_iload_n rfl rfl).trans <| (s_iadd rfl).trans <| (s_iastore rfl).trans <| c_as fun h9 => (s_aload_n rfl rfl).trans <| (s_aload_n rfl rfl).trans <| (s_iload_n rfl rfl).trans <| (s_iconst rfl).trans <| (s_v1 [.ref a0, .int v1, .int (nZ 0)] [.ref a0] rfl rfl (fun _ => rfl)).trans <| c_rcv <| c_clI fun x8 h10 => (s_v1 [.ref a0, .int x8] [] rfl rfl (fun _ => rfl)).trans <| c_rcv <| c_clI fun x9 h11 => s_iret1 rfl rfl)))
theorem mc_X9_drops (X : mv_X) (d : Nat) (h : mv_H) (a0 : Nat) (v1 : Int32) (v2 : Int32) : mv_call X (d + 1) 181 [.ref a0, .int v1, .int v2] h = mv_run X (mv_call X d) m_X9_drops 0 [.ref a0, .int v1, .int v2, .retAddr 0] [] h := rfl
theorem bk_X9_drops_0 (X : mv_X) (call : mv_G) (h : mv_H) (a0 : Nat) (v1 : Int32) (v2 : Int32) : mv_run X call m_X9_drops 0 [.ref a0, .int v1, .int v2, .retAddr 0] [] h =
  mv_rcv X h [.ref a0, .int v1] 13 (mv_clI call 160 [.ref a0, .int v1] h mv_raise fun x1 h1 =>
  if x1 = 0 then 
  ((some (.inl (some (.int (nZ 1))), h1)))
  else (mv_rcv X h1 [.ref a0, .int v1, .int (nZ 4)] 13 (mv_clI call 158 [.ref a0, .int v1, .int (nZ 4)] h1 mv_raise fun x2 h2 =>
    mv_clI call 150 [.int v2, .int (nZ 0), .int (x2 - (nZ 1))] h2 mv_raise fun x3 h3 =>
    if x3 = 0 then 
    ((some (.inl (some (.int (nZ 2))), h3)))
    else (mv_rcv X h3 [.ref a0, .int v1, .int ((nZ 5) + v2)] 13 (mv_clI call 158 [.ref a0, .int v1, .int ((nZ 5) + v2)] h3 mv_raise fun x4 h4 =>
      mv_rcv X h4 [.ref a0, .int v1, .int v2] 13 (mv_clV call 173 [.ref a0, .int v1, .int v2] h4 mv_raise fun h5 =>
      mv_gR X h5 a0 13 1 fun r1 =>
      mv_aI X h5 1 r1 (nZ 3) fun x5 =>
      mv_as h5 1 r1 (nZ 3) (.int (x5 + x4)) fun h6 =>
      mv_rcv X h6 [.ref a0, .int x4] 13 (mv_clI call 153 [.ref a0, .int x4] h6 mv_raise fun x6 h7 =>
      (some (.inl (some (.int x6)), h7))))))))) :=
  (s_aload_n rfl rfl).trans <| (s_iload_n rfl rfl).trans <| (s_v1 [.ref a0, .int v1] [] rfl rfl (fun _ => rfl)).trans <| c_rcv <| c_clI fun x1 h1 => (s_if_ne rfl).trans <| c_ite ((s_iconst rfl).trans <| s_iret1 rfl rfl) ((s_iload_n rfl rfl).trans <| (s_iconst rfl).trans <| (s_aload_n rfl rfl).trans <| (s_iload_n rfl rfl).trans <| (s_iconst rfl).trans <| (s_v1 [.ref a0, .int v1, .int (nZ 4)] [.int (nZ 0), .int v2] rfl rfl (fun _ => rfl)).trans <| c_rcv <| c_clI fun x2 h2 => (s_iconst rfl).trans <| (s_isub rfl).trans <| (s_s1 [.int v2, .int (nZ 0), .int (x2 - (nZ 1))] [] rfl rfl (fun _ => rfl)).trans <| c_clI fun x3 h3 => (s_if_ne rfl).trans <| c_ite ((s_iconst rfl).trans <| s_iret1 rfl rfl) ((s_aload_n rfl rfl).trans <| (s_iload_n rfl rfl).trans <| (s_iconst rfl).trans <| (s_iload_n rfl rfl).trans <| (s_iadd rfl).trans <| (s_v1 [.ref a0, .int v1, .int ((nZ 5) + v2)] [] rfl rfl (fun _ => rfl)).trans <| c_rcv <| c_clI fun x4 h4 => (s_istore_n (ls2 := [.ref a0, .int v1, .int v2, .int x4]) rfl (fun _ => rfl)).trans <| (s_aload_n rfl rfl).trans <| (s_iload_n rfl rfl).trans <| (s_iload_n rfl rfl).trans <| (s_v0 [.ref a0, .int v1, .int v2] [] rfl rfl (fun _ => rfl)).trans <| c_rcv <| c_clV fun h5 => (s_aload_n rfl rfl).trans <| (s_gf2 rfl rfl).trans <| c_gR fun r1 => (s_iconst rfl).trans <| (s_dup2 rfl).trans <| (s_iaload rfl).trans <| c_aI fun x5 => (s_iload_n rfl rfl).trans <| (s_iadd rfl).trans <| (s_iastore rfl).trans <| c_as fun h6 => (s_aload_n rfl rfl).trans <| (s_iload_n rfl rfl).trans <| (s_v1 [.ref a0, .int x4] [] rfl rfl (fun _ => rfl)).trans <| c_rcv <| c_clI fun x6 h7 => s_iret1 rfl rfl))
theorem mc_X9_rises (X : mv_X) (d : Nat) (h : mv_H) (a0 : Nat) (v1 : Int32) (v2 : Int32) : mv_call X (d + 1) 182 [.ref a0, .int v1, .int v2] h = mv_run X (mv_call X d) m_X9_rises 0 [.ref a0, .int v1, .int v2, .retAddr 0, .retAddr 0] [] h := rfl
theorem bk_X9_rises_0 (X : mv_X) (call : mv_G) (h : mv_H) (a0 : Nat) (v1 : Int32) (v2 : Int32) : mv_run X call m_X9_rises 0 [.ref a0, .int v1, .int v2, .retAddr 0, .retAddr 0] [] h =
  mv_rcv X h [.ref a0, .int v1] 13 (mv_clI call 160 [.ref a0, .int v1] h mv_raise fun x1 h1 =>
  if x1 = 0 then 
  ((some (.inl (some (.int (nZ 1))), h1)))
  else (mv_clI call 150 [.int v2, .int (nZ 1), .int (nZ 40)] h1 mv_raise fun x2 h2 =>
    if x2 = 0 then 
    ((some (.inl (some (.int (nZ 2))), h2)))
    else (mv_rcv X h2 [.ref a0, .int v1] 13 (mv_clI call 167 [.ref a0, .int v1] h2 mv_raise fun x3 h3 =>
      if x3 < v2 then 
      (mv_rcv X h3 [.ref a0, .int v1, .int v2] 13 (mv_clI call 172 [.ref a0, .int v1, .int v2] h3 mv_raise fun x4 h4 =>
        if x4 = (nZ (-1)) then 
        (mv_rcv X h4 [.ref a0, .int v1, .int (nZ 63)] 13 (mv_clI call 166 [.ref a0, .int v1, .int (nZ 63)] h4 mv_raise fun x5 h5 =>
          mv_rcv X h5 [.ref a0, .int (nZ 3), .int x5] 13 (mv_clI call 154 [.ref a0, .int (nZ 3), .int x5] h5 mv_raise fun x6 h6 =>
          (some (.inl (some (.int x6)), h6)))))
        else (mv_run X call m_X9_rises 70 [.ref a0, .int v1, .int v2, .int x4, .int (nZ 5)] [] h4)))
      else (mv_rcv X h3 [.ref a0, .int v1] 13 (mv_clI call 167 [.ref a0, .int v1] h3 mv_raise fun x7 h7 =>
        mv_rcv X h7 [.ref a0, .int (nZ 4), .int x7] 13 (mv_clI call 154 [.ref a0, .int (nZ 4), .int x7] h7 mv_raise fun x8 h8 =>
        (some (.inl (some (.int x8)), h8))))))))) :=
  (s_aload_n rfl rfl).trans <| (s_iload_n rfl rfl).trans <| (s_v1 [.ref a0, .int v1] [] rfl rfl (fun _ => rfl)).trans <| c_rcv <| c_clI fun x1 h1 => (s_if_ne rfl).trans <| c_ite ((s_iconst rfl).trans <| s_iret1 rfl rfl) ((s_iload_n rfl rfl).trans <| (s_iconst rfl).trans <| (s_bipush rfl).trans <| (s_s1 [.int v2, .int (nZ 1), .int (nZ 40)] [] rfl rfl (fun _ => rfl)).trans <| c_clI fun x2 h2 => (s_if_ne rfl).trans <| c_ite ((s_iconst rfl).trans <| s_iret1 rfl rfl) ((s_aload_n rfl rfl).trans <| (s_iload_n rfl rfl).trans <| (s_v1 [.ref a0, .int v1] [] rfl rfl (fun _ => rfl)).trans <| c_rcv <| c_clI fun x3 h3 => (s_iload_n rfl rfl).trans <| (s_icmp_lt rfl).trans <| c_ite ((s_aload_n rfl rfl).trans <| (s_iload_n rfl rfl).trans <| (s_iload_n rfl rfl).trans <| (s_v1 [.ref a0, .int v1, .int v2] [] rfl rfl (fun _ => rfl)).trans <| c_rcv <| c_clI fun x4 h4 => (s_istore_n (ls2 := [.ref a0, .int v1, .int v2, .int x4, .retAddr 0]) rfl (fun _ => rfl)).trans <| (s_iload_n rfl rfl).trans <| (s_iconst rfl).trans <| (s_icmp_ne rfl).trans <| c_ite ((s_aload_n rfl rfl).trans <| (s_iconst rfl).trans <| (s_aload_n rfl rfl).trans <| (s_iload_n rfl rfl).trans <| (s_bipush rfl).trans <| (s_v1 [.ref a0, .int v1, .int (nZ 63)] [.int (nZ 3), .ref a0] rfl rfl (fun _ => rfl)).trans <| c_rcv <| c_clI fun x5 h5 => (s_v1 [.ref a0, .int (nZ 3), .int x5] [] rfl rfl (fun _ => rfl)).trans <| c_rcv <| c_clI fun x6 h6 => s_iret1 rfl rfl) ((s_iconst rfl).trans <| (s_istore (ls2 := [.ref a0, .int v1, .int v2, .int x4, .int (nZ 5)]) rfl (fun _ => rfl)).trans <| rfl)) ((s_aload_n rfl rfl).trans <| (s_iconst rfl).trans <| (s_aload_n rfl rfl).trans <| (s_iload_n rfl rfl).trans <| (s_v1 [.ref a0, .int v1] [.int (nZ 4), .ref a0] rfl rfl (fun _ => rfl)).trans <| c_rcv <| c_clI fun x7 h7 => (s_v1 [.ref a0, .int (nZ 4), .int x7] [] rfl rfl (fun _ => rfl)).trans <| c_rcv <| c_clI fun x8 h8 => s_iret1 rfl rfl)))
theorem bk_X9_rises_70 (X : mv_X) (call : mv_G) (h : mv_H) (a0 : Nat) (v1 : Int32) (v2 : Int32) (v3 : Int32) (v4 : Int32) : mv_run X call m_X9_rises 70 [.ref a0, .int v1, .int v2, .int v3, .int v4] [] h =
  if v4 < 0 then 
  (mv_clI call 170 [.int v3] h mv_raise fun x1 h1 =>
    mv_rcv X h1 [.ref a0, .int x1] 13 (mv_clI call 153 [.ref a0, .int x1] h1 mv_raise fun x2 h2 =>
    (some (.inl (some (.int x2)), h2))))
  else (if ((v3 >>> (v4 &&& 31)) &&& (nZ 1)) = 0 then 
    (mv_run X call m_X9_rises 70 [.ref a0, .int v1, .int v2, .int v3, .int (v4 + nZ (-1))] [] h)
    else (mv_gR X h a0 13 1 fun r1 =>
      mv_aI X h 1 r1 (nZ 3) fun x3 =>
      mv_rcv X h [.ref a0, .int v1, .int ((nZ 5) + v4)] 13 (mv_clI call 158 [.ref a0, .int v1, .int ((nZ 5) + v4)] h mv_raise fun x4 h3 =>
      mv_as h3 1 r1 (nZ 3) (.int (x3 + x4)) fun h4 =>
      mv_rcv X h4 [.ref a0, .int v1, .int v4] 13 (mv_clV call 173 [.ref a0, .int v1, .int v4] h4 mv_raise fun h5 =>
      mv_run X call m_X9_rises 70 [.ref a0, .int v1, .int v2, .int v3, .int (v4 + nZ (-1))] [] h5)))) :=
  (s_iload rfl rfl).trans <| (s_if_lt rfl).trans <| c_ite ((s_aload_n rfl rfl).trans <| (s_iload_n rfl rfl).trans <| (s_s1 [.int v3] [.ref a0] rfl rfl (fun _ => rfl)).trans <| c_clI fun x1 h1 => (s_v1 [.ref a0, .int x1] [] rfl rfl (fun _ => rfl)).trans <| c_rcv <| c_clI fun x2 h2 => s_iret1 rfl rfl) ((s_iload_n rfl rfl).trans <| (s_iload rfl rfl).trans <| (s_ishr rfl).trans <| (s_iconst rfl).trans <| (s_iand rfl).trans <| (s_if_ne rfl).trans <| c_ite ((s_goto rfl).trans <| (s_iinc (ls2 := [.ref a0, .int v1, .int v2, .int v3, .int (v4 + nZ (-1))]) rfl rfl (fun _ => rfl)).trans <| (s_goto rfl).trans <| rfl) ((s_aload_n rfl rfl).trans <| (s_gf2 rfl rfl).trans <| c_gR fun r1 => (s_iconst rfl).trans <| (s_dup2 rfl).trans <| (s_iaload rfl).trans <| c_aI fun x3 => (s_aload_n rfl rfl).trans <| (s_iload_n rfl rfl).trans <| (s_iconst rfl).trans <| (s_iload rfl rfl).trans <| (s_iadd rfl).trans <| (s_v1 [.ref a0, .int v1, .int ((nZ 5) + v4)] [.int x3, .int (nZ 3), .ref r1] rfl rfl (fun _ => rfl)).trans <| c_rcv <| c_clI fun x4 h3 => (s_iadd rfl).trans <| (s_iastore rfl).trans <| c_as fun h4 => (s_aload_n rfl rfl).trans <| (s_iload_n rfl rfl).trans <| (s_iload rfl rfl).trans <| (s_v0 [.ref a0, .int v1, .int v4] [] rfl rfl (fun _ => rfl)).trans <| c_rcv <| c_clV fun h5 => (s_iinc (ls2 := [.ref a0, .int v1, .int v2, .int v3, .int (v4 + nZ (-1))]) rfl rfl (fun _ => rfl)).trans <| (s_goto rfl).trans <| rfl))
theorem mc_X9_blows (X : mv_X) (d : Nat) (h : mv_H) (a0 : Nat) (v1 : Int32) (v2 : Int32) : mv_call X (d + 1) 183 [.ref a0, .int v1, .int v2] h = mv_run X (mv_call X d) m_X9_blows 0 [.ref a0, .int v1, .int v2, .retAddr 0] [] h := rfl
theorem bk_X9_blows_0 (X : mv_X) (call : mv_G) (h : mv_H) (a0 : Nat) (v1 : Int32) (v2 : Int32) : mv_run X call m_X9_blows 0 [.ref a0, .int v1, .int v2, .retAddr 0] [] h =
  mv_clI call 157 [.int v1] h mv_raise fun x1 h1 =>
  if x1 = 0 then 
  ((some (.inl (some (.int (nZ 1))), h1)))
  else (mv_clI call 150 [.int v2, .int (nZ (-9)), .int (nZ 9)] h1 mv_raise fun x2 h2 =>
    if x2 = 0 then 
    ((some (.inl (some (.int (nZ 1))), h2)))
    else (mv_gR X h2 a0 13 1 fun r1 =>
      mv_aI X h2 1 r1 ((nZ 116) + v1) fun x3 =>
      if x3 = v2 then 
      (mv_rcv X h2 [.ref a0, .int (nZ 5), .int v2] 13 (mv_clI call 154 [.ref a0, .int (nZ 5), .int v2] h2 mv_raise fun x4 h3 =>
        (some (.inl (some (.int x4)), h3))))
      else (mv_gR X h2 a0 13 1 fun r2 =>
        mv_as h2 1 r2 ((nZ 116) + v1) (.int v2) fun h4 =>
        mv_rcv X h4 [.ref a0, .int x3] 13 (mv_clI call 153 [.ref a0, .int x3] h4 mv_raise fun x5 h5 =>
        (some (.inl (some (.int x5)), h5)))))) :=
  (s_iload_n rfl rfl).trans <| (s_s1 [.int v1] [] rfl rfl (fun _ => rfl)).trans <| c_clI fun x1 h1 => (s_if_eq rfl).trans <| c_ite ((s_iconst rfl).trans <| s_iret1 rfl rfl) ((s_iload_n rfl rfl).trans <| (s_bipush rfl).trans <| (s_bipush rfl).trans <| (s_s1 [.int v2, .int (nZ (-9)), .int (nZ 9)] [] rfl rfl (fun _ => rfl)).trans <| c_clI fun x2 h2 => (s_if_ne rfl).trans <| c_ite ((s_iconst rfl).trans <| s_iret1 rfl rfl) ((s_aload_n rfl rfl).trans <| (s_gf2 rfl rfl).trans <| c_gR fun r1 => (s_bipush rfl).trans <| (s_iload_n rfl rfl).trans <| (s_iadd rfl).trans <| (s_iaload rfl).trans <| c_aI fun x3 => (s_istore_n (ls2 := [.ref a0, .int v1, .int v2, .int x3]) rfl (fun _ => rfl)).trans <| (s_iload_n rfl rfl).trans <| (s_iload_n rfl rfl).trans <| (s_icmp_ne rfl).trans <| c_ite ((s_aload_n rfl rfl).trans <| (s_iconst rfl).trans <| (s_iload_n rfl rfl).trans <| (s_v1 [.ref a0, .int (nZ 5), .int v2] [] rfl rfl (fun _ => rfl)).trans <| c_rcv <| c_clI fun x4 h3 => s_iret1 rfl rfl) ((s_aload_n rfl rfl).trans <| (s_gf2 rfl rfl).trans <| c_gR fun r2 => (s_bipush rfl).trans <| (s_iload_n rfl rfl).trans <| (s_iadd rfl).trans <| (s_iload_n rfl rfl).trans <| (s_iastore rfl).trans <| c_as fun h4 => (s_aload_n rfl rfl).trans <| (s_iload_n rfl rfl).trans <| (s_v1 [.ref a0, .int x3] [] rfl rfl (fun _ => rfl)).trans <| c_rcv <| c_clI fun x5 h5 => s_iret1 rfl rfl)))
theorem mc_X9_passes (X : mv_X) (d : Nat) (h : mv_H) (a0 : Nat) (v1 : Int32) : mv_call X (d + 1) 184 [.ref a0, .int v1] h = mv_run X (mv_call X d) m_X9_passes 0 [.ref a0, .int v1, .retAddr 0, .retAddr 0] [] h := rfl
theorem bk_X9_passes_0 (X : mv_X) (call : mv_G) (h : mv_H) (a0 : Nat) (v1 : Int32) : mv_run X call m_X9_passes 0 [.ref a0, .int v1, .retAddr 0, .retAddr 0] [] h =
  mv_clI call 150 [.int v1, .int (nZ 1), .int (nZ 48)] h mv_raise fun x1 h1 =>
  if x1 = 0 then 
  ((some (.inl (some (.int (nZ 1))), h1)))
  else (mv_run X call m_X9_passes 16 [.ref a0, .int v1, .int (nZ 0), .int (nZ 0)] [] h1) :=
  (s_iload_n rfl rfl).trans <| (s_iconst rfl).trans <| (s_bipush rfl).trans <| (s_s1 [.int v1, .int (nZ 1), .int (nZ 48)] [] rfl rfl (fun _ => rfl)).trans <| c_clI fun x1 h1 => (s_if_ne rfl).trans <| c_ite ((s_iconst rfl).trans <| s_iret1 rfl rfl) ((s_iconst rfl).trans <| (s_istore_n (ls2 := [.ref a0, .int v1, .int (nZ 0), .retAddr 0]) rfl (fun _ => rfl)).trans <| (s_iconst rfl).trans <| (s_istore_n (ls2 := [.ref a0, .int v1, .int (nZ 0), .int (nZ 0)]) rfl (fun _ => rfl)).trans <| rfl)
theorem bk_X9_passes_16 (X : mv_X) (call : mv_G) (h : mv_H) (a0 : Nat) (v1 : Int32) (v2 : Int32) (v3 : Int32) : mv_run X call m_X9_passes 16 [.ref a0, .int v1, .int v2, .int v3] [] h =
  if v1 ≤ v3 then 
  (mv_rcv X h [.ref a0, .int v2] 13 (mv_clI call 153 [.ref a0, .int v2] h mv_raise fun x1 h1 =>
    (some (.inl (some (.int x1)), h1))))
  else (mv_rcv X h [.ref a0] 13 (mv_clI call 177 [.ref a0] h mv_raise fun x2 h2 =>
    mv_run X call m_X9_passes 16 [.ref a0, .int v1, .int (v2 + x2), .int (v3 + nZ 1)] [] h2)) :=
  (s_iload_n rfl rfl).trans <| (s_iload_n rfl rfl).trans <| (s_icmp_ge rfl).trans <| c_ite ((s_aload_n rfl rfl).trans <| (s_iload_n rfl rfl).trans <| (s_v1 [.ref a0, .int v2] [] rfl rfl (fun _ => rfl)).trans <| c_rcv <| c_clI fun x1 h1 => s_iret1 rfl rfl) ((s_iload_n rfl rfl).trans <| (s_aload_n rfl rfl).trans <| (s_v1 [.ref a0] [.int v2] rfl rfl (fun _ => rfl)).trans <| c_rcv <| c_clI fun x2 h2 => (s_iadd rfl).trans <| (s_istore_n (ls2 := [.ref a0, .int v1, .int (v2 + x2), .int v3]) rfl (fun _ => rfl)).trans <| (s_iinc (ls2 := [.ref a0, .int v1, .int (v2 + x2), .int (v3 + nZ 1)]) rfl rfl (fun _ => rfl)).trans <| (s_goto rfl).trans <| rfl)
theorem mc_X9_joins (X : mv_X) (d : Nat) (h : mv_H) (a0 : Nat) (v1 : Int32) (v2 : Int32) (v3 : Int32) : mv_call X (d + 1) 185 [.ref a0, .int v1, .int v2, .int v3] h = mv_run X (mv_call X d) m_X9_joins 0 [.ref a0, .int v1, .int v2, .int v3, .retAddr 0] [] h := rfl
theorem bk_X9_joins_0 (X : mv_X) (call : mv_G) (h : mv_H) (a0 : Nat) (v1 : Int32) (v2 : Int32) (v3 : Int32) : mv_run X call m_X9_joins 0 [.ref a0, .int v1, .int v2, .int v3, .retAddr 0] [] h =
  mv_clI call 150 [.int v1, .int (nZ 1), .int (nZ 30)] h mv_raise fun x1 h1 =>
  if x1 = 0 then 
  ((some (.inl (some (.int (nZ 1))), h1)))
  else (mv_clI call 157 [.int v2] h1 mv_raise fun x2 h2 =>
    if x2 = 0 then 
    ((some (.inl (some (.int (nZ 1))), h2)))
    else (mv_clI call 157 [.int v3] h2 mv_raise fun x3 h3 =>
      if x3 = 0 then 
      ((some (.inl (some (.int (nZ 1))), h3)))
      else (mv_gR X h3 a0 13 1 fun r1 =>
        mv_aI X h3 1 r1 (nZ 5) fun x4 =>
        if x4 = (nZ 6) then 
        (mv_rcv X h3 [.ref a0, .int (nZ 1), .int (nZ 6)] 13 (mv_clI call 154 [.ref a0, .int (nZ 1), .int (nZ 6)] h3 mv_raise fun x5 h4 =>
          (some (.inl (some (.int x5)), h4))))
        else (mv_gR X h3 a0 13 1 fun r2 =>
          mv_as h3 1 r2 (((nZ 140) + ((nZ 3) * x4)) + (nZ 0)) (.int v1) fun h5 =>
          mv_gR X h5 a0 13 1 fun r3 =>
          mv_as h5 1 r3 (((nZ 140) + ((nZ 3) * x4)) + (nZ 1)) (.int v2) fun h6 =>
          mv_gR X h6 a0 13 1 fun r4 =>
          mv_as h6 1 r4 (((nZ 140) + ((nZ 3) * x4)) + (nZ 2)) (.int v3) fun h7 =>
          mv_gR X h7 a0 13 1 fun r5 =>
          mv_as h7 1 r5 (nZ 5) (.int (x4 + (nZ 1))) fun h8 =>
          mv_rcv X h8 [.ref a0, .int x4] 13 (mv_clI call 153 [.ref a0, .int x4] h8 mv_raise fun x6 h9 =>
          (some (.inl (some (.int x6)), h9))))))) :=
  (s_iload_n rfl rfl).trans <| (s_iconst rfl).trans <| (s_bipush rfl).trans <| (s_s1 [.int v1, .int (nZ 1), .int (nZ 30)] [] rfl rfl (fun _ => rfl)).trans <| c_clI fun x1 h1 => (s_if_eq rfl).trans <| c_ite ((s_iconst rfl).trans <| s_iret1 rfl rfl) ((s_iload_n rfl rfl).trans <| (s_s1 [.int v2] [] rfl rfl (fun _ => rfl)).trans <| c_clI fun x2 h2 => (s_if_eq rfl).trans <| c_ite ((s_iconst rfl).trans <| s_iret1 rfl rfl) ((s_iload_n rfl rfl).trans <| (s_s1 [.int v3] [] rfl rfl (fun _ => rfl)).trans <| c_clI fun x3 h3 => (s_if_ne rfl).trans <| c_ite ((s_iconst rfl).trans <| s_iret1 rfl rfl) ((s_aload_n rfl rfl).trans <| (s_gf2 rfl rfl).trans <| c_gR fun r1 => (s_iconst rfl).trans <| (s_iaload rfl).trans <| c_aI fun x4 => (s_istore (ls2 := [.ref a0, .int v1, .int v2, .int v3, .int x4]) rfl (fun _ => rfl)).trans <| (s_iload rfl rfl).trans <| (s_bipush rfl).trans <| (s_icmp_ne rfl).trans <| c_ite ((s_aload_n rfl rfl).trans <| (s_iconst rfl).trans <| (s_bipush rfl).trans <| (s_v1 [.ref a0, .int (nZ 1), .int (nZ 6)] [] rfl rfl (fun _ => rfl)).trans <| c_rcv <| c_clI fun x5 h4 => s_iret1 rfl rfl) ((s_aload_n rfl rfl).trans <| (s_gf2 rfl rfl).trans <| c_gR fun r2 => (s_sipush rfl).trans <| (s_iconst rfl).trans <| (s_iload rfl rfl).trans <| (s_imul rfl).trans <| (s_iadd rfl).trans <| (s_iconst rfl).trans <| (s_iadd rfl).trans <| (s_iload_n rfl rfl).trans <| (s_iastore rfl).trans <| c_as fun h5 => (s_aload_n rfl rfl).trans <| (s_gf2 rfl rfl).trans <| c_gR fun r3 => (s_sipush rfl).trans <| (s_iconst rfl).trans <| (s_iload rfl rfl).trans <| (s_imul rfl).trans <| (s_iadd rfl).trans <| (s_iconst rfl).trans <| (s_iadd rfl).trans <| (s_iload_n rfl rfl).trans <| (s_iastore rfl).trans <| c_as fun h6 => (s_aload_n rfl rfl).trans <| (s_gf2 rfl rfl).trans <| c_gR fun r4 => (s_sipush rfl).trans <| (s_iconst rfl).trans <| (s_iload rfl rfl).trans <| (s_imul rfl).trans <| (s_iadd rfl).trans <| (s_iconst rfl).trans <| (s_iadd rfl).trans <| (s_iload_n rfl rfl).trans <| (s_iastore rfl).trans <| c_as fun h7 => (s_aload_n rfl rfl).trans <| (s_gf2 rfl rfl).trans <| c_gR fun r5 => (s_iconst rfl).trans <| (s_iload rfl rfl).trans <| (s_iconst rfl).trans <| (s_iadd rfl).trans <| (s_iastore rfl).trans <| c_as fun h8 => (s_aload_n rfl rfl).trans <| (s_iload rfl rfl).trans <| (s_v1 [.ref a0, .int x4] [] rfl rfl (fun _ => rfl)).trans <| c_rcv <| c_clI fun x6 h9 => s_iret1 rfl rfl))))
theorem mc_X9_leaves (X : mv_X) (d : Nat) (h : mv_H) (a0 : Nat) (v1 : Int32) : mv_call X (d + 1) 186 [.ref a0, .int v1] h = mv_run X (mv_call X d) m_X9_leaves 0 [.ref a0, .int v1, .retAddr 0, .retAddr 0] [] h := rfl
theorem bk_X9_leaves_0 (X : mv_X) (call : mv_G) (h : mv_H) (a0 : Nat) (v1 : Int32) : mv_run X call m_X9_leaves 0 [.ref a0, .int v1, .retAddr 0, .retAddr 0] [] h =
  mv_rcv X h [.ref a0, .int v1] 13 (mv_clI call 161 [.ref a0, .int v1] h mv_raise fun x1 h1 =>
  if x1 = 0 then 
  ((some (.inl (some (.int (nZ 1))), h1)))
  else (mv_gR X h1 a0 13 1 fun r1 =>
    mv_aI X h1 1 r1 (nZ 5) fun x2 =>
    mv_run X call m_X9_leaves 23 [.ref a0, .int v1, .int (x2 - (nZ 1)), .int ((nZ 3) * v1)] [] h1)) :=
  (s_aload_n rfl rfl).trans <| (s_iload_n rfl rfl).trans <| (s_v1 [.ref a0, .int v1] [] rfl rfl (fun _ => rfl)).trans <| c_rcv <| c_clI fun x1 h1 => (s_if_ne rfl).trans <| c_ite ((s_iconst rfl).trans <| s_iret1 rfl rfl) ((s_aload_n rfl rfl).trans <| (s_gf2 rfl rfl).trans <| c_gR fun r1 => (s_iconst rfl).trans <| (s_iaload rfl).trans <| c_aI fun x2 => (s_iconst rfl).trans <| (s_isub rfl).trans <| (s_istore_n (ls2 := [.ref a0, .int v1, .int (x2 - (nZ 1)), .retAddr 0]) rfl (fun _ => rfl)).trans <| (s_iconst rfl).trans <| (s_iload_n rfl rfl).trans <| (s_imul rfl).trans <| (s_istore_n (ls2 := [.ref a0, .int v1, .int (x2 - (nZ 1)), .int ((nZ 3) * v1)]) rfl (fun _ => rfl)).trans <| rfl)
theorem bk_X9_leaves_23 (X : mv_X) (call : mv_G) (h : mv_H) (a0 : Nat) (v1 : Int32) (v2 : Int32) (v3 : Int32) : mv_run X call m_X9_leaves 23 [.ref a0, .int v1, .int v2, .int v3] [] h =
  if ((nZ 3) * v2) ≤ v3 then 
  (mv_run X call m_X9_leaves 60 [.ref a0, .int v1, .int v2, .int (nZ 0)] [] h)
  else (mv_gR X h a0 13 1 fun r1 =>
    mv_gR X h a0 13 1 fun r2 =>
    mv_aI X h 1 r2 (((nZ 140) + v3) + (nZ 3)) fun x1 =>
    mv_as h 1 r1 ((nZ 140) + v3) (.int x1) fun h1 =>
    mv_run X call m_X9_leaves 23 [.ref a0, .int v1, .int v2, .int (v3 + nZ 1)] [] h1) :=
  (s_iload_n rfl rfl).trans <| (s_iconst rfl).trans <| (s_iload_n rfl rfl).trans <| (s_imul rfl).trans <| (s_icmp_ge rfl).trans <| c_ite ((s_iconst rfl).trans <| (s_istore_n (ls2 := [.ref a0, .int v1, .int v2, .int (nZ 0)]) rfl (fun _ => rfl)).trans <| rfl) ((s_aload_n rfl rfl).trans <| (s_gf2 rfl rfl).trans <| c_gR fun r1 => (s_sipush rfl).trans <| (s_iload_n rfl rfl).trans <| (s_iadd rfl).trans <| (s_aload_n rfl rfl).trans <| (s_gf2 rfl rfl).trans <| c_gR fun r2 => (s_sipush rfl).trans <| (s_iload_n rfl rfl).trans <| (s_iadd rfl).trans <| (s_iconst rfl).trans <| (s_iadd rfl).trans <| (s_iaload rfl).trans <| c_aI fun x1 => (s_iastore rfl).trans <| c_as fun h1 => (s_iinc (ls2 := [.ref a0, .int v1, .int v2, .int (v3 + nZ 1)]) rfl rfl (fun _ => rfl)).trans <| (s_goto rfl).trans <| rfl)
theorem bk_X9_leaves_60 (X : mv_X) (call : mv_G) (h : mv_H) (a0 : Nat) (v1 : Int32) (v2 : Int32) (v3 : Int32) : mv_run X call m_X9_leaves 60 [.ref a0, .int v1, .int v2, .int v3] [] h =
  if (nZ 3) ≤ v3 then 
  (mv_gR X h a0 13 1 fun r1 =>
    mv_as h 1 r1 (nZ 5) (.int v2) fun h1 =>
    mv_rcv X h1 [.ref a0, .int v2] 13 (mv_clI call 153 [.ref a0, .int v2] h1 mv_raise fun x1 h2 =>
    (some (.inl (some (.int x1)), h2))))
  else (mv_gR X h a0 13 1 fun r2 =>
    mv_as h 1 r2 (((nZ 140) + ((nZ 3) * v2)) + v3) (.int (nZ 0)) fun h3 =>
    mv_run X call m_X9_leaves 60 [.ref a0, .int v1, .int v2, .int (v3 + nZ 1)] [] h3) :=
  (s_iload_n rfl rfl).trans <| (s_iconst rfl).trans <| (s_icmp_ge rfl).trans <| c_ite ((s_aload_n rfl rfl).trans <| (s_gf2 rfl rfl).trans <| c_gR fun r1 => (s_iconst rfl).trans <| (s_iload_n rfl rfl).trans <| (s_iastore rfl).trans <| c_as fun h1 => (s_aload_n rfl rfl).trans <| (s_iload_n rfl rfl).trans <| (s_v1 [.ref a0, .int v2] [] rfl rfl (fun _ => rfl)).trans <| c_rcv <| c_clI fun x1 h2 => s_iret1 rfl rfl) ((s_aload_n rfl rfl).trans <| (s_gf2 rfl rfl).trans <| c_gR fun r2 => (s_sipush rfl).trans <| (s_iconst rfl).trans <| (s_iload_n rfl rfl).trans <| (s_imul rfl).trans <| (s_iadd rfl).trans <| (s_iload_n rfl rfl).trans <| (s_iadd rfl).trans <| (s_iconst rfl).trans <| (s_iastore rfl).trans <| c_as fun h3 => (s_iinc (ls2 := [.ref a0, .int v1, .int v2, .int (v3 + nZ 1)]) rfl rfl (fun _ => rfl)).trans <| (s_goto rfl).trans <| rfl)
theorem mc_X9_moor (X : mv_X) (d : Nat) (h : mv_H) (a0 : Nat) (v1 : Int32) (v2 : Int32) (v3 : Int32) (v4 : Int32) : mv_call X (d + 1) 187 [.ref a0, .int v1, .int v2, .int v3, .int v4] h = mv_run X (mv_call X d) m_X9_moor 0 [.ref a0, .int v1, .int v2, .int v3, .int v4] [] h := rfl
theorem bk_X9_moor_0 (X : mv_X) (call : mv_G) (h : mv_H) (a0 : Nat) (v1 : Int32) (v2 : Int32) (v3 : Int32) (v4 : Int32) : mv_run X call m_X9_moor 0 [.ref a0, .int v1, .int v2, .int v3, .int v4] [] h =
  mv_rcv X h [.ref a0] 13 (mv_clV call 151 [.ref a0] h mv_raise fun h1 =>
  mv_rcv X h1 [.ref a0, .int v1, .int v2, .int v3, .int v4] 13 (mv_clI call 178 [.ref a0, .int v1, .int v2, .int v3, .int v4] h1 mv_raise fun x1 h2 =>
  mv_rcv X h2 [.ref a0, .int x1, .int (nZ 2)] 13 (mv_clI call 155 [.ref a0, .int x1, .int (nZ 2)] h2 mv_raise fun x2 h3 =>
  (some (.inl (some (.int x2)), h3))))) :=
  (s_aload_n rfl rfl).trans <| (s_v0 [.ref a0] [] rfl rfl (fun _ => rfl)).trans <| c_rcv <| c_clV fun h1 => (s_aload_n rfl rfl).trans <| (s_aload_n rfl rfl).trans <| (s_iload_n rfl rfl).trans <| (s_iload_n rfl rfl).trans <| (s_iload_n rfl rfl).trans <| (s_iload rfl rfl).trans <| (s_v1 [.ref a0, .int v1, .int v2, .int v3, .int v4] [.ref a0] rfl rfl (fun _ => rfl)).trans <| c_rcv <| c_clI fun x1 h2 => (s_iconst rfl).trans <| (s_v1 [.ref a0, .int x1, .int (nZ 2)] [] rfl rfl (fun _ => rfl)).trans <| c_rcv <| c_clI fun x2 h3 => s_iret1 rfl rfl
theorem mc_X9_castOff (X : mv_X) (d : Nat) (h : mv_H) (a0 : Nat) (v1 : Int32) : mv_call X (d + 1) 188 [.ref a0, .int v1] h = mv_run X (mv_call X d) m_X9_castOff 0 [.ref a0, .int v1] [] h := rfl
theorem bk_X9_castOff_0 (X : mv_X) (call : mv_G) (h : mv_H) (a0 : Nat) (v1 : Int32) : mv_run X call m_X9_castOff 0 [.ref a0, .int v1] [] h =
  mv_rcv X h [.ref a0] 13 (mv_clV call 151 [.ref a0] h mv_raise fun h1 =>
  mv_rcv X h1 [.ref a0, .int v1] 13 (mv_clI call 179 [.ref a0, .int v1] h1 mv_raise fun x1 h2 =>
  mv_rcv X h2 [.ref a0, .int x1, .int (nZ 1)] 13 (mv_clI call 155 [.ref a0, .int x1, .int (nZ 1)] h2 mv_raise fun x2 h3 =>
  (some (.inl (some (.int x2)), h3))))) :=
  (s_aload_n rfl rfl).trans <| (s_v0 [.ref a0] [] rfl rfl (fun _ => rfl)).trans <| c_rcv <| c_clV fun h1 => (s_aload_n rfl rfl).trans <| (s_aload_n rfl rfl).trans <| (s_iload_n rfl rfl).trans <| (s_v1 [.ref a0, .int v1] [.ref a0] rfl rfl (fun _ => rfl)).trans <| c_rcv <| c_clI fun x1 h2 => (s_iconst rfl).trans <| (s_v1 [.ref a0, .int x1, .int (nZ 1)] [] rfl rfl (fun _ => rfl)).trans <| c_rcv <| c_clI fun x2 h3 => s_iret1 rfl rfl
theorem mc_X9_load (X : mv_X) (d : Nat) (h : mv_H) (a0 : Nat) (v1 : Int32) (v2 : Int32) : mv_call X (d + 1) 189 [.ref a0, .int v1, .int v2] h = mv_run X (mv_call X d) m_X9_load 0 [.ref a0, .int v1, .int v2] [] h := rfl
theorem bk_X9_load_0 (X : mv_X) (call : mv_G) (h : mv_H) (a0 : Nat) (v1 : Int32) (v2 : Int32) : mv_run X call m_X9_load 0 [.ref a0, .int v1, .int v2] [] h =
  mv_rcv X h [.ref a0] 13 (mv_clV call 151 [.ref a0] h mv_raise fun h1 =>
  mv_rcv X h1 [.ref a0, .int v1, .int v2] 13 (mv_clI call 180 [.ref a0, .int v1, .int v2] h1 mv_raise fun x1 h2 =>
  mv_rcv X h2 [.ref a0, .int x1, .int (nZ 3)] 13 (mv_clI call 155 [.ref a0, .int x1, .int (nZ 3)] h2 mv_raise fun x2 h3 =>
  (some (.inl (some (.int x2)), h3))))) :=
  (s_aload_n rfl rfl).trans <| (s_v0 [.ref a0] [] rfl rfl (fun _ => rfl)).trans <| c_rcv <| c_clV fun h1 => (s_aload_n rfl rfl).trans <| (s_aload_n rfl rfl).trans <| (s_iload_n rfl rfl).trans <| (s_iload_n rfl rfl).trans <| (s_v1 [.ref a0, .int v1, .int v2] [.ref a0] rfl rfl (fun _ => rfl)).trans <| c_rcv <| c_clI fun x1 h2 => (s_iconst rfl).trans <| (s_v1 [.ref a0, .int x1, .int (nZ 3)] [] rfl rfl (fun _ => rfl)).trans <| c_rcv <| c_clI fun x2 h3 => s_iret1 rfl rfl
theorem mc_X9_drop (X : mv_X) (d : Nat) (h : mv_H) (a0 : Nat) (v1 : Int32) (v2 : Int32) : mv_call X (d + 1) 190 [.ref a0, .int v1, .int v2] h = mv_run X (mv_call X d) m_X9_drop 0 [.ref a0, .int v1, .int v2] [] h := rfl
theorem bk_X9_drop_0 (X : mv_X) (call : mv_G) (h : mv_H) (a0 : Nat) (v1 : Int32) (v2 : Int32) : mv_run X call m_X9_drop 0 [.ref a0, .int v1, .int v2] [] h =
  mv_rcv X h [.ref a0] 13 (mv_clV call 151 [.ref a0] h mv_raise fun h1 =>
  mv_rcv X h1 [.ref a0, .int v1, .int v2] 13 (mv_clI call 181 [.ref a0, .int v1, .int v2] h1 mv_raise fun x1 h2 =>
  mv_rcv X h2 [.ref a0, .int x1, .int (nZ 2)] 13 (mv_clI call 155 [.ref a0, .int x1, .int (nZ 2)] h2 mv_raise fun x2 h3 =>
  (some (.inl (some (.int x2)), h3))))) :=
  (s_aload_n rfl rfl).trans <| (s_v0 [.ref a0] [] rfl rfl (fun _ => rfl)).trans <| c_rcv <| c_clV fun h1 => (s_aload_n rfl rfl).trans <| (s_aload_n rfl rfl).trans <| (s_iload_n rfl rfl).trans <| (s_iload_n rfl rfl).trans <| (s_v1 [.ref a0, .int v1, .int v2] [.ref a0] rfl rfl (fun _ => rfl)).trans <| c_rcv <| c_clI fun x1 h2 => (s_iconst rfl).trans <| (s_v1 [.ref a0, .int x1, .int (nZ 2)] [] rfl rfl (fun _ => rfl)).trans <| c_rcv <| c_clI fun x2 h3 => s_iret1 rfl rfl
theorem mc_X9_rise (X : mv_X) (d : Nat) (h : mv_H) (a0 : Nat) (v1 : Int32) (v2 : Int32) : mv_call X (d + 1) 191 [.ref a0, .int v1, .int v2] h = mv_run X (mv_call X d) m_X9_rise 0 [.ref a0, .int v1, .int v2] [] h := rfl
theorem bk_X9_rise_0 (X : mv_X) (call : mv_G) (h : mv_H) (a0 : Nat) (v1 : Int32) (v2 : Int32) : mv_run X call m_X9_rise 0 [.ref a0, .int v1, .int v2] [] h =
  mv_rcv X h [.ref a0] 13 (mv_clV call 151 [.ref a0] h mv_raise fun h1 =>
  mv_rcv X h1 [.ref a0, .int v1, .int v2] 13 (mv_clI call 182 [.ref a0, .int v1, .int v2] h1 mv_raise fun x1 h2 =>
  mv_rcv X h2 [.ref a0, .int x1, .int (nZ 3)] 13 (mv_clI call 155 [.ref a0, .int x1, .int (nZ 3)] h2 mv_raise fun x2 h3 =>
  (some (.inl (some (.int x2)), h3))))) :=
  (s_aload_n rfl rfl).trans <| (s_v0 [.ref a0] [] rfl rfl (fun _ => rfl)).trans <| c_rcv <| c_clV fun h1 => (s_aload_n rfl rfl).trans <| (s_aload_n rfl rfl).trans <| (s_iload_n rfl rfl).trans <| (s_iload_n rfl rfl).trans <| (s_v1 [.ref a0, .int v1, .int v2] [.ref a0] rfl rfl (fun _ => rfl)).trans <| c_rcv <| c_clI fun x1 h2 => (s_iconst rfl).trans <| (s_v1 [.ref a0, .int x1, .int (nZ 3)] [] rfl rfl (fun _ => rfl)).trans <| c_rcv <| c_clI fun x2 h3 => s_iret1 rfl rfl
theorem mc_X9_setWind (X : mv_X) (d : Nat) (h : mv_H) (a0 : Nat) (v1 : Int32) (v2 : Int32) : mv_call X (d + 1) 192 [.ref a0, .int v1, .int v2] h = mv_run X (mv_call X d) m_X9_setWind 0 [.ref a0, .int v1, .int v2] [] h := rfl
theorem bk_X9_setWind_0 (X : mv_X) (call : mv_G) (h : mv_H) (a0 : Nat) (v1 : Int32) (v2 : Int32) : mv_run X call m_X9_setWind 0 [.ref a0, .int v1, .int v2] [] h =
  mv_rcv X h [.ref a0] 13 (mv_clV call 151 [.ref a0] h mv_raise fun h1 =>
  mv_rcv X h1 [.ref a0, .int v1, .int v2] 13 (mv_clI call 183 [.ref a0, .int v1, .int v2] h1 mv_raise fun x1 h2 =>
  mv_rcv X h2 [.ref a0, .int x1, .int (nZ 2)] 13 (mv_clI call 155 [.ref a0, .int x1, .int (nZ 2)] h2 mv_raise fun x2 h3 =>
  (some (.inl (some (.int x2)), h3))))) :=
  (s_aload_n rfl rfl).trans <| (s_v0 [.ref a0] [] rfl rfl (fun _ => rfl)).trans <| c_rcv <| c_clV fun h1 => (s_aload_n rfl rfl).trans <| (s_aload_n rfl rfl).trans <| (s_iload_n rfl rfl).trans <| (s_iload_n rfl rfl).trans <| (s_v1 [.ref a0, .int v1, .int v2] [.ref a0] rfl rfl (fun _ => rfl)).trans <| c_rcv <| c_clI fun x1 h2 => (s_iconst rfl).trans <| (s_v1 [.ref a0, .int x1, .int (nZ 2)] [] rfl rfl (fun _ => rfl)).trans <| c_rcv <| c_clI fun x2 h3 => s_iret1 rfl rfl
theorem mc_X9_addPilot (X : mv_X) (d : Nat) (h : mv_H) (a0 : Nat) (v1 : Int32) (v2 : Int32) (v3 : Int32) : mv_call X (d + 1) 193 [.ref a0, .int v1, .int v2, .int v3] h = mv_run X (mv_call X d) m_X9_addPilot 0 [.ref a0, .int v1, .int v2, .int v3] [] h := rfl
theorem bk_X9_addPilot_0 (X : mv_X) (call : mv_G) (h : mv_H) (a0 : Nat) (v1 : Int32) (v2 : Int32) (v3 : Int32) : mv_run X call m_X9_addPilot 0 [.ref a0, .int v1, .int v2, .int v3] [] h =
  mv_rcv X h [.ref a0] 13 (mv_clV call 151 [.ref a0] h mv_raise fun h1 =>
  mv_rcv X h1 [.ref a0, .int v1, .int v2, .int v3] 13 (mv_clI call 185 [.ref a0, .int v1, .int v2, .int v3] h1 mv_raise fun x1 h2 =>
  mv_rcv X h2 [.ref a0, .int x1, .int (nZ 2)] 13 (mv_clI call 155 [.ref a0, .int x1, .int (nZ 2)] h2 mv_raise fun x2 h3 =>
  (some (.inl (some (.int x2)), h3))))) :=
  (s_aload_n rfl rfl).trans <| (s_v0 [.ref a0] [] rfl rfl (fun _ => rfl)).trans <| c_rcv <| c_clV fun h1 => (s_aload_n rfl rfl).trans <| (s_aload_n rfl rfl).trans <| (s_iload_n rfl rfl).trans <| (s_iload_n rfl rfl).trans <| (s_iload_n rfl rfl).trans <| (s_v1 [.ref a0, .int v1, .int v2, .int v3] [.ref a0] rfl rfl (fun _ => rfl)).trans <| c_rcv <| c_clI fun x1 h2 => (s_iconst rfl).trans <| (s_v1 [.ref a0, .int x1, .int (nZ 2)] [] rfl rfl (fun _ => rfl)).trans <| c_rcv <| c_clI fun x2 h3 => s_iret1 rfl rfl
theorem mc_X9_removePilot (X : mv_X) (d : Nat) (h : mv_H) (a0 : Nat) (v1 : Int32) : mv_call X (d + 1) 194 [.ref a0, .int v1] h = mv_run X (mv_call X d) m_X9_removePilot 0 [.ref a0, .int v1] [] h := rfl
theorem bk_X9_removePilot_0 (X : mv_X) (call : mv_G) (h : mv_H) (a0 : Nat) (v1 : Int32) : mv_run X call m_X9_removePilot 0 [.ref a0, .int v1] [] h =
  mv_rcv X h [.ref a0] 13 (mv_clV call 151 [.ref a0] h mv_raise fun h1 =>
  mv_rcv X h1 [.ref a0, .int v1] 13 (mv_clI call 186 [.ref a0, .int v1] h1 mv_raise fun x1 h2 =>
  mv_rcv X h2 [.ref a0, .int x1, .int (nZ 1)] 13 (mv_clI call 155 [.ref a0, .int x1, .int (nZ 1)] h2 mv_raise fun x2 h3 =>
  (some (.inl (some (.int x2)), h3))))) :=
  (s_aload_n rfl rfl).trans <| (s_v0 [.ref a0] [] rfl rfl (fun _ => rfl)).trans <| c_rcv <| c_clV fun h1 => (s_aload_n rfl rfl).trans <| (s_aload_n rfl rfl).trans <| (s_iload_n rfl rfl).trans <| (s_v1 [.ref a0, .int v1] [.ref a0] rfl rfl (fun _ => rfl)).trans <| c_rcv <| c_clI fun x1 h2 => (s_iconst rfl).trans <| (s_v1 [.ref a0, .int x1, .int (nZ 1)] [] rfl rfl (fun _ => rfl)).trans <| c_rcv <| c_clI fun x2 h3 => s_iret1 rfl rfl
theorem mc_X9_pass (X : mv_X) (d : Nat) (h : mv_H) (a0 : Nat) (v1 : Int32) : mv_call X (d + 1) 195 [.ref a0, .int v1] h = mv_run X (mv_call X d) m_X9_pass 0 [.ref a0, .int v1] [] h := rfl
theorem bk_X9_pass_0 (X : mv_X) (call : mv_G) (h : mv_H) (a0 : Nat) (v1 : Int32) : mv_run X call m_X9_pass 0 [.ref a0, .int v1] [] h =
  mv_rcv X h [.ref a0] 13 (mv_clV call 151 [.ref a0] h mv_raise fun h1 =>
  mv_rcv X h1 [.ref a0, .int v1] 13 (mv_clI call 184 [.ref a0, .int v1] h1 mv_raise fun x1 h2 =>
  mv_rcv X h2 [.ref a0, .int x1, .int (nZ 1)] 13 (mv_clI call 155 [.ref a0, .int x1, .int (nZ 1)] h2 mv_raise fun x2 h3 =>
  (some (.inl (some (.int x2)), h3))))) :=
  (s_aload_n rfl rfl).trans <| (s_v0 [.ref a0] [] rfl rfl (fun _ => rfl)).trans <| c_rcv <| c_clV fun h1 => (s_aload_n rfl rfl).trans <| (s_aload_n rfl rfl).trans <| (s_iload_n rfl rfl).trans <| (s_v1 [.ref a0, .int v1] [.ref a0] rfl rfl (fun _ => rfl)).trans <| c_rcv <| c_clI fun x1 h2 => (s_iconst rfl).trans <| (s_v1 [.ref a0, .int x1, .int (nZ 1)] [] rfl rfl (fun _ => rfl)).trans <| c_rcv <| c_clI fun x2 h3 => s_iret1 rfl rfl
theorem mc_X9_balloonCount (X : mv_X) (d : Nat) (h : mv_H) (a0 : Nat) : mv_call X (d + 1) 196 [.ref a0] h = mv_run X (mv_call X d) m_X9_balloonCount 0 [.ref a0, .retAddr 0, .retAddr 0] [] h := rfl
theorem bk_X9_balloonCount_0 (X : mv_X) (call : mv_G) (h : mv_H) (a0 : Nat) : mv_run X call m_X9_balloonCount 0 [.ref a0, .retAddr 0, .retAddr 0] [] h =
  mv_pf h a0 13 0 (.int (nZ 0)) fun h1 =>
  mv_run X call m_X9_balloonCount 9 [.ref a0, .int (nZ 0), .int (nZ 0)] [] h1 :=
  (s_aload_n rfl rfl).trans <| (s_iconst rfl).trans <| (s_pf1 rfl rfl).trans <| c_pf fun h1 => (s_iconst rfl).trans <| (s_istore_n (ls2 := [.ref a0, .int (nZ 0), .retAddr 0]) rfl (fun _ => rfl)).trans <| (s_iconst rfl).trans <| (s_istore_n (ls2 := [.ref a0, .int (nZ 0), .int (nZ 0)]) rfl (fun _ => rfl)).trans <| rfl
theorem bk_X9_balloonCount_9 (X : mv_X) (call : mv_G) (h : mv_H) (a0 : Nat) (v1 : Int32) (v2 : Int32) : mv_run X call m_X9_balloonCount 9 [.ref a0, .int v1, .int v2] [] h =
  if (nZ 10) ≤ v2 then 
  ((some (.inl (some (.int v1)), h)))
  else (mv_rcv X h [.ref a0, .int v2, .int (nZ 0)] 13 (mv_clI call 158 [.ref a0, .int v2, .int (nZ 0)] h mv_raise fun x1 h1 =>
    mv_run X call m_X9_balloonCount 9 [.ref a0, .int (v1 + x1), .int (v2 + nZ 1)] [] h1)) :=
  (s_iload_n rfl rfl).trans <| (s_bipush rfl).trans <| (s_icmp_ge rfl).trans <| c_ite ((s_iload_n rfl rfl).trans <| s_iret1 rfl rfl) ((s_iload_n rfl rfl).trans <| (s_aload_n rfl rfl).trans <| (s_iload_n rfl rfl).trans <| (s_iconst rfl).trans <| (s_v1 [.ref a0, .int v2, .int (nZ 0)] [.int v1] rfl rfl (fun _ => rfl)).trans <| c_rcv <| c_clI fun x1 h1 => (s_iadd rfl).trans <| (s_istore_n (ls2 := [.ref a0, .int (v1 + x1), .int v2]) rfl (fun _ => rfl)).trans <| (s_iinc (ls2 := [.ref a0, .int (v1 + x1), .int (v2 + nZ 1)]) rfl rfl (fun _ => rfl)).trans <| (s_goto rfl).trans <| rfl)
theorem mc_X9_isMoored (X : mv_X) (d : Nat) (h : mv_H) (a0 : Nat) (v1 : Int32) : mv_call X (d + 1) 197 [.ref a0, .int v1] h = mv_run X (mv_call X d) m_X9_isMoored 0 [.ref a0, .int v1] [] h := rfl
theorem bk_X9_isMoored_0 (X : mv_X) (call : mv_G) (h : mv_H) (a0 : Nat) (v1 : Int32) : mv_run X call m_X9_isMoored 0 [.ref a0, .int v1] [] h =
  mv_clI call 156 [.int v1] h mv_raise fun x1 h1 =>
  if x1 = 0 then 
  (mv_pf h1 a0 13 0 (.int (nZ 1)) fun h2 =>
    mv_rcv X h2 [.ref a0, .int v1] 13 (mv_clI call 160 [.ref a0, .int v1] h2 mv_raise fun x2 h3 =>
    mv_chk (mv_ok 6 x2) (some (.inl (some (.int x2)), h3))))
  else (mv_pf h1 a0 13 0 (.int (nZ 0)) fun h4 =>
    mv_rcv X h4 [.ref a0, .int v1] 13 (mv_clI call 160 [.ref a0, .int v1] h4 mv_raise fun x3 h5 =>
    mv_chk (mv_ok 6 x3) (some (.inl (some (.int x3)), h5)))) :=
  (s_aload_n rfl rfl).trans <| (s_iload_n rfl rfl).trans <| (s_s1 [.int v1] [.ref a0] rfl rfl (fun _ => rfl)).trans <| c_clI fun x1 h1 => (s_if_eq rfl).trans <| c_ite ((s_iconst rfl).trans <| (s_pf1 rfl rfl).trans <| c_pf fun h2 => (s_aload_n rfl rfl).trans <| (s_iload_n rfl rfl).trans <| (s_v1 [.ref a0, .int v1] [] rfl rfl (fun _ => rfl)).trans <| c_rcv <| c_clI fun x2 h3 => s_iret rfl) ((s_iconst rfl).trans <| (s_goto rfl).trans <| (s_pf1 rfl rfl).trans <| c_pf fun h4 => (s_aload_n rfl rfl).trans <| (s_iload_n rfl rfl).trans <| (s_v1 [.ref a0, .int v1] [] rfl rfl (fun _ => rfl)).trans <| c_rcv <| c_clI fun x3 h5 => s_iret rfl)
theorem mc_X9_isAsked (X : mv_X) (d : Nat) (h : mv_H) (a0 : Nat) (v1 : Int32) : mv_call X (d + 1) 198 [.ref a0, .int v1] h = mv_run X (mv_call X d) m_X9_isAsked 0 [.ref a0, .int v1] [] h := rfl
theorem bk_X9_isAsked_0 (X : mv_X) (call : mv_G) (h : mv_H) (a0 : Nat) (v1 : Int32) : mv_run X call m_X9_isAsked 0 [.ref a0, .int v1] [] h =
  mv_rcv X h [.ref a0, .int v1] 13 (mv_clI call 160 [.ref a0, .int v1] h mv_raise fun x1 h1 =>
  if x1 = 0 then 
  (mv_pf h1 a0 13 0 (.int (nZ 1)) fun h2 =>
    mv_gI X h2 a0 13 0 fun x2 =>
    if x2 = 0 then 
    ((some (.inl (some (.int (nZ 1))), h2)))
    else ((some (.inl (some (.int (nZ 0))), h2))))
  else (mv_pf h1 a0 13 0 (.int (nZ 0)) fun h3 =>
    mv_gI X h3 a0 13 0 fun x3 =>
    if x3 = 0 then 
    ((some (.inl (some (.int (nZ 1))), h3)))
    else ((some (.inl (some (.int (nZ 0))), h3))))) :=
  (s_aload_n rfl rfl).trans <| (s_aload_n rfl rfl).trans <| (s_iload_n rfl rfl).trans <| (s_v1 [.ref a0, .int v1] [.ref a0] rfl rfl (fun _ => rfl)).trans <| c_rcv <| c_clI fun x1 h1 => (s_if_eq rfl).trans <| c_ite ((s_iconst rfl).trans <| (s_pf1 rfl rfl).trans <| c_pf fun h2 => (s_aload_n rfl rfl).trans <| (s_gf1 rfl rfl).trans <| c_gI fun x2 => (s_if_ne rfl).trans <| c_ite ((s_iconst rfl).trans <| (s_goto rfl).trans <| s_iretb rfl rfl) ((s_iconst rfl).trans <| s_iretb rfl rfl)) ((s_iconst rfl).trans <| (s_goto rfl).trans <| (s_pf1 rfl rfl).trans <| c_pf fun h3 => (s_aload_n rfl rfl).trans <| (s_gf1 rfl rfl).trans <| c_gI fun x3 => (s_if_ne rfl).trans <| c_ite ((s_iconst rfl).trans <| (s_goto rfl).trans <| s_iretb rfl rfl) ((s_iconst rfl).trans <| s_iretb rfl rfl))
theorem mc_X9_lift (X : mv_X) (d : Nat) (h : mv_H) (a0 : Nat) (v1 : Int32) : mv_call X (d + 1) 199 [.ref a0, .int v1] h = mv_run X (mv_call X d) m_X9_lift 0 [.ref a0, .int v1] [] h := rfl
theorem bk_X9_lift_0 (X : mv_X) (call : mv_G) (h : mv_H) (a0 : Nat) (v1 : Int32) : mv_run X call m_X9_lift 0 [.ref a0, .int v1] [] h =
  mv_rcv X h [.ref a0, .int v1] 13 (mv_clI call 198 [.ref a0, .int v1] h mv_raise fun x1 h1 =>
  if x1 = 0 then 
  ((some (.inl (some (.int (nZ 0))), h1)))
  else (mv_rcv X h1 [.ref a0, .int v1, .int (nZ 1)] 13 (mv_clI call 158 [.ref a0, .int v1, .int (nZ 1)] h1 mv_raise fun x2 h2 =>
    (some (.inl (some (.int x2)), h2))))) :=
  (s_aload_n rfl rfl).trans <| (s_iload_n rfl rfl).trans <| (s_v1 [.ref a0, .int v1] [] rfl rfl (fun _ => rfl)).trans <| c_rcv <| c_clI fun x1 h1 => (s_if_eq rfl).trans <| c_ite ((s_iconst rfl).trans <| s_iret1 rfl rfl) ((s_aload_n rfl rfl).trans <| (s_iload_n rfl rfl).trans <| (s_iconst rfl).trans <| (s_v1 [.ref a0, .int v1, .int (nZ 1)] [] rfl rfl (fun _ => rfl)).trans <| c_rcv <| c_clI fun x2 h2 => (s_goto rfl).trans <| s_iret1 rfl rfl)
theorem mc_X9_ballast (X : mv_X) (d : Nat) (h : mv_H) (a0 : Nat) (v1 : Int32) : mv_call X (d + 1) 200 [.ref a0, .int v1] h = mv_run X (mv_call X d) m_X9_ballast 0 [.ref a0, .int v1] [] h := rfl
theorem bk_X9_ballast_0 (X : mv_X) (call : mv_G) (h : mv_H) (a0 : Nat) (v1 : Int32) : mv_run X call m_X9_ballast 0 [.ref a0, .int v1] [] h =
  mv_rcv X h [.ref a0, .int v1] 13 (mv_clI call 198 [.ref a0, .int v1] h mv_raise fun x1 h1 =>
  if x1 = 0 then 
  ((some (.inl (some (.int (nZ 0))), h1)))
  else (mv_rcv X h1 [.ref a0, .int v1, .int (nZ 0)] 13 (mv_clI call 164 [.ref a0, .int v1, .int (nZ 0)] h1 mv_raise fun x2 h2 =>
    (some (.inl (some (.int x2)), h2))))) :=
  (s_aload_n rfl rfl).trans <| (s_iload_n rfl rfl).trans <| (s_v1 [.ref a0, .int v1] [] rfl rfl (fun _ => rfl)).trans <| c_rcv <| c_clI fun x1 h1 => (s_if_eq rfl).trans <| c_ite ((s_iconst rfl).trans <| s_iret1 rfl rfl) ((s_aload_n rfl rfl).trans <| (s_iload_n rfl rfl).trans <| (s_iconst rfl).trans <| (s_v1 [.ref a0, .int v1, .int (nZ 0)] [] rfl rfl (fun _ => rfl)).trans <| c_rcv <| c_clI fun x2 h2 => (s_goto rfl).trans <| s_iret1 rfl rfl)
theorem mc_X9_height (X : mv_X) (d : Nat) (h : mv_H) (a0 : Nat) (v1 : Int32) : mv_call X (d + 1) 201 [.ref a0, .int v1] h = mv_run X (mv_call X d) m_X9_height 0 [.ref a0, .int v1] [] h := rfl
theorem bk_X9_height_0 (X : mv_X) (call : mv_G) (h : mv_H) (a0 : Nat) (v1 : Int32) : mv_run X call m_X9_height 0 [.ref a0, .int v1] [] h =
  mv_rcv X h [.ref a0, .int v1] 13 (mv_clI call 198 [.ref a0, .int v1] h mv_raise fun x1 h1 =>
  if x1 = 0 then 
  ((some (.inl (some (.int (nZ 0))), h1)))
  else (mv_rcv X h1 [.ref a0, .int v1] 13 (mv_clI call 167 [.ref a0, .int v1] h1 mv_raise fun x2 h2 =>
    (some (.inl (some (.int x2)), h2))))) :=
  (s_aload_n rfl rfl).trans <| (s_iload_n rfl rfl).trans <| (s_v1 [.ref a0, .int v1] [] rfl rfl (fun _ => rfl)).trans <| c_rcv <| c_clI fun x1 h1 => (s_if_eq rfl).trans <| c_ite ((s_iconst rfl).trans <| s_iret1 rfl rfl) ((s_aload_n rfl rfl).trans <| (s_iload_n rfl rfl).trans <| (s_v1 [.ref a0, .int v1] [] rfl rfl (fun _ => rfl)).trans <| c_rcv <| c_clI fun x2 h2 => (s_goto rfl).trans <| s_iret1 rfl rfl)
theorem mc_X9_isBursting (X : mv_X) (d : Nat) (h : mv_H) (a0 : Nat) (v1 : Int32) : mv_call X (d + 1) 202 [.ref a0, .int v1] h = mv_run X (mv_call X d) m_X9_isBursting 0 [.ref a0, .int v1] [] h := rfl
theorem bk_X9_isBursting_0 (X : mv_X) (call : mv_G) (h : mv_H) (a0 : Nat) (v1 : Int32) : mv_run X call m_X9_isBursting 0 [.ref a0, .int v1] [] h =
  mv_rcv X h [.ref a0, .int v1] 13 (mv_clI call 198 [.ref a0, .int v1] h mv_raise fun x1 h1 =>
  if x1 = 0 then 
  ((some (.inl (some (.int (nZ 0))), h1)))
  else (mv_rcv X h1 [.ref a0, .int v1] 13 (mv_clI call 168 [.ref a0, .int v1] h1 mv_raise fun x2 h2 =>
    if x2 = 0 then 
    ((some (.inl (some (.int (nZ 0))), h2)))
    else ((some (.inl (some (.int (nZ 1))), h2)))))) :=
  (s_aload_n rfl rfl).trans <| (s_iload_n rfl rfl).trans <| (s_v1 [.ref a0, .int v1] [] rfl rfl (fun _ => rfl)).trans <| c_rcv <| c_clI fun x1 h1 => (s_if_eq rfl).trans <| c_ite ((s_iconst rfl).trans <| s_iretb rfl rfl) ((s_aload_n rfl rfl).trans <| (s_iload_n rfl rfl).trans <| (s_v1 [.ref a0, .int v1] [] rfl rfl (fun _ => rfl)).trans <| c_rcv <| c_clI fun x2 h2 => (s_if_eq rfl).trans <| c_ite ((s_iconst rfl).trans <| s_iretb rfl rfl) ((s_iconst rfl).trans <| (s_goto rfl).trans <| s_iretb rfl rfl))
theorem mc_X9_isAhead (X : mv_X) (d : Nat) (h : mv_H) (a0 : Nat) (v1 : Int32) (v2 : Int32) : mv_call X (d + 1) 203 [.ref a0, .int v1, .int v2] h = mv_run X (mv_call X d) m_X9_isAhead 0 [.ref a0, .int v1, .int v2, .retAddr 0] [] h := rfl
theorem bk_X9_isAhead_0 (X : mv_X) (call : mv_G) (h : mv_H) (a0 : Nat) (v1 : Int32) (v2 : Int32) : mv_run X call m_X9_isAhead 0 [.ref a0, .int v1, .int v2, .retAddr 0] [] h =
  mv_rcv X h [.ref a0, .int v1] 13 (mv_clI call 167 [.ref a0, .int v1] h mv_raise fun x1 h1 =>
  mv_rcv X h1 [.ref a0, .int v2] 13 (mv_clI call 167 [.ref a0, .int v2] h1 mv_raise fun x2 h2 =>
  if x1 = x2 then 
  (mv_rcv X h2 [.ref a0, .int v1, .int (nZ 0)] 13 (mv_clI call 164 [.ref a0, .int v1, .int (nZ 0)] h2 mv_raise fun x3 h3 =>
    mv_rcv X h3 [.ref a0, .int v2, .int (nZ 0)] 13 (mv_clI call 164 [.ref a0, .int v2, .int (nZ 0)] h3 mv_raise fun x4 h4 =>
    if (x3 - x4) = 0 then 
    (if v2 ≤ v1 then 
      ((some (.inl (some (.int (nZ 0))), h4)))
      else ((some (.inl (some (.int (nZ 1))), h4))))
    else (if (x3 - x4) ≤ 0 then 
      ((some (.inl (some (.int (nZ 0))), h4)))
      else ((some (.inl (some (.int (nZ 1))), h4)))))))
  else (mv_rcv X h2 [.ref a0, .int v1] 13 (mv_clI call 167 [.ref a0, .int v1] h2 mv_raise fun x5 h5 =>
    mv_rcv X h5 [.ref a0, .int v2] 13 (mv_clI call 167 [.ref a0, .int v2] h5 mv_raise fun x6 h6 =>
    if x5 ≤ x6 then 
    ((some (.inl (some (.int (nZ 0))), h6)))
    else ((some (.inl (some (.int (nZ 1))), h6)))))))) :=
  (s_aload_n rfl rfl).trans <| (s_iload_n rfl rfl).trans <| (s_v1 [.ref a0, .int v1] [] rfl rfl (fun _ => rfl)).trans <| c_rcv <| c_clI fun x1 h1 => (s_aload_n rfl rfl).trans <| (s_iload_n rfl rfl).trans <| (s_v1 [.ref a0, .int v2] [.int x1] rfl rfl (fun _ => rfl)).trans <| c_rcv <| c_clI fun x2 h2 => (s_icmp_eq rfl).trans <| c_ite ((s_aload_n rfl rfl).trans <| (s_iload_n rfl rfl).trans <| (s_iconst rfl).trans <| (s_v1 [.ref a0, .int v1, .int (nZ 0)] [] rfl rfl (fun _ => rfl)).trans <| c_rcv <| c_clI fun x3 h3 => (s_aload_n rfl rfl).trans <| (s_iload_n rfl rfl).trans <| (s_iconst rfl).trans <| (s_v1 [.ref a0, .int v2, .int (nZ 0)] [.int x3] rfl rfl (fun _ => rfl)).trans <| c_rcv <| c_clI fun x4 h4 => (s_isub rfl).trans <| (s_istore_n (ls2 := [.ref a0, .int v1, .int v2, .int (x3 - x4)]) rfl (fun _ => rfl)).trans <| (s_iload_n rfl rfl).trans <| (s_if_ne rfl).trans <| c_ite ((s_iload_n rfl rfl).trans <| (s_iload_n rfl rfl).trans <| (s_icmp_ge rfl).trans <| c_ite ((s_iconst rfl).trans <| (s_goto rfl).trans <| s_iretb rfl rfl) ((s_iconst rfl).trans <| (s_goto rfl).trans <| s_iretb rfl rfl)) ((s_iload_n rfl rfl).trans <| (s_if_le rfl).trans <| c_ite ((s_iconst rfl).trans <| s_iretb rfl rfl) ((s_iconst rfl).trans <| (s_goto rfl).trans <| s_iretb rfl rfl))) ((s_aload_n rfl rfl).trans <| (s_iload_n rfl rfl).trans <| (s_v1 [.ref a0, .int v1] [] rfl rfl (fun _ => rfl)).trans <| c_rcv <| c_clI fun x5 h5 => (s_aload_n rfl rfl).trans <| (s_iload_n rfl rfl).trans <| (s_v1 [.ref a0, .int v2] [.int x5] rfl rfl (fun _ => rfl)).trans <| c_rcv <| c_clI fun x6 h6 => (s_icmp_le rfl).trans <| c_ite ((s_iconst rfl).trans <| s_iretb rfl rfl) ((s_iconst rfl).trans <| (s_goto rfl).trans <| s_iretb rfl rfl))
theorem mc_X9_berthByHeight (X : mv_X) (d : Nat) (h : mv_H) (a0 : Nat) (v1 : Int32) : mv_call X (d + 1) 204 [.ref a0, .int v1] h = mv_run X (mv_call X d) m_X9_berthByHeight 0 [.ref a0, .int v1, .retAddr 0, .retAddr 0, .retAddr 0] [] h := rfl
theorem bk_X9_berthByHeight_0 (X : mv_X) (call : mv_G) (h : mv_H) (a0 : Nat) (v1 : Int32) : mv_run X call m_X9_berthByHeight 0 [.ref a0, .int v1, .retAddr 0, .retAddr 0, .retAddr 0] [] h =
  mv_pf h a0 13 0 (.int (nZ 0)) fun h1 =>
  mv_run X call m_X9_berthByHeight 7 [.ref a0, .int v1, .int (nZ 0), .retAddr 0, .retAddr 0] [] h1 :=
  (s_aload_n rfl rfl).trans <| (s_iconst rfl).trans <| (s_pf1 rfl rfl).trans <| c_pf fun h1 => (s_iconst rfl).trans <| (s_istore_n (ls2 := [.ref a0, .int v1, .int (nZ 0), .retAddr 0, .retAddr 0]) rfl (fun _ => rfl)).trans <| rfl
theorem bk_X9_berthByHeight_7 (X : mv_X) (call : mv_G) (h : mv_H) (a0 : Nat) (v1 : Int32) (v2 : Int32) (j3 : Value) (j4 : Value) : mv_run X call m_X9_berthByHeight 7 [.ref a0, .int v1, .int v2, j3, j4] [] h =
  if (nZ 10) ≤ v2 then 
  (mv_rcv X h [.ref a0, .int (nZ 1)] 13 (mv_clI call 149 [.ref a0, .int (nZ 1)] h mv_raise fun x1 h1 =>
    (some (.inl (some (.int x1)), h1))))
  else (mv_run X call m_X9_berthByHeight 18 [.ref a0, .int v1, .int v2, .int (nZ 0), .int (nZ 0)] [] h) :=
  (s_iload_n rfl rfl).trans <| (s_bipush rfl).trans <| (s_icmp_ge rfl).trans <| c_ite ((s_aload_n rfl rfl).trans <| (s_iconst rfl).trans <| (s_v1 [.ref a0, .int (nZ 1)] [] rfl rfl (fun _ => rfl)).trans <| c_rcv <| c_clI fun x1 h1 => s_iret1 rfl rfl) ((s_iconst rfl).trans <| (s_istore_n (ls2 := [.ref a0, .int v1, .int v2, .int (nZ 0), j4]) rfl (fun _ => rfl)).trans <| (s_iconst rfl).trans <| (s_istore (ls2 := [.ref a0, .int v1, .int v2, .int (nZ 0), .int (nZ 0)]) rfl (fun _ => rfl)).trans <| rfl)
theorem bk_X9_berthByHeight_18 (X : mv_X) (call : mv_G) (h : mv_H) (a0 : Nat) (v1 : Int32) (v2 : Int32) (v3 : Int32) (v4 : Int32) : mv_run X call m_X9_berthByHeight 18 [.ref a0, .int v1, .int v2, .int v3, .int v4] [] h =
  if (nZ 10) ≤ v4 then 
  (mv_rcv X h [.ref a0, .int v2] 13 (mv_clI call 160 [.ref a0, .int v2] h mv_raise fun x1 h1 =>
    if x1 = 0 then 
    (mv_run X call m_X9_berthByHeight 7 [.ref a0, .int v1, .int (v2 + nZ 1), .int v3, .int v4] [] h1)
    else (if v3 = v1 then 
      ((some (.inl (some (.int v2)), h1)))
      else (mv_run X call m_X9_berthByHeight 7 [.ref a0, .int v1, .int (v2 + nZ 1), .int v3, .int v4] [] h1))))
  else (mv_rcv X h [.ref a0, .int v2] 13 (mv_clI call 160 [.ref a0, .int v2] h mv_raise fun x2 h2 =>
    if x2 = 0 then 
    (mv_rcv X h2 [.ref a0, .int v2] 13 (mv_clI call 160 [.ref a0, .int v2] h2 mv_raise fun x3 h3 =>
      if x3 = 0 then 
      (mv_run X call m_X9_berthByHeight 7 [.ref a0, .int v1, .int (v2 + nZ 1), .int v3, .int v4] [] h3)
      else (if v3 = v1 then 
        ((some (.inl (some (.int v2)), h3)))
        else (mv_run X call m_X9_berthByHeight 7 [.ref a0, .int v1, .int (v2 + nZ 1), .int v3, .int v4] [] h3))))
    else (if v4 = v2 then 
      (mv_run X call m_X9_berthByHeight 18 [.ref a0, .int v1, .int v2, .int (v3 + (nZ 0)), .int (v4 + nZ 1)] [] h2)
      else (mv_rcv X h2 [.ref a0, .int v4] 13 (mv_clI call 160 [.ref a0, .int v4] h2 mv_raise fun x4 h4 =>
        if x4 = 0 then 
        (mv_run X call m_X9_berthByHeight 18 [.ref a0, .int v1, .int v2, .int (v3 + (nZ 0)), .int (v4 + nZ 1)] [] h4)
        else (mv_rcv X h4 [.ref a0, .int v4, .int v2] 13 (mv_clI call 203 [.ref a0, .int v4, .int v2] h4 mv_raise fun x5 h5 =>
          if x5 = 0 then 
          (mv_run X call m_X9_berthByHeight 18 [.ref a0, .int v1, .int v2, .int (v3 + (nZ 0)), .int (v4 + nZ 1)] [] h5)
          else (mv_run X call m_X9_berthByHeight 18 [.ref a0, .int v1, .int v2, .int (v3 + (nZ 1)), .int (v4 + nZ 1)] [] h5)))))))) :=
  (s_iload rfl rfl).trans <| (s_bipush rfl).trans <| (s_icmp_ge rfl).trans <| c_ite ((s_aload_n rfl rfl).trans <| (s_iload_n rfl rfl).trans <| (s_v1 [.ref a0, .int v2] [] rfl rfl (fun _ => rfl)).trans <| c_rcv <| c_clI fun x1 h1 => (s_if_eq rfl).trans <| c_ite ((s_iinc (ls2 := [.ref a0, .int v1, .int (v2 + nZ 1), .int v3, .int v4]) rfl rfl (fun _ => rfl)).trans <| (s_goto rfl).trans <| rfl) ((s_iload_n rfl rfl).trans <| (s_iload_n rfl rfl).trans <| (s_icmp_ne rfl).trans <| c_ite ((s_iload_n rfl rfl).trans <| s_iret1 rfl rfl) ((s_iinc (ls2 := [.ref a0, .int v1, .int (v2 + nZ 1), .int v3, .int v4]) rfl rfl (fun _ => rfl)).trans <| (s_goto rfl).trans <| rfl))) ((s_aload_n rfl rfl).trans <| (s_iload_n rfl rfl).trans <| (s_v1 [.ref a0, .int v2] [] rfl rfl (fun _ => rfl)).trans <| c_rcv <| c_clI fun x2 h2 => (s_if_eq rfl).trans <| c_ite ((s_aload_n rfl rfl).trans <| (s_iload_n rfl rfl).trans <| (s_v1 [.ref a0, .int v2] [] rfl rfl (fun _ => rfl)).trans <| c_rcv <| c_clI fun x3 h3 => (s_if_eq rfl).trans <| c_ite ((s_iinc (ls2 := [.ref a0, .int v1, .int (v2 + nZ 1), .int v3, .int v4]) rfl rfl (fun _ => rfl)).trans <| (s_goto rfl).trans <| rfl) ((s_iload_n rfl rfl).trans <| (s_iload_n rfl rfl).trans <| (s_icmp_ne rfl).trans <| c_ite ((s_iload_n rfl rfl).trans <| s_iret1 rfl rfl) ((s_iinc (ls2 := [.ref a0, .int v1, .int (v2 + nZ 1), .int v3, .int v4]) rfl rfl (fun _ => rfl)).trans <| (s_goto rfl).trans <| rfl))) ((s_iload_n rfl rfl).trans <| (s_iload rfl rfl).trans <| (s_iload_n rfl rfl).trans <| (s_icmp_eq rfl).trans <| c_ite ((s_iconst rfl).trans <| (s_iadd rfl).trans <| (s_istore_n (ls2 := [.ref a0, .int v1, .int v2, .int (v3 + (nZ 0)), .int v4]) rfl (fun _ => rfl)).trans <| (s_iinc (ls2 := [.ref a0, .int v1, .int v2, .int (v3 + (nZ 0)), .int (v4 + nZ 1)]) rfl rfl (fun _ => rfl)).trans <| (s_goto rfl).trans <| rfl) ((s_aload_n rfl rfl).trans <| (s_iload rfl rfl).trans <| (s_v1 [.ref a0, .int v4] [.int v3] rfl rfl (fun _ => rfl)).trans <| c_rcv <| c_clI fun x4 h4 => (s_if_eq rfl).trans <| c_ite ((s_iconst rfl).trans <| (s_iadd rfl).trans <| (s_istore_n (ls2 := [.ref a0, .int v1, .int v2, .int (v3 + (nZ 0)), .int v4]) rfl (fun _ => rfl)).trans <| (s_iinc (ls2 := [.ref a0, .int v1, .int v2, .int (v3 + (nZ 0)), .int (v4 + nZ 1)]) rfl rfl (fun _ => rfl)).trans <| (s_goto rfl).trans <| rfl) ((s_aload_n rfl rfl).trans <| (s_iload rfl rfl).trans <| (s_iload_n rfl rfl).trans <| (s_v1 [.ref a0, .int v4, .int v2] [.int v3] rfl rfl (fun _ => rfl)).trans <| c_rcv <| c_clI fun x5 h5 => (s_if_eq rfl).trans <| c_ite ((s_iconst rfl).trans <| (s_iadd rfl).trans <| (s_istore_n (ls2 := [.ref a0, .int v1, .int v2, .int (v3 + (nZ 0)), .int v4]) rfl (fun _ => rfl)).trans <| (s_iinc (ls2 := [.ref a0, .int v1, .int v2, .int (v3 + (nZ 0)), .int (v4 + nZ 1)]) rfl rfl (fun _ => rfl)).trans <| (s_goto rfl).trans <| rfl) ((s_iconst rfl).trans <| (s_goto rfl).trans <| (s_iadd rfl).trans <| (s_istore_n (ls2 := [.ref a0, .int v1, .int v2, .int (v3 + (nZ 1)), .int v4]) rfl (fun _ => rfl)).trans <| (s_iinc (ls2 := [.ref a0, .int v1, .int v2, .int (v3 + (nZ 1)), .int (v4 + nZ 1)]) rfl rfl (fun _ => rfl)).trans <| (s_goto rfl).trans <| rfl)))))
theorem mc_X9_bagCount (X : mv_X) (d : Nat) (h : mv_H) (a0 : Nat) (v1 : Int32) : mv_call X (d + 1) 205 [.ref a0, .int v1] h = mv_run X (mv_call X d) m_X9_bagCount 0 [.ref a0, .int v1] [] h := rfl
theorem bk_X9_bagCount_0 (X : mv_X) (call : mv_G) (h : mv_H) (a0 : Nat) (v1 : Int32) : mv_run X call m_X9_bagCount 0 [.ref a0, .int v1] [] h =
  mv_rcv X h [.ref a0, .int v1] 13 (mv_clI call 198 [.ref a0, .int v1] h mv_raise fun x1 h1 =>
  if x1 = 0 then 
  ((some (.inl (some (.int (nZ 0))), h1)))
  else (mv_rcv X h1 [.ref a0, .int v1, .int (nZ 4)] 13 (mv_clI call 158 [.ref a0, .int v1, .int (nZ 4)] h1 mv_raise fun x2 h2 =>
    (some (.inl (some (.int x2)), h2))))) :=
  (s_aload_n rfl rfl).trans <| (s_iload_n rfl rfl).trans <| (s_v1 [.ref a0, .int v1] [] rfl rfl (fun _ => rfl)).trans <| c_rcv <| c_clI fun x1 h1 => (s_if_eq rfl).trans <| c_ite ((s_iconst rfl).trans <| s_iret1 rfl rfl) ((s_aload_n rfl rfl).trans <| (s_iload_n rfl rfl).trans <| (s_iconst rfl).trans <| (s_v1 [.ref a0, .int v1, .int (nZ 4)] [] rfl rfl (fun _ => rfl)).trans <| c_rcv <| c_clI fun x2 h2 => (s_goto rfl).trans <| s_iret1 rfl rfl)
theorem mc_X9_bagWeight (X : mv_X) (d : Nat) (h : mv_H) (a0 : Nat) (v1 : Int32) (v2 : Int32) : mv_call X (d + 1) 206 [.ref a0, .int v1, .int v2] h = mv_run X (mv_call X d) m_X9_bagWeight 0 [.ref a0, .int v1, .int v2] [] h := rfl
theorem bk_X9_bagWeight_0 (X : mv_X) (call : mv_G) (h : mv_H) (a0 : Nat) (v1 : Int32) (v2 : Int32) : mv_run X call m_X9_bagWeight 0 [.ref a0, .int v1, .int v2] [] h =
  mv_rcv X h [.ref a0, .int v1] 13 (mv_clI call 160 [.ref a0, .int v1] h mv_raise fun x1 h1 =>
  if x1 = 0 then 
  (mv_pf h1 a0 13 0 (.int (nZ 1)) fun h2 =>
    mv_gI X h2 a0 13 0 fun x2 =>
    if x2 ≤ 0 then 
    (mv_rcv X h2 [.ref a0, .int v1, .int ((nZ 5) + v2)] 13 (mv_clI call 158 [.ref a0, .int v1, .int ((nZ 5) + v2)] h2 mv_raise fun x3 h3 =>
      (some (.inl (some (.int x3)), h3))))
    else ((some (.inl (some (.int (nZ 0))), h2))))
  else (mv_rcv X h1 [.ref a0, .int v1, .int (nZ 4)] 13 (mv_clI call 158 [.ref a0, .int v1, .int (nZ 4)] h1 mv_raise fun x4 h4 =>
    mv_clI call 150 [.int v2, .int (nZ 0), .int (x4 - (nZ 1))] h4 mv_raise fun x5 h5 =>
    if x5 = 0 then 
    (mv_pf h5 a0 13 0 (.int (nZ 2)) fun h6 =>
      mv_gI X h6 a0 13 0 fun x6 =>
      if x6 ≤ 0 then 
      (mv_rcv X h6 [.ref a0, .int v1, .int ((nZ 5) + v2)] 13 (mv_clI call 158 [.ref a0, .int v1, .int ((nZ 5) + v2)] h6 mv_raise fun x7 h7 =>
        (some (.inl (some (.int x7)), h7))))
      else ((some (.inl (some (.int (nZ 0))), h6))))
    else (mv_pf h5 a0 13 0 (.int (nZ 0)) fun h8 =>
      mv_gI X h8 a0 13 0 fun x8 =>
      if x8 ≤ 0 then 
      (mv_rcv X h8 [.ref a0, .int v1, .int ((nZ 5) + v2)] 13 (mv_clI call 158 [.ref a0, .int v1, .int ((nZ 5) + v2)] h8 mv_raise fun x9 h9 =>
        (some (.inl (some (.int x9)), h9))))
      else ((some (.inl (some (.int (nZ 0))), h8))))))) :=
  (s_aload_n rfl rfl).trans <| (s_aload_n rfl rfl).trans <| (s_iload_n rfl rfl).trans <| (s_v1 [.ref a0, .int v1] [.ref a0] rfl rfl (fun _ => rfl)).trans <| c_rcv <| c_clI fun x1 h1 => (s_if_ne rfl).trans <| c_ite ((s_iconst rfl).trans <| (s_goto rfl).trans <| (s_pf1 rfl rfl).trans <| c_pf fun h2 => (s_aload_n rfl rfl).trans <| (s_gf1 rfl rfl).trans <| c_gI fun x2 => (s_if_le rfl).trans <| c_ite ((s_aload_n rfl rfl).trans <| (s_iload_n rfl rfl).trans <| (s_iconst rfl).trans <| (s_iload_n rfl rfl).trans <| (s_iadd rfl).trans <| (s_v1 [.ref a0, .int v1, .int ((nZ 5) + v2)] [] rfl rfl (fun _ => rfl)).trans <| c_rcv <| c_clI fun x3 h3 => s_iret1 rfl rfl) ((s_iconst rfl).trans <| (s_goto rfl).trans <| s_iret1 rfl rfl)) ((s_iload_n rfl rfl).trans <| (s_iconst rfl).trans <| (s_aload_n rfl rfl).trans <| (s_iload_n rfl rfl).trans <| (s_iconst rfl).trans <| (s_v1 [.ref a0, .int v1, .int (nZ 4)] [.int (nZ 0), .int v2, .ref a0] rfl rfl (fun _ => rfl)).trans <| c_rcv <| c_clI fun x4 h4 => (s_iconst rfl).trans <| (s_isub rfl).trans <| (s_s1 [.int v2, .int (nZ 0), .int (x4 - (nZ 1))] [.ref a0] rfl rfl (fun _ => rfl)).trans <| c_clI fun x5 h5 => (s_if_eq rfl).trans <| c_ite ((s_iconst rfl).trans <| (s_pf1 rfl rfl).trans <| c_pf fun h6 => (s_aload_n rfl rfl).trans <| (s_gf1 rfl rfl).trans <| c_gI fun x6 => (s_if_le rfl).trans <| c_ite ((s_aload_n rfl rfl).trans <| (s_iload_n rfl rfl).trans <| (s_iconst rfl).trans <| (s_iload_n rfl rfl).trans <| (s_iadd rfl).trans <| (s_v1 [.ref a0, .int v1, .int ((nZ 5) + v2)] [] rfl rfl (fun _ => rfl)).trans <| c_rcv <| c_clI fun x7 h7 => s_iret1 rfl rfl) ((s_iconst rfl).trans <| (s_goto rfl).trans <| s_iret1 rfl rfl)) ((s_iconst rfl).trans <| (s_goto rfl).trans <| (s_pf1 rfl rfl).trans <| c_pf fun h8 => (s_aload_n rfl rfl).trans <| (s_gf1 rfl rfl).trans <| c_gI fun x8 => (s_if_le rfl).trans <| c_ite ((s_aload_n rfl rfl).trans <| (s_iload_n rfl rfl).trans <| (s_iconst rfl).trans <| (s_iload_n rfl rfl).trans <| (s_iadd rfl).trans <| (s_v1 [.ref a0, .int v1, .int ((nZ 5) + v2)] [] rfl rfl (fun _ => rfl)).trans <| c_rcv <| c_clI fun x9 h9 => s_iret1 rfl rfl) ((s_iconst rfl).trans <| (s_goto rfl).trans <| s_iret1 rfl rfl)))
theorem mc_X9_asked (X : mv_X) (d : Nat) (h : mv_H) (a0 : Nat) (v1 : Int32) (v2 : Int32) : mv_call X (d + 1) 207 [.ref a0, .int v1, .int v2] h = mv_run X (mv_call X d) m_X9_asked 0 [.ref a0, .int v1, .int v2, .retAddr 0] [] h := rfl
theorem bk_X9_asked_0 (X : mv_X) (call : mv_G) (h : mv_H) (a0 : Nat) (v1 : Int32) (v2 : Int32) : mv_run X call m_X9_asked 0 [.ref a0, .int v1, .int v2, .retAddr 0] [] h =
  mv_rcv X h [.ref a0, .int v1] 13 (mv_clI call 160 [.ref a0, .int v1] h mv_raise fun x1 h1 =>
  if x1 = 0 then 
  (mv_clI call 150 [.int v2, .int (nZ 1), .int (nZ 40)] h1 mv_raise fun x2 h2 =>
    if x2 = 0 then 
    (mv_pf h2 a0 13 0 (.int (nZ 1)) fun h3 =>
      mv_gI X h3 a0 13 0 fun x3 =>
      if x3 ≤ 0 then 
      ((some (.inl (some (.int (nZ (-1)))), h3)))
      else ((some (.inl (some (.int (nZ 0))), h3))))
    else (if (nZ (-1)) = (nZ (-1)) then 
      (mv_pf h2 a0 13 0 (.int (nZ 2)) fun h4 =>
        mv_gI X h4 a0 13 0 fun x4 =>
        if x4 ≤ 0 then 
        ((some (.inl (some (.int (nZ (-1)))), h4)))
        else ((some (.inl (some (.int (nZ 0))), h4))))
      else (mv_pf h2 a0 13 0 (.int (nZ 0)) fun h5 =>
        mv_gI X h5 a0 13 0 fun x5 =>
        if x5 ≤ 0 then 
        ((some (.inl (some (.int (nZ (-1)))), h5)))
        else ((some (.inl (some (.int (nZ 0))), h5))))))
  else (mv_rcv X h1 [.ref a0, .int v1, .int v2] 13 (mv_clI call 172 [.ref a0, .int v1, .int v2] h1 mv_raise fun x6 h6 =>
    mv_clI call 150 [.int v2, .int (nZ 1), .int (nZ 40)] h6 mv_raise fun x7 h7 =>
    if x7 = 0 then 
    (mv_pf h7 a0 13 0 (.int (nZ 1)) fun h8 =>
      mv_gI X h8 a0 13 0 fun x8 =>
      if x8 ≤ 0 then 
      ((some (.inl (some (.int x6)), h8)))
      else ((some (.inl (some (.int (nZ 0))), h8))))
    else (if x6 = (nZ (-1)) then 
      (mv_pf h7 a0 13 0 (.int (nZ 2)) fun h9 =>
        mv_gI X h9 a0 13 0 fun x9 =>
        if x9 ≤ 0 then 
        ((some (.inl (some (.int x6)), h9)))
        else ((some (.inl (some (.int (nZ 0))), h9))))
      else (mv_pf h7 a0 13 0 (.int (nZ 0)) fun h10 =>
        mv_gI X h10 a0 13 0 fun x10 =>
        if x10 ≤ 0 then 
        ((some (.inl (some (.int x6)), h10)))
        else ((some (.inl (some (.int (nZ 0))), h10)))))))) :=
  (s_aload_n rfl rfl).trans <| (s_iload_n rfl rfl).trans <| (s_v1 [.ref a0, .int v1] [] rfl rfl (fun _ => rfl)).trans <| c_rcv <| c_clI fun x1 h1 => (s_if_eq rfl).trans <| c_ite ((s_iconst rfl).trans <| (s_istore_n (ls2 := [.ref a0, .int v1, .int v2, .int (nZ (-1))]) rfl (fun _ => rfl)).trans <| (s_aload_n rfl rfl).trans <| (s_iload_n rfl rfl).trans <| (s_iconst rfl).trans <| (s_bipush rfl).trans <| (s_s1 [.int v2, .int (nZ 1), .int (nZ 40)] [.ref a0] rfl rfl (fun _ => rfl)).trans <| c_clI fun x2 h2 => (s_if_ne rfl).trans <| c_ite ((s_iconst rfl).trans <| (s_goto rfl).trans <| (s_pf1 rfl rfl).trans <| c_pf fun h3 => (s_aload_n rfl rfl).trans <| (s_gf1 rfl rfl).trans <| c_gI fun x3 => (s_if_le rfl).trans <| c_ite ((s_iload_n rfl rfl).trans <| s_iret1 rfl rfl) ((s_iconst rfl).trans <| (s_goto rfl).trans <| s_iret1 rfl rfl)) ((s_iload_n rfl rfl).trans <| (s_iconst rfl).trans <| (s_icmp_ne rfl).trans <| c_ite ((s_iconst rfl).trans <| (s_goto rfl).trans <| (s_pf1 rfl rfl).trans <| c_pf fun h4 => (s_aload_n rfl rfl).trans <| (s_gf1 rfl rfl).trans <| c_gI fun x4 => (s_if_le rfl).trans <| c_ite ((s_iload_n rfl rfl).trans <| s_iret1 rfl rfl) ((s_iconst rfl).trans <| (s_goto rfl).trans <| s_iret1 rfl rfl)) ((s_iconst rfl).trans <| (s_pf1 rfl rfl).trans <| c_pf fun h5 => (s_aload_n rfl rfl).trans <| (s_gf1 rfl rfl).trans <| c_gI fun x5 => (s_if_le rfl).trans <| c_ite ((s_iload_n rfl rfl).trans <| s_iret1 rfl rfl) ((s_iconst rfl).trans <| (s_goto rfl).trans <| s_iret1 rfl rfl)))) ((s_aload_n rfl rfl).trans <| (s_iload_n rfl rfl).trans <| (s_iload_n rfl rfl).trans <| (s_v1 [.ref a0, .int v1, .int v2] [] rfl rfl (fun _ => rfl)).trans <| c_rcv <| c_clI fun x6 h6 => (s_goto rfl).trans <| (s_istore_n (ls2 := [.ref a0, .int v1, .int v2, .int x6]) rfl (fun _ => rfl)).trans <| (s_aload_n rfl rfl).trans <| (s_iload_n rfl rfl).trans <| (s_iconst rfl).trans <| (s_bipush rfl).trans <| (s_s1 [.int v2, .int (nZ 1), .int (nZ 40)] [.ref a0] rfl rfl (fun _ => rfl)).trans <| c_clI fun x7 h7 => (s_if_ne rfl).trans <| c_ite ((s_iconst rfl).trans <| (s_goto rfl).trans <| (s_pf1 rfl rfl).trans <| c_pf fun h8 => (s_aload_n rfl rfl).trans <| (s_gf1 rfl rfl).trans <| c_gI fun x8 => (s_if_le rfl).trans <| c_ite ((s_iload_n rfl rfl).trans <| s_iret1 rfl rfl) ((s_iconst rfl).trans <| (s_goto rfl).trans <| s_iret1 rfl rfl)) ((s_iload_n rfl rfl).trans <| (s_iconst rfl).trans <| (s_icmp_ne rfl).trans <| c_ite ((s_iconst rfl).trans <| (s_goto rfl).trans <| (s_pf1 rfl rfl).trans <| c_pf fun h9 => (s_aload_n rfl rfl).trans <| (s_gf1 rfl rfl).trans <| c_gI fun x9 => (s_if_le rfl).trans <| c_ite ((s_iload_n rfl rfl).trans <| s_iret1 rfl rfl) ((s_iconst rfl).trans <| (s_goto rfl).trans <| s_iret1 rfl rfl)) ((s_iconst rfl).trans <| (s_pf1 rfl rfl).trans <| c_pf fun h10 => (s_aload_n rfl rfl).trans <| (s_gf1 rfl rfl).trans <| c_gI fun x10 => (s_if_le rfl).trans <| c_ite ((s_iload_n rfl rfl).trans <| s_iret1 rfl rfl) ((s_iconst rfl).trans <| (s_goto rfl).trans <| s_iret1 rfl rfl))))
theorem mc_X9_fewestDrops (X : mv_X) (d : Nat) (h : mv_H) (a0 : Nat) (v1 : Int32) (v2 : Int32) : mv_call X (d + 1) 208 [.ref a0, .int v1, .int v2] h = mv_run X (mv_call X d) m_X9_fewestDrops 0 [.ref a0, .int v1, .int v2] [] h := rfl
theorem bk_X9_fewestDrops_0 (X : mv_X) (call : mv_G) (h : mv_H) (a0 : Nat) (v1 : Int32) (v2 : Int32) : mv_run X call m_X9_fewestDrops 0 [.ref a0, .int v1, .int v2] [] h =
  mv_rcv X h [.ref a0, .int v1, .int v2] 13 (mv_clI call 207 [.ref a0, .int v1, .int v2] h mv_raise fun x1 h1 =>
  mv_clI call 170 [.int x1] h1 mv_raise fun x2 h2 =>
  (some (.inl (some (.int x2)), h2))) :=
  (s_aload_n rfl rfl).trans <| (s_iload_n rfl rfl).trans <| (s_iload_n rfl rfl).trans <| (s_v1 [.ref a0, .int v1, .int v2] [] rfl rfl (fun _ => rfl)).trans <| c_rcv <| c_clI fun x1 h1 => (s_s1 [.int x1] [] rfl rfl (fun _ => rfl)).trans <| c_clI fun x2 h2 => s_iret1 rfl rfl
theorem mc_X9_fewestDropsBySets (X : mv_X) (d : Nat) (h : mv_H) (a0 : Nat) (v1 : Int32) (v2 : Int32) : mv_call X (d + 1) 209 [.ref a0, .int v1, .int v2] h = mv_run X (mv_call X d) m_X9_fewestDropsBySets 0 [.ref a0, .int v1, .int v2] [] h := rfl
theorem bk_X9_fewestDropsBySets_0 (X : mv_X) (call : mv_G) (h : mv_H) (a0 : Nat) (v1 : Int32) (v2 : Int32) : mv_run X call m_X9_fewestDropsBySets 0 [.ref a0, .int v1, .int v2] [] h =
  mv_rcv X h [.ref a0, .int v1, .int v2] 13 (mv_clI call 208 [.ref a0, .int v1, .int v2] h mv_raise fun x1 h1 =>
  (some (.inl (some (.int x1)), h1))) :=
  (s_aload_n rfl rfl).trans <| (s_iload_n rfl rfl).trans <| (s_iload_n rfl rfl).trans <| (s_v1 [.ref a0, .int v1, .int v2] [] rfl rfl (fun _ => rfl)).trans <| c_rcv <| c_clI fun x1 h1 => s_iret1 rfl rfl
theorem mc_X9_dropWeight (X : mv_X) (d : Nat) (h : mv_H) (a0 : Nat) (v1 : Int32) (v2 : Int32) : mv_call X (d + 1) 210 [.ref a0, .int v1, .int v2] h = mv_run X (mv_call X d) m_X9_dropWeight 0 [.ref a0, .int v1, .int v2, .retAddr 0] [] h := rfl
theorem bk_X9_dropWeight_0 (X : mv_X) (call : mv_G) (h : mv_H) (a0 : Nat) (v1 : Int32) (v2 : Int32) : mv_run X call m_X9_dropWeight 0 [.ref a0, .int v1, .int v2, .retAddr 0] [] h =
  mv_rcv X h [.ref a0, .int v1, .int v2] 13 (mv_clI call 207 [.ref a0, .int v1, .int v2] h mv_raise fun x1 h1 =>
  mv_gI X h1 a0 13 0 fun x2 =>
  if x2 ≤ 0 then 
  (mv_rcv X h1 [.ref a0, .int v1, .int (nZ 0)] 13 (mv_clI call 164 [.ref a0, .int v1, .int (nZ 0)] h1 mv_raise fun x3 h2 =>
    mv_rcv X h2 [.ref a0, .int v1, .int x1] 13 (mv_clI call 164 [.ref a0, .int v1, .int x1] h2 mv_raise fun x4 h3 =>
    (some (.inl (some (.int (x3 - x4))), h3)))))
  else ((some (.inl (some (.int (nZ 0))), h1)))) :=
  (s_aload_n rfl rfl).trans <| (s_iload_n rfl rfl).trans <| (s_iload_n rfl rfl).trans <| (s_v1 [.ref a0, .int v1, .int v2] [] rfl rfl (fun _ => rfl)).trans <| c_rcv <| c_clI fun x1 h1 => (s_istore_n (ls2 := [.ref a0, .int v1, .int v2, .int x1]) rfl (fun _ => rfl)).trans <| (s_aload_n rfl rfl).trans <| (s_gf1 rfl rfl).trans <| c_gI fun x2 => (s_if_le rfl).trans <| c_ite ((s_aload_n rfl rfl).trans <| (s_iload_n rfl rfl).trans <| (s_iconst rfl).trans <| (s_v1 [.ref a0, .int v1, .int (nZ 0)] [] rfl rfl (fun _ => rfl)).trans <| c_rcv <| c_clI fun x3 h2 => (s_aload_n rfl rfl).trans <| (s_iload_n rfl rfl).trans <| (s_iload_n rfl rfl).trans <| (s_v1 [.ref a0, .int v1, .int x1] [.int x3] rfl rfl (fun _ => rfl)).trans <| c_rcv <| c_clI fun x4 h3 => (s_isub rfl).trans <| s_iret1 rfl rfl) ((s_iconst rfl).trans <| (s_goto rfl).trans <| s_iret1 rfl rfl)
theorem mc_X9_wind (X : mv_X) (d : Nat) (h : mv_H) (a0 : Nat) (v1 : Int32) : mv_call X (d + 1) 211 [.ref a0, .int v1] h = mv_run X (mv_call X d) m_X9_wind 0 [.ref a0, .int v1] [] h := rfl
theorem bk_X9_wind_0 (X : mv_X) (call : mv_G) (h : mv_H) (a0 : Nat) (v1 : Int32) : mv_run X call m_X9_wind 0 [.ref a0, .int v1] [] h =
  mv_clI call 157 [.int v1] h mv_raise fun x1 h1 =>
  if x1 = 0 then 
  (mv_pf h1 a0 13 0 (.int (nZ 1)) fun h2 =>
    mv_gI X h2 a0 13 0 fun x2 =>
    if x2 ≤ 0 then 
    (mv_gR X h2 a0 13 1 fun r1 =>
      mv_aI X h2 1 r1 ((nZ 116) + v1) fun x3 =>
      (some (.inl (some (.int x3)), h2)))
    else ((some (.inl (some (.int (nZ 0))), h2))))
  else (mv_pf h1 a0 13 0 (.int (nZ 0)) fun h3 =>
    mv_gI X h3 a0 13 0 fun x4 =>
    if x4 ≤ 0 then 
    (mv_gR X h3 a0 13 1 fun r2 =>
      mv_aI X h3 1 r2 ((nZ 116) + v1) fun x5 =>
      (some (.inl (some (.int x5)), h3)))
    else ((some (.inl (some (.int (nZ 0))), h3)))) :=
  (s_aload_n rfl rfl).trans <| (s_iload_n rfl rfl).trans <| (s_s1 [.int v1] [.ref a0] rfl rfl (fun _ => rfl)).trans <| c_clI fun x1 h1 => (s_if_eq rfl).trans <| c_ite ((s_iconst rfl).trans <| (s_pf1 rfl rfl).trans <| c_pf fun h2 => (s_aload_n rfl rfl).trans <| (s_gf1 rfl rfl).trans <| c_gI fun x2 => (s_if_le rfl).trans <| c_ite ((s_aload_n rfl rfl).trans <| (s_gf2 rfl rfl).trans <| c_gR fun r1 => (s_bipush rfl).trans <| (s_iload_n rfl rfl).trans <| (s_iadd rfl).trans <| (s_iaload rfl).trans <| c_aI fun x3 => s_iret1 rfl rfl) ((s_iconst rfl).trans <| (s_goto rfl).trans <| s_iret1 rfl rfl)) ((s_iconst rfl).trans <| (s_goto rfl).trans <| (s_pf1 rfl rfl).trans <| c_pf fun h3 => (s_aload_n rfl rfl).trans <| (s_gf1 rfl rfl).trans <| c_gI fun x4 => (s_if_le rfl).trans <| c_ite ((s_aload_n rfl rfl).trans <| (s_gf2 rfl rfl).trans <| c_gR fun r2 => (s_bipush rfl).trans <| (s_iload_n rfl rfl).trans <| (s_iadd rfl).trans <| (s_iaload rfl).trans <| c_aI fun x5 => s_iret1 rfl rfl) ((s_iconst rfl).trans <| (s_goto rfl).trans <| s_iret1 rfl rfl))
theorem mc_X9_top (X : mv_X) (d : Nat) (h : mv_H) (a0 : Nat) (v1 : Int32) : mv_call X (d + 1) 212 [.ref a0, .int v1] h = mv_run X (mv_call X d) m_X9_top 0 [.ref a0, .int v1] [] h := rfl
theorem bk_X9_top_0 (X : mv_X) (call : mv_G) (h : mv_H) (a0 : Nat) (v1 : Int32) : mv_run X call m_X9_top 0 [.ref a0, .int v1] [] h =
  mv_rcv X h [.ref a0, .int v1] 13 (mv_clI call 198 [.ref a0, .int v1] h mv_raise fun x1 h1 =>
  if x1 = 0 then 
  ((some (.inl (some (.int (nZ 0))), h1)))
  else (mv_rcv X h1 [.ref a0, .int v1] 13 (mv_clI call 169 [.ref a0, .int v1] h1 mv_raise fun x2 h2 =>
    (some (.inl (some (.int x2)), h2))))) :=
  (s_aload_n rfl rfl).trans <| (s_iload_n rfl rfl).trans <| (s_v1 [.ref a0, .int v1] [] rfl rfl (fun _ => rfl)).trans <| c_rcv <| c_clI fun x1 h1 => (s_if_eq rfl).trans <| c_ite ((s_iconst rfl).trans <| s_iret1 rfl rfl) ((s_aload_n rfl rfl).trans <| (s_iload_n rfl rfl).trans <| (s_v1 [.ref a0, .int v1] [] rfl rfl (fun _ => rfl)).trans <| c_rcv <| c_clI fun x2 h2 => (s_goto rfl).trans <| s_iret1 rfl rfl)
theorem mc_X9_tangles (X : mv_X) (d : Nat) (h : mv_H) (a0 : Nat) : mv_call X (d + 1) 213 [.ref a0] h = mv_run X (mv_call X d) m_X9_tangles 0 [.ref a0, .retAddr 0, .retAddr 0, .retAddr 0] [] h := rfl
theorem bk_X9_tangles_0 (X : mv_X) (call : mv_G) (h : mv_H) (a0 : Nat) : mv_run X call m_X9_tangles 0 [.ref a0, .retAddr 0, .retAddr 0, .retAddr 0] [] h =
  mv_pf h a0 13 0 (.int (nZ 0)) fun h1 =>
  mv_run X call m_X9_tangles 9 [.ref a0, .int (nZ 0), .int (nZ 0), .retAddr 0] [] h1 :=
  (s_aload_n rfl rfl).trans <| (s_iconst rfl).trans <| (s_pf1 rfl rfl).trans <| c_pf fun h1 => (s_iconst rfl).trans <| (s_istore_n (ls2 := [.ref a0, .int (nZ 0), .retAddr 0, .retAddr 0]) rfl (fun _ => rfl)).trans <| (s_iconst rfl).trans <| (s_istore_n (ls2 := [.ref a0, .int (nZ 0), .int (nZ 0), .retAddr 0]) rfl (fun _ => rfl)).trans <| rfl
theorem bk_X9_tangles_9 (X : mv_X) (call : mv_G) (h : mv_H) (a0 : Nat) (v1 : Int32) (v2 : Int32) (j3 : Value) : mv_run X call m_X9_tangles 9 [.ref a0, .int v1, .int v2, j3] [] h =
  if (nZ 10) ≤ v2 then 
  ((some (.inl (some (.int v1)), h)))
  else (mv_run X call m_X9_tangles 19 [.ref a0, .int v1, .int v2, .int (v2 + (nZ 1))] [] h) :=
  (s_iload_n rfl rfl).trans <| (s_bipush rfl).trans <| (s_icmp_ge rfl).trans <| c_ite ((s_iload_n rfl rfl).trans <| s_iret1 rfl rfl) ((s_iload_n rfl rfl).trans <| (s_iconst rfl).trans <| (s_iadd rfl).trans <| (s_istore_n (ls2 := [.ref a0, .int v1, .int v2, .int (v2 + (nZ 1))]) rfl (fun _ => rfl)).trans <| rfl)
theorem bk_X9_tangles_19 (X : mv_X) (call : mv_G) (h : mv_H) (a0 : Nat) (v1 : Int32) (v2 : Int32) (v3 : Int32) : mv_run X call m_X9_tangles 19 [.ref a0, .int v1, .int v2, .int v3] [] h =
  if (nZ 10) ≤ v3 then 
  (mv_run X call m_X9_tangles 9 [.ref a0, .int v1, .int (v2 + nZ 1), .int v3] [] h)
  else (mv_rcv X h [.ref a0, .int v2] 13 (mv_clI call 160 [.ref a0, .int v2] h mv_raise fun x1 h1 =>
    if x1 = 0 then 
    (mv_run X call m_X9_tangles 19 [.ref a0, .int (v1 + (nZ 0)), .int v2, .int (v3 + nZ 1)] [] h1)
    else (mv_rcv X h1 [.ref a0, .int v3] 13 (mv_clI call 160 [.ref a0, .int v3] h1 mv_raise fun x2 h2 =>
      if x2 = 0 then 
      (mv_run X call m_X9_tangles 19 [.ref a0, .int (v1 + (nZ 0)), .int v2, .int (v3 + nZ 1)] [] h2)
      else (mv_rcv X h2 [.ref a0, .int v2] 13 (mv_clI call 169 [.ref a0, .int v2] h2 mv_raise fun x3 h3 =>
        mv_rcv X h3 [.ref a0, .int v3] 13 (mv_clI call 169 [.ref a0, .int v3] h3 mv_raise fun x4 h4 =>
        if x3 ≤ x4 then 
        (mv_run X call m_X9_tangles 19 [.ref a0, .int (v1 + (nZ 0)), .int v2, .int (v3 + nZ 1)] [] h4)
        else (mv_run X call m_X9_tangles 19 [.ref a0, .int (v1 + (nZ 1)), .int v2, .int (v3 + nZ 1)] [] h4)))))))) :=
  (s_iload_n rfl rfl).trans <| (s_bipush rfl).trans <| (s_icmp_ge rfl).trans <| c_ite ((s_iinc (ls2 := [.ref a0, .int v1, .int (v2 + nZ 1), .int v3]) rfl rfl (fun _ => rfl)).trans <| (s_goto rfl).trans <| rfl) ((s_iload_n rfl rfl).trans <| (s_aload_n rfl rfl).trans <| (s_iload_n rfl rfl).trans <| (s_v1 [.ref a0, .int v2] [.int v1] rfl rfl (fun _ => rfl)).trans <| c_rcv <| c_clI fun x1 h1 => (s_if_eq rfl).trans <| c_ite ((s_iconst rfl).trans <| (s_iadd rfl).trans <| (s_istore_n (ls2 := [.ref a0, .int (v1 + (nZ 0)), .int v2, .int v3]) rfl (fun _ => rfl)).trans <| (s_iinc (ls2 := [.ref a0, .int (v1 + (nZ 0)), .int v2, .int (v3 + nZ 1)]) rfl rfl (fun _ => rfl)).trans <| (s_goto rfl).trans <| rfl) ((s_aload_n rfl rfl).trans <| (s_iload_n rfl rfl).trans <| (s_v1 [.ref a0, .int v3] [.int v1] rfl rfl (fun _ => rfl)).trans <| c_rcv <| c_clI fun x2 h2 => (s_if_eq rfl).trans <| c_ite ((s_iconst rfl).trans <| (s_iadd rfl).trans <| (s_istore_n (ls2 := [.ref a0, .int (v1 + (nZ 0)), .int v2, .int v3]) rfl (fun _ => rfl)).trans <| (s_iinc (ls2 := [.ref a0, .int (v1 + (nZ 0)), .int v2, .int (v3 + nZ 1)]) rfl rfl (fun _ => rfl)).trans <| (s_goto rfl).trans <| rfl) ((s_aload_n rfl rfl).trans <| (s_iload_n rfl rfl).trans <| (s_v1 [.ref a0, .int v2] [.int v1] rfl rfl (fun _ => rfl)).trans <| c_rcv <| c_clI fun x3 h3 => (s_aload_n rfl rfl).trans <| (s_iload_n rfl rfl).trans <| (s_v1 [.ref a0, .int v3] [.int x3, .int v1] rfl rfl (fun _ => rfl)).trans <| c_rcv <| c_clI fun x4 h4 => (s_icmp_le rfl).trans <| c_ite ((s_iconst rfl).trans <| (s_iadd rfl).trans <| (s_istore_n (ls2 := [.ref a0, .int (v1 + (nZ 0)), .int v2, .int v3]) rfl (fun _ => rfl)).trans <| (s_iinc (ls2 := [.ref a0, .int (v1 + (nZ 0)), .int v2, .int (v3 + nZ 1)]) rfl rfl (fun _ => rfl)).trans <| (s_goto rfl).trans <| rfl) ((s_iconst rfl).trans <| (s_goto rfl).trans <| (s_iadd rfl).trans <| (s_istore_n (ls2 := [.ref a0, .int (v1 + (nZ 1)), .int v2, .int v3]) rfl (fun _ => rfl)).trans <| (s_iinc (ls2 := [.ref a0, .int (v1 + (nZ 1)), .int v2, .int (v3 + nZ 1)]) rfl rfl (fun _ => rfl)).trans <| (s_goto rfl).trans <| rfl))))
theorem mc_X9_tanglesByMerging (X : mv_X) (d : Nat) (h : mv_H) (a0 : Nat) : mv_call X (d + 1) 214 [.ref a0] h = mv_run X (mv_call X d) m_X9_tanglesByMerging 0 [.ref a0] [] h := rfl
theorem bk_X9_tanglesByMerging_0 (X : mv_X) (call : mv_G) (h : mv_H) (a0 : Nat) : mv_run X call m_X9_tanglesByMerging 0 [.ref a0] [] h =
  mv_rcv X h [.ref a0] 13 (mv_clI call 213 [.ref a0] h mv_raise fun x1 h1 =>
  (some (.inl (some (.int x1)), h1))) :=
  (s_aload_n rfl rfl).trans <| (s_v1 [.ref a0] [] rfl rfl (fun _ => rfl)).trans <| c_rcv <| c_clI fun x1 h1 => s_iret1 rfl rfl
theorem mc_X9_longestCalm (X : mv_X) (d : Nat) (h : mv_H) (a0 : Nat) (v1 : Int32) : mv_call X (d + 1) 215 [.ref a0, .int v1] h = mv_run X (mv_call X d) m_X9_longestCalm 0 [.ref a0, .int v1, .retAddr 0, .retAddr 0, .retAddr 0] [] h := rfl
theorem bk_X9_longestCalm_0 (X : mv_X) (call : mv_G) (h : mv_H) (a0 : Nat) (v1 : Int32) : mv_run X call m_X9_longestCalm 0 [.ref a0, .int v1, .retAddr 0, .retAddr 0, .retAddr 0] [] h =
  mv_clI call 150 [.int v1, .int (nZ 0), .int (nZ 9)] h mv_raise fun x1 h1 =>
  if x1 = 0 then 
  (mv_pf h1 a0 13 0 (.int (nZ 1)) fun h2 =>
    mv_gI X h2 a0 13 0 fun x2 =>
    if x2 ≤ 0 then 
    (mv_run X call m_X9_longestCalm 32 [.ref a0, .int v1, .int (nZ 0), .int (nZ 0), .retAddr 0] [] h2)
    else ((some (.inl (some (.int (nZ 0))), h2))))
  else (mv_pf h1 a0 13 0 (.int (nZ 0)) fun h3 =>
    mv_gI X h3 a0 13 0 fun x3 =>
    if x3 ≤ 0 then 
    (mv_run X call m_X9_longestCalm 32 [.ref a0, .int v1, .int (nZ 0), .int (nZ 0), .retAddr 0] [] h3)
    else ((some (.inl (some (.int (nZ 0))), h3)))) :=
  (s_aload_n rfl rfl).trans <| (s_iload_n rfl rfl).trans <| (s_iconst rfl).trans <| (s_bipush rfl).trans <| (s_s1 [.int v1, .int (nZ 0), .int (nZ 9)] [.ref a0] rfl rfl (fun _ => rfl)).trans <| c_clI fun x1 h1 => (s_if_eq rfl).trans <| c_ite ((s_iconst rfl).trans <| (s_pf1 rfl rfl).trans <| c_pf fun h2 => (s_aload_n rfl rfl).trans <| (s_gf1 rfl rfl).trans <| c_gI fun x2 => (s_if_le rfl).trans <| c_ite ((s_iconst rfl).trans <| (s_istore_n (ls2 := [.ref a0, .int v1, .int (nZ 0), .retAddr 0, .retAddr 0]) rfl (fun _ => rfl)).trans <| (s_iconst rfl).trans <| (s_istore_n (ls2 := [.ref a0, .int v1, .int (nZ 0), .int (nZ 0), .retAddr 0]) rfl (fun _ => rfl)).trans <| rfl) ((s_iconst rfl).trans <| s_iret1 rfl rfl)) ((s_iconst rfl).trans <| (s_goto rfl).trans <| (s_pf1 rfl rfl).trans <| c_pf fun h3 => (s_aload_n rfl rfl).trans <| (s_gf1 rfl rfl).trans <| c_gI fun x3 => (s_if_le rfl).trans <| c_ite ((s_iconst rfl).trans <| (s_istore_n (ls2 := [.ref a0, .int v1, .int (nZ 0), .retAddr 0, .retAddr 0]) rfl (fun _ => rfl)).trans <| (s_iconst rfl).trans <| (s_istore_n (ls2 := [.ref a0, .int v1, .int (nZ 0), .int (nZ 0), .retAddr 0]) rfl (fun _ => rfl)).trans <| rfl) ((s_iconst rfl).trans <| s_iret1 rfl rfl))
theorem bk_X9_longestCalm_32 (X : mv_X) (call : mv_G) (h : mv_H) (a0 : Nat) (v1 : Int32) (v2 : Int32) (v3 : Int32) (j4 : Value) : mv_run X call m_X9_longestCalm 32 [.ref a0, .int v1, .int v2, .int v3, j4] [] h =
  if (nZ 24) ≤ v3 then 
  ((some (.inl (some (.int v2)), h)))
  else (mv_run X call m_X9_longestCalm 41 [.ref a0, .int v1, .int v2, .int v3, .int (nZ 0)] [] h) :=
  (s_iload_n rfl rfl).trans <| (s_bipush rfl).trans <| (s_icmp_ge rfl).trans <| c_ite ((s_iload_n rfl rfl).trans <| s_iret1 rfl rfl) ((s_iconst rfl).trans <| (s_istore (ls2 := [.ref a0, .int v1, .int v2, .int v3, .int (nZ 0)]) rfl (fun _ => rfl)).trans <| rfl)
theorem bk_X9_longestCalm_41 (X : mv_X) (call : mv_G) (h : mv_H) (a0 : Nat) (v1 : Int32) (v2 : Int32) (v3 : Int32) (v4 : Int32) : mv_run X call m_X9_longestCalm 41 [.ref a0, .int v1, .int v2, .int v3, .int v4] [] h =
  if (nZ 24) ≤ v4 then 
  (if v4 ≤ v2 then 
    (mv_run X call m_X9_longestCalm 32 [.ref a0, .int v1, .int v2, .int (v3 + nZ 1), .int v4] [] h)
    else (mv_run X call m_X9_longestCalm 32 [.ref a0, .int v1, .int v4, .int (v3 + nZ 1), .int v4] [] h))
  else (mv_gR X h a0 13 1 fun r1 =>
    if (nZ 24) = 0 then none else 
    mv_aI X h 1 r1 ((nZ 116) + ((v3 + v4) - (v3 + v4) / (nZ 24) * (nZ 24))) fun x1 =>
    mv_clI call 150 [.int x1, .int (-v1), .int v1] h mv_raise fun x2 h1 =>
    if x2 = 0 then 
    (if v4 ≤ v2 then 
      (mv_run X call m_X9_longestCalm 32 [.ref a0, .int v1, .int v2, .int (v3 + nZ 1), .int v4] [] h1)
      else (mv_run X call m_X9_longestCalm 32 [.ref a0, .int v1, .int v4, .int (v3 + nZ 1), .int v4] [] h1))
    else (mv_run X call m_X9_longestCalm 41 [.ref a0, .int v1, .int v2, .int v3, .int (v4 + nZ 1)] [] h1)) :=
  (s_iload rfl rfl).trans <| (s_bipush rfl).trans <| (s_icmp_ge rfl).trans <| c_ite ((s_iload rfl rfl).trans <| (s_iload_n rfl rfl).trans <| (s_icmp_le rfl).trans <| c_ite ((s_iload_n rfl rfl).trans <| (s_istore_n (ls2 := [.ref a0, .int v1, .int v2, .int v3, .int v4]) rfl (fun _ => rfl)).trans <| (s_iinc (ls2 := [.ref a0, .int v1, .int v2, .int (v3 + nZ 1), .int v4]) rfl rfl (fun _ => rfl)).trans <| (s_goto rfl).trans <| rfl) ((s_iload rfl rfl).trans <| (s_goto rfl).trans <| (s_istore_n (ls2 := [.ref a0, .int v1, .int v4, .int v3, .int v4]) rfl (fun _ => rfl)).trans <| (s_iinc (ls2 := [.ref a0, .int v1, .int v4, .int (v3 + nZ 1), .int v4]) rfl rfl (fun _ => rfl)).trans <| (s_goto rfl).trans <| rfl)) ((s_aload_n rfl rfl).trans <| (s_gf2 rfl rfl).trans <| c_gR fun r1 => (s_bipush rfl).trans <| (s_iload_n rfl rfl).trans <| (s_iload rfl rfl).trans <| (s_iadd rfl).trans <| (s_bipush rfl).trans <| (s_irem rfl).trans <| c_ite rfl <| (s_iadd rfl).trans <| (s_iaload rfl).trans <| c_aI fun x1 => (s_iload_n rfl rfl).trans <| (s_ineg rfl).trans <| (s_iload_n rfl rfl).trans <| (s_s1 [.int x1, .int (-v1), .int v1] [] rfl rfl (fun _ => rfl)).trans <| c_clI fun x2 h1 => (s_if_eq rfl).trans <| c_ite ((s_iload rfl rfl).trans <| (s_iload_n rfl rfl).trans <| (s_icmp_le rfl).trans <| c_ite ((s_iload_n rfl rfl).trans <| (s_istore_n (ls2 := [.ref a0, .int v1, .int v2, .int v3, .int v4]) rfl (fun _ => rfl)).trans <| (s_iinc (ls2 := [.ref a0, .int v1, .int v2, .int (v3 + nZ 1), .int v4]) rfl rfl (fun _ => rfl)).trans <| (s_goto rfl).trans <| rfl) ((s_iload rfl rfl).trans <| (s_goto rfl).trans <| (s_istore_n (ls2 := [.ref a0, .int v1, .int v4, .int v3, .int v4]) rfl (fun _ => rfl)).trans <| (s_iinc (ls2 := [.ref a0, .int v1, .int v4, .int (v3 + nZ 1), .int v4]) rfl rfl (fun _ => rfl)).trans <| (s_goto rfl).trans <| rfl)) ((s_iinc (ls2 := [.ref a0, .int v1, .int v2, .int v3, .int (v4 + nZ 1)]) rfl rfl (fun _ => rfl)).trans <| (s_goto rfl).trans <| rfl))
theorem mc_X9_longestCalmByTrying (X : mv_X) (d : Nat) (h : mv_H) (a0 : Nat) (v1 : Int32) : mv_call X (d + 1) 216 [.ref a0, .int v1] h = mv_run X (mv_call X d) m_X9_longestCalmByTrying 0 [.ref a0, .int v1] [] h := rfl
theorem bk_X9_longestCalmByTrying_0 (X : mv_X) (call : mv_G) (h : mv_H) (a0 : Nat) (v1 : Int32) : mv_run X call m_X9_longestCalmByTrying 0 [.ref a0, .int v1] [] h =
  mv_rcv X h [.ref a0, .int v1] 13 (mv_clI call 215 [.ref a0, .int v1] h mv_raise fun x1 h1 =>
  (some (.inl (some (.int x1)), h1))) :=
  (s_aload_n rfl rfl).trans <| (s_iload_n rfl rfl).trans <| (s_v1 [.ref a0, .int v1] [] rfl rfl (fun _ => rfl)).trans <| c_rcv <| c_clI fun x1 h1 => s_iret1 rfl rfl
theorem mc_X9_pilotCount (X : mv_X) (d : Nat) (h : mv_H) (a0 : Nat) : mv_call X (d + 1) 217 [.ref a0] h = mv_run X (mv_call X d) m_X9_pilotCount 0 [.ref a0] [] h := rfl
theorem bk_X9_pilotCount_0 (X : mv_X) (call : mv_G) (h : mv_H) (a0 : Nat) : mv_run X call m_X9_pilotCount 0 [.ref a0] [] h =
  mv_pf h a0 13 0 (.int (nZ 0)) fun h1 =>
  mv_gR X h1 a0 13 1 fun r1 =>
  mv_aI X h1 1 r1 (nZ 5) fun x1 =>
  (some (.inl (some (.int x1)), h1)) :=
  (s_aload_n rfl rfl).trans <| (s_iconst rfl).trans <| (s_pf1 rfl rfl).trans <| c_pf fun h1 => (s_aload_n rfl rfl).trans <| (s_gf2 rfl rfl).trans <| c_gR fun r1 => (s_iconst rfl).trans <| (s_iaload rfl).trans <| c_aI fun x1 => s_iret1 rfl rfl
theorem mc_X9_isOn (X : mv_X) (d : Nat) (h : mv_H) (a0 : Nat) (v1 : Int32) (v2 : Int32) : mv_call X (d + 1) 218 [.ref a0, .int v1, .int v2] h = mv_run X (mv_call X d) m_X9_isOn 0 [.ref a0, .int v1, .int v2, .retAddr 0, .retAddr 0] [] h := rfl
theorem bk_X9_isOn_0 (X : mv_X) (call : mv_G) (h : mv_H) (a0 : Nat) (v1 : Int32) (v2 : Int32) : mv_run X call m_X9_isOn 0 [.ref a0, .int v1, .int v2, .retAddr 0, .retAddr 0] [] h =
  mv_rcv X h [.ref a0, .int v1, .int (nZ 1)] 13 (mv_clI call 162 [.ref a0, .int v1, .int (nZ 1)] h mv_raise fun x1 h1 =>
  mv_rcv X h1 [.ref a0, .int v1, .int (nZ 2)] 13 (mv_clI call 162 [.ref a0, .int v1, .int (nZ 2)] h1 mv_raise fun x2 h2 =>
  if x2 < x1 then 
  (if x1 ≤ v2 then 
    ((some (.inl (some (.int (nZ 1))), h2)))
    else (if x2 < v2 then 
      ((some (.inl (some (.int (nZ 0))), h2)))
      else ((some (.inl (some (.int (nZ 1))), h2)))))
  else (mv_clI call 150 [.int v2, .int x1, .int x2] h2 mv_raise fun x3 h3 =>
    mv_chk (mv_ok 6 x3) (some (.inl (some (.int x3)), h3))))) :=
  (s_aload_n rfl rfl).trans <| (s_iload_n rfl rfl).trans <| (s_iconst rfl).trans <| (s_v1 [.ref a0, .int v1, .int (nZ 1)] [] rfl rfl (fun _ => rfl)).trans <| c_rcv <| c_clI fun x1 h1 => (s_istore_n (ls2 := [.ref a0, .int v1, .int v2, .int x1, .retAddr 0]) rfl (fun _ => rfl)).trans <| (s_aload_n rfl rfl).trans <| (s_iload_n rfl rfl).trans <| (s_iconst rfl).trans <| (s_v1 [.ref a0, .int v1, .int (nZ 2)] [] rfl rfl (fun _ => rfl)).trans <| c_rcv <| c_clI fun x2 h2 => (s_istore (ls2 := [.ref a0, .int v1, .int v2, .int x1, .int x2]) rfl (fun _ => rfl)).trans <| (s_iload_n rfl rfl).trans <| (s_iload rfl rfl).trans <| (s_icmp_gt rfl).trans <| c_ite ((s_iload_n rfl rfl).trans <| (s_iload_n rfl rfl).trans <| (s_icmp_ge rfl).trans <| c_ite ((s_iconst rfl).trans <| (s_goto rfl).trans <| s_iretb rfl rfl) ((s_iload_n rfl rfl).trans <| (s_iload rfl rfl).trans <| (s_icmp_gt rfl).trans <| c_ite ((s_iconst rfl).trans <| s_iretb rfl rfl) ((s_iconst rfl).trans <| (s_goto rfl).trans <| s_iretb rfl rfl))) ((s_iload_n rfl rfl).trans <| (s_iload_n rfl rfl).trans <| (s_iload rfl rfl).trans <| (s_s1 [.int v2, .int x1, .int x2] [] rfl rfl (fun _ => rfl)).trans <| c_clI fun x3 h3 => (s_goto rfl).trans <| s_iret rfl)
theorem mc_X9_crews (X : mv_X) (d : Nat) (h : mv_H) (a0 : Nat) (v1 : Int32) (v2 : Int32) : mv_call X (d + 1) 219 [.ref a0, .int v1, .int v2] h = mv_run X (mv_call X d) m_X9_crews 0 [.ref a0, .int v1, .int v2] [] h := rfl
theorem bk_X9_crews_0 (X : mv_X) (call : mv_G) (h : mv_H) (a0 : Nat) (v1 : Int32) (v2 : Int32) : mv_run X call m_X9_crews 0 [.ref a0, .int v1, .int v2] [] h =
  mv_rcv X h [.ref a0] 13 (mv_clI call 163 [.ref a0] h mv_raise fun x1 h1 =>
  mv_rcv X h1 [.ref a0, .int v1, .int x1] 13 (mv_clI call 218 [.ref a0, .int v1, .int x1] h1 mv_raise fun x2 h2 =>
  if x2 = 0 then 
  ((some (.inl (some (.int (nZ 0))), h2)))
  else (mv_rcv X h2 [.ref a0, .int v2, .int (nZ 0)] 13 (mv_clI call 165 [.ref a0, .int v2, .int (nZ 0)] h2 mv_raise fun x3 h3 =>
    mv_rcv X h3 [.ref a0, .int v1, .int (nZ 0)] 13 (mv_clI call 162 [.ref a0, .int v1, .int (nZ 0)] h3 mv_raise fun x4 h4 =>
    if x3 < x4 then 
    ((some (.inl (some (.int (nZ 0))), h4)))
    else ((some (.inl (some (.int (nZ 1))), h4)))))))) :=
  (s_aload_n rfl rfl).trans <| (s_iload_n rfl rfl).trans <| (s_aload_n rfl rfl).trans <| (s_v1 [.ref a0] [.int v1, .ref a0] rfl rfl (fun _ => rfl)).trans <| c_rcv <| c_clI fun x1 h1 => (s_v1 [.ref a0, .int v1, .int x1] [] rfl rfl (fun _ => rfl)).trans <| c_rcv <| c_clI fun x2 h2 => (s_if_eq rfl).trans <| c_ite ((s_iconst rfl).trans <| s_iretb rfl rfl) ((s_aload_n rfl rfl).trans <| (s_iload_n rfl rfl).trans <| (s_iconst rfl).trans <| (s_v1 [.ref a0, .int v2, .int (nZ 0)] [] rfl rfl (fun _ => rfl)).trans <| c_rcv <| c_clI fun x3 h3 => (s_aload_n rfl rfl).trans <| (s_iload_n rfl rfl).trans <| (s_iconst rfl).trans <| (s_v1 [.ref a0, .int v1, .int (nZ 0)] [.int x3] rfl rfl (fun _ => rfl)).trans <| c_rcv <| c_clI fun x4 h4 => (s_icmp_lt rfl).trans <| c_ite ((s_iconst rfl).trans <| s_iretb rfl rfl) ((s_iconst rfl).trans <| (s_goto rfl).trans <| s_iretb rfl rfl))
theorem mc_X9_isOnDuty (X : mv_X) (d : Nat) (h : mv_H) (a0 : Nat) (v1 : Int32) (v2 : Int32) : mv_call X (d + 1) 220 [.ref a0, .int v1, .int v2] h = mv_run X (mv_call X d) m_X9_isOnDuty 0 [.ref a0, .int v1, .int v2] [] h := rfl
theorem bk_X9_isOnDuty_0 (X : mv_X) (call : mv_G) (h : mv_H) (a0 : Nat) (v1 : Int32) (v2 : Int32) : mv_run X call m_X9_isOnDuty 0 [.ref a0, .int v1, .int v2] [] h =
  mv_rcv X h [.ref a0, .int v1] 13 (mv_clI call 161 [.ref a0, .int v1] h mv_raise fun x1 h1 =>
  if x1 = 0 then 
  (mv_pf h1 a0 13 0 (.int (nZ 1)) fun h2 =>
    mv_gI X h2 a0 13 0 fun x2 =>
    if x2 = 0 then 
    (mv_rcv X h2 [.ref a0, .int v1, .int v2] 13 (mv_clI call 218 [.ref a0, .int v1, .int v2] h2 mv_raise fun x3 h3 =>
      if x3 = 0 then 
      ((some (.inl (some (.int (nZ 0))), h3)))
      else ((some (.inl (some (.int (nZ 1))), h3)))))
    else ((some (.inl (some (.int (nZ 0))), h2))))
  else (mv_clI call 157 [.int v2] h1 mv_raise fun x4 h4 =>
    if x4 = 0 then 
    (mv_pf h4 a0 13 0 (.int (nZ 2)) fun h5 =>
      mv_gI X h5 a0 13 0 fun x5 =>
      if x5 = 0 then 
      (mv_rcv X h5 [.ref a0, .int v1, .int v2] 13 (mv_clI call 218 [.ref a0, .int v1, .int v2] h5 mv_raise fun x6 h6 =>
        if x6 = 0 then 
        ((some (.inl (some (.int (nZ 0))), h6)))
        else ((some (.inl (some (.int (nZ 1))), h6)))))
      else ((some (.inl (some (.int (nZ 0))), h5))))
    else (mv_pf h4 a0 13 0 (.int (nZ 0)) fun h7 =>
      mv_gI X h7 a0 13 0 fun x7 =>
      if x7 = 0 then 
      (mv_rcv X h7 [.ref a0, .int v1, .int v2] 13 (mv_clI call 218 [.ref a0, .int v1, .int v2] h7 mv_raise fun x8 h8 =>
        if x8 = 0 then 
        ((some (.inl (some (.int (nZ 0))), h8)))
        else ((some (.inl (some (.int (nZ 1))), h8)))))
      else ((some (.inl (some (.int (nZ 0))), h7)))))) :=
  (s_aload_n rfl rfl).trans <| (s_aload_n rfl rfl).trans <| (s_iload_n rfl rfl).trans <| (s_v1 [.ref a0, .int v1] [.ref a0] rfl rfl (fun _ => rfl)).trans <| c_rcv <| c_clI fun x1 h1 => (s_if_ne rfl).trans <| c_ite ((s_iconst rfl).trans <| (s_goto rfl).trans <| (s_pf1 rfl rfl).trans <| c_pf fun h2 => (s_aload_n rfl rfl).trans <| (s_gf1 rfl rfl).trans <| c_gI fun x2 => (s_if_ne rfl).trans <| c_ite ((s_aload_n rfl rfl).trans <| (s_iload_n rfl rfl).trans <| (s_iload_n rfl rfl).trans <| (s_v1 [.ref a0, .int v1, .int v2] [] rfl rfl (fun _ => rfl)).trans <| c_rcv <| c_clI fun x3 h3 => (s_if_eq rfl).trans <| c_ite ((s_iconst rfl).trans <| s_iretb rfl rfl) ((s_iconst rfl).trans <| (s_goto rfl).trans <| s_iretb rfl rfl)) ((s_iconst rfl).trans <| s_iretb rfl rfl)) ((s_iload_n rfl rfl).trans <| (s_s1 [.int v2] [.ref a0] rfl rfl (fun _ => rfl)).trans <| c_clI fun x4 h4 => (s_if_eq rfl).trans <| c_ite ((s_iconst rfl).trans <| (s_pf1 rfl rfl).trans <| c_pf fun h5 => (s_aload_n rfl rfl).trans <| (s_gf1 rfl rfl).trans <| c_gI fun x5 => (s_if_ne rfl).trans <| c_ite ((s_aload_n rfl rfl).trans <| (s_iload_n rfl rfl).trans <| (s_iload_n rfl rfl).trans <| (s_v1 [.ref a0, .int v1, .int v2] [] rfl rfl (fun _ => rfl)).trans <| c_rcv <| c_clI fun x6 h6 => (s_if_eq rfl).trans <| c_ite ((s_iconst rfl).trans <| s_iretb rfl rfl) ((s_iconst rfl).trans <| (s_goto rfl).trans <| s_iretb rfl rfl)) ((s_iconst rfl).trans <| s_iretb rfl rfl)) ((s_iconst rfl).trans <| (s_goto rfl).trans <| (s_pf1 rfl rfl).trans <| c_pf fun h7 => (s_aload_n rfl rfl).trans <| (s_gf1 rfl rfl).trans <| c_gI fun x7 => (s_if_ne rfl).trans <| c_ite ((s_aload_n rfl rfl).trans <| (s_iload_n rfl rfl).trans <| (s_iload_n rfl rfl).trans <| (s_v1 [.ref a0, .int v1, .int v2] [] rfl rfl (fun _ => rfl)).trans <| c_rcv <| c_clI fun x8 h8 => (s_if_eq rfl).trans <| c_ite ((s_iconst rfl).trans <| s_iretb rfl rfl) ((s_iconst rfl).trans <| (s_goto rfl).trans <| s_iretb rfl rfl)) ((s_iconst rfl).trans <| s_iretb rfl rfl)))
theorem mc_X9_canCrew (X : mv_X) (d : Nat) (h : mv_H) (a0 : Nat) (v1 : Int32) (v2 : Int32) : mv_call X (d + 1) 221 [.ref a0, .int v1, .int v2] h = mv_run X (mv_call X d) m_X9_canCrew 0 [.ref a0, .int v1, .int v2] [] h := rfl
theorem bk_X9_canCrew_0 (X : mv_X) (call : mv_G) (h : mv_H) (a0 : Nat) (v1 : Int32) (v2 : Int32) : mv_run X call m_X9_canCrew 0 [.ref a0, .int v1, .int v2] [] h =
  mv_rcv X h [.ref a0, .int v1] 13 (mv_clI call 161 [.ref a0, .int v1] h mv_raise fun x1 h1 =>
  if x1 = 0 then 
  (mv_pf h1 a0 13 0 (.int (nZ 1)) fun h2 =>
    mv_gI X h2 a0 13 0 fun x2 =>
    if x2 = 0 then 
    (mv_rcv X h2 [.ref a0, .int v1, .int v2] 13 (mv_clI call 219 [.ref a0, .int v1, .int v2] h2 mv_raise fun x3 h3 =>
      if x3 = 0 then 
      ((some (.inl (some (.int (nZ 0))), h3)))
      else ((some (.inl (some (.int (nZ 1))), h3)))))
    else ((some (.inl (some (.int (nZ 0))), h2))))
  else (mv_rcv X h1 [.ref a0, .int v2] 13 (mv_clI call 160 [.ref a0, .int v2] h1 mv_raise fun x4 h4 =>
    if x4 = 0 then 
    (mv_pf h4 a0 13 0 (.int (nZ 2)) fun h5 =>
      mv_gI X h5 a0 13 0 fun x5 =>
      if x5 = 0 then 
      (mv_rcv X h5 [.ref a0, .int v1, .int v2] 13 (mv_clI call 219 [.ref a0, .int v1, .int v2] h5 mv_raise fun x6 h6 =>
        if x6 = 0 then 
        ((some (.inl (some (.int (nZ 0))), h6)))
        else ((some (.inl (some (.int (nZ 1))), h6)))))
      else ((some (.inl (some (.int (nZ 0))), h5))))
    else (mv_pf h4 a0 13 0 (.int (nZ 0)) fun h7 =>
      mv_gI X h7 a0 13 0 fun x7 =>
      if x7 = 0 then 
      (mv_rcv X h7 [.ref a0, .int v1, .int v2] 13 (mv_clI call 219 [.ref a0, .int v1, .int v2] h7 mv_raise fun x8 h8 =>
        if x8 = 0 then 
        ((some (.inl (some (.int (nZ 0))), h8)))
        else ((some (.inl (some (.int (nZ 1))), h8)))))
      else ((some (.inl (some (.int (nZ 0))), h7))))))) :=
  (s_aload_n rfl rfl).trans <| (s_aload_n rfl rfl).trans <| (s_iload_n rfl rfl).trans <| (s_v1 [.ref a0, .int v1] [.ref a0] rfl rfl (fun _ => rfl)).trans <| c_rcv <| c_clI fun x1 h1 => (s_if_ne rfl).trans <| c_ite ((s_iconst rfl).trans <| (s_goto rfl).trans <| (s_pf1 rfl rfl).trans <| c_pf fun h2 => (s_aload_n rfl rfl).trans <| (s_gf1 rfl rfl).trans <| c_gI fun x2 => (s_if_ne rfl).trans <| c_ite ((s_aload_n rfl rfl).trans <| (s_iload_n rfl rfl).trans <| (s_iload_n rfl rfl).trans <| (s_v1 [.ref a0, .int v1, .int v2] [] rfl rfl (fun _ => rfl)).trans <| c_rcv <| c_clI fun x3 h3 => (s_if_eq rfl).trans <| c_ite ((s_iconst rfl).trans <| s_iretb rfl rfl) ((s_iconst rfl).trans <| (s_goto rfl).trans <| s_iretb rfl rfl)) ((s_iconst rfl).trans <| s_iretb rfl rfl)) ((s_aload_n rfl rfl).trans <| (s_iload_n rfl rfl).trans <| (s_v1 [.ref a0, .int v2] [.ref a0] rfl rfl (fun _ => rfl)).trans <| c_rcv <| c_clI fun x4 h4 => (s_if_eq rfl).trans <| c_ite ((s_iconst rfl).trans <| (s_pf1 rfl rfl).trans <| c_pf fun h5 => (s_aload_n rfl rfl).trans <| (s_gf1 rfl rfl).trans <| c_gI fun x5 => (s_if_ne rfl).trans <| c_ite ((s_aload_n rfl rfl).trans <| (s_iload_n rfl rfl).trans <| (s_iload_n rfl rfl).trans <| (s_v1 [.ref a0, .int v1, .int v2] [] rfl rfl (fun _ => rfl)).trans <| c_rcv <| c_clI fun x6 h6 => (s_if_eq rfl).trans <| c_ite ((s_iconst rfl).trans <| s_iretb rfl rfl) ((s_iconst rfl).trans <| (s_goto rfl).trans <| s_iretb rfl rfl)) ((s_iconst rfl).trans <| s_iretb rfl rfl)) ((s_iconst rfl).trans <| (s_goto rfl).trans <| (s_pf1 rfl rfl).trans <| c_pf fun h7 => (s_aload_n rfl rfl).trans <| (s_gf1 rfl rfl).trans <| c_gI fun x7 => (s_if_ne rfl).trans <| c_ite ((s_aload_n rfl rfl).trans <| (s_iload_n rfl rfl).trans <| (s_iload_n rfl rfl).trans <| (s_v1 [.ref a0, .int v1, .int v2] [] rfl rfl (fun _ => rfl)).trans <| c_rcv <| c_clI fun x8 h8 => (s_if_eq rfl).trans <| c_ite ((s_iconst rfl).trans <| s_iretb rfl rfl) ((s_iconst rfl).trans <| (s_goto rfl).trans <| s_iretb rfl rfl)) ((s_iconst rfl).trans <| s_iretb rfl rfl)))
theorem mc_X9_mostCrewed (X : mv_X) (d : Nat) (h : mv_H) (a0 : Nat) : mv_call X (d + 1) 222 [.ref a0] h = mv_run X (mv_call X d) m_X9_mostCrewed 0 [.ref a0, .retAddr 0, .retAddr 0, .retAddr 0, .retAddr 0] [] h := rfl
theorem i_X9_mostCrewed_0 : mv_look m_X9_mostCrewed.2.2.2.1 32 0 = some (.aload_n 0, 0, []) := by decide +kernel
theorem i_X9_mostCrewed_1 : mv_look m_X9_mostCrewed.2.2.2.1 32 1 = some (.iconst 0, 0, []) := by decide +kernel
theorem i_X9_mostCrewed_2 : mv_look m_X9_mostCrewed.2.2.2.1 32 2 = some (.putfield 50, 0, []) := by decide +kernel
theorem i_X9_mostCrewed_5 : mv_look m_X9_mostCrewed.2.2.2.1 32 5 = some (.iconst 0, 0, []) := by decide +kernel
theorem i_X9_mostCrewed_6 : mv_look m_X9_mostCrewed.2.2.2.1 32 6 = some (.istore_n 1, 0, []) := by decide +kernel
theorem i_X9_mostCrewed_7 : mv_look m_X9_mostCrewed.2.2.2.1 32 7 = some (.iload_n 1, 0, []) := by decide +kernel
theorem i_X9_mostCrewed_8 : mv_look m_X9_mostCrewed.2.2.2.1 32 8 = some (.bipush 64, 0, []) := by decide +kernel
theorem i_X9_mostCrewed_10 : mv_look m_X9_mostCrewed.2.2.2.1 32 10 = some (.if_icmp .ge 24, 34, []) := by decide +kernel
theorem i_X9_mostCrewed_13 : mv_look m_X9_mostCrewed.2.2.2.1 32 13 = some (.aload_n 0, 0, []) := by decide +kernel
theorem i_X9_mostCrewed_14 : mv_look m_X9_mostCrewed.2.2.2.1 32 14 = some (.getfield 40, 0, []) := by decide +kernel
theorem i_X9_mostCrewed_17 : mv_look m_X9_mostCrewed.2.2.2.1 32 17 = some (.iload_n 1, 0, []) := by decide +kernel
theorem i_X9_mostCrewed_18 : mv_look m_X9_mostCrewed.2.2.2.1 32 18 = some (.iload_n 1, 0, []) := by decide +kernel
theorem i_X9_mostCrewed_19 : mv_look m_X9_mostCrewed.2.2.2.1 32 19 = some (.ifCond .ne 7, 26, []) := by decide +kernel
theorem i_X9_mostCrewed_22 : mv_look m_X9_mostCrewed.2.2.2.1 32 22 = some (.iconst 0, 0, []) := by decide +kernel
theorem i_X9_mostCrewed_23 : mv_look m_X9_mostCrewed.2.2.2.1 32 23 = some (.goto 4, 27, []) := by decide +kernel
theorem i_X9_mostCrewed_26 : mv_look m_X9_mostCrewed.2.2.2.1 32 26 = some (.iconst (-1), 0, []) := by decide +kernel
theorem i_X9_mostCrewed_27 : mv_look m_X9_mostCrewed.2.2.2.1 32 27 = some (.iastore, 0, []) := by decide +kernel
theorem i_X9_mostCrewed_28 : mv_look m_X9_mostCrewed.2.2.2.1 32 28 = some (.iinc 1 1, 0, []) := by decide +kernel
theorem i_X9_mostCrewed_31 : mv_look m_X9_mostCrewed.2.2.2.1 32 31 = some (.goto (-24), 7, []) := by decide +kernel
theorem i_X9_mostCrewed_34 : mv_look m_X9_mostCrewed.2.2.2.1 32 34 = some (.iconst 0, 0, []) := by decide +kernel
theorem i_X9_mostCrewed_35 : mv_look m_X9_mostCrewed.2.2.2.1 32 35 = some (.istore_n 1, 0, []) := by decide +kernel
theorem i_X9_mostCrewed_36 : mv_look m_X9_mostCrewed.2.2.2.1 32 36 = some (.iload_n 1, 0, []) := by decide +kernel
theorem i_X9_mostCrewed_37 : mv_look m_X9_mostCrewed.2.2.2.1 32 37 = some (.bipush 10, 0, []) := by decide +kernel
theorem i_X9_mostCrewed_39 : mv_look m_X9_mostCrewed.2.2.2.1 32 39 = some (.if_icmp .ge 169, 208, []) := by decide +kernel
theorem i_X9_mostCrewed_42 : mv_look m_X9_mostCrewed.2.2.2.1 32 42 = some (.aload_n 0, 0, []) := by decide +kernel
theorem i_X9_mostCrewed_43 : mv_look m_X9_mostCrewed.2.2.2.1 32 43 = some (.iload_n 1, 0, []) := by decide +kernel
theorem i_X9_mostCrewed_44 : mv_look m_X9_mostCrewed.2.2.2.1 32 44 = some (.invokevirtual 116, 0, []) := by decide +kernel
theorem i_X9_mostCrewed_47 : mv_look m_X9_mostCrewed.2.2.2.1 32 47 = some (.ifCond .ne 6, 53, []) := by decide +kernel
theorem i_X9_mostCrewed_50 : mv_look m_X9_mostCrewed.2.2.2.1 32 50 = some (.goto 152, 202, []) := by decide +kernel
theorem i_X9_mostCrewed_53 : mv_look m_X9_mostCrewed.2.2.2.1 32 53 = some (.iconst 0, 0, []) := by decide +kernel
theorem i_X9_mostCrewed_54 : mv_look m_X9_mostCrewed.2.2.2.1 32 54 = some (.istore_n 2, 0, []) := by decide +kernel
theorem i_X9_mostCrewed_55 : mv_look m_X9_mostCrewed.2.2.2.1 32 55 = some (.iload_n 2, 0, []) := by decide +kernel
theorem i_X9_mostCrewed_56 : mv_look m_X9_mostCrewed.2.2.2.1 32 56 = some (.bipush 64, 0, []) := by decide +kernel
theorem i_X9_mostCrewed_58 : mv_look m_X9_mostCrewed.2.2.2.1 32 58 = some (.if_icmp .ge 21, 79, []) := by decide +kernel
theorem i_X9_mostCrewed_61 : mv_look m_X9_mostCrewed.2.2.2.1 32 61 = some (.aload_n 0, 0, []) := by decide +kernel
theorem i_X9_mostCrewed_62 : mv_look m_X9_mostCrewed.2.2.2.1 32 62 = some (.getfield 43, 0, []) := by decide +kernel
theorem i_X9_mostCrewed_65 : mv_look m_X9_mostCrewed.2.2.2.1 32 65 = some (.iload_n 2, 0, []) := by decide +kernel
theorem i_X9_mostCrewed_66 : mv_look m_X9_mostCrewed.2.2.2.1 32 66 = some (.aload_n 0, 0, []) := by decide +kernel
theorem i_X9_mostCrewed_67 : mv_look m_X9_mostCrewed.2.2.2.1 32 67 = some (.getfield 40, 0, []) := by decide +kernel
theorem i_X9_mostCrewed_70 : mv_look m_X9_mostCrewed.2.2.2.1 32 70 = some (.iload_n 2, 0, []) := by decide +kernel
theorem i_X9_mostCrewed_71 : mv_look m_X9_mostCrewed.2.2.2.1 32 71 = some (.iaload, 0, []) := by decide +kernel
theorem i_X9_mostCrewed_72 : mv_look m_X9_mostCrewed.2.2.2.1 32 72 = some (.iastore, 0, []) := by decide +kernel
theorem i_X9_mostCrewed_73 : mv_look m_X9_mostCrewed.2.2.2.1 32 73 = some (.iinc 2 1, 0, []) := by decide +kernel
theorem i_X9_mostCrewed_76 : mv_look m_X9_mostCrewed.2.2.2.1 32 76 = some (.goto (-21), 55, []) := by decide +kernel
theorem i_X9_mostCrewed_79 : mv_look m_X9_mostCrewed.2.2.2.1 32 79 = some (.iconst 0, 0, []) := by decide +kernel
theorem i_X9_mostCrewed_80 : mv_look m_X9_mostCrewed.2.2.2.1 32 80 = some (.istore_n 2, 0, []) := by decide +kernel
theorem i_X9_mostCrewed_81 : mv_look m_X9_mostCrewed.2.2.2.1 32 81 = some (.iload_n 2, 0, []) := by decide +kernel
theorem i_X9_mostCrewed_82 : mv_look m_X9_mostCrewed.2.2.2.1 32 82 = some (.bipush 64, 0, []) := by decide +kernel
theorem i_X9_mostCrewed_84 : mv_look m_X9_mostCrewed.2.2.2.1 32 84 = some (.if_icmp .ge 92, 176, []) := by decide +kernel
theorem i_X9_mostCrewed_87 : mv_look m_X9_mostCrewed.2.2.2.1 32 87 = some (.iconst 0, 0, []) := by decide +kernel
theorem i_X9_mostCrewed_88 : mv_look m_X9_mostCrewed.2.2.2.1 32 88 = some (.istore_n 3, 0, []) := by decide +kernel
theorem i_X9_mostCrewed_89 : mv_look m_X9_mostCrewed.2.2.2.1 32 89 = some (.iload_n 3, 0, []) := by decide +kernel
theorem i_X9_mostCrewed_90 : mv_look m_X9_mostCrewed.2.2.2.1 32 90 = some (.aload_n 0, 0, []) := by decide +kernel
theorem i_X9_mostCrewed_91 : mv_look m_X9_mostCrewed.2.2.2.1 32 91 = some (.getfield 7, 0, []) := by decide +kernel
theorem i_X9_mostCrewed_94 : mv_look m_X9_mostCrewed.2.2.2.1 32 94 = some (.iconst 5, 0, []) := by decide +kernel
theorem i_X9_mostCrewed_95 : mv_look m_X9_mostCrewed.2.2.2.1 32 95 = some (.iaload, 0, []) := by decide +kernel
theorem i_X9_mostCrewed_96 : mv_look m_X9_mostCrewed.2.2.2.1 32 96 = some (.if_icmp .ge 74, 170, []) := by decide +kernel
theorem i_X9_mostCrewed_99 : mv_look m_X9_mostCrewed.2.2.2.1 32 99 = some (.aload_n 0, 0, []) := by decide +kernel
theorem i_X9_mostCrewed_100 : mv_look m_X9_mostCrewed.2.2.2.1 32 100 = some (.getfield 40, 0, []) := by decide +kernel
theorem i_X9_mostCrewed_103 : mv_look m_X9_mostCrewed.2.2.2.1 32 103 = some (.iload_n 2, 0, []) := by decide +kernel
theorem i_X9_mostCrewed_104 : mv_look m_X9_mostCrewed.2.2.2.1 32 104 = some (.iaload, 0, []) := by decide +kernel
theorem i_X9_mostCrewed_105 : mv_look m_X9_mostCrewed.2.2.2.1 32 105 = some (.iconst (-1), 0, []) := by decide +kernel
theorem i_X9_mostCrewed_106 : mv_look m_X9_mostCrewed.2.2.2.1 32 106 = some (.if_icmp .eq 64, 170, []) := by decide +kernel
theorem i_X9_mostCrewed_109 : mv_look m_X9_mostCrewed.2.2.2.1 32 109 = some (.iload_n 2, 0, []) := by decide +kernel
theorem i_X9_mostCrewed_110 : mv_look m_X9_mostCrewed.2.2.2.1 32 110 = some (.iconst 1, 0, []) := by decide +kernel
theorem i_X9_mostCrewed_111 : mv_look m_X9_mostCrewed.2.2.2.1 32 111 = some (.iload_n 3, 0, []) := by decide +kernel
theorem i_X9_mostCrewed_112 : mv_look m_X9_mostCrewed.2.2.2.1 32 112 = some (.ishl, 0, []) := by decide +kernel
theorem i_X9_mostCrewed_113 : mv_look m_X9_mostCrewed.2.2.2.1 32 113 = some (.ior, 0, []) := by decide +kernel
theorem i_X9_mostCrewed_114 : mv_look m_X9_mostCrewed.2.2.2.1 32 114 = some (.istore 4, 0, []) := by decide +kernel
theorem i_X9_mostCrewed_116 : mv_look m_X9_mostCrewed.2.2.2.1 32 116 = some (.iload 4, 0, []) := by decide +kernel
theorem i_X9_mostCrewed_118 : mv_look m_X9_mostCrewed.2.2.2.1 32 118 = some (.iload_n 2, 0, []) := by decide +kernel
theorem i_X9_mostCrewed_119 : mv_look m_X9_mostCrewed.2.2.2.1 32 119 = some (.if_icmp .eq 45, 164, []) := by decide +kernel
theorem i_X9_mostCrewed_122 : mv_look m_X9_mostCrewed.2.2.2.1 32 122 = some (.aload_n 0, 0, []) := by decide +kernel
theorem i_X9_mostCrewed_123 : mv_look m_X9_mostCrewed.2.2.2.1 32 123 = some (.iload_n 3, 0, []) := by decide +kernel
theorem i_X9_mostCrewed_124 : mv_look m_X9_mostCrewed.2.2.2.1 32 124 = some (.iload_n 1, 0, []) := by decide +kernel
theorem i_X9_mostCrewed_125 : mv_look m_X9_mostCrewed.2.2.2.1 32 125 = some (.invokevirtual 217, 0, []) := by decide +kernel
theorem i_X9_mostCrewed_128 : mv_look m_X9_mostCrewed.2.2.2.1 32 128 = some (.ifCond .eq 36, 164, []) := by decide +kernel
theorem i_X9_mostCrewed_131 : mv_look m_X9_mostCrewed.2.2.2.1 32 131 = some (.aload_n 0, 0, []) := by decide +kernel
theorem i_X9_mostCrewed_132 : mv_look m_X9_mostCrewed.2.2.2.1 32 132 = some (.getfield 40, 0, []) := by decide +kernel
theorem i_X9_mostCrewed_135 : mv_look m_X9_mostCrewed.2.2.2.1 32 135 = some (.iload_n 2, 0, []) := by decide +kernel
theorem i_X9_mostCrewed_136 : mv_look m_X9_mostCrewed.2.2.2.1 32 136 = some (.iaload, 0, []) := by decide +kernel
theorem i_X9_mostCrewed_137 : mv_look m_X9_mostCrewed.2.2.2.1 32 137 = some (.iconst 1, 0, []) := by decide +kernel
theorem i_X9_mostCrewed_138 : mv_look m_X9_mostCrewed.2.2.2.1 32 138 = some (.iadd, 0, []) := by decide +kernel
theorem i_X9_mostCrewed_139 : mv_look m_X9_mostCrewed.2.2.2.1 32 139 = some (.aload_n 0, 0, []) := by decide +kernel
theorem i_X9_mostCrewed_140 : mv_look m_X9_mostCrewed.2.2.2.1 32 140 = some (.getfield 43, 0, []) := by decide +kernel
theorem i_X9_mostCrewed_143 : mv_look m_X9_mostCrewed.2.2.2.1 32 143 = some (.iload 4, 0, []) := by decide +kernel
theorem i_X9_mostCrewed_145 : mv_look m_X9_mostCrewed.2.2.2.1 32 145 = some (.iaload, 0, []) := by decide +kernel
theorem i_X9_mostCrewed_146 : mv_look m_X9_mostCrewed.2.2.2.1 32 146 = some (.if_icmp .le 18, 164, []) := by decide +kernel
theorem i_X9_mostCrewed_149 : mv_look m_X9_mostCrewed.2.2.2.1 32 149 = some (.aload_n 0, 0, []) := by decide +kernel
theorem i_X9_mostCrewed_150 : mv_look m_X9_mostCrewed.2.2.2.1 32 150 = some (.getfield 43, 0, []) := by decide +kernel
theorem i_X9_mostCrewed_153 : mv_look m_X9_mostCrewed.2.2.2.1 32 153 = some (.iload 4, 0, []) := by decide +kernel
theorem i_X9_mostCrewed_155 : mv_look m_X9_mostCrewed.2.2.2.1 32 155 = some (.aload_n 0, 0, []) := by decide +kernel
theorem i_X9_mostCrewed_156 : mv_look m_X9_mostCrewed.2.2.2.1 32 156 = some (.getfield 40, 0, []) := by decide +kernel
theorem i_X9_mostCrewed_159 : mv_look m_X9_mostCrewed.2.2.2.1 32 159 = some (.iload_n 2, 0, []) := by decide +kernel
theorem i_X9_mostCrewed_160 : mv_look m_X9_mostCrewed.2.2.2.1 32 160 = some (.iaload, 0, []) := by decide +kernel
theorem i_X9_mostCrewed_161 : mv_look m_X9_mostCrewed.2.2.2.1 32 161 = some (.iconst 1, 0, []) := by decide +kernel
theorem i_X9_mostCrewed_162 : mv_look m_X9_mostCrewed.2.2.2.1 32 162 = some (.iadd, 0, []) := by decide +kernel
theorem i_X9_mostCrewed_163 : mv_look m_X9_mostCrewed.2.2.2.1 32 163 = some (.iastore, 0, []) := by decide +kernel
theorem i_X9_mostCrewed_164 : mv_look m_X9_mostCrewed.2.2.2.1 32 164 = some (.iinc 3 1, 0, []) := by decide +kernel
theorem i_X9_mostCrewed_167 : mv_look m_X9_mostCrewed.2.2.2.1 32 167 = some (.goto (-78), 89, []) := by decide +kernel
theorem i_X9_mostCrewed_170 : mv_look m_X9_mostCrewed.2.2.2.1 32 170 = some (.iinc 2 1, 0, []) := by decide +kernel
theorem i_X9_mostCrewed_173 : mv_look m_X9_mostCrewed.2.2.2.1 32 173 = some (.goto (-92), 81, []) := by decide +kernel
theorem i_X9_mostCrewed_176 : mv_look m_X9_mostCrewed.2.2.2.1 32 176 = some (.iconst 0, 0, []) := by decide +kernel
theorem i_X9_mostCrewed_177 : mv_look m_X9_mostCrewed.2.2.2.1 32 177 = some (.istore_n 2, 0, []) := by decide +kernel
theorem i_X9_mostCrewed_178 : mv_look m_X9_mostCrewed.2.2.2.1 32 178 = some (.iload_n 2, 0, []) := by decide +kernel
theorem i_X9_mostCrewed_179 : mv_look m_X9_mostCrewed.2.2.2.1 32 179 = some (.bipush 64, 0, []) := by decide +kernel
theorem i_X9_mostCrewed_181 : mv_look m_X9_mostCrewed.2.2.2.1 32 181 = some (.if_icmp .ge 21, 202, []) := by decide +kernel
theorem i_X9_mostCrewed_184 : mv_look m_X9_mostCrewed.2.2.2.1 32 184 = some (.aload_n 0, 0, []) := by decide +kernel
theorem i_X9_mostCrewed_185 : mv_look m_X9_mostCrewed.2.2.2.1 32 185 = some (.getfield 40, 0, []) := by decide +kernel
theorem i_X9_mostCrewed_188 : mv_look m_X9_mostCrewed.2.2.2.1 32 188 = some (.iload_n 2, 0, []) := by decide +kernel
theorem i_X9_mostCrewed_189 : mv_look m_X9_mostCrewed.2.2.2.1 32 189 = some (.aload_n 0, 0, []) := by decide +kernel
theorem i_X9_mostCrewed_190 : mv_look m_X9_mostCrewed.2.2.2.1 32 190 = some (.getfield 43, 0, []) := by decide +kernel
theorem i_X9_mostCrewed_193 : mv_look m_X9_mostCrewed.2.2.2.1 32 193 = some (.iload_n 2, 0, []) := by decide +kernel
theorem i_X9_mostCrewed_194 : mv_look m_X9_mostCrewed.2.2.2.1 32 194 = some (.iaload, 0, []) := by decide +kernel
theorem i_X9_mostCrewed_195 : mv_look m_X9_mostCrewed.2.2.2.1 32 195 = some (.iastore, 0, []) := by decide +kernel
theorem i_X9_mostCrewed_196 : mv_look m_X9_mostCrewed.2.2.2.1 32 196 = some (.iinc 2 1, 0, []) := by decide +kernel
theorem i_X9_mostCrewed_199 : mv_look m_X9_mostCrewed.2.2.2.1 32 199 = some (.goto (-21), 178, []) := by decide +kernel
theorem i_X9_mostCrewed_202 : mv_look m_X9_mostCrewed.2.2.2.1 32 202 = some (.iinc 1 1, 0, []) := by decide +kernel
theorem i_X9_mostCrewed_205 : mv_look m_X9_mostCrewed.2.2.2.1 32 205 = some (.goto (-169), 36, []) := by decide +kernel
theorem i_X9_mostCrewed_208 : mv_look m_X9_mostCrewed.2.2.2.1 32 208 = some (.iconst 0, 0, []) := by decide +kernel
theorem i_X9_mostCrewed_209 : mv_look m_X9_mostCrewed.2.2.2.1 32 209 = some (.istore_n 1, 0, []) := by decide +kernel
theorem i_X9_mostCrewed_210 : mv_look m_X9_mostCrewed.2.2.2.1 32 210 = some (.iconst 0, 0, []) := by decide +kernel
theorem i_X9_mostCrewed_211 : mv_look m_X9_mostCrewed.2.2.2.1 32 211 = some (.istore_n 2, 0, []) := by decide +kernel
theorem i_X9_mostCrewed_212 : mv_look m_X9_mostCrewed.2.2.2.1 32 212 = some (.iload_n 2, 0, []) := by decide +kernel
theorem i_X9_mostCrewed_213 : mv_look m_X9_mostCrewed.2.2.2.1 32 213 = some (.bipush 64, 0, []) := by decide +kernel
theorem i_X9_mostCrewed_215 : mv_look m_X9_mostCrewed.2.2.2.1 32 215 = some (.if_icmp .ge 30, 245, []) := by decide +kernel
theorem i_X9_mostCrewed_218 : mv_look m_X9_mostCrewed.2.2.2.1 32 218 = some (.aload_n 0, 0, []) := by decide +kernel
theorem i_X9_mostCrewed_219 : mv_look m_X9_mostCrewed.2.2.2.1 32 219 = some (.getfield 40, 0, []) := by decide +kernel
theorem i_X9_mostCrewed_222 : mv_look m_X9_mostCrewed.2.2.2.1 32 222 = some (.iload_n 2, 0, []) := by decide +kernel
theorem i_X9_mostCrewed_223 : mv_look m_X9_mostCrewed.2.2.2.1 32 223 = some (.iaload, 0, []) := by decide +kernel
theorem i_X9_mostCrewed_224 : mv_look m_X9_mostCrewed.2.2.2.1 32 224 = some (.iload_n 1, 0, []) := by decide +kernel
theorem i_X9_mostCrewed_225 : mv_look m_X9_mostCrewed.2.2.2.1 32 225 = some (.if_icmp .le 12, 237, []) := by decide +kernel
theorem i_X9_mostCrewed_228 : mv_look m_X9_mostCrewed.2.2.2.1 32 228 = some (.aload_n 0, 0, []) := by decide +kernel
theorem i_X9_mostCrewed_229 : mv_look m_X9_mostCrewed.2.2.2.1 32 229 = some (.getfield 40, 0, []) := by decide +kernel
theorem i_X9_mostCrewed_232 : mv_look m_X9_mostCrewed.2.2.2.1 32 232 = some (.iload_n 2, 0, []) := by decide +kernel
theorem i_X9_mostCrewed_233 : mv_look m_X9_mostCrewed.2.2.2.1 32 233 = some (.iaload, 0, []) := by decide +kernel
theorem i_X9_mostCrewed_234 : mv_look m_X9_mostCrewed.2.2.2.1 32 234 = some (.goto 4, 238, []) := by decide +kernel
theorem i_X9_mostCrewed_237 : mv_look m_X9_mostCrewed.2.2.2.1 32 237 = some (.iload_n 1, 0, []) := by decide +kernel
theorem i_X9_mostCrewed_238 : mv_look m_X9_mostCrewed.2.2.2.1 32 238 = some (.istore_n 1, 0, []) := by decide +kernel
theorem i_X9_mostCrewed_239 : mv_look m_X9_mostCrewed.2.2.2.1 32 239 = some (.iinc 2 1, 0, []) := by decide +kernel
theorem i_X9_mostCrewed_242 : mv_look m_X9_mostCrewed.2.2.2.1 32 242 = some (.goto (-30), 212, []) := by decide +kernel
theorem i_X9_mostCrewed_245 : mv_look m_X9_mostCrewed.2.2.2.1 32 245 = some (.iload_n 1, 0, []) := by decide +kernel
theorem i_X9_mostCrewed_246 : mv_look m_X9_mostCrewed.2.2.2.1 32 246 = some (.ireturn, 0, []) := by decide +kernel
theorem bk_X9_mostCrewed_0 (X : mv_X) (call : mv_G) (h : mv_H) (a0 : Nat) : mv_run X call m_X9_mostCrewed 0 [.ref a0, .retAddr 0, .retAddr 0, .retAddr 0, .retAddr 0] [] h =
  mv_pf h a0 13 0 (.int (nZ 0)) fun h1 =>
  mv_run X call m_X9_mostCrewed 7 [.ref a0, .int (nZ 0), .retAddr 0, .retAddr 0, .retAddr 0] [] h1 :=
  (s_aload_n i_X9_mostCrewed_0 rfl).trans <| (s_iconst i_X9_mostCrewed_1).trans <| (s_pf1 i_X9_mostCrewed_2 rfl).trans <| c_pf fun h1 => (s_iconst i_X9_mostCrewed_5).trans <| (s_istore_n (ls2 := [.ref a0, .int (nZ 0), .retAddr 0, .retAddr 0, .retAddr 0]) i_X9_mostCrewed_6 (fun _ => rfl)).trans <| rfl
theorem bk_X9_mostCrewed_7 (X : mv_X) (call : mv_G) (h : mv_H) (a0 : Nat) (v1 : Int32) : mv_run X call m_X9_mostCrewed 7 [.ref a0, .int v1, .retAddr 0, .retAddr 0, .retAddr 0] [] h =
  if (nZ 64) ≤ v1 then 
  (mv_run X call m_X9_mostCrewed 36 [.ref a0, .int (nZ 0), .retAddr 0, .retAddr 0, .retAddr 0] [] h)
  else (mv_gR X h a0 13 13 fun r1 =>
    if v1 = 0 then 
    (mv_as h 1 r1 v1 (.int (nZ 0)) fun h1 =>
      mv_run X call m_X9_mostCrewed 7 [.ref a0, .int (v1 + nZ 1), .retAddr 0, .retAddr 0, .retAddr 0] [] h1)
    else (mv_as h 1 r1 v1 (.int (nZ (-1))) fun h2 =>
      mv_run X call m_X9_mostCrewed 7 [.ref a0, .int (v1 + nZ 1), .retAddr 0, .retAddr 0, .retAddr 0] [] h2)) :=
  (s_iload_n i_X9_mostCrewed_7 rfl).trans <| (s_bipush i_X9_mostCrewed_8).trans <| (s_icmp_ge i_X9_mostCrewed_10).trans <| c_ite ((s_iconst i_X9_mostCrewed_34).trans <| (s_istore_n (ls2 := [.ref a0, .int (nZ 0), .retAddr 0, .retAddr 0, .retAddr 0]) i_X9_mostCrewed_35 (fun _ => rfl)).trans <| rfl) ((s_aload_n i_X9_mostCrewed_13 rfl).trans <| (s_gf2 i_X9_mostCrewed_14 rfl).trans <| c_gR fun r1 => (s_iload_n i_X9_mostCrewed_17 rfl).trans <| (s_iload_n i_X9_mostCrewed_18 rfl).trans <| (s_if_ne i_X9_mostCrewed_19).trans <| c_ite ((s_iconst i_X9_mostCrewed_22).trans <| (s_goto i_X9_mostCrewed_23).trans <| (s_iastore i_X9_mostCrewed_27).trans <| c_as fun h1 => (s_iinc (ls2 := [.ref a0, .int (v1 + nZ 1), .retAddr 0, .retAddr 0, .retAddr 0]) i_X9_mostCrewed_28 rfl (fun _ => rfl)).trans <| (s_goto i_X9_mostCrewed_31).trans <| rfl) ((s_iconst i_X9_mostCrewed_26).trans <| (s_iastore i_X9_mostCrewed_27).trans <| c_as fun h2 => (s_iinc (ls2 := [.ref a0, .int (v1 + nZ 1), .retAddr 0, .retAddr 0, .retAddr 0]) i_X9_mostCrewed_28 rfl (fun _ => rfl)).trans <| (s_goto i_X9_mostCrewed_31).trans <| rfl))
theorem bk_X9_mostCrewed_36 (X : mv_X) (call : mv_G) (h : mv_H) (a0 : Nat) (v1 : Int32) (j2 : Value) (j3 : Value) (j4 : Value) : mv_run X call m_X9_mostCrewed 36 [.ref a0, .int v1, j2, j3, j4] [] h =
  if (nZ 10) ≤ v1 then 
  (mv_run X call m_X9_mostCrewed 212 [.ref a0, .int (nZ 0), .int (nZ 0), j3, j4] [] h)
  else (mv_rcv X h [.ref a0, .int v1] 13 (mv_clI call 160 [.ref a0, .int v1] h mv_raise fun x1 h1 =>
    if x1 = 0 then 
    (mv_run X call m_X9_mostCrewed 36 [.ref a0, .int (v1 + nZ 1), j2, j3, j4] [] h1)
    else (mv_run X call m_X9_mostCrewed 55 [.ref a0, .int v1, .int (nZ 0), j3, j4] [] h1))) :=
  (s_iload_n i_X9_mostCrewed_36 rfl).trans <| (s_bipush i_X9_mostCrewed_37).trans <| (s_icmp_ge i_X9_mostCrewed_39).trans <| c_ite ((s_iconst i_X9_mostCrewed_208).trans <| (s_istore_n (ls2 := [.ref a0, .int (nZ 0), j2, j3, j4]) i_X9_mostCrewed_209 (fun _ => rfl)).trans <| (s_iconst i_X9_mostCrewed_210).trans <| (s_istore_n (ls2 := [.ref a0, .int (nZ 0), .int (nZ 0), j3, j4]) i_X9_mostCrewed_211 (fun _ => rfl)).trans <| rfl) ((s_aload_n i_X9_mostCrewed_42 rfl).trans <| (s_iload_n i_X9_mostCrewed_43 rfl).trans <| (s_v1 [.ref a0, .int v1] [] i_X9_mostCrewed_44 rfl (fun _ => rfl)).trans <| c_rcv <| c_clI fun x1 h1 => (s_if_ne i_X9_mostCrewed_47).trans <| c_ite ((s_goto i_X9_mostCrewed_50).trans <| (s_iinc (ls2 := [.ref a0, .int (v1 + nZ 1), j2, j3, j4]) i_X9_mostCrewed_202 rfl (fun _ => rfl)).trans <| (s_goto i_X9_mostCrewed_205).trans <| rfl) ((s_iconst i_X9_mostCrewed_53).trans <| (s_istore_n (ls2 := [.ref a0, .int v1, .int (nZ 0), j3, j4]) i_X9_mostCrewed_54 (fun _ => rfl)).trans <| rfl))
theorem bk_X9_mostCrewed_55 (X : mv_X) (call : mv_G) (h : mv_H) (a0 : Nat) (v1 : Int32) (v2 : Int32) (j3 : Value) (j4 : Value) : mv_run X call m_X9_mostCrewed 55 [.ref a0, .int v1, .int v2, j3, j4] [] h =
  if (nZ 64) ≤ v2 then 
  (mv_run X call m_X9_mostCrewed 81 [.ref a0, .int v1, .int (nZ 0), j3, j4] [] h)
  else (mv_gR X h a0 13 14 fun r1 =>
    mv_gR X h a0 13 13 fun r2 =>
    mv_aI X h 1 r2 v2 fun x1 =>
    mv_as h 1 r1 v2 (.int x1) fun h1 =>
    mv_run X call m_X9_mostCrewed 55 [.ref a0, .int v1, .int (v2 + nZ 1), j3, j4] [] h1) :=
  (s_iload_n i_X9_mostCrewed_55 rfl).trans <| (s_bipush i_X9_mostCrewed_56).trans <| (s_icmp_ge i_X9_mostCrewed_58).trans <| c_ite ((s_iconst i_X9_mostCrewed_79).trans <| (s_istore_n (ls2 := [.ref a0, .int v1, .int (nZ 0), j3, j4]) i_X9_mostCrewed_80 (fun _ => rfl)).trans <| rfl) ((s_aload_n i_X9_mostCrewed_61 rfl).trans <| (s_gf2 i_X9_mostCrewed_62 rfl).trans <| c_gR fun r1 => (s_iload_n i_X9_mostCrewed_65 rfl).trans <| (s_aload_n i_X9_mostCrewed_66 rfl).trans <| (s_gf2 i_X9_mostCrewed_67 rfl).trans <| c_gR fun r2 => (s_iload_n i_X9_mostCrewed_70 rfl).trans <| (s_iaload i_X9_mostCrewed_71).trans <| c_aI fun x1 => (s_iastore i_X9_mostCrewed_72).trans <| c_as fun h1 => (s_iinc (ls2 := [.ref a0, .int v1, .int (v2 + nZ 1), j3, j4]) i_X9_mostCrewed_73 rfl (fun _ => rfl)).trans <| (s_goto i_X9_mostCrewed_76).trans <| rfl)
theorem bk_X9_mostCrewed_81 (X : mv_X) (call : mv_G) (h : mv_H) (a0 : Nat) (v1 : Int32) (v2 : Int32) (j3 : Value) (j4 : Value) : mv_run X call m_X9_mostCrewed 81 [.ref a0, .int v1, .int v2, j3, j4] [] h =
  if (nZ 64) ≤ v2 then 
  (mv_run X call m_X9_mostCrewed 178 [.ref a0, .int v1, .int (nZ 0), j3, j4] [] h)
  else (mv_run X call m_X9_mostCrewed 89 [.ref a0, .int v1, .int v2, .int (nZ 0), j4] [] h) :=
  (s_iload_n i_X9_mostCrewed_81 rfl).trans <| (s_bipush i_X9_mostCrewed_82).trans <| (s_icmp_ge i_X9_mostCrewed_84).trans <| c_ite ((s_iconst i_X9_mostCrewed_176).trans <| (s_istore_n (ls2 := [.ref a0, .int v1, .int (nZ 0), j3, j4]) i_X9_mostCrewed_177 (fun _ => rfl)).trans <| rfl) ((s_iconst i_X9_mostCrewed_87).trans <| (s_istore_n (ls2 := [.ref a0, .int v1, .int v2, .int (nZ 0), j4]) i_X9_mostCrewed_88 (fun _ => rfl)).trans <| rfl)
theorem bk_X9_mostCrewed_89 (X : mv_X) (call : mv_G) (h : mv_H) (a0 : Nat) (v1 : Int32) (v2 : Int32) (v3 : Int32) (j4 : Value) : mv_run X call m_X9_mostCrewed 89 [.ref a0, .int v1, .int v2, .int v3, j4] [] h =
  mv_gR X h a0 13 1 fun r1 =>
  mv_aI X h 1 r1 (nZ 5) fun x1 =>
  if x1 ≤ v3 then 
  (mv_run X call m_X9_mostCrewed 81 [.ref a0, .int v1, .int (v2 + nZ 1), .int v3, j4] [] h)
  else (mv_gR X h a0 13 13 fun r2 =>
    mv_aI X h 1 r2 v2 fun x2 =>
    if x2 = (nZ (-1)) then 
    (mv_run X call m_X9_mostCrewed 81 [.ref a0, .int v1, .int (v2 + nZ 1), .int v3, j4] [] h)
    else (if (v2 ||| ((nZ 1) <<< (v3 &&& 31))) = v2 then 
      (mv_run X call m_X9_mostCrewed 89 [.ref a0, .int v1, .int v2, .int (v3 + nZ 1), .int (v2 ||| ((nZ 1) <<< (v3 &&& 31)))] [] h)
      else (mv_rcv X h [.ref a0, .int v3, .int v1] 13 (mv_clI call 219 [.ref a0, .int v3, .int v1] h mv_raise fun x3 h1 =>
        if x3 = 0 then 
        (mv_run X call m_X9_mostCrewed 89 [.ref a0, .int v1, .int v2, .int (v3 + nZ 1), .int (v2 ||| ((nZ 1) <<< (v3 &&& 31)))] [] h1)
        else (mv_gR X h1 a0 13 13 fun r3 =>
          mv_aI X h1 1 r3 v2 fun x4 =>
          mv_gR X h1 a0 13 14 fun r4 =>
          mv_aI X h1 1 r4 (v2 ||| ((nZ 1) <<< (v3 &&& 31))) fun x5 =>
          if (x4 + (nZ 1)) ≤ x5 then 
          (mv_run X call m_X9_mostCrewed 89 [.ref a0, .int v1, .int v2, .int (v3 + nZ 1), .int (v2 ||| ((nZ 1) <<< (v3 &&& 31)))] [] h1)
          else (mv_gR X h1 a0 13 14 fun r5 =>
            mv_gR X h1 a0 13 13 fun r6 =>
            mv_aI X h1 1 r6 v2 fun x6 =>
            mv_as h1 1 r5 (v2 ||| ((nZ 1) <<< (v3 &&& 31))) (.int (x6 + (nZ 1))) fun h2 =>
            mv_run X call m_X9_mostCrewed 89 [.ref a0, .int v1, .int v2, .int (v3 + nZ 1), .int (v2 ||| ((nZ 1) <<< (v3 &&& 31)))] [] h2)))))) :=
  (s_iload_n i_X9_mostCrewed_89 rfl).trans <| (s_aload_n i_X9_mostCrewed_90 rfl).trans <| (s_gf2 i_X9_mostCrewed_91 rfl).trans <| c_gR fun r1 => (s_iconst i_X9_mostCrewed_94).trans <| (s_iaload i_X9_mostCrewed_95).trans <| c_aI fun x1 => (s_icmp_ge i_X9_mostCrewed_96).trans <| c_ite ((s_iinc (ls2 := [.ref a0, .int v1, .int (v2 + nZ 1), .int v3, j4]) i_X9_mostCrewed_170 rfl (fun _ => rfl)).trans <| (s_goto i_X9_mostCrewed_173).trans <| rfl) ((s_aload_n i_X9_mostCrewed_99 rfl).trans <| (s_gf2 i_X9_mostCrewed_100 rfl).trans <| c_gR fun r2 => (s_iload_n i_X9_mostCrewed_103 rfl).trans <| (s_iaload i_X9_mostCrewed_104).trans <| c_aI fun x2 => (s_iconst i_X9_mostCrewed_105).trans <| (s_icmp_eq i_X9_mostCrewed_106).trans <| c_ite ((s_iinc (ls2 := [.ref a0, .int v1, .int (v2 + nZ 1), .int v3, j4]) i_X9_mostCrewed_170 rfl (fun _ => rfl)).trans <| (s_goto i_X9_mostCrewed_173).trans <| rfl) ((s_iload_n i_X9_mostCrewed_109 rfl).trans <| (s_iconst i_X9_mostCrewed_110).trans <| (s_iload_n i_X9_mostCrewed_111 rfl).trans <| (s_ishl i_X9_mostCrewed_112).trans <| (s_ior i_X9_mostCrewed_113).trans <| (s_istore (ls2 := [.ref a0, .int v1, .int v2, .int v3, .int (v2 ||| ((nZ 1) <<< (v3 &&& 31)))]) i_X9_mostCrewed_114 (fun _ => rfl)).trans <| (s_iload i_X9_mostCrewed_116 rfl).trans <| (s_iload_n i_X9_mostCrewed_118 rfl).trans <| (s_icmp_eq i_X9_mostCrewed_119).trans <| c_ite ((s_iinc (ls2 := [.ref a0, .int v1, .int v2, .int (v3 + nZ 1), .int (v2 ||| ((nZ 1) <<< (v3 &&& 31)))]) i_X9_mostCrewed_164 rfl (fun _ => rfl)).trans <| (s_goto i_X9_mostCrewed_167).trans <| rfl) ((s_aload_n i_X9_mostCrewed_122 rfl).trans <| (s_iload_n i_X9_mostCrewed_123 rfl).trans <| (s_iload_n i_X9_mostCrewed_124 rfl).trans <| (s_v1 [.ref a0, .int v3, .int v1] [] i_X9_mostCrewed_125 rfl (fun _ => rfl)).trans <| c_rcv <| c_clI fun x3 h1 => (s_if_eq i_X9_mostCrewed_128).trans <| c_ite ((s_iinc (ls2 := [.ref a0, .int v1, .int v2, .int (v3 + nZ 1), .int (v2 ||| ((nZ 1) <<< (v3 &&& 31)))]) i_X9_mostCrewed_164 rfl (fun _ => rfl)).trans <| (s_goto i_X9_mostCrewed_167).trans <| rfl) ((s_aload_n i_X9_mostCrewed_131 rfl).trans <| (s_gf2 i_X9_mostCrewed_132 rfl).trans <| c_gR fun r3 => (s_iload_n i_X9_mostCrewed_135 rfl).trans <| (s_iaload i_X9_mostCrewed_136).trans <| c_aI fun x4 => (s_iconst i_X9_mostCrewed_137).trans <| (s_iadd i_X9_mostCrewed_138).trans <| (s_aload_n i_X9_mostCrewed_139 rfl).trans <| (s_gf2 i_X9_mostCrewed_140 rfl).trans <| c_gR fun r4 => (s_iload i_X9_mostCrewed_143 rfl).trans <| (s_iaload i_X9_mostCrewed_145).trans <| c_aI fun x5 => (s_icmp_le i_X9_mostCrewed_146).trans <| c_ite ((s_iinc (ls2 := [.ref a0, .int v1, .int v2, .int (v3 + nZ 1), .int (v2 ||| ((nZ 1) <<< (v3 &&& 31)))]) i_X9_mostCrewed_164 rfl (fun _ => rfl)).trans <| (s_goto i_X9_mostCrewed_167).trans <| rfl) ((s_aload_n i_X9_mostCrewed_149 rfl).trans <| (s_gf2 i_X9_mostCrewed_150 rfl).trans <| c_gR fun r5 => (s_iload i_X9_mostCrewed_153 rfl).trans <| (s_aload_n i_X9_mostCrewed_155 rfl).trans <| (s_gf2 i_X9_mostCrewed_156 rfl).trans <| c_gR fun r6 => (s_iload_n i_X9_mostCrewed_159 rfl).trans <| (s_iaload i_X9_mostCrewed_160).trans <| c_aI fun x6 => (s_iconst i_X9_mostCrewed_161).trans <| (s_iadd i_X9_mostCrewed_162).trans <| (s_iastore i_X9_mostCrewed_163).trans <| c_as fun h2 => (s_iinc (ls2 := [.ref a0, .int v1, .int v2, .int (v3 + nZ 1), .int (v2 ||| ((nZ 1) <<< (v3 &&& 31)))]) i_X9_mostCrewed_164 rfl (fun _ => rfl)).trans <| (s_goto i_X9_mostCrewed_167).trans <| rfl)))))
theorem bk_X9_mostCrewed_178 (X : mv_X) (call : mv_G) (h : mv_H) (a0 : Nat) (v1 : Int32) (v2 : Int32) (j3 : Value) (j4 : Value) : mv_run X call m_X9_mostCrewed 178 [.ref a0, .int v1, .int v2, j3, j4] [] h =
  if (nZ 64) ≤ v2 then 
  (mv_run X call m_X9_mostCrewed 36 [.ref a0, .int (v1 + nZ 1), .int v2, j3, j4] [] h)
  else (mv_gR X h a0 13 13 fun r1 =>
    mv_gR X h a0 13 14 fun r2 =>
    mv_aI X h 1 r2 v2 fun x1 =>
    mv_as h 1 r1 v2 (.int x1) fun h1 =>
    mv_run X call m_X9_mostCrewed 178 [.ref a0, .int v1, .int (v2 + nZ 1), j3, j4] [] h1) :=
  (s_iload_n i_X9_mostCrewed_178 rfl).trans <| (s_bipush i_X9_mostCrewed_179).trans <| (s_icmp_ge i_X9_mostCrewed_181).trans <| c_ite ((s_iinc (ls2 := [.ref a0, .int (v1 + nZ 1), .int v2, j3, j4]) i_X9_mostCrewed_202 rfl (fun _ => rfl)).trans <| (s_goto i_X9_mostCrewed_205).trans <| rfl) ((s_aload_n i_X9_mostCrewed_184 rfl).trans <| (s_gf2 i_X9_mostCrewed_185 rfl).trans <| c_gR fun r1 => (s_iload_n i_X9_mostCrewed_188 rfl).trans <| (s_aload_n i_X9_mostCrewed_189 rfl).trans <| (s_gf2 i_X9_mostCrewed_190 rfl).trans <| c_gR fun r2 => (s_iload_n i_X9_mostCrewed_193 rfl).trans <| (s_iaload i_X9_mostCrewed_194).trans <| c_aI fun x1 => (s_iastore i_X9_mostCrewed_195).trans <| c_as fun h1 => (s_iinc (ls2 := [.ref a0, .int v1, .int (v2 + nZ 1), j3, j4]) i_X9_mostCrewed_196 rfl (fun _ => rfl)).trans <| (s_goto i_X9_mostCrewed_199).trans <| rfl)
theorem bk_X9_mostCrewed_212 (X : mv_X) (call : mv_G) (h : mv_H) (a0 : Nat) (v1 : Int32) (v2 : Int32) (j3 : Value) (j4 : Value) : mv_run X call m_X9_mostCrewed 212 [.ref a0, .int v1, .int v2, j3, j4] [] h =
  if (nZ 64) ≤ v2 then 
  ((some (.inl (some (.int v1)), h)))
  else (mv_gR X h a0 13 13 fun r1 =>
    mv_aI X h 1 r1 v2 fun x1 =>
    if x1 ≤ v1 then 
    (mv_run X call m_X9_mostCrewed 212 [.ref a0, .int v1, .int (v2 + nZ 1), j3, j4] [] h)
    else (mv_gR X h a0 13 13 fun r2 =>
      mv_aI X h 1 r2 v2 fun x2 =>
      mv_run X call m_X9_mostCrewed 212 [.ref a0, .int x2, .int (v2 + nZ 1), j3, j4] [] h)) :=
  (s_iload_n i_X9_mostCrewed_212 rfl).trans <| (s_bipush i_X9_mostCrewed_213).trans <| (s_icmp_ge i_X9_mostCrewed_215).trans <| c_ite ((s_iload_n i_X9_mostCrewed_245 rfl).trans <| s_iret1 i_X9_mostCrewed_246 rfl) ((s_aload_n i_X9_mostCrewed_218 rfl).trans <| (s_gf2 i_X9_mostCrewed_219 rfl).trans <| c_gR fun r1 => (s_iload_n i_X9_mostCrewed_222 rfl).trans <| (s_iaload i_X9_mostCrewed_223).trans <| c_aI fun x1 => (s_iload_n i_X9_mostCrewed_224 rfl).trans <| (s_icmp_le i_X9_mostCrewed_225).trans <| c_ite ((s_iload_n i_X9_mostCrewed_237 rfl).trans <| (s_istore_n (ls2 := [.ref a0, .int v1, .int v2, j3, j4]) i_X9_mostCrewed_238 (fun _ => rfl)).trans <| (s_iinc (ls2 := [.ref a0, .int v1, .int (v2 + nZ 1), j3, j4]) i_X9_mostCrewed_239 rfl (fun _ => rfl)).trans <| (s_goto i_X9_mostCrewed_242).trans <| rfl) ((s_aload_n i_X9_mostCrewed_228 rfl).trans <| (s_gf2 i_X9_mostCrewed_229 rfl).trans <| c_gR fun r2 => (s_iload_n i_X9_mostCrewed_232 rfl).trans <| (s_iaload i_X9_mostCrewed_233).trans <| c_aI fun x2 => (s_goto i_X9_mostCrewed_234).trans <| (s_istore_n (ls2 := [.ref a0, .int x2, .int v2, j3, j4]) i_X9_mostCrewed_238 (fun _ => rfl)).trans <| (s_iinc (ls2 := [.ref a0, .int x2, .int (v2 + nZ 1), j3, j4]) i_X9_mostCrewed_239 rfl (fun _ => rfl)).trans <| (s_goto i_X9_mostCrewed_242).trans <| rfl))
theorem mc_X9_mostCrewedBySets (X : mv_X) (d : Nat) (h : mv_H) (a0 : Nat) : mv_call X (d + 1) 223 [.ref a0] h = mv_run X (mv_call X d) m_X9_mostCrewedBySets 0 [.ref a0] [] h := rfl
theorem bk_X9_mostCrewedBySets_0 (X : mv_X) (call : mv_G) (h : mv_H) (a0 : Nat) : mv_run X call m_X9_mostCrewedBySets 0 [.ref a0] [] h =
  mv_rcv X h [.ref a0] 13 (mv_clI call 222 [.ref a0] h mv_raise fun x1 h1 =>
  (some (.inl (some (.int x1)), h1))) :=
  (s_aload_n rfl rfl).trans <| (s_v1 [.ref a0] [] rfl rfl (fun _ => rfl)).trans <| c_rcv <| c_clI fun x1 h1 => s_iret1 rfl rfl
theorem mc_X9_burstsAhead (X : mv_X) (d : Nat) (h : mv_H) (a0 : Nat) : mv_call X (d + 1) 224 [.ref a0] h = mv_run X (mv_call X d) m_X9_burstsAhead 0 [.ref a0, .retAddr 0, .retAddr 0] [] h := rfl
theorem bk_X9_burstsAhead_0 (X : mv_X) (call : mv_G) (h : mv_H) (a0 : Nat) : mv_run X call m_X9_burstsAhead 0 [.ref a0, .retAddr 0, .retAddr 0] [] h =
  mv_pf h a0 13 0 (.int (nZ 0)) fun h1 =>
  mv_run X call m_X9_burstsAhead 7 [.ref a0, .int (nZ 0), .retAddr 0] [] h1 :=
  (s_aload_n rfl rfl).trans <| (s_iconst rfl).trans <| (s_pf1 rfl rfl).trans <| c_pf fun h1 => (s_iconst rfl).trans <| (s_istore_n (ls2 := [.ref a0, .int (nZ 0), .retAddr 0]) rfl (fun _ => rfl)).trans <| rfl
theorem bk_X9_burstsAhead_7 (X : mv_X) (call : mv_G) (h : mv_H) (a0 : Nat) (v1 : Int32) : mv_run X call m_X9_burstsAhead 7 [.ref a0, .int v1, .retAddr 0] [] h =
  if (nZ 158) ≤ v1 then 
  (mv_rcv X h [.ref a0] 13 (mv_clI call 177 [.ref a0] h mv_raise fun x1 h1 =>
    mv_run X call m_X9_burstsAhead 39 [.ref a0, .int x1, .int (nZ 0)] [] h1))
  else (mv_gR X h a0 13 5 fun r1 =>
    mv_gR X h a0 13 1 fun r2 =>
    mv_aI X h 1 r2 v1 fun x2 =>
    mv_as h 1 r1 v1 (.int x2) fun h2 =>
    mv_run X call m_X9_burstsAhead 7 [.ref a0, .int (v1 + nZ 1), .retAddr 0] [] h2) :=
  (s_iload_n rfl rfl).trans <| (s_sipush rfl).trans <| (s_icmp_ge rfl).trans <| c_ite ((s_aload_n rfl rfl).trans <| (s_v1 [.ref a0] [] rfl rfl (fun _ => rfl)).trans <| c_rcv <| c_clI fun x1 h1 => (s_istore_n (ls2 := [.ref a0, .int x1, .retAddr 0]) rfl (fun _ => rfl)).trans <| (s_iconst rfl).trans <| (s_istore_n (ls2 := [.ref a0, .int x1, .int (nZ 0)]) rfl (fun _ => rfl)).trans <| rfl) ((s_aload_n rfl rfl).trans <| (s_gf2 rfl rfl).trans <| c_gR fun r1 => (s_iload_n rfl rfl).trans <| (s_aload_n rfl rfl).trans <| (s_gf2 rfl rfl).trans <| c_gR fun r2 => (s_iload_n rfl rfl).trans <| (s_iaload rfl).trans <| c_aI fun x2 => (s_iastore rfl).trans <| c_as fun h2 => (s_iinc (ls2 := [.ref a0, .int (v1 + nZ 1), .retAddr 0]) rfl rfl (fun _ => rfl)).trans <| (s_goto rfl).trans <| rfl)
theorem bk_X9_burstsAhead_39 (X : mv_X) (call : mv_G) (h : mv_H) (a0 : Nat) (v1 : Int32) (v2 : Int32) : mv_run X call m_X9_burstsAhead 39 [.ref a0, .int v1, .int v2] [] h =
  if (nZ 158) ≤ v2 then 
  ((some (.inl (some (.int v1)), h)))
  else (mv_gR X h a0 13 1 fun r1 =>
    mv_gR X h a0 13 5 fun r2 =>
    mv_aI X h 1 r2 v2 fun x1 =>
    mv_as h 1 r1 v2 (.int x1) fun h1 =>
    mv_run X call m_X9_burstsAhead 39 [.ref a0, .int v1, .int (v2 + nZ 1)] [] h1) :=
  (s_iload_n rfl rfl).trans <| (s_sipush rfl).trans <| (s_icmp_ge rfl).trans <| c_ite ((s_iload_n rfl rfl).trans <| s_iret1 rfl rfl) ((s_aload_n rfl rfl).trans <| (s_gf2 rfl rfl).trans <| c_gR fun r1 => (s_iload_n rfl rfl).trans <| (s_aload_n rfl rfl).trans <| (s_gf2 rfl rfl).trans <| c_gR fun r2 => (s_iload_n rfl rfl).trans <| (s_iaload rfl).trans <| c_aI fun x1 => (s_iastore rfl).trans <| c_as fun h1 => (s_iinc (ls2 := [.ref a0, .int v1, .int (v2 + nZ 1)]) rfl rfl (fun _ => rfl)).trans <| (s_goto rfl).trans <| rfl)
theorem mc_X9_hour (X : mv_X) (d : Nat) (h : mv_H) (a0 : Nat) : mv_call X (d + 1) 225 [.ref a0] h = mv_run X (mv_call X d) m_X9_hour 0 [.ref a0] [] h := rfl
theorem bk_X9_hour_0 (X : mv_X) (call : mv_G) (h : mv_H) (a0 : Nat) : mv_run X call m_X9_hour 0 [.ref a0] [] h =
  mv_pf h a0 13 0 (.int (nZ 0)) fun h1 =>
  mv_gR X h1 a0 13 1 fun r1 =>
  mv_aI X h1 1 r1 (nZ 0) fun x1 =>
  (some (.inl (some (.int x1)), h1)) :=
  (s_aload_n rfl rfl).trans <| (s_iconst rfl).trans <| (s_pf1 rfl rfl).trans <| c_pf fun h1 => (s_aload_n rfl rfl).trans <| (s_gf2 rfl rfl).trans <| c_gR fun r1 => (s_iconst rfl).trans <| (s_iaload rfl).trans <| c_aI fun x1 => s_iret1 rfl rfl
theorem mc_X9_bursts (X : mv_X) (d : Nat) (h : mv_H) (a0 : Nat) : mv_call X (d + 1) 226 [.ref a0] h = mv_run X (mv_call X d) m_X9_bursts 0 [.ref a0] [] h := rfl
theorem bk_X9_bursts_0 (X : mv_X) (call : mv_G) (h : mv_H) (a0 : Nat) : mv_run X call m_X9_bursts 0 [.ref a0] [] h =
  mv_pf h a0 13 0 (.int (nZ 0)) fun h1 =>
  mv_gR X h1 a0 13 1 fun r1 =>
  mv_aI X h1 1 r1 (nZ 1) fun x1 =>
  (some (.inl (some (.int x1)), h1)) :=
  (s_aload_n rfl rfl).trans <| (s_iconst rfl).trans <| (s_pf1 rfl rfl).trans <| c_pf fun h1 => (s_aload_n rfl rfl).trans <| (s_gf2 rfl rfl).trans <| c_gR fun r1 => (s_iconst rfl).trans <| (s_iaload rfl).trans <| c_aI fun x1 => s_iret1 rfl rfl
theorem mc_X9_loaded (X : mv_X) (d : Nat) (h : mv_H) (a0 : Nat) : mv_call X (d + 1) 227 [.ref a0] h = mv_run X (mv_call X d) m_X9_loaded 0 [.ref a0] [] h := rfl
theorem bk_X9_loaded_0 (X : mv_X) (call : mv_G) (h : mv_H) (a0 : Nat) : mv_run X call m_X9_loaded 0 [.ref a0] [] h =
  mv_pf h a0 13 0 (.int (nZ 0)) fun h1 =>
  mv_gR X h1 a0 13 1 fun r1 =>
  mv_aI X h1 1 r1 (nZ 2) fun x1 =>
  (some (.inl (some (.int x1)), h1)) :=
  (s_aload_n rfl rfl).trans <| (s_iconst rfl).trans <| (s_pf1 rfl rfl).trans <| c_pf fun h1 => (s_aload_n rfl rfl).trans <| (s_gf2 rfl rfl).trans <| c_gR fun r1 => (s_iconst rfl).trans <| (s_iaload rfl).trans <| c_aI fun x1 => s_iret1 rfl rfl
theorem mc_X9_aboard (X : mv_X) (d : Nat) (h : mv_H) (a0 : Nat) : mv_call X (d + 1) 228 [.ref a0] h = mv_run X (mv_call X d) m_X9_aboard 0 [.ref a0, .retAddr 0, .retAddr 0] [] h := rfl
theorem bk_X9_aboard_0 (X : mv_X) (call : mv_G) (h : mv_H) (a0 : Nat) : mv_run X call m_X9_aboard 0 [.ref a0, .retAddr 0, .retAddr 0] [] h =
  mv_pf h a0 13 0 (.int (nZ 0)) fun h1 =>
  mv_run X call m_X9_aboard 9 [.ref a0, .int (nZ 0), .int (nZ 0)] [] h1 :=
  (s_aload_n rfl rfl).trans <| (s_iconst rfl).trans <| (s_pf1 rfl rfl).trans <| c_pf fun h1 => (s_iconst rfl).trans <| (s_istore_n (ls2 := [.ref a0, .int (nZ 0), .retAddr 0]) rfl (fun _ => rfl)).trans <| (s_iconst rfl).trans <| (s_istore_n (ls2 := [.ref a0, .int (nZ 0), .int (nZ 0)]) rfl (fun _ => rfl)).trans <| rfl
theorem bk_X9_aboard_9 (X : mv_X) (call : mv_G) (h : mv_H) (a0 : Nat) (v1 : Int32) (v2 : Int32) : mv_run X call m_X9_aboard 9 [.ref a0, .int v1, .int v2] [] h =
  if (nZ 10) ≤ v2 then 
  ((some (.inl (some (.int v1)), h)))
  else (mv_rcv X h [.ref a0, .int v2, .int (nZ 0)] 13 (mv_clI call 164 [.ref a0, .int v2, .int (nZ 0)] h mv_raise fun x1 h1 =>
    mv_run X call m_X9_aboard 9 [.ref a0, .int (v1 + x1), .int (v2 + nZ 1)] [] h1)) :=
  (s_iload_n rfl rfl).trans <| (s_bipush rfl).trans <| (s_icmp_ge rfl).trans <| c_ite ((s_iload_n rfl rfl).trans <| s_iret1 rfl rfl) ((s_iload_n rfl rfl).trans <| (s_aload_n rfl rfl).trans <| (s_iload_n rfl rfl).trans <| (s_iconst rfl).trans <| (s_v1 [.ref a0, .int v2, .int (nZ 0)] [.int v1] rfl rfl (fun _ => rfl)).trans <| c_rcv <| c_clI fun x1 h1 => (s_iadd rfl).trans <| (s_istore_n (ls2 := [.ref a0, .int (v1 + x1), .int v2]) rfl (fun _ => rfl)).trans <| (s_iinc (ls2 := [.ref a0, .int (v1 + x1), .int (v2 + nZ 1)]) rfl rfl (fun _ => rfl)).trans <| (s_goto rfl).trans <| rfl)
theorem mc_X9_dropped (X : mv_X) (d : Nat) (h : mv_H) (a0 : Nat) : mv_call X (d + 1) 229 [.ref a0] h = mv_run X (mv_call X d) m_X9_dropped 0 [.ref a0] [] h := rfl
theorem bk_X9_dropped_0 (X : mv_X) (call : mv_G) (h : mv_H) (a0 : Nat) : mv_run X call m_X9_dropped 0 [.ref a0] [] h =
  mv_pf h a0 13 0 (.int (nZ 0)) fun h1 =>
  mv_gR X h1 a0 13 1 fun r1 =>
  mv_aI X h1 1 r1 (nZ 3) fun x1 =>
  (some (.inl (some (.int x1)), h1)) :=
  (s_aload_n rfl rfl).trans <| (s_iconst rfl).trans <| (s_pf1 rfl rfl).trans <| c_pf fun h1 => (s_aload_n rfl rfl).trans <| (s_gf2 rfl rfl).trans <| c_gR fun r1 => (s_iconst rfl).trans <| (s_iaload rfl).trans <| c_aI fun x1 => s_iret1 rfl rfl
theorem mc_X9_lost (X : mv_X) (d : Nat) (h : mv_H) (a0 : Nat) : mv_call X (d + 1) 230 [.ref a0] h = mv_run X (mv_call X d) m_X9_lost 0 [.ref a0] [] h := rfl
theorem bk_X9_lost_0 (X : mv_X) (call : mv_G) (h : mv_H) (a0 : Nat) : mv_run X call m_X9_lost 0 [.ref a0] [] h =
  mv_pf h a0 13 0 (.int (nZ 0)) fun h1 =>
  mv_gR X h1 a0 13 1 fun r1 =>
  mv_aI X h1 1 r1 (nZ 4) fun x1 =>
  (some (.inl (some (.int x1)), h1)) :=
  (s_aload_n rfl rfl).trans <| (s_iconst rfl).trans <| (s_pf1 rfl rfl).trans <| c_pf fun h1 => (s_aload_n rfl rfl).trans <| (s_gf2 rfl rfl).trans <| c_gR fun r1 => (s_iconst rfl).trans <| (s_iaload rfl).trans <| c_aI fun x1 => s_iret1 rfl rfl
theorem mc_X9_meanHeight (X : mv_X) (d : Nat) (h : mv_H) (a0 : Nat) : mv_call X (d + 1) 231 [.ref a0] h = mv_run X (mv_call X d) m_X9_meanHeight 0 [.ref a0, .retAddr 0, .retAddr 0, .retAddr 0] [] h := rfl
theorem bk_X9_meanHeight_0 (X : mv_X) (call : mv_G) (h : mv_H) (a0 : Nat) : mv_run X call m_X9_meanHeight 0 [.ref a0, .retAddr 0, .retAddr 0, .retAddr 0] [] h =
  mv_rcv X h [.ref a0] 13 (mv_clI call 196 [.ref a0] h mv_raise fun x1 h1 =>
  if x1 = 0 then 
  (mv_pf h1 a0 13 0 (.int (nZ 1)) fun h2 =>
    mv_run X call m_X9_meanHeight 22 [.ref a0, .int x1, .int (nZ 0), .int (nZ 0)] [] h2)
  else (mv_pf h1 a0 13 0 (.int (nZ 0)) fun h3 =>
    mv_run X call m_X9_meanHeight 22 [.ref a0, .int x1, .int (nZ 0), .int (nZ 0)] [] h3)) :=
  (s_aload_n rfl rfl).trans <| (s_v1 [.ref a0] [] rfl rfl (fun _ => rfl)).trans <| c_rcv <| c_clI fun x1 h1 => (s_istore_n (ls2 := [.ref a0, .int x1, .retAddr 0, .retAddr 0]) rfl (fun _ => rfl)).trans <| (s_aload_n rfl rfl).trans <| (s_iload_n rfl rfl).trans <| (s_if_ne rfl).trans <| c_ite ((s_iconst rfl).trans <| (s_goto rfl).trans <| (s_pf1 rfl rfl).trans <| c_pf fun h2 => (s_iconst rfl).trans <| (s_istore_n (ls2 := [.ref a0, .int x1, .int (nZ 0), .retAddr 0]) rfl (fun _ => rfl)).trans <| (s_iconst rfl).trans <| (s_istore_n (ls2 := [.ref a0, .int x1, .int (nZ 0), .int (nZ 0)]) rfl (fun _ => rfl)).trans <| rfl) ((s_iconst rfl).trans <| (s_pf1 rfl rfl).trans <| c_pf fun h3 => (s_iconst rfl).trans <| (s_istore_n (ls2 := [.ref a0, .int x1, .int (nZ 0), .retAddr 0]) rfl (fun _ => rfl)).trans <| (s_iconst rfl).trans <| (s_istore_n (ls2 := [.ref a0, .int x1, .int (nZ 0), .int (nZ 0)]) rfl (fun _ => rfl)).trans <| rfl)
theorem bk_X9_meanHeight_22 (X : mv_X) (call : mv_G) (h : mv_H) (a0 : Nat) (v1 : Int32) (v2 : Int32) (v3 : Int32) : mv_run X call m_X9_meanHeight 22 [.ref a0, .int v1, .int v2, .int v3] [] h =
  if (nZ 10) ≤ v3 then 
  (mv_gI X h a0 13 0 fun x1 =>
    if x1 ≤ 0 then 
    (mv_chk (decide ((FP.ddiv (FP.i2d v2) (FP.i2d v1)) &&& 0x7fffffffffffffff ≤ 0x7ff0000000000000)) (
      (some (.inl (some (.double (FP.ddiv (FP.i2d v2) (FP.i2d v1)))), h))))
    else ((some (.inl (some (.double FP.dconst0)), h))))
  else (mv_rcv X h [.ref a0, .int v3] 13 (mv_clI call 160 [.ref a0, .int v3] h mv_raise fun x2 h1 =>
    if x2 = 0 then 
    (mv_run X call m_X9_meanHeight 22 [.ref a0, .int v1, .int (v2 + (nZ 0)), .int (v3 + nZ 1)] [] h1)
    else (mv_rcv X h1 [.ref a0, .int v3] 13 (mv_clI call 167 [.ref a0, .int v3] h1 mv_raise fun x3 h2 =>
      mv_run X call m_X9_meanHeight 22 [.ref a0, .int v1, .int (v2 + x3), .int (v3 + nZ 1)] [] h2)))) :=
  (s_iload_n rfl rfl).trans <| (s_bipush rfl).trans <| (s_icmp_ge rfl).trans <| c_ite ((s_aload_n rfl rfl).trans <| (s_gf1 rfl rfl).trans <| c_gI fun x1 => (s_if_le rfl).trans <| c_ite ((s_iload_n rfl rfl).trans <| (s_i2d rfl).trans <| (s_iload_n rfl rfl).trans <| (s_i2d rfl).trans <| (s_ddiv rfl).trans <| c_chk <| s_dreturn rfl rfl) ((s_dconst rfl).trans <| (s_goto rfl).trans <| s_dreturn rfl rfl)) ((s_iload_n rfl rfl).trans <| (s_aload_n rfl rfl).trans <| (s_iload_n rfl rfl).trans <| (s_v1 [.ref a0, .int v3] [.int v2] rfl rfl (fun _ => rfl)).trans <| c_rcv <| c_clI fun x2 h1 => (s_if_eq rfl).trans <| c_ite ((s_iconst rfl).trans <| (s_iadd rfl).trans <| (s_istore_n (ls2 := [.ref a0, .int v1, .int (v2 + (nZ 0)), .int v3]) rfl (fun _ => rfl)).trans <| (s_iinc (ls2 := [.ref a0, .int v1, .int (v2 + (nZ 0)), .int (v3 + nZ 1)]) rfl rfl (fun _ => rfl)).trans <| (s_goto rfl).trans <| rfl) ((s_aload_n rfl rfl).trans <| (s_iload_n rfl rfl).trans <| (s_v1 [.ref a0, .int v3] [.int v2] rfl rfl (fun _ => rfl)).trans <| c_rcv <| c_clI fun x3 h2 => (s_goto rfl).trans <| (s_iadd rfl).trans <| (s_istore_n (ls2 := [.ref a0, .int v1, .int (v2 + x3), .int v3]) rfl (fun _ => rfl)).trans <| (s_iinc (ls2 := [.ref a0, .int v1, .int (v2 + x3), .int (v3 + nZ 1)]) rfl rfl (fun _ => rfl)).trans <| (s_goto rfl).trans <| rfl))
theorem mc_X9_strain (X : mv_X) (d : Nat) (h : mv_H) (a0 : Nat) (v1 : Int32) : mv_call X (d + 1) 232 [.ref a0, .int v1] h = mv_run X (mv_call X d) m_X9_strain 0 [.ref a0, .int v1] [] h := rfl
theorem bk_X9_strain_0 (X : mv_X) (call : mv_G) (h : mv_H) (a0 : Nat) (v1 : Int32) : mv_run X call m_X9_strain 0 [.ref a0, .int v1] [] h =
  mv_rcv X h [.ref a0, .int v1] 13 (mv_clI call 198 [.ref a0, .int v1] h mv_raise fun x1 h1 =>
  if x1 = 0 then 
  ((some (.inl (some (.float FP.fconst0)), h1)))
  else (mv_rcv X h1 [.ref a0, .int v1] 13 (mv_clI call 167 [.ref a0, .int v1] h1 mv_raise fun x2 h2 =>
    mv_rcv X h2 [.ref a0, .int v1, .int (nZ 3)] 13 (mv_clI call 158 [.ref a0, .int v1, .int (nZ 3)] h2 mv_raise fun x3 h3 =>
    mv_chk (decide ((FP.fdiv (FP.i2f x2) (FP.i2f x3)) &&& 0x7fffffff ≤ 0x7f800000)) (
    (some (.inl (some (.float (FP.fdiv (FP.i2f x2) (FP.i2f x3)))), h3))))))) :=
  (s_aload_n rfl rfl).trans <| (s_iload_n rfl rfl).trans <| (s_v1 [.ref a0, .int v1] [] rfl rfl (fun _ => rfl)).trans <| c_rcv <| c_clI fun x1 h1 => (s_if_eq rfl).trans <| c_ite ((s_fconst rfl).trans <| s_freturn rfl rfl) ((s_aload_n rfl rfl).trans <| (s_iload_n rfl rfl).trans <| (s_v1 [.ref a0, .int v1] [] rfl rfl (fun _ => rfl)).trans <| c_rcv <| c_clI fun x2 h2 => (s_i2f rfl).trans <| (s_aload_n rfl rfl).trans <| (s_iload_n rfl rfl).trans <| (s_iconst rfl).trans <| (s_v1 [.ref a0, .int v1, .int (nZ 3)] [.float (FP.i2f x2)] rfl rfl (fun _ => rfl)).trans <| c_rcv <| c_clI fun x3 h3 => (s_i2f rfl).trans <| (s_fdiv rfl).trans <| c_chk <| (s_goto rfl).trans <| s_freturn rfl rfl)
theorem mc_X9_feed (X : mv_X) (d : Nat) (h : mv_H) (a0 : Nat) (v1 : Int32) : mv_call X (d + 1) 233 [.ref a0, .int v1] h = mv_run X (mv_call X d) m_X9_feed 0 [.ref a0, .int v1] [] h := rfl
theorem bk_X9_feed_0 (X : mv_X) (call : mv_G) (h : mv_H) (a0 : Nat) (v1 : Int32) : mv_run X call m_X9_feed 0 [.ref a0, .int v1] [] h =
  mv_gI X h a0 13 15 fun x1 =>
  if x1 = (nZ 60) then 
  (mv_pf h a0 13 0 (.int (nZ 1)) fun h1 =>
    mv_gI X h1 a0 13 0 fun x2 =>
    if x2 ≤ 0 then 
    (mv_gR X h1 a0 13 8 fun r1 =>
      mv_gI X h1 a0 13 15 fun x3 =>
      mv_as h1 1 r1 x3 (.int v1) fun h2 =>
      mv_gI X h2 a0 13 15 fun x4 =>
      mv_pf h2 a0 13 15 (.int (x4 + (nZ 1))) fun h3 =>
      mv_gI X h3 a0 13 15 fun x5 =>
      (some (.inl (some (.int x5)), h3)))
    else ((some (.inl (some (.int (nZ 0))), h1))))
  else (mv_pf h a0 13 0 (.int (nZ 0)) fun h4 =>
    mv_gI X h4 a0 13 0 fun x6 =>
    if x6 ≤ 0 then 
    (mv_gR X h4 a0 13 8 fun r2 =>
      mv_gI X h4 a0 13 15 fun x7 =>
      mv_as h4 1 r2 x7 (.int v1) fun h5 =>
      mv_gI X h5 a0 13 15 fun x8 =>
      mv_pf h5 a0 13 15 (.int (x8 + (nZ 1))) fun h6 =>
      mv_gI X h6 a0 13 15 fun x9 =>
      (some (.inl (some (.int x9)), h6)))
    else ((some (.inl (some (.int (nZ 0))), h4)))) :=
  (s_aload_n rfl rfl).trans <| (s_aload_n rfl rfl).trans <| (s_gf1 rfl rfl).trans <| c_gI fun x1 => (s_bipush rfl).trans <| (s_icmp_ne rfl).trans <| c_ite ((s_iconst rfl).trans <| (s_goto rfl).trans <| (s_pf1 rfl rfl).trans <| c_pf fun h1 => (s_aload_n rfl rfl).trans <| (s_gf1 rfl rfl).trans <| c_gI fun x2 => (s_if_le rfl).trans <| c_ite ((s_aload_n rfl rfl).trans <| (s_gf2 rfl rfl).trans <| c_gR fun r1 => (s_aload_n rfl rfl).trans <| (s_gf1 rfl rfl).trans <| c_gI fun x3 => (s_iload_n rfl rfl).trans <| (s_iastore rfl).trans <| c_as fun h2 => (s_aload_n rfl rfl).trans <| (s_dupR rfl).trans <| (s_gf1 rfl rfl).trans <| c_gI fun x4 => (s_iconst rfl).trans <| (s_iadd rfl).trans <| (s_pf1 rfl rfl).trans <| c_pf fun h3 => (s_aload_n rfl rfl).trans <| (s_gf1 rfl rfl).trans <| c_gI fun x5 => s_iret1 rfl rfl) ((s_iconst rfl).trans <| s_iret1 rfl rfl)) ((s_iconst rfl).trans <| (s_pf1 rfl rfl).trans <| c_pf fun h4 => (s_aload_n rfl rfl).trans <| (s_gf1 rfl rfl).trans <| c_gI fun x6 => (s_if_le rfl).trans <| c_ite ((s_aload_n rfl rfl).trans <| (s_gf2 rfl rfl).trans <| c_gR fun r2 => (s_aload_n rfl rfl).trans <| (s_gf1 rfl rfl).trans <| c_gI fun x7 => (s_iload_n rfl rfl).trans <| (s_iastore rfl).trans <| c_as fun h5 => (s_aload_n rfl rfl).trans <| (s_dupR rfl).trans <| (s_gf1 rfl rfl).trans <| c_gI fun x8 => (s_iconst rfl).trans <| (s_iadd rfl).trans <| (s_pf1 rfl rfl).trans <| c_pf fun h6 => (s_aload_n rfl rfl).trans <| (s_gf1 rfl rfl).trans <| c_gI fun x9 => s_iret1 rfl rfl) ((s_iconst rfl).trans <| s_iret1 rfl rfl))
theorem mc_X9_here (X : mv_X) (d : Nat) (h : mv_H) (a0 : Nat) (v1 : Int32) : mv_call X (d + 1) 234 [.ref a0, .int v1] h = mv_run X (mv_call X d) m_X9_here 0 [.ref a0, .int v1] [] h := rfl
theorem bk_X9_here_0 (X : mv_X) (call : mv_G) (h : mv_H) (a0 : Nat) (v1 : Int32) : mv_run X call m_X9_here 0 [.ref a0, .int v1] [] h =
  mv_gI X h a0 13 23 fun x1 =>
  mv_gI X h a0 13 24 fun x2 =>
  if x2 ≤ (x1 + v1) then 
  ((some (.inl (some (.int (nZ (-1)))), h)))
  else (mv_gR X h a0 13 8 fun r1 =>
    mv_gI X h a0 13 23 fun x3 =>
    mv_aI X h 1 r1 (x3 + v1) fun x4 =>
    (some (.inl (some (.int x4)), h))) :=
  (s_aload_n rfl rfl).trans <| (s_gf1 rfl rfl).trans <| c_gI fun x1 => (s_iload_n rfl rfl).trans <| (s_iadd rfl).trans <| (s_aload_n rfl rfl).trans <| (s_gf1 rfl rfl).trans <| c_gI fun x2 => (s_icmp_ge rfl).trans <| c_ite ((s_iconst rfl).trans <| s_iret1 rfl rfl) ((s_aload_n rfl rfl).trans <| (s_gf2 rfl rfl).trans <| c_gR fun r1 => (s_aload_n rfl rfl).trans <| (s_gf1 rfl rfl).trans <| c_gI fun x3 => (s_iload_n rfl rfl).trans <| (s_iadd rfl).trans <| (s_iaload rfl).trans <| c_aI fun x4 => (s_goto rfl).trans <| s_iret1 rfl rfl)
theorem mc_X9_says (X : mv_X) (d : Nat) (h : mv_H) (a0 : Nat) (a1 : Nat) : mv_call X (d + 1) 235 [.ref a0, .ref a1] h = mv_run X (mv_call X d) m_X9_says 0 [.ref a0, .ref a1, .retAddr 0] [] h := rfl
theorem bk_X9_says_0 (X : mv_X) (call : mv_G) (h : mv_H) (a0 : Nat) (a1 : Nat) : mv_run X call m_X9_says 0 [.ref a0, .ref a1, .retAddr 0] [] h =
  mv_run X call m_X9_says 2 [.ref a0, .ref a1, .int (nZ 0)] [] h :=
  (s_iconst rfl).trans <| (s_istore_n (ls2 := [.ref a0, .ref a1, .int (nZ 0)]) rfl (fun _ => rfl)).trans <| rfl
theorem bk_X9_says_2 (X : mv_X) (call : mv_G) (h : mv_H) (a0 : Nat) (a1 : Nat) (v2 : Int32) : mv_run X call m_X9_says 2 [.ref a0, .ref a1, .int v2] [] h =
  mv_rcv X h [.ref a1] 0 (mv_clI call 268 [.ref a1] h mv_raise fun x1 h1 =>
  if x1 ≤ v2 then 
  ((some (.inl none, h1)))
  else (mv_gI X h1 a0 13 26 fun x2 =>
    if x2 = 0 then 
    (mv_rcv X h1 [.ref a0, .int (nZ 0)] 13 (mv_clI call 234 [.ref a0, .int (nZ 0)] h1 mv_raise fun x3 h2 =>
      mv_rcv X h2 [.ref a1, .int v2] 0 (mv_clI call 269 [.ref a1, .int v2] h2 mv_raise fun x4 h3 =>
      if x3 = x4 then 
      (mv_chk (mv_ok 6 (nZ 0)) (mv_pf h3 a0 13 26 (.int (nZ 0)) fun h4 =>
        mv_gI X h4 a0 13 23 fun x5 =>
        mv_gI X h4 a0 13 26 fun x6 =>
        if x6 = 0 then 
        (mv_pf h4 a0 13 23 (.int (x5 + (nZ 1))) fun h5 =>
          mv_run X call m_X9_says 2 [.ref a0, .ref a1, .int (v2 + nZ 1)] [] h5)
        else (mv_pf h4 a0 13 23 (.int (x5 + (nZ 0))) fun h6 =>
          mv_run X call m_X9_says 2 [.ref a0, .ref a1, .int (v2 + nZ 1)] [] h6)))
      else (mv_chk (mv_ok 6 (nZ 1)) (mv_pf h3 a0 13 26 (.int (nZ 1)) fun h7 =>
        mv_gI X h7 a0 13 23 fun x7 =>
        mv_gI X h7 a0 13 26 fun x8 =>
        if x8 = 0 then 
        (mv_pf h7 a0 13 23 (.int (x7 + (nZ 1))) fun h8 =>
          mv_run X call m_X9_says 2 [.ref a0, .ref a1, .int (v2 + nZ 1)] [] h8)
        else (mv_pf h7 a0 13 23 (.int (x7 + (nZ 0))) fun h9 =>
          mv_run X call m_X9_says 2 [.ref a0, .ref a1, .int (v2 + nZ 1)] [] h9))))))
    else ((some (.inl none, h1))))) :=
  (s_iload_n rfl rfl).trans <| (s_aload_n rfl rfl).trans <| (s_v1 [.ref a1] [.int v2] rfl rfl (fun _ => rfl)).trans <| c_rcv <| c_clI fun x1 h1 => (s_icmp_ge rfl).trans <| c_ite (s_ret rfl rfl) ((s_aload_n rfl rfl).trans <| (s_gf6 rfl rfl).trans <| c_gI fun x2 => (s_if_ne rfl).trans <| c_ite ((s_aload_n rfl rfl).trans <| (s_aload_n rfl rfl).trans <| (s_iconst rfl).trans <| (s_v1 [.ref a0, .int (nZ 0)] [.ref a0] rfl rfl (fun _ => rfl)).trans <| c_rcv <| c_clI fun x3 h2 => (s_aload_n rfl rfl).trans <| (s_iload_n rfl rfl).trans <| (s_v1 [.ref a1, .int v2] [.int x3, .ref a0] rfl rfl (fun _ => rfl)).trans <| c_rcv <| c_clI fun x4 h3 => (s_icmp_eq rfl).trans <| c_ite ((s_iconst rfl).trans <| (s_pf6 rfl rfl).trans <| c_chk <| c_pf fun h4 => (s_aload_n rfl rfl).trans <| (s_dupR rfl).trans <| (s_gf1 rfl rfl).trans <| c_gI fun x5 => (s_aload_n rfl rfl).trans <| (s_gf6 rfl rfl).trans <| c_gI fun x6 => (s_if_eq rfl).trans <| c_ite ((s_iconst rfl).trans <| (s_iadd rfl).trans <| (s_pf1 rfl rfl).trans <| c_pf fun h5 => (s_iinc (ls2 := [.ref a0, .ref a1, .int (v2 + nZ 1)]) rfl rfl (fun _ => rfl)).trans <| (s_goto rfl).trans <| rfl) ((s_iconst rfl).trans <| (s_goto rfl).trans <| (s_iadd rfl).trans <| (s_pf1 rfl rfl).trans <| c_pf fun h6 => (s_iinc (ls2 := [.ref a0, .ref a1, .int (v2 + nZ 1)]) rfl rfl (fun _ => rfl)).trans <| (s_goto rfl).trans <| rfl)) ((s_iconst rfl).trans <| (s_goto rfl).trans <| (s_pf6 rfl rfl).trans <| c_chk <| c_pf fun h7 => (s_aload_n rfl rfl).trans <| (s_dupR rfl).trans <| (s_gf1 rfl rfl).trans <| c_gI fun x7 => (s_aload_n rfl rfl).trans <| (s_gf6 rfl rfl).trans <| c_gI fun x8 => (s_if_eq rfl).trans <| c_ite ((s_iconst rfl).trans <| (s_iadd rfl).trans <| (s_pf1 rfl rfl).trans <| c_pf fun h8 => (s_iinc (ls2 := [.ref a0, .ref a1, .int (v2 + nZ 1)]) rfl rfl (fun _ => rfl)).trans <| (s_goto rfl).trans <| rfl) ((s_iconst rfl).trans <| (s_goto rfl).trans <| (s_iadd rfl).trans <| (s_pf1 rfl rfl).trans <| c_pf fun h9 => (s_iinc (ls2 := [.ref a0, .ref a1, .int (v2 + nZ 1)]) rfl rfl (fun _ => rfl)).trans <| (s_goto rfl).trans <| rfl))) (s_ret rfl rfl))
theorem mc_X9_number (X : mv_X) (d : Nat) (h : mv_H) (a0 : Nat) (a1 : Nat) (v2 : Int32) (v3 : Int32) : mv_call X (d + 1) 236 [.ref a0, .ref a1, .int v2, .int v3] h = mv_run X (mv_call X d) m_X9_number 0 [.ref a0, .ref a1, .int v2, .int v3, .retAddr 0, .retAddr 0] [] h := rfl
theorem bk_X9_number_0 (X : mv_X) (call : mv_G) (h : mv_H) (a0 : Nat) (a1 : Nat) (v2 : Int32) (v3 : Int32) : mv_run X call m_X9_number 0 [.ref a0, .ref a1, .int v2, .int v3, .retAddr 0, .retAddr 0] [] h =
  mv_rcv X h [.ref a0, .ref a1] 13 (mv_clV call 235 [.ref a0, .ref a1] h mv_raise fun h1 =>
  mv_run X call m_X9_number 11 [.ref a0, .ref a1, .int v2, .int v3, .int (nZ 0), .int (nZ 0)] [] h1) :=
  (s_aload_n rfl rfl).trans <| (s_aload_n rfl rfl).trans <| (s_v0 [.ref a0, .ref a1] [] rfl rfl (fun _ => rfl)).trans <| c_rcv <| c_clV fun h1 => (s_iconst rfl).trans <| (s_istore (ls2 := [.ref a0, .ref a1, .int v2, .int v3, .int (nZ 0), .retAddr 0]) rfl (fun _ => rfl)).trans <| (s_iconst rfl).trans <| (s_istore (ls2 := [.ref a0, .ref a1, .int v2, .int v3, .int (nZ 0), .int (nZ 0)]) rfl (fun _ => rfl)).trans <| rfl
theorem bk_X9_number_11 (X : mv_X) (call : mv_G) (h : mv_H) (a0 : Nat) (a1 : Nat) (v2 : Int32) (v3 : Int32) (v4 : Int32) (v5 : Int32) : mv_run X call m_X9_number 11 [.ref a0, .ref a1, .int v2, .int v3, .int v4, .int v5] [] h =
  mv_gI X h a0 13 26 fun x1 =>
  if x1 = 0 then 
  (if v3 ≤ v5 then 
    (mv_gI X h a0 13 26 fun x2 =>
      if x2 = 0 then 
      (if v5 = 0 then 
        (mv_chk (mv_ok 6 (nZ 1)) (mv_pf h a0 13 26 (.int (nZ 1)) fun h1 =>
          mv_gR X h1 a0 13 9 fun r1 =>
          mv_gI X h1 a0 13 25 fun x3 =>
          mv_as h1 1 r1 (((nZ 5) * x3) + v2) (.int v4) fun h2 =>
          (some (.inl none, h2))))
        else (mv_chk (mv_ok 6 (nZ 0)) (mv_pf h a0 13 26 (.int (nZ 0)) fun h3 =>
          mv_gR X h3 a0 13 9 fun r2 =>
          mv_gI X h3 a0 13 25 fun x4 =>
          mv_as h3 1 r2 (((nZ 5) * x4) + v2) (.int v4) fun h4 =>
          (some (.inl none, h4)))))
      else (mv_chk (mv_ok 6 (nZ 1)) (mv_pf h a0 13 26 (.int (nZ 1)) fun h5 =>
        mv_gR X h5 a0 13 9 fun r3 =>
        mv_gI X h5 a0 13 25 fun x5 =>
        mv_as h5 1 r3 (((nZ 5) * x5) + v2) (.int v4) fun h6 =>
        (some (.inl none, h6)))))
    else (mv_rcv X h [.ref a0, .int (nZ 0)] 13 (mv_clI call 234 [.ref a0, .int (nZ 0)] h mv_raise fun x6 h7 =>
      mv_clI call 150 [.int x6, .int (nZ 48), .int (nZ 57)] h7 mv_raise fun x7 h8 =>
      if x7 = 0 then 
      (mv_gI X h8 a0 13 26 fun x8 =>
        if x8 = 0 then 
        (if v5 = 0 then 
          (mv_chk (mv_ok 6 (nZ 1)) (mv_pf h8 a0 13 26 (.int (nZ 1)) fun h9 =>
            mv_gR X h9 a0 13 9 fun r4 =>
            mv_gI X h9 a0 13 25 fun x9 =>
            mv_as h9 1 r4 (((nZ 5) * x9) + v2) (.int v4) fun h10 =>
            (some (.inl none, h10))))
          else (mv_chk (mv_ok 6 (nZ 0)) (mv_pf h8 a0 13 26 (.int (nZ 0)) fun h11 =>
            mv_gR X h11 a0 13 9 fun r5 =>
            mv_gI X h11 a0 13 25 fun x10 =>
            mv_as h11 1 r5 (((nZ 5) * x10) + v2) (.int v4) fun h12 =>
            (some (.inl none, h12)))))
        else (mv_chk (mv_ok 6 (nZ 1)) (mv_pf h8 a0 13 26 (.int (nZ 1)) fun h13 =>
          mv_gR X h13 a0 13 9 fun r6 =>
          mv_gI X h13 a0 13 25 fun x11 =>
          mv_as h13 1 r6 (((nZ 5) * x11) + v2) (.int v4) fun h14 =>
          (some (.inl none, h14)))))
      else (mv_rcv X h8 [.ref a0, .int (nZ 0)] 13 (mv_clI call 234 [.ref a0, .int (nZ 0)] h8 mv_raise fun x12 h15 =>
        mv_gI X h15 a0 13 23 fun x13 =>
        mv_pf h15 a0 13 23 (.int (x13 + (nZ 1))) fun h16 =>
        mv_run X call m_X9_number 11 [.ref a0, .ref a1, .int v2, .int v3, .int ((((nZ 10) * v4) + x12) - (nZ 48)), .int (v5 + nZ 1)] [] h16)))))
  else (mv_gI X h a0 13 26 fun x14 =>
    if x14 = 0 then 
    (if v5 = 0 then 
      (mv_chk (mv_ok 6 (nZ 1)) (mv_pf h a0 13 26 (.int (nZ 1)) fun h17 =>
        mv_gR X h17 a0 13 9 fun r7 =>
        mv_gI X h17 a0 13 25 fun x15 =>
        mv_as h17 1 r7 (((nZ 5) * x15) + v2) (.int v4) fun h18 =>
        (some (.inl none, h18))))
      else (mv_chk (mv_ok 6 (nZ 0)) (mv_pf h a0 13 26 (.int (nZ 0)) fun h19 =>
        mv_gR X h19 a0 13 9 fun r8 =>
        mv_gI X h19 a0 13 25 fun x16 =>
        mv_as h19 1 r8 (((nZ 5) * x16) + v2) (.int v4) fun h20 =>
        (some (.inl none, h20)))))
    else (mv_chk (mv_ok 6 (nZ 1)) (mv_pf h a0 13 26 (.int (nZ 1)) fun h21 =>
      mv_gR X h21 a0 13 9 fun r9 =>
      mv_gI X h21 a0 13 25 fun x17 =>
      mv_as h21 1 r9 (((nZ 5) * x17) + v2) (.int v4) fun h22 =>
      (some (.inl none, h22))))) :=
  (s_aload_n rfl rfl).trans <| (s_gf6 rfl rfl).trans <| c_gI fun x1 => (s_if_ne rfl).trans <| c_ite ((s_iload rfl rfl).trans <| (s_iload_n rfl rfl).trans <| (s_icmp_ge rfl).trans <| c_ite ((s_aload_n rfl rfl).trans <| (s_aload_n rfl rfl).trans <| (s_gf6 rfl rfl).trans <| c_gI fun x2 => (s_if_ne rfl).trans <| c_ite ((s_iload rfl rfl).trans <| (s_if_ne rfl).trans <| c_ite ((s_iconst rfl).trans <| (s_goto rfl).trans <| (s_pf6 rfl rfl).trans <| c_chk <| c_pf fun h1 => (s_aload_n rfl rfl).trans <| (s_gf2 rfl rfl).trans <| c_gR fun r1 => (s_iconst rfl).trans <| (s_aload_n rfl rfl).trans <| (s_gf1 rfl rfl).trans <| c_gI fun x3 => (s_imul rfl).trans <| (s_iload_n rfl rfl).trans <| (s_iadd rfl).trans <| (s_iload rfl rfl).trans <| (s_iastore rfl).trans <| c_as fun h2 => s_ret rfl rfl) ((s_iconst rfl).trans <| (s_pf6 rfl rfl).trans <| c_chk <| c_pf fun h3 => (s_aload_n rfl rfl).trans <| (s_gf2 rfl rfl).trans <| c_gR fun r2 => (s_iconst rfl).trans <| (s_aload_n rfl rfl).trans <| (s_gf1 rfl rfl).trans <| c_gI fun x4 => (s_imul rfl).trans <| (s_iload_n rfl rfl).trans <| (s_iadd rfl).trans <| (s_iload rfl rfl).trans <| (s_iastore rfl).trans <| c_as fun h4 => s_ret rfl rfl)) ((s_iconst rfl).trans <| (s_goto rfl).trans <| (s_pf6 rfl rfl).trans <| c_chk <| c_pf fun h5 => (s_aload_n rfl rfl).trans <| (s_gf2 rfl rfl).trans <| c_gR fun r3 => (s_iconst rfl).trans <| (s_aload_n rfl rfl).trans <| (s_gf1 rfl rfl).trans <| c_gI fun x5 => (s_imul rfl).trans <| (s_iload_n rfl rfl).trans <| (s_iadd rfl).trans <| (s_iload rfl rfl).trans <| (s_iastore rfl).trans <| c_as fun h6 => s_ret rfl rfl)) ((s_aload_n rfl rfl).trans <| (s_iconst rfl).trans <| (s_v1 [.ref a0, .int (nZ 0)] [] rfl rfl (fun _ => rfl)).trans <| c_rcv <| c_clI fun x6 h7 => (s_bipush rfl).trans <| (s_bipush rfl).trans <| (s_s1 [.int x6, .int (nZ 48), .int (nZ 57)] [] rfl rfl (fun _ => rfl)).trans <| c_clI fun x7 h8 => (s_if_eq rfl).trans <| c_ite ((s_aload_n rfl rfl).trans <| (s_aload_n rfl rfl).trans <| (s_gf6 rfl rfl).trans <| c_gI fun x8 => (s_if_ne rfl).trans <| c_ite ((s_iload rfl rfl).trans <| (s_if_ne rfl).trans <| c_ite ((s_iconst rfl).trans <| (s_goto rfl).trans <| (s_pf6 rfl rfl).trans <| c_chk <| c_pf fun h9 => (s_aload_n rfl rfl).trans <| (s_gf2 rfl rfl).trans <| c_gR fun r4 => (s_iconst rfl).trans <| (s_aload_n rfl rfl).trans <| (s_gf1 rfl rfl).trans <| c_gI fun x9 => (s_imul rfl).trans <| (s_iload_n rfl rfl).trans <| (s_iadd rfl).trans <| (s_iload rfl rfl).trans <| (s_iastore rfl).trans <| c_as fun h10 => s_ret rfl rfl) ((s_iconst rfl).trans <| (s_pf6 rfl rfl).trans <| c_chk <| c_pf fun h11 => (s_aload_n rfl rfl).trans <| (s_gf2 rfl rfl).trans <| c_gR fun r5 => (s_iconst rfl).trans <| (s_aload_n rfl rfl).trans <| (s_gf1 rfl rfl).trans <| c_gI fun x10 => (s_imul rfl).trans <| (s_iload_n rfl rfl).trans <| (s_iadd rfl).trans <| (s_iload rfl rfl).trans <| (s_iastore rfl).trans <| c_as fun h12 => s_ret rfl rfl)) ((s_iconst rfl).trans <| (s_goto rfl).trans <| (s_pf6 rfl rfl).trans <| c_chk <| c_pf fun h13 => (s_aload_n rfl rfl).trans <| (s_gf2 rfl rfl).trans <| c_gR fun r6 => (s_iconst rfl).trans <| (s_aload_n rfl rfl).trans <| (s_gf1 rfl rfl).trans <| c_gI fun x11 => (s_imul rfl).trans <| (s_iload_n rfl rfl).trans <| (s_iadd rfl).trans <| (s_iload rfl rfl).trans <| (s_iastore rfl).trans <| c_as fun h14 => s_ret rfl rfl)) ((s_bipush rfl).trans <| (s_iload rfl rfl).trans <| (s_imul rfl).trans <| (s_aload_n rfl rfl).trans <| (s_iconst rfl).trans <| (s_v1 [.ref a0, .int (nZ 0)] [.int ((nZ 10) * v4)] rfl rfl (fun _ => rfl)).trans <| c_rcv <| c_clI fun x12 h15 => (s_iadd rfl).trans <| (s_bipush rfl).trans <| (s_isub rfl).trans <| (s_istore (ls2 := [.ref a0, .ref a1, .int v2, .int v3, .int ((((nZ 10) * v4) + x12) - (nZ 48)), .int v5]) rfl (fun _ => rfl)).trans <| (s_aload_n rfl rfl).trans <| (s_dupR rfl).trans <| (s_gf1 rfl rfl).trans <| c_gI fun x13 => (s_iconst rfl).trans <| (s_iadd rfl).trans <| (s_pf1 rfl rfl).trans <| c_pf fun h16 => (s_iinc (ls2 := [.ref a0, .ref a1, .int v2, .int v3, .int ((((nZ 10) * v4) + x12) - (nZ 48)), .int (v5 + nZ 1)]) rfl rfl (fun _ => rfl)).trans <| (s_goto rfl).trans <| rfl))) ((s_aload_n rfl rfl).trans <| (s_aload_n rfl rfl).trans <| (s_gf6 rfl rfl).trans <| c_gI fun x14 => (s_if_ne rfl).trans <| c_ite ((s_iload rfl rfl).trans <| (s_if_ne rfl).trans <| c_ite ((s_iconst rfl).trans <| (s_goto rfl).trans <| (s_pf6 rfl rfl).trans <| c_chk <| c_pf fun h17 => (s_aload_n rfl rfl).trans <| (s_gf2 rfl rfl).trans <| c_gR fun r7 => (s_iconst rfl).trans <| (s_aload_n rfl rfl).trans <| (s_gf1 rfl rfl).trans <| c_gI fun x15 => (s_imul rfl).trans <| (s_iload_n rfl rfl).trans <| (s_iadd rfl).trans <| (s_iload rfl rfl).trans <| (s_iastore rfl).trans <| c_as fun h18 => s_ret rfl rfl) ((s_iconst rfl).trans <| (s_pf6 rfl rfl).trans <| c_chk <| c_pf fun h19 => (s_aload_n rfl rfl).trans <| (s_gf2 rfl rfl).trans <| c_gR fun r8 => (s_iconst rfl).trans <| (s_aload_n rfl rfl).trans <| (s_gf1 rfl rfl).trans <| c_gI fun x16 => (s_imul rfl).trans <| (s_iload_n rfl rfl).trans <| (s_iadd rfl).trans <| (s_iload rfl rfl).trans <| (s_iastore rfl).trans <| c_as fun h20 => s_ret rfl rfl)) ((s_iconst rfl).trans <| (s_goto rfl).trans <| (s_pf6 rfl rfl).trans <| c_chk <| c_pf fun h21 => (s_aload_n rfl rfl).trans <| (s_gf2 rfl rfl).trans <| c_gR fun r9 => (s_iconst rfl).trans <| (s_aload_n rfl rfl).trans <| (s_gf1 rfl rfl).trans <| c_gI fun x17 => (s_imul rfl).trans <| (s_iload_n rfl rfl).trans <| (s_iadd rfl).trans <| (s_iload rfl rfl).trans <| (s_iastore rfl).trans <| c_as fun h22 => s_ret rfl rfl))
theorem mc_X9_readsWind (X : mv_X) (d : Nat) (h : mv_H) (a0 : Nat) : mv_call X (d + 1) 237 [.ref a0] h = mv_run X (mv_call X d) m_X9_readsWind 0 [.ref a0, .retAddr 0] [] h := rfl
theorem bk_X9_readsWind_0 (X : mv_X) (call : mv_G) (h : mv_H) (a0 : Nat) : mv_run X call m_X9_readsWind 0 [.ref a0, .retAddr 0] [] h =
  mv_rcv X h [.ref a0, .ref (X.2.1 30), .int (nZ 1), .int (nZ 2)] 13 (mv_clV call 236 [.ref a0, .ref (X.2.1 30), .int (nZ 1), .int (nZ 2)] h mv_raise fun h1 =>
  mv_rcv X h1 [.ref a0, .ref (X.2.1 31)] 13 (mv_clV call 235 [.ref a0, .ref (X.2.1 31)] h1 mv_raise fun h2 =>
  mv_gI X h2 a0 13 26 fun x1 =>
  if x1 = 0 then 
  (mv_rcv X h2 [.ref a0, .int (nZ 0)] 13 (mv_clI call 234 [.ref a0, .int (nZ 0)] h2 mv_raise fun x2 h3 =>
    if x2 = (nZ 45) then 
    (if (nZ 1) = 0 then 
      (mv_rcv X h3 [.ref a0, .ref (X.2.1 33), .int (nZ 2), .int (nZ 1)] 13 (mv_clV call 236 [.ref a0, .ref (X.2.1 33), .int (nZ 2), .int (nZ 1)] h3 mv_raise fun h4 =>
        mv_gR X h4 a0 13 9 fun r1 =>
        mv_gI X h4 a0 13 25 fun x3 =>
        mv_aI X h4 1 r1 (((nZ 5) * x3) + (nZ 2)) fun x4 =>
        if (nZ 1) = 0 then 
        (mv_as h4 1 r1 (((nZ 5) * x3) + (nZ 2)) (.int (x4 * (nZ 1))) fun h5 =>
          (some (.inl none, h5)))
        else (mv_as h4 1 r1 (((nZ 5) * x3) + (nZ 2)) (.int (x4 * (nZ (-1)))) fun h6 =>
          (some (.inl none, h6)))))
      else (mv_rcv X h3 [.ref a0, .ref (X.2.1 32), .int (nZ 2), .int (nZ 1)] 13 (mv_clV call 236 [.ref a0, .ref (X.2.1 32), .int (nZ 2), .int (nZ 1)] h3 mv_raise fun h7 =>
        mv_gR X h7 a0 13 9 fun r2 =>
        mv_gI X h7 a0 13 25 fun x5 =>
        mv_aI X h7 1 r2 (((nZ 5) * x5) + (nZ 2)) fun x6 =>
        if (nZ 1) = 0 then 
        (mv_as h7 1 r2 (((nZ 5) * x5) + (nZ 2)) (.int (x6 * (nZ 1))) fun h8 =>
          (some (.inl none, h8)))
        else (mv_as h7 1 r2 (((nZ 5) * x5) + (nZ 2)) (.int (x6 * (nZ (-1)))) fun h9 =>
          (some (.inl none, h9))))))
    else (if (nZ 0) = 0 then 
      (mv_rcv X h3 [.ref a0, .ref (X.2.1 33), .int (nZ 2), .int (nZ 1)] 13 (mv_clV call 236 [.ref a0, .ref (X.2.1 33), .int (nZ 2), .int (nZ 1)] h3 mv_raise fun h10 =>
        mv_gR X h10 a0 13 9 fun r3 =>
        mv_gI X h10 a0 13 25 fun x7 =>
        mv_aI X h10 1 r3 (((nZ 5) * x7) + (nZ 2)) fun x8 =>
        if (nZ 0) = 0 then 
        (mv_as h10 1 r3 (((nZ 5) * x7) + (nZ 2)) (.int (x8 * (nZ 1))) fun h11 =>
          (some (.inl none, h11)))
        else (mv_as h10 1 r3 (((nZ 5) * x7) + (nZ 2)) (.int (x8 * (nZ (-1)))) fun h12 =>
          (some (.inl none, h12)))))
      else (mv_rcv X h3 [.ref a0, .ref (X.2.1 32), .int (nZ 2), .int (nZ 1)] 13 (mv_clV call 236 [.ref a0, .ref (X.2.1 32), .int (nZ 2), .int (nZ 1)] h3 mv_raise fun h13 =>
        mv_gR X h13 a0 13 9 fun r4 =>
        mv_gI X h13 a0 13 25 fun x9 =>
        mv_aI X h13 1 r4 (((nZ 5) * x9) + (nZ 2)) fun x10 =>
        if (nZ 0) = 0 then 
        (mv_as h13 1 r4 (((nZ 5) * x9) + (nZ 2)) (.int (x10 * (nZ 1))) fun h14 =>
          (some (.inl none, h14)))
        else (mv_as h13 1 r4 (((nZ 5) * x9) + (nZ 2)) (.int (x10 * (nZ (-1)))) fun h15 =>
          (some (.inl none, h15))))))))
  else (if (nZ 0) = 0 then 
    (mv_rcv X h2 [.ref a0, .ref (X.2.1 33), .int (nZ 2), .int (nZ 1)] 13 (mv_clV call 236 [.ref a0, .ref (X.2.1 33), .int (nZ 2), .int (nZ 1)] h2 mv_raise fun h16 =>
      mv_gR X h16 a0 13 9 fun r5 =>
      mv_gI X h16 a0 13 25 fun x11 =>
      mv_aI X h16 1 r5 (((nZ 5) * x11) + (nZ 2)) fun x12 =>
      if (nZ 0) = 0 then 
      (mv_as h16 1 r5 (((nZ 5) * x11) + (nZ 2)) (.int (x12 * (nZ 1))) fun h17 =>
        (some (.inl none, h17)))
      else (mv_as h16 1 r5 (((nZ 5) * x11) + (nZ 2)) (.int (x12 * (nZ (-1)))) fun h18 =>
        (some (.inl none, h18)))))
    else (mv_rcv X h2 [.ref a0, .ref (X.2.1 32), .int (nZ 2), .int (nZ 1)] 13 (mv_clV call 236 [.ref a0, .ref (X.2.1 32), .int (nZ 2), .int (nZ 1)] h2 mv_raise fun h19 =>
      mv_gR X h19 a0 13 9 fun r6 =>
      mv_gI X h19 a0 13 25 fun x13 =>
      mv_aI X h19 1 r6 (((nZ 5) * x13) + (nZ 2)) fun x14 =>
      if (nZ 0) = 0 then 
      (mv_as h19 1 r6 (((nZ 5) * x13) + (nZ 2)) (.int (x14 * (nZ 1))) fun h20 =>
        (some (.inl none, h20)))
      else (mv_as h19 1 r6 (((nZ 5) * x13) + (nZ 2)) (.int (x14 * (nZ (-1)))) fun h21 =>
        (some (.inl none, h21)))))))) :=
  (s_aload_n rfl rfl).trans <| (s_ldcS_w rfl rfl).trans <| (s_iconst rfl).trans <| (s_iconst rfl).trans <| (s_v0 [.ref a0, .ref (X.2.1 30), .int (nZ 1), .int (nZ 2)] [] rfl rfl (fun _ => rfl)).trans <| c_rcv <| c_clV fun h1 => (s_aload_n rfl rfl).trans <| (s_ldcS_w rfl rfl).trans <| (s_v0 [.ref a0, .ref (X.2.1 31)] [] rfl rfl (fun _ => rfl)).trans <| c_rcv <| c_clV fun h2 => (s_aload_n rfl rfl).trans <| (s_gf6 rfl rfl).trans <| c_gI fun x1 => (s_if_ne rfl).trans <| c_ite ((s_aload_n rfl rfl).trans <| (s_iconst rfl).trans <| (s_v1 [.ref a0, .int (nZ 0)] [] rfl rfl (fun _ => rfl)).trans <| c_rcv <| c_clI fun x2 h3 => (s_bipush rfl).trans <| (s_icmp_ne rfl).trans <| c_ite ((s_iconst rfl).trans <| (s_goto rfl).trans <| (s_istore_n (ls2 := [.ref a0, .int (nZ 1)]) rfl (fun _ => rfl)).trans <| (s_aload_n rfl rfl).trans <| (s_iload_n rfl rfl).trans <| (s_if_eq rfl).trans <| c_ite ((s_ldcS_w rfl rfl).trans <| (s_iconst rfl).trans <| (s_iconst rfl).trans <| (s_v0 [.ref a0, .ref (X.2.1 33), .int (nZ 2), .int (nZ 1)] [] rfl rfl (fun _ => rfl)).trans <| c_rcv <| c_clV fun h4 => (s_aload_n rfl rfl).trans <| (s_gf2 rfl rfl).trans <| c_gR fun r1 => (s_iconst rfl).trans <| (s_aload_n rfl rfl).trans <| (s_gf1 rfl rfl).trans <| c_gI fun x3 => (s_imul rfl).trans <| (s_iconst rfl).trans <| (s_iadd rfl).trans <| (s_dup2 rfl).trans <| (s_iaload rfl).trans <| c_aI fun x4 => (s_iload_n rfl rfl).trans <| (s_if_eq rfl).trans <| c_ite ((s_iconst rfl).trans <| (s_imul rfl).trans <| (s_iastore rfl).trans <| c_as fun h5 => s_ret rfl rfl) ((s_iconst rfl).trans <| (s_goto rfl).trans <| (s_imul rfl).trans <| (s_iastore rfl).trans <| c_as fun h6 => s_ret rfl rfl)) ((s_ldcS_w rfl rfl).trans <| (s_goto rfl).trans <| (s_iconst rfl).trans <| (s_iconst rfl).trans <| (s_v0 [.ref a0, .ref (X.2.1 32), .int (nZ 2), .int (nZ 1)] [] rfl rfl (fun _ => rfl)).trans <| c_rcv <| c_clV fun h7 => (s_aload_n rfl rfl).trans <| (s_gf2 rfl rfl).trans <| c_gR fun r2 => (s_iconst rfl).trans <| (s_aload_n rfl rfl).trans <| (s_gf1 rfl rfl).trans <| c_gI fun x5 => (s_imul rfl).trans <| (s_iconst rfl).trans <| (s_iadd rfl).trans <| (s_dup2 rfl).trans <| (s_iaload rfl).trans <| c_aI fun x6 => (s_iload_n rfl rfl).trans <| (s_if_eq rfl).trans <| c_ite ((s_iconst rfl).trans <| (s_imul rfl).trans <| (s_iastore rfl).trans <| c_as fun h8 => s_ret rfl rfl) ((s_iconst rfl).trans <| (s_goto rfl).trans <| (s_imul rfl).trans <| (s_iastore rfl).trans <| c_as fun h9 => s_ret rfl rfl))) ((s_iconst rfl).trans <| (s_istore_n (ls2 := [.ref a0, .int (nZ 0)]) rfl (fun _ => rfl)).trans <| (s_aload_n rfl rfl).trans <| (s_iload_n rfl rfl).trans <| (s_if_eq rfl).trans <| c_ite ((s_ldcS_w rfl rfl).trans <| (s_iconst rfl).trans <| (s_iconst rfl).trans <| (s_v0 [.ref a0, .ref (X.2.1 33), .int (nZ 2), .int (nZ 1)] [] rfl rfl (fun _ => rfl)).trans <| c_rcv <| c_clV fun h10 => (s_aload_n rfl rfl).trans <| (s_gf2 rfl rfl).trans <| c_gR fun r3 => (s_iconst rfl).trans <| (s_aload_n rfl rfl).trans <| (s_gf1 rfl rfl).trans <| c_gI fun x7 => (s_imul rfl).trans <| (s_iconst rfl).trans <| (s_iadd rfl).trans <| (s_dup2 rfl).trans <| (s_iaload rfl).trans <| c_aI fun x8 => (s_iload_n rfl rfl).trans <| (s_if_eq rfl).trans <| c_ite ((s_iconst rfl).trans <| (s_imul rfl).trans <| (s_iastore rfl).trans <| c_as fun h11 => s_ret rfl rfl) ((s_iconst rfl).trans <| (s_goto rfl).trans <| (s_imul rfl).trans <| (s_iastore rfl).trans <| c_as fun h12 => s_ret rfl rfl)) ((s_ldcS_w rfl rfl).trans <| (s_goto rfl).trans <| (s_iconst rfl).trans <| (s_iconst rfl).trans <| (s_v0 [.ref a0, .ref (X.2.1 32), .int (nZ 2), .int (nZ 1)] [] rfl rfl (fun _ => rfl)).trans <| c_rcv <| c_clV fun h13 => (s_aload_n rfl rfl).trans <| (s_gf2 rfl rfl).trans <| c_gR fun r4 => (s_iconst rfl).trans <| (s_aload_n rfl rfl).trans <| (s_gf1 rfl rfl).trans <| c_gI fun x9 => (s_imul rfl).trans <| (s_iconst rfl).trans <| (s_iadd rfl).trans <| (s_dup2 rfl).trans <| (s_iaload rfl).trans <| c_aI fun x10 => (s_iload_n rfl rfl).trans <| (s_if_eq rfl).trans <| c_ite ((s_iconst rfl).trans <| (s_imul rfl).trans <| (s_iastore rfl).trans <| c_as fun h14 => s_ret rfl rfl) ((s_iconst rfl).trans <| (s_goto rfl).trans <| (s_imul rfl).trans <| (s_iastore rfl).trans <| c_as fun h15 => s_ret rfl rfl)))) ((s_iconst rfl).trans <| (s_istore_n (ls2 := [.ref a0, .int (nZ 0)]) rfl (fun _ => rfl)).trans <| (s_aload_n rfl rfl).trans <| (s_iload_n rfl rfl).trans <| (s_if_eq rfl).trans <| c_ite ((s_ldcS_w rfl rfl).trans <| (s_iconst rfl).trans <| (s_iconst rfl).trans <| (s_v0 [.ref a0, .ref (X.2.1 33), .int (nZ 2), .int (nZ 1)] [] rfl rfl (fun _ => rfl)).trans <| c_rcv <| c_clV fun h16 => (s_aload_n rfl rfl).trans <| (s_gf2 rfl rfl).trans <| c_gR fun r5 => (s_iconst rfl).trans <| (s_aload_n rfl rfl).trans <| (s_gf1 rfl rfl).trans <| c_gI fun x11 => (s_imul rfl).trans <| (s_iconst rfl).trans <| (s_iadd rfl).trans <| (s_dup2 rfl).trans <| (s_iaload rfl).trans <| c_aI fun x12 => (s_iload_n rfl rfl).trans <| (s_if_eq rfl).trans <| c_ite ((s_iconst rfl).trans <| (s_imul rfl).trans <| (s_iastore rfl).trans <| c_as fun h17 => s_ret rfl rfl) ((s_iconst rfl).trans <| (s_goto rfl).trans <| (s_imul rfl).trans <| (s_iastore rfl).trans <| c_as fun h18 => s_ret rfl rfl)) ((s_ldcS_w rfl rfl).trans <| (s_goto rfl).trans <| (s_iconst rfl).trans <| (s_iconst rfl).trans <| (s_v0 [.ref a0, .ref (X.2.1 32), .int (nZ 2), .int (nZ 1)] [] rfl rfl (fun _ => rfl)).trans <| c_rcv <| c_clV fun h19 => (s_aload_n rfl rfl).trans <| (s_gf2 rfl rfl).trans <| c_gR fun r6 => (s_iconst rfl).trans <| (s_aload_n rfl rfl).trans <| (s_gf1 rfl rfl).trans <| c_gI fun x13 => (s_imul rfl).trans <| (s_iconst rfl).trans <| (s_iadd rfl).trans <| (s_dup2 rfl).trans <| (s_iaload rfl).trans <| c_aI fun x14 => (s_iload_n rfl rfl).trans <| (s_if_eq rfl).trans <| c_ite ((s_iconst rfl).trans <| (s_imul rfl).trans <| (s_iastore rfl).trans <| c_as fun h20 => s_ret rfl rfl) ((s_iconst rfl).trans <| (s_goto rfl).trans <| (s_imul rfl).trans <| (s_iastore rfl).trans <| c_as fun h21 => s_ret rfl rfl)))
theorem mc_X9_readsOne (X : mv_X) (d : Nat) (h : mv_H) (a0 : Nat) : mv_call X (d + 1) 238 [.ref a0] h = mv_run X (mv_call X d) m_X9_readsOne 0 [.ref a0, .retAddr 0, .retAddr 0, .retAddr 0] [] h := rfl
theorem i_X9_readsOne_0 : mv_look m_X9_readsOne.2.2.2.1 32 0 = some (.aload_n 0, 0, []) := by decide +kernel
theorem i_X9_readsOne_1 : mv_look m_X9_readsOne.2.2.2.1 32 1 = some (.iconst 0, 0, []) := by decide +kernel
theorem i_X9_readsOne_2 : mv_look m_X9_readsOne.2.2.2.1 32 2 = some (.invokevirtual 244, 0, []) := by decide +kernel
theorem i_X9_readsOne_5 : mv_look m_X9_readsOne.2.2.2.1 32 5 = some (.istore_n 1, 0, []) := by decide +kernel
theorem i_X9_readsOne_6 : mv_look m_X9_readsOne.2.2.2.1 32 6 = some (.iload_n 1, 0, []) := by decide +kernel
theorem i_X9_readsOne_7 : mv_look m_X9_readsOne.2.2.2.1 32 7 = some (.bipush 108, 0, []) := by decide +kernel
theorem i_X9_readsOne_9 : mv_look m_X9_readsOne.2.2.2.1 32 9 = some (.if_icmp .ne 13, 22, []) := by decide +kernel
theorem i_X9_readsOne_12 : mv_look m_X9_readsOne.2.2.2.1 32 12 = some (.aload_n 0, 0, []) := by decide +kernel
theorem i_X9_readsOne_13 : mv_look m_X9_readsOne.2.2.2.1 32 13 = some (.iconst 1, 0, []) := by decide +kernel
theorem i_X9_readsOne_14 : mv_look m_X9_readsOne.2.2.2.1 32 14 = some (.invokevirtual 244, 0, []) := by decide +kernel
theorem i_X9_readsOne_17 : mv_look m_X9_readsOne.2.2.2.1 32 17 = some (.bipush 101, 0, []) := by decide +kernel
theorem i_X9_readsOne_19 : mv_look m_X9_readsOne.2.2.2.1 32 19 = some (.if_icmp .eq 19, 38, []) := by decide +kernel
theorem i_X9_readsOne_22 : mv_look m_X9_readsOne.2.2.2.1 32 22 = some (.iload_n 1, 0, []) := by decide +kernel
theorem i_X9_readsOne_23 : mv_look m_X9_readsOne.2.2.2.1 32 23 = some (.bipush 119, 0, []) := by decide +kernel
theorem i_X9_readsOne_25 : mv_look m_X9_readsOne.2.2.2.1 32 25 = some (.if_icmp .ne 17, 42, []) := by decide +kernel
theorem i_X9_readsOne_28 : mv_look m_X9_readsOne.2.2.2.1 32 28 = some (.aload_n 0, 0, []) := by decide +kernel
theorem i_X9_readsOne_29 : mv_look m_X9_readsOne.2.2.2.1 32 29 = some (.iconst 1, 0, []) := by decide +kernel
theorem i_X9_readsOne_30 : mv_look m_X9_readsOne.2.2.2.1 32 30 = some (.invokevirtual 244, 0, []) := by decide +kernel
theorem i_X9_readsOne_33 : mv_look m_X9_readsOne.2.2.2.1 32 33 = some (.bipush 97, 0, []) := by decide +kernel
theorem i_X9_readsOne_35 : mv_look m_X9_readsOne.2.2.2.1 32 35 = some (.if_icmp .ne 7, 42, []) := by decide +kernel
theorem i_X9_readsOne_38 : mv_look m_X9_readsOne.2.2.2.1 32 38 = some (.iconst 1, 0, []) := by decide +kernel
theorem i_X9_readsOne_39 : mv_look m_X9_readsOne.2.2.2.1 32 39 = some (.goto 4, 43, []) := by decide +kernel
theorem i_X9_readsOne_42 : mv_look m_X9_readsOne.2.2.2.1 32 42 = some (.iconst 0, 0, []) := by decide +kernel
theorem i_X9_readsOne_43 : mv_look m_X9_readsOne.2.2.2.1 32 43 = some (.istore_n 2, 0, []) := by decide +kernel
theorem i_X9_readsOne_44 : mv_look m_X9_readsOne.2.2.2.1 32 44 = some (.aload_n 0, 0, []) := by decide +kernel
theorem i_X9_readsOne_45 : mv_look m_X9_readsOne.2.2.2.1 32 45 = some (.getfield 28, 0, []) := by decide +kernel
theorem i_X9_readsOne_48 : mv_look m_X9_readsOne.2.2.2.1 32 48 = some (.iconst 5, 0, []) := by decide +kernel
theorem i_X9_readsOne_49 : mv_look m_X9_readsOne.2.2.2.1 32 49 = some (.aload_n 0, 0, []) := by decide +kernel
theorem i_X9_readsOne_50 : mv_look m_X9_readsOne.2.2.2.1 32 50 = some (.getfield 255, 0, []) := by decide +kernel
theorem i_X9_readsOne_53 : mv_look m_X9_readsOne.2.2.2.1 32 53 = some (.imul, 0, []) := by decide +kernel
theorem i_X9_readsOne_54 : mv_look m_X9_readsOne.2.2.2.1 32 54 = some (.iload_n 2, 0, []) := by decide +kernel
theorem i_X9_readsOne_55 : mv_look m_X9_readsOne.2.2.2.1 32 55 = some (.ifCond .eq 10, 65, []) := by decide +kernel
theorem i_X9_readsOne_58 : mv_look m_X9_readsOne.2.2.2.1 32 58 = some (.iload_n 1, 0, []) := by decide +kernel
theorem i_X9_readsOne_59 : mv_look m_X9_readsOne.2.2.2.1 32 59 = some (.bipush 100, 0, []) := by decide +kernel
theorem i_X9_readsOne_61 : mv_look m_X9_readsOne.2.2.2.1 32 61 = some (.iadd, 0, []) := by decide +kernel
theorem i_X9_readsOne_62 : mv_look m_X9_readsOne.2.2.2.1 32 62 = some (.goto 4, 66, []) := by decide +kernel
theorem i_X9_readsOne_65 : mv_look m_X9_readsOne.2.2.2.1 32 65 = some (.iload_n 1, 0, []) := by decide +kernel
theorem i_X9_readsOne_66 : mv_look m_X9_readsOne.2.2.2.1 32 66 = some (.iastore, 0, []) := by decide +kernel
theorem i_X9_readsOne_67 : mv_look m_X9_readsOne.2.2.2.1 32 67 = some (.iload_n 1, 0, []) := by decide +kernel
theorem i_X9_readsOne_68 : mv_look m_X9_readsOne.2.2.2.1 32 68 = some (.tableswitch 278 99 119 #[134, 183, 278, 278, 278, 278, 278, 278, 278, 146, 100, 278, 278, 248, 278, 204, 278, 278, 278, 278, 225], 346, [(99, 202), (100, 251), (101, 346), (102, 346), (103, 346), (104, 346), (105, 346), (106, 346), (107, 346), (108, 214), (109, 168), (110, 346), (111, 346), (112, 316), (113, 346), (114, 272), (115, 346), (116, 346), (117, 346), (118, 346), (119, 293)]) := by decide +kernel
theorem i_X9_readsOne_168 : mv_look m_X9_readsOne.2.2.2.1 32 168 = some (.aload_n 0, 0, []) := by decide +kernel
theorem i_X9_readsOne_169 : mv_look m_X9_readsOne.2.2.2.1 32 169 = some (.ldc_w 270, 0, []) := by decide +kernel
theorem i_X9_readsOne_172 : mv_look m_X9_readsOne.2.2.2.1 32 172 = some (.iconst 1, 0, []) := by decide +kernel
theorem i_X9_readsOne_173 : mv_look m_X9_readsOne.2.2.2.1 32 173 = some (.iconst 1, 0, []) := by decide +kernel
theorem i_X9_readsOne_174 : mv_look m_X9_readsOne.2.2.2.1 32 174 = some (.invokevirtual 260, 0, []) := by decide +kernel
theorem i_X9_readsOne_177 : mv_look m_X9_readsOne.2.2.2.1 32 177 = some (.iconst 2, 0, []) := by decide +kernel
theorem i_X9_readsOne_178 : mv_look m_X9_readsOne.2.2.2.1 32 178 = some (.istore_n 3, 0, []) := by decide +kernel
theorem i_X9_readsOne_179 : mv_look m_X9_readsOne.2.2.2.1 32 179 = some (.iload_n 3, 0, []) := by decide +kernel
theorem i_X9_readsOne_180 : mv_look m_X9_readsOne.2.2.2.1 32 180 = some (.iconst 5, 0, []) := by decide +kernel
theorem i_X9_readsOne_181 : mv_look m_X9_readsOne.2.2.2.1 32 181 = some (.if_icmp .ge 18, 199, []) := by decide +kernel
theorem i_X9_readsOne_184 : mv_look m_X9_readsOne.2.2.2.1 32 184 = some (.aload_n 0, 0, []) := by decide +kernel
theorem i_X9_readsOne_185 : mv_look m_X9_readsOne.2.2.2.1 32 185 = some (.ldc_w 272, 0, []) := by decide +kernel
theorem i_X9_readsOne_188 : mv_look m_X9_readsOne.2.2.2.1 32 188 = some (.iload_n 3, 0, []) := by decide +kernel
theorem i_X9_readsOne_189 : mv_look m_X9_readsOne.2.2.2.1 32 189 = some (.iconst 2, 0, []) := by decide +kernel
theorem i_X9_readsOne_190 : mv_look m_X9_readsOne.2.2.2.1 32 190 = some (.invokevirtual 260, 0, []) := by decide +kernel
theorem i_X9_readsOne_193 : mv_look m_X9_readsOne.2.2.2.1 32 193 = some (.iinc 3 1, 0, []) := by decide +kernel
theorem i_X9_readsOne_196 : mv_look m_X9_readsOne.2.2.2.1 32 196 = some (.goto (-17), 179, []) := by decide +kernel
theorem i_X9_readsOne_199 : mv_look m_X9_readsOne.2.2.2.1 32 199 = some (.goto 152, 351, []) := by decide +kernel
theorem i_X9_readsOne_202 : mv_look m_X9_readsOne.2.2.2.1 32 202 = some (.aload_n 0, 0, []) := by decide +kernel
theorem i_X9_readsOne_203 : mv_look m_X9_readsOne.2.2.2.1 32 203 = some (.ldc_w 274, 0, []) := by decide +kernel
theorem i_X9_readsOne_206 : mv_look m_X9_readsOne.2.2.2.1 32 206 = some (.iconst 1, 0, []) := by decide +kernel
theorem i_X9_readsOne_207 : mv_look m_X9_readsOne.2.2.2.1 32 207 = some (.iconst 1, 0, []) := by decide +kernel
theorem i_X9_readsOne_208 : mv_look m_X9_readsOne.2.2.2.1 32 208 = some (.invokevirtual 260, 0, []) := by decide +kernel
theorem i_X9_readsOne_211 : mv_look m_X9_readsOne.2.2.2.1 32 211 = some (.goto 140, 351, []) := by decide +kernel
theorem i_X9_readsOne_214 : mv_look m_X9_readsOne.2.2.2.1 32 214 = some (.iload_n 2, 0, []) := by decide +kernel
theorem i_X9_readsOne_215 : mv_look m_X9_readsOne.2.2.2.1 32 215 = some (.ifCond .eq 15, 230, []) := by decide +kernel
theorem i_X9_readsOne_218 : mv_look m_X9_readsOne.2.2.2.1 32 218 = some (.aload_n 0, 0, []) := by decide +kernel
theorem i_X9_readsOne_219 : mv_look m_X9_readsOne.2.2.2.1 32 219 = some (.ldc_w 276, 0, []) := by decide +kernel
theorem i_X9_readsOne_222 : mv_look m_X9_readsOne.2.2.2.1 32 222 = some (.iconst 1, 0, []) := by decide +kernel
theorem i_X9_readsOne_223 : mv_look m_X9_readsOne.2.2.2.1 32 223 = some (.iconst 1, 0, []) := by decide +kernel
theorem i_X9_readsOne_224 : mv_look m_X9_readsOne.2.2.2.1 32 224 = some (.invokevirtual 260, 0, []) := by decide +kernel
theorem i_X9_readsOne_227 : mv_look m_X9_readsOne.2.2.2.1 32 227 = some (.goto 124, 351, []) := by decide +kernel
theorem i_X9_readsOne_230 : mv_look m_X9_readsOne.2.2.2.1 32 230 = some (.aload_n 0, 0, []) := by decide +kernel
theorem i_X9_readsOne_231 : mv_look m_X9_readsOne.2.2.2.1 32 231 = some (.ldc_w 278, 0, []) := by decide +kernel
theorem i_X9_readsOne_234 : mv_look m_X9_readsOne.2.2.2.1 32 234 = some (.iconst 1, 0, []) := by decide +kernel
theorem i_X9_readsOne_235 : mv_look m_X9_readsOne.2.2.2.1 32 235 = some (.iconst 1, 0, []) := by decide +kernel
theorem i_X9_readsOne_236 : mv_look m_X9_readsOne.2.2.2.1 32 236 = some (.invokevirtual 260, 0, []) := by decide +kernel
theorem i_X9_readsOne_239 : mv_look m_X9_readsOne.2.2.2.1 32 239 = some (.aload_n 0, 0, []) := by decide +kernel
theorem i_X9_readsOne_240 : mv_look m_X9_readsOne.2.2.2.1 32 240 = some (.ldc_w 272, 0, []) := by decide +kernel
theorem i_X9_readsOne_243 : mv_look m_X9_readsOne.2.2.2.1 32 243 = some (.iconst 2, 0, []) := by decide +kernel
theorem i_X9_readsOne_244 : mv_look m_X9_readsOne.2.2.2.1 32 244 = some (.iconst 2, 0, []) := by decide +kernel
theorem i_X9_readsOne_245 : mv_look m_X9_readsOne.2.2.2.1 32 245 = some (.invokevirtual 260, 0, []) := by decide +kernel
theorem i_X9_readsOne_248 : mv_look m_X9_readsOne.2.2.2.1 32 248 = some (.goto 103, 351, []) := by decide +kernel
theorem i_X9_readsOne_251 : mv_look m_X9_readsOne.2.2.2.1 32 251 = some (.aload_n 0, 0, []) := by decide +kernel
theorem i_X9_readsOne_252 : mv_look m_X9_readsOne.2.2.2.1 32 252 = some (.ldc_w 280, 0, []) := by decide +kernel
theorem i_X9_readsOne_255 : mv_look m_X9_readsOne.2.2.2.1 32 255 = some (.iconst 1, 0, []) := by decide +kernel
theorem i_X9_readsOne_256 : mv_look m_X9_readsOne.2.2.2.1 32 256 = some (.iconst 1, 0, []) := by decide +kernel
theorem i_X9_readsOne_257 : mv_look m_X9_readsOne.2.2.2.1 32 257 = some (.invokevirtual 260, 0, []) := by decide +kernel
theorem i_X9_readsOne_260 : mv_look m_X9_readsOne.2.2.2.1 32 260 = some (.aload_n 0, 0, []) := by decide +kernel
theorem i_X9_readsOne_261 : mv_look m_X9_readsOne.2.2.2.1 32 261 = some (.ldc_w 272, 0, []) := by decide +kernel
theorem i_X9_readsOne_264 : mv_look m_X9_readsOne.2.2.2.1 32 264 = some (.iconst 2, 0, []) := by decide +kernel
theorem i_X9_readsOne_265 : mv_look m_X9_readsOne.2.2.2.1 32 265 = some (.iconst 1, 0, []) := by decide +kernel
theorem i_X9_readsOne_266 : mv_look m_X9_readsOne.2.2.2.1 32 266 = some (.invokevirtual 260, 0, []) := by decide +kernel
theorem i_X9_readsOne_269 : mv_look m_X9_readsOne.2.2.2.1 32 269 = some (.goto 82, 351, []) := by decide +kernel
theorem i_X9_readsOne_272 : mv_look m_X9_readsOne.2.2.2.1 32 272 = some (.aload_n 0, 0, []) := by decide +kernel
theorem i_X9_readsOne_273 : mv_look m_X9_readsOne.2.2.2.1 32 273 = some (.ldc_w 282, 0, []) := by decide +kernel
theorem i_X9_readsOne_276 : mv_look m_X9_readsOne.2.2.2.1 32 276 = some (.iconst 1, 0, []) := by decide +kernel
theorem i_X9_readsOne_277 : mv_look m_X9_readsOne.2.2.2.1 32 277 = some (.iconst 1, 0, []) := by decide +kernel
theorem i_X9_readsOne_278 : mv_look m_X9_readsOne.2.2.2.1 32 278 = some (.invokevirtual 260, 0, []) := by decide +kernel
theorem i_X9_readsOne_281 : mv_look m_X9_readsOne.2.2.2.1 32 281 = some (.aload_n 0, 0, []) := by decide +kernel
theorem i_X9_readsOne_282 : mv_look m_X9_readsOne.2.2.2.1 32 282 = some (.ldc_w 272, 0, []) := by decide +kernel
theorem i_X9_readsOne_285 : mv_look m_X9_readsOne.2.2.2.1 32 285 = some (.iconst 2, 0, []) := by decide +kernel
theorem i_X9_readsOne_286 : mv_look m_X9_readsOne.2.2.2.1 32 286 = some (.iconst 2, 0, []) := by decide +kernel
theorem i_X9_readsOne_287 : mv_look m_X9_readsOne.2.2.2.1 32 287 = some (.invokevirtual 260, 0, []) := by decide +kernel
theorem i_X9_readsOne_290 : mv_look m_X9_readsOne.2.2.2.1 32 290 = some (.goto 61, 351, []) := by decide +kernel
theorem i_X9_readsOne_293 : mv_look m_X9_readsOne.2.2.2.1 32 293 = some (.iload_n 2, 0, []) := by decide +kernel
theorem i_X9_readsOne_294 : mv_look m_X9_readsOne.2.2.2.1 32 294 = some (.ifCond .eq 15, 309, []) := by decide +kernel
theorem i_X9_readsOne_297 : mv_look m_X9_readsOne.2.2.2.1 32 297 = some (.aload_n 0, 0, []) := by decide +kernel
theorem i_X9_readsOne_298 : mv_look m_X9_readsOne.2.2.2.1 32 298 = some (.ldc_w 284, 0, []) := by decide +kernel
theorem i_X9_readsOne_301 : mv_look m_X9_readsOne.2.2.2.1 32 301 = some (.iconst 1, 0, []) := by decide +kernel
theorem i_X9_readsOne_302 : mv_look m_X9_readsOne.2.2.2.1 32 302 = some (.iconst 2, 0, []) := by decide +kernel
theorem i_X9_readsOne_303 : mv_look m_X9_readsOne.2.2.2.1 32 303 = some (.invokevirtual 260, 0, []) := by decide +kernel
theorem i_X9_readsOne_306 : mv_look m_X9_readsOne.2.2.2.1 32 306 = some (.goto 45, 351, []) := by decide +kernel
theorem i_X9_readsOne_309 : mv_look m_X9_readsOne.2.2.2.1 32 309 = some (.aload_n 0, 0, []) := by decide +kernel
theorem i_X9_readsOne_310 : mv_look m_X9_readsOne.2.2.2.1 32 310 = some (.invokevirtual 286, 0, []) := by decide +kernel
theorem i_X9_readsOne_313 : mv_look m_X9_readsOne.2.2.2.1 32 313 = some (.goto 38, 351, []) := by decide +kernel
theorem i_X9_readsOne_316 : mv_look m_X9_readsOne.2.2.2.1 32 316 = some (.aload_n 0, 0, []) := by decide +kernel
theorem i_X9_readsOne_317 : mv_look m_X9_readsOne.2.2.2.1 32 317 = some (.ldc_w 289, 0, []) := by decide +kernel
theorem i_X9_readsOne_320 : mv_look m_X9_readsOne.2.2.2.1 32 320 = some (.iconst 1, 0, []) := by decide +kernel
theorem i_X9_readsOne_321 : mv_look m_X9_readsOne.2.2.2.1 32 321 = some (.iconst 2, 0, []) := by decide +kernel
theorem i_X9_readsOne_322 : mv_look m_X9_readsOne.2.2.2.1 32 322 = some (.invokevirtual 260, 0, []) := by decide +kernel
theorem i_X9_readsOne_325 : mv_look m_X9_readsOne.2.2.2.1 32 325 = some (.aload_n 0, 0, []) := by decide +kernel
theorem i_X9_readsOne_326 : mv_look m_X9_readsOne.2.2.2.1 32 326 = some (.ldc_w 272, 0, []) := by decide +kernel
theorem i_X9_readsOne_329 : mv_look m_X9_readsOne.2.2.2.1 32 329 = some (.iconst 2, 0, []) := by decide +kernel
theorem i_X9_readsOne_330 : mv_look m_X9_readsOne.2.2.2.1 32 330 = some (.iconst 2, 0, []) := by decide +kernel
theorem i_X9_readsOne_331 : mv_look m_X9_readsOne.2.2.2.1 32 331 = some (.invokevirtual 260, 0, []) := by decide +kernel
theorem i_X9_readsOne_334 : mv_look m_X9_readsOne.2.2.2.1 32 334 = some (.aload_n 0, 0, []) := by decide +kernel
theorem i_X9_readsOne_335 : mv_look m_X9_readsOne.2.2.2.1 32 335 = some (.ldc_w 266, 0, []) := by decide +kernel
theorem i_X9_readsOne_338 : mv_look m_X9_readsOne.2.2.2.1 32 338 = some (.iconst 3, 0, []) := by decide +kernel
theorem i_X9_readsOne_339 : mv_look m_X9_readsOne.2.2.2.1 32 339 = some (.iconst 2, 0, []) := by decide +kernel
theorem i_X9_readsOne_340 : mv_look m_X9_readsOne.2.2.2.1 32 340 = some (.invokevirtual 260, 0, []) := by decide +kernel
theorem i_X9_readsOne_343 : mv_look m_X9_readsOne.2.2.2.1 32 343 = some (.goto 8, 351, []) := by decide +kernel
theorem i_X9_readsOne_346 : mv_look m_X9_readsOne.2.2.2.1 32 346 = some (.aload_n 0, 0, []) := by decide +kernel
theorem i_X9_readsOne_347 : mv_look m_X9_readsOne.2.2.2.1 32 347 = some (.iconst 1, 0, []) := by decide +kernel
theorem i_X9_readsOne_348 : mv_look m_X9_readsOne.2.2.2.1 32 348 = some (.putfield 240, 0, []) := by decide +kernel
theorem i_X9_readsOne_351 : mv_look m_X9_readsOne.2.2.2.1 32 351 = some (.aload_n 0, 0, []) := by decide +kernel
theorem i_X9_readsOne_352 : mv_look m_X9_readsOne.2.2.2.1 32 352 = some (.dup, 0, []) := by decide +kernel
theorem i_X9_readsOne_353 : mv_look m_X9_readsOne.2.2.2.1 32 353 = some (.getfield 255, 0, []) := by decide +kernel
theorem i_X9_readsOne_356 : mv_look m_X9_readsOne.2.2.2.1 32 356 = some (.iconst 1, 0, []) := by decide +kernel
theorem i_X9_readsOne_357 : mv_look m_X9_readsOne.2.2.2.1 32 357 = some (.iadd, 0, []) := by decide +kernel
theorem i_X9_readsOne_358 : mv_look m_X9_readsOne.2.2.2.1 32 358 = some (.putfield 255, 0, []) := by decide +kernel
theorem i_X9_readsOne_361 : mv_look m_X9_readsOne.2.2.2.1 32 361 = some (.return_, 0, []) := by decide +kernel
theorem bk_X9_readsOne_0 (X : mv_X) (call : mv_G) (h : mv_H) (a0 : Nat) : mv_run X call m_X9_readsOne 0 [.ref a0, .retAddr 0, .retAddr 0, .retAddr 0] [] h =
  mv_rcv X h [.ref a0, .int (nZ 0)] 13 (mv_clI call 234 [.ref a0, .int (nZ 0)] h mv_raise fun x1 h1 =>
  if x1 = (nZ 108) then 
  (mv_rcv X h1 [.ref a0, .int (nZ 1)] 13 (mv_clI call 234 [.ref a0, .int (nZ 1)] h1 mv_raise fun x2 h2 =>
    if x2 = (nZ 101) then 
    (mv_run X call m_X9_readsOne 38 [.ref a0, .int x1, .retAddr 0, .retAddr 0] [] h2)
    else (mv_run X call m_X9_readsOne 22 [.ref a0, .int x1, .retAddr 0, .retAddr 0] [] h2)))
  else (mv_run X call m_X9_readsOne 22 [.ref a0, .int x1, .retAddr 0, .retAddr 0] [] h1)) :=
  (s_aload_n i_X9_readsOne_0 rfl).trans <| (s_iconst i_X9_readsOne_1).trans <| (s_v1 [.ref a0, .int (nZ 0)] [] i_X9_readsOne_2 rfl (fun _ => rfl)).trans <| c_rcv <| c_clI fun x1 h1 => (s_istore_n (ls2 := [.ref a0, .int x1, .retAddr 0, .retAddr 0]) i_X9_readsOne_5 (fun _ => rfl)).trans <| (s_iload_n i_X9_readsOne_6 rfl).trans <| (s_bipush i_X9_readsOne_7).trans <| (s_icmp_ne i_X9_readsOne_9).trans <| c_ite ((s_aload_n i_X9_readsOne_12 rfl).trans <| (s_iconst i_X9_readsOne_13).trans <| (s_v1 [.ref a0, .int (nZ 1)] [] i_X9_readsOne_14 rfl (fun _ => rfl)).trans <| c_rcv <| c_clI fun x2 h2 => (s_bipush i_X9_readsOne_17).trans <| (s_icmp_eq i_X9_readsOne_19).trans <| c_ite (rfl) (rfl)) (rfl)
theorem bk_X9_readsOne_22 (X : mv_X) (call : mv_G) (h : mv_H) (a0 : Nat) (v1 : Int32) : mv_run X call m_X9_readsOne 22 [.ref a0, .int v1, .retAddr 0, .retAddr 0] [] h =
  if v1 = (nZ 119) then 
  (mv_rcv X h [.ref a0, .int (nZ 1)] 13 (mv_clI call 234 [.ref a0, .int (nZ 1)] h mv_raise fun x1 h1 =>
    if x1 = (nZ 97) then 
    (mv_run X call m_X9_readsOne 38 [.ref a0, .int v1, .retAddr 0, .retAddr 0] [] h1)
    else (mv_run X call m_X9_readsOne 42 [.ref a0, .int v1, .retAddr 0, .retAddr 0] [] h1)))
  else (mv_run X call m_X9_readsOne 42 [.ref a0, .int v1, .retAddr 0, .retAddr 0] [] h) :=
  (s_iload_n i_X9_readsOne_22 rfl).trans <| (s_bipush i_X9_readsOne_23).trans <| (s_icmp_ne i_X9_readsOne_25).trans <| c_ite ((s_aload_n i_X9_readsOne_28 rfl).trans <| (s_iconst i_X9_readsOne_29).trans <| (s_v1 [.ref a0, .int (nZ 1)] [] i_X9_readsOne_30 rfl (fun _ => rfl)).trans <| c_rcv <| c_clI fun x1 h1 => (s_bipush i_X9_readsOne_33).trans <| (s_icmp_ne i_X9_readsOne_35).trans <| c_ite (rfl) (rfl)) (rfl)
theorem bk_X9_readsOne_38 (X : mv_X) (call : mv_G) (h : mv_H) (a0 : Nat) (v1 : Int32) : mv_run X call m_X9_readsOne 38 [.ref a0, .int v1, .retAddr 0, .retAddr 0] [] h =
  mv_gR X h a0 13 9 fun r1 =>
  mv_gI X h a0 13 25 fun x1 =>
  if (nZ 1) = 0 then 
  (mv_as h 1 r1 ((nZ 5) * x1) (.int v1) fun h1 =>
    if v1 = nZ 99 then (mv_rcv X h1 [.ref a0, .ref (X.2.1 36), .int (nZ 1), .int (nZ 1)] 13 (mv_clV call 236 [.ref a0, .ref (X.2.1 36), .int (nZ 1), .int (nZ 1)] h1 mv_raise fun h2 =>
      mv_run X call m_X9_readsOne 351 [.ref a0, .int v1, .int (nZ 1), .retAddr 0] [] h2)) else
    if v1 = nZ 100 then (mv_rcv X h1 [.ref a0, .ref (X.2.1 39), .int (nZ 1), .int (nZ 1)] 13 (mv_clV call 236 [.ref a0, .ref (X.2.1 39), .int (nZ 1), .int (nZ 1)] h1 mv_raise fun h3 =>
      mv_rcv X h3 [.ref a0, .ref (X.2.1 35), .int (nZ 2), .int (nZ 1)] 13 (mv_clV call 236 [.ref a0, .ref (X.2.1 35), .int (nZ 2), .int (nZ 1)] h3 mv_raise fun h4 =>
      mv_run X call m_X9_readsOne 351 [.ref a0, .int v1, .int (nZ 1), .retAddr 0] [] h4))) else
    if v1 = nZ 101 then (mv_chk (mv_ok 6 (nZ 1)) (mv_pf h1 a0 13 26 (.int (nZ 1)) fun h5 =>
      mv_run X call m_X9_readsOne 351 [.ref a0, .int v1, .int (nZ 1), .retAddr 0] [] h5)) else
    if v1 = nZ 102 then (mv_chk (mv_ok 6 (nZ 1)) (mv_pf h1 a0 13 26 (.int (nZ 1)) fun h6 =>
      mv_run X call m_X9_readsOne 351 [.ref a0, .int v1, .int (nZ 1), .retAddr 0] [] h6)) else
    if v1 = nZ 103 then (mv_chk (mv_ok 6 (nZ 1)) (mv_pf h1 a0 13 26 (.int (nZ 1)) fun h7 =>
      mv_run X call m_X9_readsOne 351 [.ref a0, .int v1, .int (nZ 1), .retAddr 0] [] h7)) else
    if v1 = nZ 104 then (mv_chk (mv_ok 6 (nZ 1)) (mv_pf h1 a0 13 26 (.int (nZ 1)) fun h8 =>
      mv_run X call m_X9_readsOne 351 [.ref a0, .int v1, .int (nZ 1), .retAddr 0] [] h8)) else
    if v1 = nZ 105 then (mv_chk (mv_ok 6 (nZ 1)) (mv_pf h1 a0 13 26 (.int (nZ 1)) fun h9 =>
      mv_run X call m_X9_readsOne 351 [.ref a0, .int v1, .int (nZ 1), .retAddr 0] [] h9)) else
    if v1 = nZ 106 then (mv_chk (mv_ok 6 (nZ 1)) (mv_pf h1 a0 13 26 (.int (nZ 1)) fun h10 =>
      mv_run X call m_X9_readsOne 351 [.ref a0, .int v1, .int (nZ 1), .retAddr 0] [] h10)) else
    if v1 = nZ 107 then (mv_chk (mv_ok 6 (nZ 1)) (mv_pf h1 a0 13 26 (.int (nZ 1)) fun h11 =>
      mv_run X call m_X9_readsOne 351 [.ref a0, .int v1, .int (nZ 1), .retAddr 0] [] h11)) else
    if v1 = nZ 108 then (if (nZ 1) = 0 then 
      (mv_rcv X h1 [.ref a0, .ref (X.2.1 38), .int (nZ 1), .int (nZ 1)] 13 (mv_clV call 236 [.ref a0, .ref (X.2.1 38), .int (nZ 1), .int (nZ 1)] h1 mv_raise fun h12 =>
        mv_rcv X h12 [.ref a0, .ref (X.2.1 35), .int (nZ 2), .int (nZ 2)] 13 (mv_clV call 236 [.ref a0, .ref (X.2.1 35), .int (nZ 2), .int (nZ 2)] h12 mv_raise fun h13 =>
        mv_run X call m_X9_readsOne 351 [.ref a0, .int v1, .int (nZ 1), .retAddr 0] [] h13)))
      else (mv_rcv X h1 [.ref a0, .ref (X.2.1 37), .int (nZ 1), .int (nZ 1)] 13 (mv_clV call 236 [.ref a0, .ref (X.2.1 37), .int (nZ 1), .int (nZ 1)] h1 mv_raise fun h14 =>
        mv_run X call m_X9_readsOne 351 [.ref a0, .int v1, .int (nZ 1), .retAddr 0] [] h14))) else
    if v1 = nZ 109 then (mv_rcv X h1 [.ref a0, .ref (X.2.1 34), .int (nZ 1), .int (nZ 1)] 13 (mv_clV call 236 [.ref a0, .ref (X.2.1 34), .int (nZ 1), .int (nZ 1)] h1 mv_raise fun h15 =>
      mv_run X call m_X9_readsOne 179 [.ref a0, .int v1, .int (nZ 1), .int (nZ 2)] [] h15)) else
    if v1 = nZ 110 then (mv_chk (mv_ok 6 (nZ 1)) (mv_pf h1 a0 13 26 (.int (nZ 1)) fun h16 =>
      mv_run X call m_X9_readsOne 351 [.ref a0, .int v1, .int (nZ 1), .retAddr 0] [] h16)) else
    if v1 = nZ 111 then (mv_chk (mv_ok 6 (nZ 1)) (mv_pf h1 a0 13 26 (.int (nZ 1)) fun h17 =>
      mv_run X call m_X9_readsOne 351 [.ref a0, .int v1, .int (nZ 1), .retAddr 0] [] h17)) else
    if v1 = nZ 112 then (mv_rcv X h1 [.ref a0, .ref (X.2.1 42), .int (nZ 1), .int (nZ 2)] 13 (mv_clV call 236 [.ref a0, .ref (X.2.1 42), .int (nZ 1), .int (nZ 2)] h1 mv_raise fun h18 =>
      mv_rcv X h18 [.ref a0, .ref (X.2.1 35), .int (nZ 2), .int (nZ 2)] 13 (mv_clV call 236 [.ref a0, .ref (X.2.1 35), .int (nZ 2), .int (nZ 2)] h18 mv_raise fun h19 =>
      mv_rcv X h19 [.ref a0, .ref (X.2.1 32), .int (nZ 3), .int (nZ 2)] 13 (mv_clV call 236 [.ref a0, .ref (X.2.1 32), .int (nZ 3), .int (nZ 2)] h19 mv_raise fun h20 =>
      mv_run X call m_X9_readsOne 351 [.ref a0, .int v1, .int (nZ 1), .retAddr 0] [] h20)))) else
    if v1 = nZ 113 then (mv_chk (mv_ok 6 (nZ 1)) (mv_pf h1 a0 13 26 (.int (nZ 1)) fun h21 =>
      mv_run X call m_X9_readsOne 351 [.ref a0, .int v1, .int (nZ 1), .retAddr 0] [] h21)) else
    if v1 = nZ 114 then (mv_rcv X h1 [.ref a0, .ref (X.2.1 40), .int (nZ 1), .int (nZ 1)] 13 (mv_clV call 236 [.ref a0, .ref (X.2.1 40), .int (nZ 1), .int (nZ 1)] h1 mv_raise fun h22 =>
      mv_rcv X h22 [.ref a0, .ref (X.2.1 35), .int (nZ 2), .int (nZ 2)] 13 (mv_clV call 236 [.ref a0, .ref (X.2.1 35), .int (nZ 2), .int (nZ 2)] h22 mv_raise fun h23 =>
      mv_run X call m_X9_readsOne 351 [.ref a0, .int v1, .int (nZ 1), .retAddr 0] [] h23))) else
    if v1 = nZ 115 then (mv_chk (mv_ok 6 (nZ 1)) (mv_pf h1 a0 13 26 (.int (nZ 1)) fun h24 =>
      mv_run X call m_X9_readsOne 351 [.ref a0, .int v1, .int (nZ 1), .retAddr 0] [] h24)) else
    if v1 = nZ 116 then (mv_chk (mv_ok 6 (nZ 1)) (mv_pf h1 a0 13 26 (.int (nZ 1)) fun h25 =>
      mv_run X call m_X9_readsOne 351 [.ref a0, .int v1, .int (nZ 1), .retAddr 0] [] h25)) else
    if v1 = nZ 117 then (mv_chk (mv_ok 6 (nZ 1)) (mv_pf h1 a0 13 26 (.int (nZ 1)) fun h26 =>
      mv_run X call m_X9_readsOne 351 [.ref a0, .int v1, .int (nZ 1), .retAddr 0] [] h26)) else
    if v1 = nZ 118 then (mv_chk (mv_ok 6 (nZ 1)) (mv_pf h1 a0 13 26 (.int (nZ 1)) fun h27 =>
      mv_run X call m_X9_readsOne 351 [.ref a0, .int v1, .int (nZ 1), .retAddr 0] [] h27)) else
    if v1 = nZ 119 then (if (nZ 1) = 0 then 
      (mv_rcv X h1 [.ref a0] 13 (mv_clV call 237 [.ref a0] h1 mv_raise fun h28 =>
        mv_run X call m_X9_readsOne 351 [.ref a0, .int v1, .int (nZ 1), .retAddr 0] [] h28))
      else (mv_rcv X h1 [.ref a0, .ref (X.2.1 41), .int (nZ 1), .int (nZ 2)] 13 (mv_clV call 236 [.ref a0, .ref (X.2.1 41), .int (nZ 1), .int (nZ 2)] h1 mv_raise fun h29 =>
        mv_run X call m_X9_readsOne 351 [.ref a0, .int v1, .int (nZ 1), .retAddr 0] [] h29))) else
     (mv_chk (mv_ok 6 (nZ 1)) (mv_pf h1 a0 13 26 (.int (nZ 1)) fun h30 =>
      mv_run X call m_X9_readsOne 351 [.ref a0, .int v1, .int (nZ 1), .retAddr 0] [] h30)))
  else (mv_as h 1 r1 ((nZ 5) * x1) (.int (v1 + (nZ 100))) fun h31 =>
    if v1 = nZ 99 then (mv_rcv X h31 [.ref a0, .ref (X.2.1 36), .int (nZ 1), .int (nZ 1)] 13 (mv_clV call 236 [.ref a0, .ref (X.2.1 36), .int (nZ 1), .int (nZ 1)] h31 mv_raise fun h32 =>
      mv_run X call m_X9_readsOne 351 [.ref a0, .int v1, .int (nZ 1), .retAddr 0] [] h32)) else
    if v1 = nZ 100 then (mv_rcv X h31 [.ref a0, .ref (X.2.1 39), .int (nZ 1), .int (nZ 1)] 13 (mv_clV call 236 [.ref a0, .ref (X.2.1 39), .int (nZ 1), .int (nZ 1)] h31 mv_raise fun h33 =>
      mv_rcv X h33 [.ref a0, .ref (X.2.1 35), .int (nZ 2), .int (nZ 1)] 13 (mv_clV call 236 [.ref a0, .ref (X.2.1 35), .int (nZ 2), .int (nZ 1)] h33 mv_raise fun h34 =>
      mv_run X call m_X9_readsOne 351 [.ref a0, .int v1, .int (nZ 1), .retAddr 0] [] h34))) else
    if v1 = nZ 101 then (mv_chk (mv_ok 6 (nZ 1)) (mv_pf h31 a0 13 26 (.int (nZ 1)) fun h35 =>
      mv_run X call m_X9_readsOne 351 [.ref a0, .int v1, .int (nZ 1), .retAddr 0] [] h35)) else
    if v1 = nZ 102 then (mv_chk (mv_ok 6 (nZ 1)) (mv_pf h31 a0 13 26 (.int (nZ 1)) fun h36 =>
      mv_run X call m_X9_readsOne 351 [.ref a0, .int v1, .int (nZ 1), .retAddr 0] [] h36)) else
    if v1 = nZ 103 then (mv_chk (mv_ok 6 (nZ 1)) (mv_pf h31 a0 13 26 (.int (nZ 1)) fun h37 =>
      mv_run X call m_X9_readsOne 351 [.ref a0, .int v1, .int (nZ 1), .retAddr 0] [] h37)) else
    if v1 = nZ 104 then (mv_chk (mv_ok 6 (nZ 1)) (mv_pf h31 a0 13 26 (.int (nZ 1)) fun h38 =>
      mv_run X call m_X9_readsOne 351 [.ref a0, .int v1, .int (nZ 1), .retAddr 0] [] h38)) else
    if v1 = nZ 105 then (mv_chk (mv_ok 6 (nZ 1)) (mv_pf h31 a0 13 26 (.int (nZ 1)) fun h39 =>
      mv_run X call m_X9_readsOne 351 [.ref a0, .int v1, .int (nZ 1), .retAddr 0] [] h39)) else
    if v1 = nZ 106 then (mv_chk (mv_ok 6 (nZ 1)) (mv_pf h31 a0 13 26 (.int (nZ 1)) fun h40 =>
      mv_run X call m_X9_readsOne 351 [.ref a0, .int v1, .int (nZ 1), .retAddr 0] [] h40)) else
    if v1 = nZ 107 then (mv_chk (mv_ok 6 (nZ 1)) (mv_pf h31 a0 13 26 (.int (nZ 1)) fun h41 =>
      mv_run X call m_X9_readsOne 351 [.ref a0, .int v1, .int (nZ 1), .retAddr 0] [] h41)) else
    if v1 = nZ 108 then (if (nZ 1) = 0 then 
      (mv_rcv X h31 [.ref a0, .ref (X.2.1 38), .int (nZ 1), .int (nZ 1)] 13 (mv_clV call 236 [.ref a0, .ref (X.2.1 38), .int (nZ 1), .int (nZ 1)] h31 mv_raise fun h42 =>
        mv_rcv X h42 [.ref a0, .ref (X.2.1 35), .int (nZ 2), .int (nZ 2)] 13 (mv_clV call 236 [.ref a0, .ref (X.2.1 35), .int (nZ 2), .int (nZ 2)] h42 mv_raise fun h43 =>
        mv_run X call m_X9_readsOne 351 [.ref a0, .int v1, .int (nZ 1), .retAddr 0] [] h43)))
      else (mv_rcv X h31 [.ref a0, .ref (X.2.1 37), .int (nZ 1), .int (nZ 1)] 13 (mv_clV call 236 [.ref a0, .ref (X.2.1 37), .int (nZ 1), .int (nZ 1)] h31 mv_raise fun h44 =>
        mv_run X call m_X9_readsOne 351 [.ref a0, .int v1, .int (nZ 1), .retAddr 0] [] h44))) else
    if v1 = nZ 109 then (mv_rcv X h31 [.ref a0, .ref (X.2.1 34), .int (nZ 1), .int (nZ 1)] 13 (mv_clV call 236 [.ref a0, .ref (X.2.1 34), .int (nZ 1), .int (nZ 1)] h31 mv_raise fun h45 =>
      mv_run X call m_X9_readsOne 179 [.ref a0, .int v1, .int (nZ 1), .int (nZ 2)] [] h45)) else
    if v1 = nZ 110 then (mv_chk (mv_ok 6 (nZ 1)) (mv_pf h31 a0 13 26 (.int (nZ 1)) fun h46 =>
      mv_run X call m_X9_readsOne 351 [.ref a0, .int v1, .int (nZ 1), .retAddr 0] [] h46)) else
    if v1 = nZ 111 then (mv_chk (mv_ok 6 (nZ 1)) (mv_pf h31 a0 13 26 (.int (nZ 1)) fun h47 =>
      mv_run X call m_X9_readsOne 351 [.ref a0, .int v1, .int (nZ 1), .retAddr 0] [] h47)) else
    if v1 = nZ 112 then (mv_rcv X h31 [.ref a0, .ref (X.2.1 42), .int (nZ 1), .int (nZ 2)] 13 (mv_clV call 236 [.ref a0, .ref (X.2.1 42), .int (nZ 1), .int (nZ 2)] h31 mv_raise fun h48 =>
      mv_rcv X h48 [.ref a0, .ref (X.2.1 35), .int (nZ 2), .int (nZ 2)] 13 (mv_clV call 236 [.ref a0, .ref (X.2.1 35), .int (nZ 2), .int (nZ 2)] h48 mv_raise fun h49 =>
      mv_rcv X h49 [.ref a0, .ref (X.2.1 32), .int (nZ 3), .int (nZ 2)] 13 (mv_clV call 236 [.ref a0, .ref (X.2.1 32), .int (nZ 3), .int (nZ 2)] h49 mv_raise fun h50 =>
      mv_run X call m_X9_readsOne 351 [.ref a0, .int v1, .int (nZ 1), .retAddr 0] [] h50)))) else
    if v1 = nZ 113 then (mv_chk (mv_ok 6 (nZ 1)) (mv_pf h31 a0 13 26 (.int (nZ 1)) fun h51 =>
      mv_run X call m_X9_readsOne 351 [.ref a0, .int v1, .int (nZ 1), .retAddr 0] [] h51)) else
    if v1 = nZ 114 then (mv_rcv X h31 [.ref a0, .ref (X.2.1 40), .int (nZ 1), .int (nZ 1)] 13 (mv_clV call 236 [.ref a0, .ref (X.2.1 40), .int (nZ 1), .int (nZ 1)] h31 mv_raise fun h52 =>
      mv_rcv X h52 [.ref a0, .ref (X.2.1 35), .int (nZ 2), .int (nZ 2)] 13 (mv_clV call 236 [.ref a0, .ref (X.2.1 35), .int (nZ 2), .int (nZ 2)] h52 mv_raise fun h53 =>
      mv_run X call m_X9_readsOne 351 [.ref a0, .int v1, .int (nZ 1), .retAddr 0] [] h53))) else
    if v1 = nZ 115 then (mv_chk (mv_ok 6 (nZ 1)) (mv_pf h31 a0 13 26 (.int (nZ 1)) fun h54 =>
      mv_run X call m_X9_readsOne 351 [.ref a0, .int v1, .int (nZ 1), .retAddr 0] [] h54)) else
    if v1 = nZ 116 then (mv_chk (mv_ok 6 (nZ 1)) (mv_pf h31 a0 13 26 (.int (nZ 1)) fun h55 =>
      mv_run X call m_X9_readsOne 351 [.ref a0, .int v1, .int (nZ 1), .retAddr 0] [] h55)) else
    if v1 = nZ 117 then (mv_chk (mv_ok 6 (nZ 1)) (mv_pf h31 a0 13 26 (.int (nZ 1)) fun h56 =>
      mv_run X call m_X9_readsOne 351 [.ref a0, .int v1, .int (nZ 1), .retAddr 0] [] h56)) else
    if v1 = nZ 118 then (mv_chk (mv_ok 6 (nZ 1)) (mv_pf h31 a0 13 26 (.int (nZ 1)) fun h57 =>
      mv_run X call m_X9_readsOne 351 [.ref a0, .int v1, .int (nZ 1), .retAddr 0] [] h57)) else
    if v1 = nZ 119 then (if (nZ 1) = 0 then 
      (mv_rcv X h31 [.ref a0] 13 (mv_clV call 237 [.ref a0] h31 mv_raise fun h58 =>
        mv_run X call m_X9_readsOne 351 [.ref a0, .int v1, .int (nZ 1), .retAddr 0] [] h58))
      else (mv_rcv X h31 [.ref a0, .ref (X.2.1 41), .int (nZ 1), .int (nZ 2)] 13 (mv_clV call 236 [.ref a0, .ref (X.2.1 41), .int (nZ 1), .int (nZ 2)] h31 mv_raise fun h59 =>
        mv_run X call m_X9_readsOne 351 [.ref a0, .int v1, .int (nZ 1), .retAddr 0] [] h59))) else
     (mv_chk (mv_ok 6 (nZ 1)) (mv_pf h31 a0 13 26 (.int (nZ 1)) fun h60 =>
      mv_run X call m_X9_readsOne 351 [.ref a0, .int v1, .int (nZ 1), .retAddr 0] [] h60))) :=
  (s_iconst i_X9_readsOne_38).trans <| (s_goto i_X9_readsOne_39).trans <| (s_istore_n (ls2 := [.ref a0, .int v1, .int (nZ 1), .retAddr 0]) i_X9_readsOne_43 (fun _ => rfl)).trans <| (s_aload_n i_X9_readsOne_44 rfl).trans <| (s_gf2 i_X9_readsOne_45 rfl).trans <| c_gR fun r1 => (s_iconst i_X9_readsOne_48).trans <| (s_aload_n i_X9_readsOne_49 rfl).trans <| (s_gf1 i_X9_readsOne_50 rfl).trans <| c_gI fun x1 => (s_imul i_X9_readsOne_53).trans <| (s_iload_n i_X9_readsOne_54 rfl).trans <| (s_if_eq i_X9_readsOne_55).trans <| c_ite ((s_iload_n i_X9_readsOne_65 rfl).trans <| (s_iastore i_X9_readsOne_66).trans <| c_as fun h1 => (s_iload_n i_X9_readsOne_67 rfl).trans <| (s_tsw i_X9_readsOne_68).trans <| c_swc ((s_aload_n i_X9_readsOne_202 rfl).trans <| (s_ldcS_w i_X9_readsOne_203 rfl).trans <| (s_iconst i_X9_readsOne_206).trans <| (s_iconst i_X9_readsOne_207).trans <| (s_v0 [.ref a0, .ref (X.2.1 36), .int (nZ 1), .int (nZ 1)] [] i_X9_readsOne_208 rfl (fun _ => rfl)).trans <| c_rcv <| c_clV fun h2 => (s_goto i_X9_readsOne_211).trans <| rfl) <| c_swc ((s_aload_n i_X9_readsOne_251 rfl).trans <| (s_ldcS_w i_X9_readsOne_252 rfl).trans <| (s_iconst i_X9_readsOne_255).trans <| (s_iconst i_X9_readsOne_256).trans <| (s_v0 [.ref a0, .ref (X.2.1 39), .int (nZ 1), .int (nZ 1)] [] i_X9_readsOne_257 rfl (fun _ => rfl)).trans <| c_rcv <| c_clV fun h3 => (s_aload_n i_X9_readsOne_260 rfl).trans <| (s_ldcS_w i_X9_readsOne_261 rfl).trans <| (s_iconst i_X9_readsOne_264).trans <| (s_iconst i_X9_readsOne_265).trans <| (s_v0 [.ref a0, .ref (X.2.1 35), .int (nZ 2), .int (nZ 1)] [] i_X9_readsOne_266 rfl (fun _ => rfl)).trans <| c_rcv <| c_clV fun h4 => (s_goto i_X9_readsOne_269).trans <| rfl) <| c_swc ((s_aload_n i_X9_readsOne_346 rfl).trans <| (s_iconst i_X9_readsOne_347).trans <| (s_pf6 i_X9_readsOne_348 rfl).trans <| c_chk <| c_pf fun h5 => rfl) <| c_swc ((s_aload_n i_X9_readsOne_346 rfl).trans <| (s_iconst i_X9_readsOne_347).trans <| (s_pf6 i_X9_readsOne_348 rfl).trans <| c_chk <| c_pf fun h6 => rfl) <| c_swc ((s_aload_n i_X9_readsOne_346 rfl).trans <| (s_iconst i_X9_readsOne_347).trans <| (s_pf6 i_X9_readsOne_348 rfl).trans <| c_chk <| c_pf fun h7 => rfl) <| c_swc ((s_aload_n i_X9_readsOne_346 rfl).trans <| (s_iconst i_X9_readsOne_347).trans <| (s_pf6 i_X9_readsOne_348 rfl).trans <| c_chk <| c_pf fun h8 => rfl) <| c_swc ((s_aload_n i_X9_readsOne_346 rfl).trans <| (s_iconst i_X9_readsOne_347).trans <| (s_pf6 i_X9_readsOne_348 rfl).trans <| c_chk <| c_pf fun h9 => rfl) <| c_swc ((s_aload_n i_X9_readsOne_346 rfl).trans <| (s_iconst i_X9_readsOne_347).trans <| (s_pf6 i_X9_readsOne_348 rfl).trans <| c_chk <| c_pf fun h10 => rfl) <| c_swc ((s_aload_n i_X9_readsOne_346 rfl).trans <| (s_iconst i_X9_readsOne_347).trans <| (s_pf6 i_X9_readsOne_348 rfl).trans <| c_chk <| c_pf fun h11 => rfl) <| c_swc ((s_iload_n i_X9_readsOne_214 rfl).trans <| (s_if_eq i_X9_readsOne_215).trans <| c_ite ((s_aload_n i_X9_readsOne_230 rfl).trans <| (s_ldcS_w i_X9_readsOne_231 rfl).trans <| (s_iconst i_X9_readsOne_234).trans <| (s_iconst i_X9_readsOne_235).trans <| (s_v0 [.ref a0, .ref (X.2.1 38), .int (nZ 1), .int (nZ 1)] [] i_X9_readsOne_236 rfl (fun _ => rfl)).trans <| c_rcv <| c_clV fun h12 => (s_aload_n i_X9_readsOne_239 rfl).trans <| (s_ldcS_w i_X9_readsOne_240 rfl).trans <| (s_iconst i_X9_readsOne_243).trans <| (s_iconst i_X9_readsOne_244).trans <| (s_v0 [.ref a0, .ref (X.2.1 35), .int (nZ 2), .int (nZ 2)] [] i_X9_readsOne_245 rfl (fun _ => rfl)).trans <| c_rcv <| c_clV fun h13 => (s_goto i_X9_readsOne_248).trans <| rfl) ((s_aload_n i_X9_readsOne_218 rfl).trans <| (s_ldcS_w i_X9_readsOne_219 rfl).trans <| (s_iconst i_X9_readsOne_222).trans <| (s_iconst i_X9_readsOne_223).trans <| (s_v0 [.ref a0, .ref (X.2.1 37), .int (nZ 1), .int (nZ 1)] [] i_X9_readsOne_224 rfl (fun _ => rfl)).trans <| c_rcv <| c_clV fun h14 => (s_goto i_X9_readsOne_227).trans <| rfl)) <| c_swc ((s_aload_n i_X9_readsOne_168 rfl).trans <| (s_ldcS_w i_X9_readsOne_169 rfl).trans <| (s_iconst i_X9_readsOne_172).trans <| (s_iconst i_X9_readsOne_173).trans <| (s_v0 [.ref a0, .ref (X.2.1 34), .int (nZ 1), .int (nZ 1)] [] i_X9_readsOne_174 rfl (fun _ => rfl)).trans <| c_rcv <| c_clV fun h15 => (s_iconst i_X9_readsOne_177).trans <| (s_istore_n (ls2 := [.ref a0, .int v1, .int (nZ 1), .int (nZ 2)]) i_X9_readsOne_178 (fun _ => rfl)).trans <| rfl) <| c_swc ((s_aload_n i_X9_readsOne_346 rfl).trans <| (s_iconst i_X9_readsOne_347).trans <| (s_pf6 i_X9_readsOne_348 rfl).trans <| c_chk <| c_pf fun h16 => rfl) <| c_swc ((s_aload_n i_X9_readsOne_346 rfl).trans <| (s_iconst i_X9_readsOne_347).trans <| (s_pf6 i_X9_readsOne_348 rfl).trans <| c_chk <| c_pf fun h17 => rfl) <| c_swc ((s_aload_n i_X9_readsOne_316 rfl).trans <| (s_ldcS_w i_X9_readsOne_317 rfl).trans <| (s_iconst i_X9_readsOne_320).trans <| (s_iconst i_X9_readsOne_321).trans <| (s_v0 [.ref a0, .ref (X.2.1 42), .int (nZ 1), .int (nZ 2)] [] i_X9_readsOne_322 rfl (fun _ => rfl)).trans <| c_rcv <| c_clV fun h18 => (s_aload_n i_X9_readsOne_325 rfl).trans <| (s_ldcS_w i_X9_readsOne_326 rfl).trans <| (s_iconst i_X9_readsOne_329).trans <| (s_iconst i_X9_readsOne_330).trans <| (s_v0 [.ref a0, .ref (X.2.1 35), .int (nZ 2), .int (nZ 2)] [] i_X9_readsOne_331 rfl (fun _ => rfl)).trans <| c_rcv <| c_clV fun h19 => (s_aload_n i_X9_readsOne_334 rfl).trans <| (s_ldcS_w i_X9_readsOne_335 rfl).trans <| (s_iconst i_X9_readsOne_338).trans <| (s_iconst i_X9_readsOne_339).trans <| (s_v0 [.ref a0, .ref (X.2.1 32), .int (nZ 3), .int (nZ 2)] [] i_X9_readsOne_340 rfl (fun _ => rfl)).trans <| c_rcv <| c_clV fun h20 => (s_goto i_X9_readsOne_343).trans <| rfl) <| c_swc ((s_aload_n i_X9_readsOne_346 rfl).trans <| (s_iconst i_X9_readsOne_347).trans <| (s_pf6 i_X9_readsOne_348 rfl).trans <| c_chk <| c_pf fun h21 => rfl) <| c_swc ((s_aload_n i_X9_readsOne_272 rfl).trans <| (s_ldcS_w i_X9_readsOne_273 rfl).trans <| (s_iconst i_X9_readsOne_276).trans <| (s_iconst i_X9_readsOne_277).trans <| (s_v0 [.ref a0, .ref (X.2.1 40), .int (nZ 1), .int (nZ 1)] [] i_X9_readsOne_278 rfl (fun _ => rfl)).trans <| c_rcv <| c_clV fun h22 => (s_aload_n i_X9_readsOne_281 rfl).trans <| (s_ldcS_w i_X9_readsOne_282 rfl).trans <| (s_iconst i_X9_readsOne_285).trans <| (s_iconst i_X9_readsOne_286).trans <| (s_v0 [.ref a0, .ref (X.2.1 35), .int (nZ 2), .int (nZ 2)] [] i_X9_readsOne_287 rfl (fun _ => rfl)).trans <| c_rcv <| c_clV fun h23 => (s_goto i_X9_readsOne_290).trans <| rfl) <| c_swc ((s_aload_n i_X9_readsOne_346 rfl).trans <| (s_iconst i_X9_readsOne_347).trans <| (s_pf6 i_X9_readsOne_348 rfl).trans <| c_chk <| c_pf fun h24 => rfl) <| c_swc ((s_aload_n i_X9_readsOne_346 rfl).trans <| (s_iconst i_X9_readsOne_347).trans <| (s_pf6 i_X9_readsOne_348 rfl).trans <| c_chk <| c_pf fun h25 => rfl) <| c_swc ((s_aload_n i_X9_readsOne_346 rfl).trans <| (s_iconst i_X9_readsOne_347).trans <| (s_pf6 i_X9_readsOne_348 rfl).trans <| c_chk <| c_pf fun h26 => rfl) <| c_swc ((s_aload_n i_X9_readsOne_346 rfl).trans <| (s_iconst i_X9_readsOne_347).trans <| (s_pf6 i_X9_readsOne_348 rfl).trans <| c_chk <| c_pf fun h27 => rfl) <| c_swc ((s_iload_n i_X9_readsOne_293 rfl).trans <| (s_if_eq i_X9_readsOne_294).trans <| c_ite ((s_aload_n i_X9_readsOne_309 rfl).trans <| (s_v0 [.ref a0] [] i_X9_readsOne_310 rfl (fun _ => rfl)).trans <| c_rcv <| c_clV fun h28 => (s_goto i_X9_readsOne_313).trans <| rfl) ((s_aload_n i_X9_readsOne_297 rfl).trans <| (s_ldcS_w i_X9_readsOne_298 rfl).trans <| (s_iconst i_X9_readsOne_301).trans <| (s_iconst i_X9_readsOne_302).trans <| (s_v0 [.ref a0, .ref (X.2.1 41), .int (nZ 1), .int (nZ 2)] [] i_X9_readsOne_303 rfl (fun _ => rfl)).trans <| c_rcv <| c_clV fun h29 => (s_goto i_X9_readsOne_306).trans <| rfl)) <| c_swn ((s_aload_n i_X9_readsOne_346 rfl).trans <| (s_iconst i_X9_readsOne_347).trans <| (s_pf6 i_X9_readsOne_348 rfl).trans <| c_chk <| c_pf fun h30 => rfl)) ((s_iload_n i_X9_readsOne_58 rfl).trans <| (s_bipush i_X9_readsOne_59).trans <| (s_iadd i_X9_readsOne_61).trans <| (s_goto i_X9_readsOne_62).trans <| (s_iastore i_X9_readsOne_66).trans <| c_as fun h31 => (s_iload_n i_X9_readsOne_67 rfl).trans <| (s_tsw i_X9_readsOne_68).trans <| c_swc ((s_aload_n i_X9_readsOne_202 rfl).trans <| (s_ldcS_w i_X9_readsOne_203 rfl).trans <| (s_iconst i_X9_readsOne_206).trans <| (s_iconst i_X9_readsOne_207).trans <| (s_v0 [.ref a0, .ref (X.2.1 36), .int (nZ 1), .int (nZ 1)] [] i_X9_readsOne_208 rfl (fun _ => rfl)).trans <| c_rcv <| c_clV fun h32 => (s_goto i_X9_readsOne_211).trans <| rfl) <| c_swc ((s_aload_n i_X9_readsOne_251 rfl).trans <| (s_ldcS_w i_X9_readsOne_252 rfl).trans <| (s_iconst i_X9_readsOne_255).trans <| (s_iconst i_X9_readsOne_256).trans <| (s_v0 [.ref a0, .ref (X.2.1 39), .int (nZ 1), .int (nZ 1)] [] i_X9_readsOne_257 rfl (fun _ => rfl)).trans <| c_rcv <| c_clV fun h33 => (s_aload_n i_X9_readsOne_260 rfl).trans <| (s_ldcS_w i_X9_readsOne_261 rfl).trans <| (s_iconst i_X9_readsOne_264).trans <| (s_iconst i_X9_readsOne_265).trans <| (s_v0 [.ref a0, .ref (X.2.1 35), .int (nZ 2), .int (nZ 1)] [] i_X9_readsOne_266 rfl (fun _ => rfl)).trans <| c_rcv <| c_clV fun h34 => (s_goto i_X9_readsOne_269).trans <| rfl) <| c_swc ((s_aload_n i_X9_readsOne_346 rfl).trans <| (s_iconst i_X9_readsOne_347).trans <| (s_pf6 i_X9_readsOne_348 rfl).trans <| c_chk <| c_pf fun h35 => rfl) <| c_swc ((s_aload_n i_X9_readsOne_346 rfl).trans <| (s_iconst i_X9_readsOne_347).trans <| (s_pf6 i_X9_readsOne_348 rfl).trans <| c_chk <| c_pf fun h36 => rfl) <| c_swc ((s_aload_n i_X9_readsOne_346 rfl).trans <| (s_iconst i_X9_readsOne_347).trans <| (s_pf6 i_X9_readsOne_348 rfl).trans <| c_chk <| c_pf fun h37 => rfl) <| c_swc ((s_aload_n i_X9_readsOne_346 rfl).trans <| (s_iconst i_X9_readsOne_347).trans <| (s_pf6 i_X9_readsOne_348 rfl).trans <| c_chk <| c_pf fun h38 => rfl) <| c_swc ((s_aload_n i_X9_readsOne_346 rfl).trans <| (s_iconst i_X9_readsOne_347).trans <| (s_pf6 i_X9_readsOne_348 rfl).trans <| c_chk <| c_pf fun h39 => rfl) <| c_swc ((s_aload_n i_X9_readsOne_346 rfl).trans <| (s_iconst i_X9_readsOne_347).trans <| (s_pf6 i_X9_readsOne_348 rfl).trans <| c_chk <| c_pf fun h40 => rfl) <| c_swc ((s_aload_n i_X9_readsOne_346 rfl).trans <| (s_iconst i_X9_readsOne_347).trans <| (s_pf6 i_X9_readsOne_348 rfl).trans <| c_chk <| c_pf fun h41 => rfl) <| c_swc ((s_iload_n i_X9_readsOne_214 rfl).trans <| (s_if_eq i_X9_readsOne_215).trans <| c_ite ((s_aload_n i_X9_readsOne_230 rfl).trans <| (s_ldcS_w i_X9_readsOne_231 rfl).trans <| (s_iconst i_X9_readsOne_234).trans <| (s_iconst i_X9_readsOne_235).trans <| (s_v0 [.ref a0, .ref (X.2.1 38), .int (nZ 1), .int (nZ 1)] [] i_X9_readsOne_236 rfl (fun _ => rfl)).trans <| c_rcv <| c_clV fun h42 => (s_aload_n i_X9_readsOne_239 rfl).trans <| (s_ldcS_w i_X9_readsOne_240 rfl).trans <| (s_iconst i_X9_readsOne_243).trans <| (s_iconst i_X9_readsOne_244).trans <| (s_v0 [.ref a0, .ref (X.2.1 35), .int (nZ 2), .int (nZ 2)] [] i_X9_readsOne_245 rfl (fun _ => rfl)).trans <| c_rcv <| c_clV fun h43 => (s_goto i_X9_readsOne_248).trans <| rfl) ((s_aload_n i_X9_readsOne_218 rfl).trans <| (s_ldcS_w i_X9_readsOne_219 rfl).trans <| (s_iconst i_X9_readsOne_222).trans <| (s_iconst i_X9_readsOne_223).trans <| (s_v0 [.ref a0, .ref (X.2.1 37), .int (nZ 1), .int (nZ 1)] [] i_X9_readsOne_224 rfl (fun _ => rfl)).trans <| c_rcv <| c_clV fun h44 => (s_goto i_X9_readsOne_227).trans <| rfl)) <| c_swc ((s_aload_n i_X9_readsOne_168 rfl).trans <| (s_ldcS_w i_X9_readsOne_169 rfl).trans <| (s_iconst i_X9_readsOne_172).trans <| (s_iconst i_X9_readsOne_173).trans <| (s_v0 [.ref a0, .ref (X.2.1 34), .int (nZ 1), .int (nZ 1)] [] i_X9_readsOne_174 rfl (fun _ => rfl)).trans <| c_rcv <| c_clV fun h45 => (s_iconst i_X9_readsOne_177).trans <| (s_istore_n (ls2 := [.ref a0, .int v1, .int (nZ 1), .int (nZ 2)]) i_X9_readsOne_178 (fun _ => rfl)).trans <| rfl) <| c_swc ((s_aload_n i_X9_readsOne_346 rfl).trans <| (s_iconst i_X9_readsOne_347).trans <| (s_pf6 i_X9_readsOne_348 rfl).trans <| c_chk <| c_pf fun h46 => rfl) <| c_swc ((s_aload_n i_X9_readsOne_346 rfl).trans <| (s_iconst i_X9_readsOne_347).trans <| (s_pf6 i_X9_readsOne_348 rfl).trans <| c_chk <| c_pf fun h47 => rfl) <| c_swc ((s_aload_n i_X9_readsOne_316 rfl).trans <| (s_ldcS_w i_X9_readsOne_317 rfl).trans <| (s_iconst i_X9_readsOne_320).trans <| (s_iconst i_X9_readsOne_321).trans <| (s_v0 [.ref a0, .ref (X.2.1 42), .int (nZ 1), .int (nZ 2)] [] i_X9_readsOne_322 rfl (fun _ => rfl)).trans <| c_rcv <| c_clV fun h48 => (s_aload_n i_X9_readsOne_325 rfl).trans <| (s_ldcS_w i_X9_readsOne_326 rfl).trans <| (s_iconst i_X9_readsOne_329).trans <| (s_iconst i_X9_readsOne_330).trans <| (s_v0 [.ref a0, .ref (X.2.1 35), .int (nZ 2), .int (nZ 2)] [] i_X9_readsOne_331 rfl (fun _ => rfl)).trans <| c_rcv <| c_clV fun h49 => (s_aload_n i_X9_readsOne_334 rfl).trans <| (s_ldcS_w i_X9_readsOne_335 rfl).trans <| (s_iconst i_X9_readsOne_338).trans <| (s_iconst i_X9_readsOne_339).trans <| (s_v0 [.ref a0, .ref (X.2.1 32), .int (nZ 3), .int (nZ 2)] [] i_X9_readsOne_340 rfl (fun _ => rfl)).trans <| c_rcv <| c_clV fun h50 => (s_goto i_X9_readsOne_343).trans <| rfl) <| c_swc ((s_aload_n i_X9_readsOne_346 rfl).trans <| (s_iconst i_X9_readsOne_347).trans <| (s_pf6 i_X9_readsOne_348 rfl).trans <| c_chk <| c_pf fun h51 => rfl) <| c_swc ((s_aload_n i_X9_readsOne_272 rfl).trans <| (s_ldcS_w i_X9_readsOne_273 rfl).trans <| (s_iconst i_X9_readsOne_276).trans <| (s_iconst i_X9_readsOne_277).trans <| (s_v0 [.ref a0, .ref (X.2.1 40), .int (nZ 1), .int (nZ 1)] [] i_X9_readsOne_278 rfl (fun _ => rfl)).trans <| c_rcv <| c_clV fun h52 => (s_aload_n i_X9_readsOne_281 rfl).trans <| (s_ldcS_w i_X9_readsOne_282 rfl).trans <| (s_iconst i_X9_readsOne_285).trans <| (s_iconst i_X9_readsOne_286).trans <| (s_v0 [.ref a0, .ref (X.2.1 35), .int (nZ 2), .int (nZ 2)] [] i_X9_readsOne_287 rfl (fun _ => rfl)).trans <| c_rcv <| c_clV fun h53 => (s_goto i_X9_readsOne_290).trans <| rfl) <| c_swc ((s_aload_n i_X9_readsOne_346 rfl).trans <| (s_iconst i_X9_readsOne_347).trans <| (s_pf6 i_X9_readsOne_348 rfl).trans <| c_chk <| c_pf fun h54 => rfl) <| c_swc ((s_aload_n i_X9_readsOne_346 rfl).trans <| (s_iconst i_X9_readsOne_347).trans <| (s_pf6 i_X9_readsOne_348 rfl).trans <| c_chk <| c_pf fun h55 => rfl) <| c_swc ((s_aload_n i_X9_readsOne_346 rfl).trans <| (s_iconst i_X9_readsOne_347).trans <| (s_pf6 i_X9_readsOne_348 rfl).trans <| c_chk <| c_pf fun h56 => rfl) <| c_swc ((s_aload_n i_X9_readsOne_346 rfl).trans <| (s_iconst i_X9_readsOne_347).trans <| (s_pf6 i_X9_readsOne_348 rfl).trans <| c_chk <| c_pf fun h57 => rfl) <| c_swc ((s_iload_n i_X9_readsOne_293 rfl).trans <| (s_if_eq i_X9_readsOne_294).trans <| c_ite ((s_aload_n i_X9_readsOne_309 rfl).trans <| (s_v0 [.ref a0] [] i_X9_readsOne_310 rfl (fun _ => rfl)).trans <| c_rcv <| c_clV fun h58 => (s_goto i_X9_readsOne_313).trans <| rfl) ((s_aload_n i_X9_readsOne_297 rfl).trans <| (s_ldcS_w i_X9_readsOne_298 rfl).trans <| (s_iconst i_X9_readsOne_301).trans <| (s_iconst i_X9_readsOne_302).trans <| (s_v0 [.ref a0, .ref (X.2.1 41), .int (nZ 1), .int (nZ 2)] [] i_X9_readsOne_303 rfl (fun _ => rfl)).trans <| c_rcv <| c_clV fun h59 => (s_goto i_X9_readsOne_306).trans <| rfl)) <| c_swn ((s_aload_n i_X9_readsOne_346 rfl).trans <| (s_iconst i_X9_readsOne_347).trans <| (s_pf6 i_X9_readsOne_348 rfl).trans <| c_chk <| c_pf fun h60 => rfl))
theorem bk_X9_readsOne_42 (X : mv_X) (call : mv_G) (h : mv_H) (a0 : Nat) (v1 : Int32) : mv_run X call m_X9_readsOne 42 [.ref a0, .int v1, .retAddr 0, .retAddr 0] [] h =
  mv_gR X h a0 13 9 fun r1 =>
  mv_gI X h a0 13 25 fun x1 =>
  if (nZ 0) = 0 then 
  (mv_as h 1 r1 ((nZ 5) * x1) (.int v1) fun h1 =>
    if v1 = nZ 99 then (mv_rcv X h1 [.ref a0, .ref (X.2.1 36), .int (nZ 1), .int (nZ 1)] 13 (mv_clV call 236 [.ref a0, .ref (X.2.1 36), .int (nZ 1), .int (nZ 1)] h1 mv_raise fun h2 =>
      mv_run X call m_X9_readsOne 351 [.ref a0, .int v1, .int (nZ 0), .retAddr 0] [] h2)) else
    if v1 = nZ 100 then (mv_rcv X h1 [.ref a0, .ref (X.2.1 39), .int (nZ 1), .int (nZ 1)] 13 (mv_clV call 236 [.ref a0, .ref (X.2.1 39), .int (nZ 1), .int (nZ 1)] h1 mv_raise fun h3 =>
      mv_rcv X h3 [.ref a0, .ref (X.2.1 35), .int (nZ 2), .int (nZ 1)] 13 (mv_clV call 236 [.ref a0, .ref (X.2.1 35), .int (nZ 2), .int (nZ 1)] h3 mv_raise fun h4 =>
      mv_run X call m_X9_readsOne 351 [.ref a0, .int v1, .int (nZ 0), .retAddr 0] [] h4))) else
    if v1 = nZ 101 then (mv_chk (mv_ok 6 (nZ 1)) (mv_pf h1 a0 13 26 (.int (nZ 1)) fun h5 =>
      mv_run X call m_X9_readsOne 351 [.ref a0, .int v1, .int (nZ 0), .retAddr 0] [] h5)) else
    if v1 = nZ 102 then (mv_chk (mv_ok 6 (nZ 1)) (mv_pf h1 a0 13 26 (.int (nZ 1)) fun h6 =>
      mv_run X call m_X9_readsOne 351 [.ref a0, .int v1, .int (nZ 0), .retAddr 0] [] h6)) else
    if v1 = nZ 103 then (mv_chk (mv_ok 6 (nZ 1)) (mv_pf h1 a0 13 26 (.int (nZ 1)) fun h7 =>
      mv_run X call m_X9_readsOne 351 [.ref a0, .int v1, .int (nZ 0), .retAddr 0] [] h7)) else
    if v1 = nZ 104 then (mv_chk (mv_ok 6 (nZ 1)) (mv_pf h1 a0 13 26 (.int (nZ 1)) fun h8 =>
      mv_run X call m_X9_readsOne 351 [.ref a0, .int v1, .int (nZ 0), .retAddr 0] [] h8)) else
    if v1 = nZ 105 then (mv_chk (mv_ok 6 (nZ 1)) (mv_pf h1 a0 13 26 (.int (nZ 1)) fun h9 =>
      mv_run X call m_X9_readsOne 351 [.ref a0, .int v1, .int (nZ 0), .retAddr 0] [] h9)) else
    if v1 = nZ 106 then (mv_chk (mv_ok 6 (nZ 1)) (mv_pf h1 a0 13 26 (.int (nZ 1)) fun h10 =>
      mv_run X call m_X9_readsOne 351 [.ref a0, .int v1, .int (nZ 0), .retAddr 0] [] h10)) else
    if v1 = nZ 107 then (mv_chk (mv_ok 6 (nZ 1)) (mv_pf h1 a0 13 26 (.int (nZ 1)) fun h11 =>
      mv_run X call m_X9_readsOne 351 [.ref a0, .int v1, .int (nZ 0), .retAddr 0] [] h11)) else
    if v1 = nZ 108 then (if (nZ 0) = 0 then 
      (mv_rcv X h1 [.ref a0, .ref (X.2.1 38), .int (nZ 1), .int (nZ 1)] 13 (mv_clV call 236 [.ref a0, .ref (X.2.1 38), .int (nZ 1), .int (nZ 1)] h1 mv_raise fun h12 =>
        mv_rcv X h12 [.ref a0, .ref (X.2.1 35), .int (nZ 2), .int (nZ 2)] 13 (mv_clV call 236 [.ref a0, .ref (X.2.1 35), .int (nZ 2), .int (nZ 2)] h12 mv_raise fun h13 =>
        mv_run X call m_X9_readsOne 351 [.ref a0, .int v1, .int (nZ 0), .retAddr 0] [] h13)))
      else (mv_rcv X h1 [.ref a0, .ref (X.2.1 37), .int (nZ 1), .int (nZ 1)] 13 (mv_clV call 236 [.ref a0, .ref (X.2.1 37), .int (nZ 1), .int (nZ 1)] h1 mv_raise fun h14 =>
        mv_run X call m_X9_readsOne 351 [.ref a0, .int v1, .int (nZ 0), .retAddr 0] [] h14))) else
    if v1 = nZ 109 then (mv_rcv X h1 [.ref a0, .ref (X.2.1 34), .int (nZ 1), .int (nZ 1)] 13 (mv_clV call 236 [.ref a0, .ref (X.2.1 34), .int (nZ 1), .int (nZ 1)] h1 mv_raise fun h15 =>
      mv_run X call m_X9_readsOne 179 [.ref a0, .int v1, .int (nZ 0), .int (nZ 2)] [] h15)) else
    if v1 = nZ 110 then (mv_chk (mv_ok 6 (nZ 1)) (mv_pf h1 a0 13 26 (.int (nZ 1)) fun h16 =>
      mv_run X call m_X9_readsOne 351 [.ref a0, .int v1, .int (nZ 0), .retAddr 0] [] h16)) else
    if v1 = nZ 111 then (mv_chk (mv_ok 6 (nZ 1)) (mv_pf h1 a0 13 26 (.int (nZ 1)) fun h17 =>
      mv_run X call m_X9_readsOne 351 [.ref a0, .int v1, .int (nZ 0), .retAddr 0] [] h17)) else
    if v1 = nZ 112 then (mv_rcv X h1 [.ref a0, .ref (X.2.1 42), .int (nZ 1), .int (nZ 2)] 13 (mv_clV call 236 [.ref a0, .ref (X.2.1 42), .int (nZ 1), .int (nZ 2)] h1 mv_raise fun h18 =>
      mv_rcv X h18 [.ref a0, .ref (X.2.1 35), .int (nZ 2), .int (nZ 2)] 13 (mv_clV call 236 [.ref a0, .ref (X.2.1 35), .int (nZ 2), .int (nZ 2)] h18 mv_raise fun h19 =>
      mv_rcv X h19 [.ref a0, .ref (X.2.1 32), .int (nZ 3), .int (nZ 2)] 13 (mv_clV call 236 [.ref a0, .ref (X.2.1 32), .int (nZ 3), .int (nZ 2)] h19 mv_raise fun h20 =>
      mv_run X call m_X9_readsOne 351 [.ref a0, .int v1, .int (nZ 0), .retAddr 0] [] h20)))) else
    if v1 = nZ 113 then (mv_chk (mv_ok 6 (nZ 1)) (mv_pf h1 a0 13 26 (.int (nZ 1)) fun h21 =>
      mv_run X call m_X9_readsOne 351 [.ref a0, .int v1, .int (nZ 0), .retAddr 0] [] h21)) else
    if v1 = nZ 114 then (mv_rcv X h1 [.ref a0, .ref (X.2.1 40), .int (nZ 1), .int (nZ 1)] 13 (mv_clV call 236 [.ref a0, .ref (X.2.1 40), .int (nZ 1), .int (nZ 1)] h1 mv_raise fun h22 =>
      mv_rcv X h22 [.ref a0, .ref (X.2.1 35), .int (nZ 2), .int (nZ 2)] 13 (mv_clV call 236 [.ref a0, .ref (X.2.1 35), .int (nZ 2), .int (nZ 2)] h22 mv_raise fun h23 =>
      mv_run X call m_X9_readsOne 351 [.ref a0, .int v1, .int (nZ 0), .retAddr 0] [] h23))) else
    if v1 = nZ 115 then (mv_chk (mv_ok 6 (nZ 1)) (mv_pf h1 a0 13 26 (.int (nZ 1)) fun h24 =>
      mv_run X call m_X9_readsOne 351 [.ref a0, .int v1, .int (nZ 0), .retAddr 0] [] h24)) else
    if v1 = nZ 116 then (mv_chk (mv_ok 6 (nZ 1)) (mv_pf h1 a0 13 26 (.int (nZ 1)) fun h25 =>
      mv_run X call m_X9_readsOne 351 [.ref a0, .int v1, .int (nZ 0), .retAddr 0] [] h25)) else
    if v1 = nZ 117 then (mv_chk (mv_ok 6 (nZ 1)) (mv_pf h1 a0 13 26 (.int (nZ 1)) fun h26 =>
      mv_run X call m_X9_readsOne 351 [.ref a0, .int v1, .int (nZ 0), .retAddr 0] [] h26)) else
    if v1 = nZ 118 then (mv_chk (mv_ok 6 (nZ 1)) (mv_pf h1 a0 13 26 (.int (nZ 1)) fun h27 =>
      mv_run X call m_X9_readsOne 351 [.ref a0, .int v1, .int (nZ 0), .retAddr 0] [] h27)) else
    if v1 = nZ 119 then (if (nZ 0) = 0 then 
      (mv_rcv X h1 [.ref a0] 13 (mv_clV call 237 [.ref a0] h1 mv_raise fun h28 =>
        mv_run X call m_X9_readsOne 351 [.ref a0, .int v1, .int (nZ 0), .retAddr 0] [] h28))
      else (mv_rcv X h1 [.ref a0, .ref (X.2.1 41), .int (nZ 1), .int (nZ 2)] 13 (mv_clV call 236 [.ref a0, .ref (X.2.1 41), .int (nZ 1), .int (nZ 2)] h1 mv_raise fun h29 =>
        mv_run X call m_X9_readsOne 351 [.ref a0, .int v1, .int (nZ 0), .retAddr 0] [] h29))) else
     (mv_chk (mv_ok 6 (nZ 1)) (mv_pf h1 a0 13 26 (.int (nZ 1)) fun h30 =>
      mv_run X call m_X9_readsOne 351 [.ref a0, .int v1, .int (nZ 0), .retAddr 0] [] h30)))
  else (mv_as h 1 r1 ((nZ 5) * x1) (.int (v1 + (nZ 100))) fun h31 =>
    if v1 = nZ 99 then (mv_rcv X h31 [.ref a0, .ref (X.2.1 36), .int (nZ 1), .int (nZ 1)] 13 (mv_clV call 236 [.ref a0, .ref (X.2.1 36), .int (nZ 1), .int (nZ 1)] h31 mv_raise fun h32 =>
      mv_run X call m_X9_readsOne 351 [.ref a0, .int v1, .int (nZ 0), .retAddr 0] [] h32)) else
    if v1 = nZ 100 then (mv_rcv X h31 [.ref a0, .ref (X.2.1 39), .int (nZ 1), .int (nZ 1)] 13 (mv_clV call 236 [.ref a0, .ref (X.2.1 39), .int (nZ 1), .int (nZ 1)] h31 mv_raise fun h33 =>
      mv_rcv X h33 [.ref a0, .ref (X.2.1 35), .int (nZ 2), .int (nZ 1)] 13 (mv_clV call 236 [.ref a0, .ref (X.2.1 35), .int (nZ 2), .int (nZ 1)] h33 mv_raise fun h34 =>
      mv_run X call m_X9_readsOne 351 [.ref a0, .int v1, .int (nZ 0), .retAddr 0] [] h34))) else
    if v1 = nZ 101 then (mv_chk (mv_ok 6 (nZ 1)) (mv_pf h31 a0 13 26 (.int (nZ 1)) fun h35 =>
      mv_run X call m_X9_readsOne 351 [.ref a0, .int v1, .int (nZ 0), .retAddr 0] [] h35)) else
    if v1 = nZ 102 then (mv_chk (mv_ok 6 (nZ 1)) (mv_pf h31 a0 13 26 (.int (nZ 1)) fun h36 =>
      mv_run X call m_X9_readsOne 351 [.ref a0, .int v1, .int (nZ 0), .retAddr 0] [] h36)) else
    if v1 = nZ 103 then (mv_chk (mv_ok 6 (nZ 1)) (mv_pf h31 a0 13 26 (.int (nZ 1)) fun h37 =>
      mv_run X call m_X9_readsOne 351 [.ref a0, .int v1, .int (nZ 0), .retAddr 0] [] h37)) else
    if v1 = nZ 104 then (mv_chk (mv_ok 6 (nZ 1)) (mv_pf h31 a0 13 26 (.int (nZ 1)) fun h38 =>
      mv_run X call m_X9_readsOne 351 [.ref a0, .int v1, .int (nZ 0), .retAddr 0] [] h38)) else
    if v1 = nZ 105 then (mv_chk (mv_ok 6 (nZ 1)) (mv_pf h31 a0 13 26 (.int (nZ 1)) fun h39 =>
      mv_run X call m_X9_readsOne 351 [.ref a0, .int v1, .int (nZ 0), .retAddr 0] [] h39)) else
    if v1 = nZ 106 then (mv_chk (mv_ok 6 (nZ 1)) (mv_pf h31 a0 13 26 (.int (nZ 1)) fun h40 =>
      mv_run X call m_X9_readsOne 351 [.ref a0, .int v1, .int (nZ 0), .retAddr 0] [] h40)) else
    if v1 = nZ 107 then (mv_chk (mv_ok 6 (nZ 1)) (mv_pf h31 a0 13 26 (.int (nZ 1)) fun h41 =>
      mv_run X call m_X9_readsOne 351 [.ref a0, .int v1, .int (nZ 0), .retAddr 0] [] h41)) else
    if v1 = nZ 108 then (if (nZ 0) = 0 then 
      (mv_rcv X h31 [.ref a0, .ref (X.2.1 38), .int (nZ 1), .int (nZ 1)] 13 (mv_clV call 236 [.ref a0, .ref (X.2.1 38), .int (nZ 1), .int (nZ 1)] h31 mv_raise fun h42 =>
        mv_rcv X h42 [.ref a0, .ref (X.2.1 35), .int (nZ 2), .int (nZ 2)] 13 (mv_clV call 236 [.ref a0, .ref (X.2.1 35), .int (nZ 2), .int (nZ 2)] h42 mv_raise fun h43 =>
        mv_run X call m_X9_readsOne 351 [.ref a0, .int v1, .int (nZ 0), .retAddr 0] [] h43)))
      else (mv_rcv X h31 [.ref a0, .ref (X.2.1 37), .int (nZ 1), .int (nZ 1)] 13 (mv_clV call 236 [.ref a0, .ref (X.2.1 37), .int (nZ 1), .int (nZ 1)] h31 mv_raise fun h44 =>
        mv_run X call m_X9_readsOne 351 [.ref a0, .int v1, .int (nZ 0), .retAddr 0] [] h44))) else
    if v1 = nZ 109 then (mv_rcv X h31 [.ref a0, .ref (X.2.1 34), .int (nZ 1), .int (nZ 1)] 13 (mv_clV call 236 [.ref a0, .ref (X.2.1 34), .int (nZ 1), .int (nZ 1)] h31 mv_raise fun h45 =>
      mv_run X call m_X9_readsOne 179 [.ref a0, .int v1, .int (nZ 0), .int (nZ 2)] [] h45)) else
    if v1 = nZ 110 then (mv_chk (mv_ok 6 (nZ 1)) (mv_pf h31 a0 13 26 (.int (nZ 1)) fun h46 =>
      mv_run X call m_X9_readsOne 351 [.ref a0, .int v1, .int (nZ 0), .retAddr 0] [] h46)) else
    if v1 = nZ 111 then (mv_chk (mv_ok 6 (nZ 1)) (mv_pf h31 a0 13 26 (.int (nZ 1)) fun h47 =>
      mv_run X call m_X9_readsOne 351 [.ref a0, .int v1, .int (nZ 0), .retAddr 0] [] h47)) else
    if v1 = nZ 112 then (mv_rcv X h31 [.ref a0, .ref (X.2.1 42), .int (nZ 1), .int (nZ 2)] 13 (mv_clV call 236 [.ref a0, .ref (X.2.1 42), .int (nZ 1), .int (nZ 2)] h31 mv_raise fun h48 =>
      mv_rcv X h48 [.ref a0, .ref (X.2.1 35), .int (nZ 2), .int (nZ 2)] 13 (mv_clV call 236 [.ref a0, .ref (X.2.1 35), .int (nZ 2), .int (nZ 2)] h48 mv_raise fun h49 =>
      mv_rcv X h49 [.ref a0, .ref (X.2.1 32), .int (nZ 3), .int (nZ 2)] 13 (mv_clV call 236 [.ref a0, .ref (X.2.1 32), .int (nZ 3), .int (nZ 2)] h49 mv_raise fun h50 =>
      mv_run X call m_X9_readsOne 351 [.ref a0, .int v1, .int (nZ 0), .retAddr 0] [] h50)))) else
    if v1 = nZ 113 then (mv_chk (mv_ok 6 (nZ 1)) (mv_pf h31 a0 13 26 (.int (nZ 1)) fun h51 =>
      mv_run X call m_X9_readsOne 351 [.ref a0, .int v1, .int (nZ 0), .retAddr 0] [] h51)) else
    if v1 = nZ 114 then (mv_rcv X h31 [.ref a0, .ref (X.2.1 40), .int (nZ 1), .int (nZ 1)] 13 (mv_clV call 236 [.ref a0, .ref (X.2.1 40), .int (nZ 1), .int (nZ 1)] h31 mv_raise fun h52 =>
      mv_rcv X h52 [.ref a0, .ref (X.2.1 35), .int (nZ 2), .int (nZ 2)] 13 (mv_clV call 236 [.ref a0, .ref (X.2.1 35), .int (nZ 2), .int (nZ 2)] h52 mv_raise fun h53 =>
      mv_run X call m_X9_readsOne 351 [.ref a0, .int v1, .int (nZ 0), .retAddr 0] [] h53))) else
    if v1 = nZ 115 then (mv_chk (mv_ok 6 (nZ 1)) (mv_pf h31 a0 13 26 (.int (nZ 1)) fun h54 =>
      mv_run X call m_X9_readsOne 351 [.ref a0, .int v1, .int (nZ 0), .retAddr 0] [] h54)) else
    if v1 = nZ 116 then (mv_chk (mv_ok 6 (nZ 1)) (mv_pf h31 a0 13 26 (.int (nZ 1)) fun h55 =>
      mv_run X call m_X9_readsOne 351 [.ref a0, .int v1, .int (nZ 0), .retAddr 0] [] h55)) else
    if v1 = nZ 117 then (mv_chk (mv_ok 6 (nZ 1)) (mv_pf h31 a0 13 26 (.int (nZ 1)) fun h56 =>
      mv_run X call m_X9_readsOne 351 [.ref a0, .int v1, .int (nZ 0), .retAddr 0] [] h56)) else
    if v1 = nZ 118 then (mv_chk (mv_ok 6 (nZ 1)) (mv_pf h31 a0 13 26 (.int (nZ 1)) fun h57 =>
      mv_run X call m_X9_readsOne 351 [.ref a0, .int v1, .int (nZ 0), .retAddr 0] [] h57)) else
    if v1 = nZ 119 then (if (nZ 0) = 0 then 
      (mv_rcv X h31 [.ref a0] 13 (mv_clV call 237 [.ref a0] h31 mv_raise fun h58 =>
        mv_run X call m_X9_readsOne 351 [.ref a0, .int v1, .int (nZ 0), .retAddr 0] [] h58))
      else (mv_rcv X h31 [.ref a0, .ref (X.2.1 41), .int (nZ 1), .int (nZ 2)] 13 (mv_clV call 236 [.ref a0, .ref (X.2.1 41), .int (nZ 1), .int (nZ 2)] h31 mv_raise fun h59 =>
        mv_run X call m_X9_readsOne 351 [.ref a0, .int v1, .int (nZ 0), .retAddr 0] [] h59))) else
     (mv_chk (mv_ok 6 (nZ 1)) (mv_pf h31 a0 13 26 (.int (nZ 1)) fun h60 =>
      mv_run X call m_X9_readsOne 351 [.ref a0, .int v1, .int (nZ 0), .retAddr 0] [] h60))) :=
  (s_iconst i_X9_readsOne_42).trans <| (s_istore_n (ls2 := [.ref a0, .int v1, .int (nZ 0), .retAddr 0]) i_X9_readsOne_43 (fun _ => rfl)).trans <| (s_aload_n i_X9_readsOne_44 rfl).trans <| (s_gf2 i_X9_readsOne_45 rfl).trans <| c_gR fun r1 => (s_iconst i_X9_readsOne_48).trans <| (s_aload_n i_X9_readsOne_49 rfl).trans <| (s_gf1 i_X9_readsOne_50 rfl).trans <| c_gI fun x1 => (s_imul i_X9_readsOne_53).trans <| (s_iload_n i_X9_readsOne_54 rfl).trans <| (s_if_eq i_X9_readsOne_55).trans <| c_ite ((s_iload_n i_X9_readsOne_65 rfl).trans <| (s_iastore i_X9_readsOne_66).trans <| c_as fun h1 => (s_iload_n i_X9_readsOne_67 rfl).trans <| (s_tsw i_X9_readsOne_68).trans <| c_swc ((s_aload_n i_X9_readsOne_202 rfl).trans <| (s_ldcS_w i_X9_readsOne_203 rfl).trans <| (s_iconst i_X9_readsOne_206).trans <| (s_iconst i_X9_readsOne_207).trans <| (s_v0 [.ref a0, .ref (X.2.1 36), .int (nZ 1), .int (nZ 1)] [] i_X9_readsOne_208 rfl (fun _ => rfl)).trans <| c_rcv <| c_clV fun h2 => (s_goto i_X9_readsOne_211).trans <| rfl) <| c_swc ((s_aload_n i_X9_readsOne_251 rfl).trans <| (s_ldcS_w i_X9_readsOne_252 rfl).trans <| (s_iconst i_X9_readsOne_255).trans <| (s_iconst i_X9_readsOne_256).trans <| (s_v0 [.ref a0, .ref (X.2.1 39), .int (nZ 1), .int (nZ 1)] [] i_X9_readsOne_257 rfl (fun _ => rfl)).trans <| c_rcv <| c_clV fun h3 => (s_aload_n i_X9_readsOne_260 rfl).trans <| (s_ldcS_w i_X9_readsOne_261 rfl).trans <| (s_iconst i_X9_readsOne_264).trans <| (s_iconst i_X9_readsOne_265).trans <| (s_v0 [.ref a0, .ref (X.2.1 35), .int (nZ 2), .int (nZ 1)] [] i_X9_readsOne_266 rfl (fun _ => rfl)).trans <| c_rcv <| c_clV fun h4 => (s_goto i_X9_readsOne_269).trans <| rfl) <| c_swc ((s_aload_n i_X9_readsOne_346 rfl).trans <| (s_iconst i_X9_readsOne_347).trans <| (s_pf6 i_X9_readsOne_348 rfl).trans <| c_chk <| c_pf fun h5 => rfl) <| c_swc ((s_aload_n i_X9_readsOne_346 rfl).trans <| (s_iconst i_X9_readsOne_347).trans <| (s_pf6 i_X9_readsOne_348 rfl).trans <| c_chk <| c_pf fun h6 => rfl) <| c_swc ((s_aload_n i_X9_readsOne_346 rfl).trans <| (s_iconst i_X9_readsOne_347).trans <| (s_pf6 i_X9_readsOne_348 rfl).trans <| c_chk <| c_pf fun h7 => rfl) <| c_swc ((s_aload_n i_X9_readsOne_346 rfl).trans <| (s_iconst i_X9_readsOne_347).trans <| (s_pf6 i_X9_readsOne_348 rfl).trans <| c_chk <| c_pf fun h8 => rfl) <| c_swc ((s_aload_n i_X9_readsOne_346 rfl).trans <| (s_iconst i_X9_readsOne_347).trans <| (s_pf6 i_X9_readsOne_348 rfl).trans <| c_chk <| c_pf fun h9 => rfl) <| c_swc ((s_aload_n i_X9_readsOne_346 rfl).trans <| (s_iconst i_X9_readsOne_347).trans <| (s_pf6 i_X9_readsOne_348 rfl).trans <| c_chk <| c_pf fun h10 => rfl) <| c_swc ((s_aload_n i_X9_readsOne_346 rfl).trans <| (s_iconst i_X9_readsOne_347).trans <| (s_pf6 i_X9_readsOne_348 rfl).trans <| c_chk <| c_pf fun h11 => rfl) <| c_swc ((s_iload_n i_X9_readsOne_214 rfl).trans <| (s_if_eq i_X9_readsOne_215).trans <| c_ite ((s_aload_n i_X9_readsOne_230 rfl).trans <| (s_ldcS_w i_X9_readsOne_231 rfl).trans <| (s_iconst i_X9_readsOne_234).trans <| (s_iconst i_X9_readsOne_235).trans <| (s_v0 [.ref a0, .ref (X.2.1 38), .int (nZ 1), .int (nZ 1)] [] i_X9_readsOne_236 rfl (fun _ => rfl)).trans <| c_rcv <| c_clV fun h12 => (s_aload_n i_X9_readsOne_239 rfl).trans <| (s_ldcS_w i_X9_readsOne_240 rfl).trans <| (s_iconst i_X9_readsOne_243).trans <| (s_iconst i_X9_readsOne_244).trans <| (s_v0 [.ref a0, .ref (X.2.1 35), .int (nZ 2), .int (nZ 2)] [] i_X9_readsOne_245 rfl (fun _ => rfl)).trans <| c_rcv <| c_clV fun h13 => (s_goto i_X9_readsOne_248).trans <| rfl) ((s_aload_n i_X9_readsOne_218 rfl).trans <| (s_ldcS_w i_X9_readsOne_219 rfl).trans <| (s_iconst i_X9_readsOne_222).trans <| (s_iconst i_X9_readsOne_223).trans <| (s_v0 [.ref a0, .ref (X.2.1 37), .int (nZ 1), .int (nZ 1)] [] i_X9_readsOne_224 rfl (fun _ => rfl)).trans <| c_rcv <| c_clV fun h14 => (s_goto i_X9_readsOne_227).trans <| rfl)) <| c_swc ((s_aload_n i_X9_readsOne_168 rfl).trans <| (s_ldcS_w i_X9_readsOne_169 rfl).trans <| (s_iconst i_X9_readsOne_172).trans <| (s_iconst i_X9_readsOne_173).trans <| (s_v0 [.ref a0, .ref (X.2.1 34), .int (nZ 1), .int (nZ 1)] [] i_X9_readsOne_174 rfl (fun _ => rfl)).trans <| c_rcv <| c_clV fun h15 => (s_iconst i_X9_readsOne_177).trans <| (s_istore_n (ls2 := [.ref a0, .int v1, .int (nZ 0), .int (nZ 2)]) i_X9_readsOne_178 (fun _ => rfl)).trans <| rfl) <| c_swc ((s_aload_n i_X9_readsOne_346 rfl).trans <| (s_iconst i_X9_readsOne_347).trans <| (s_pf6 i_X9_readsOne_348 rfl).trans <| c_chk <| c_pf fun h16 => rfl) <| c_swc ((s_aload_n i_X9_readsOne_346 rfl).trans <| (s_iconst i_X9_readsOne_347).trans <| (s_pf6 i_X9_readsOne_348 rfl).trans <| c_chk <| c_pf fun h17 => rfl) <| c_swc ((s_aload_n i_X9_readsOne_316 rfl).trans <| (s_ldcS_w i_X9_readsOne_317 rfl).trans <| (s_iconst i_X9_readsOne_320).trans <| (s_iconst i_X9_readsOne_321).trans <| (s_v0 [.ref a0, .ref (X.2.1 42), .int (nZ 1), .int (nZ 2)] [] i_X9_readsOne_322 rfl (fun _ => rfl)).trans <| c_rcv <| c_clV fun h18 => (s_aload_n i_X9_readsOne_325 rfl).trans <| (s_ldcS_w i_X9_readsOne_326 rfl).trans <| (s_iconst i_X9_readsOne_329).trans <| (s_iconst i_X9_readsOne_330).trans <| (s_v0 [.ref a0, .ref (X.2.1 35), .int (nZ 2), .int (nZ 2)] [] i_X9_readsOne_331 rfl (fun _ => rfl)).trans <| c_rcv <| c_clV fun h19 => (s_aload_n i_X9_readsOne_334 rfl).trans <| (s_ldcS_w i_X9_readsOne_335 rfl).trans <| (s_iconst i_X9_readsOne_338).trans <| (s_iconst i_X9_readsOne_339).trans <| (s_v0 [.ref a0, .ref (X.2.1 32), .int (nZ 3), .int (nZ 2)] [] i_X9_readsOne_340 rfl (fun _ => rfl)).trans <| c_rcv <| c_clV fun h20 => (s_goto i_X9_readsOne_343).trans <| rfl) <| c_swc ((s_aload_n i_X9_readsOne_346 rfl).trans <| (s_iconst i_X9_readsOne_347).trans <| (s_pf6 i_X9_readsOne_348 rfl).trans <| c_chk <| c_pf fun h21 => rfl) <| c_swc ((s_aload_n i_X9_readsOne_272 rfl).trans <| (s_ldcS_w i_X9_readsOne_273 rfl).trans <| (s_iconst i_X9_readsOne_276).trans <| (s_iconst i_X9_readsOne_277).trans <| (s_v0 [.ref a0, .ref (X.2.1 40), .int (nZ 1), .int (nZ 1)] [] i_X9_readsOne_278 rfl (fun _ => rfl)).trans <| c_rcv <| c_clV fun h22 => (s_aload_n i_X9_readsOne_281 rfl).trans <| (s_ldcS_w i_X9_readsOne_282 rfl).trans <| (s_iconst i_X9_readsOne_285).trans <| (s_iconst i_X9_readsOne_286).trans <| (s_v0 [.ref a0, .ref (X.2.1 35), .int (nZ 2), .int (nZ 2)] [] i_X9_readsOne_287 rfl (fun _ => rfl)).trans <| c_rcv <| c_clV fun h23 => (s_goto i_X9_readsOne_290).trans <| rfl) <| c_swc ((s_aload_n i_X9_readsOne_346 rfl).trans <| (s_iconst i_X9_readsOne_347).trans <| (s_pf6 i_X9_readsOne_348 rfl).trans <| c_chk <| c_pf fun h24 => rfl) <| c_swc ((s_aload_n i_X9_readsOne_346 rfl).trans <| (s_iconst i_X9_readsOne_347).trans <| (s_pf6 i_X9_readsOne_348 rfl).trans <| c_chk <| c_pf fun h25 => rfl) <| c_swc ((s_aload_n i_X9_readsOne_346 rfl).trans <| (s_iconst i_X9_readsOne_347).trans <| (s_pf6 i_X9_readsOne_348 rfl).trans <| c_chk <| c_pf fun h26 => rfl) <| c_swc ((s_aload_n i_X9_readsOne_346 rfl).trans <| (s_iconst i_X9_readsOne_347).trans <| (s_pf6 i_X9_readsOne_348 rfl).trans <| c_chk <| c_pf fun h27 => rfl) <| c_swc ((s_iload_n i_X9_readsOne_293 rfl).trans <| (s_if_eq i_X9_readsOne_294).trans <| c_ite ((s_aload_n i_X9_readsOne_309 rfl).trans <| (s_v0 [.ref a0] [] i_X9_readsOne_310 rfl (fun _ => rfl)).trans <| c_rcv <| c_clV fun h28 => (s_goto i_X9_readsOne_313).trans <| rfl) ((s_aload_n i_X9_readsOne_297 rfl).trans <| (s_ldcS_w i_X9_readsOne_298 rfl).trans <| (s_iconst i_X9_readsOne_301).trans <| (s_iconst i_X9_readsOne_302).trans <| (s_v0 [.ref a0, .ref (X.2.1 41), .int (nZ 1), .int (nZ 2)] [] i_X9_readsOne_303 rfl (fun _ => rfl)).trans <| c_rcv <| c_clV fun h29 => (s_goto i_X9_readsOne_306).trans <| rfl)) <| c_swn ((s_aload_n i_X9_readsOne_346 rfl).trans <| (s_iconst i_X9_readsOne_347).trans <| (s_pf6 i_X9_readsOne_348 rfl).trans <| c_chk <| c_pf fun h30 => rfl)) ((s_iload_n i_X9_readsOne_58 rfl).trans <| (s_bipush i_X9_readsOne_59).trans <| (s_iadd i_X9_readsOne_61).trans <| (s_goto i_X9_readsOne_62).trans <| (s_iastore i_X9_readsOne_66).trans <| c_as fun h31 => (s_iload_n i_X9_readsOne_67 rfl).trans <| (s_tsw i_X9_readsOne_68).trans <| c_swc ((s_aload_n i_X9_readsOne_202 rfl).trans <| (s_ldcS_w i_X9_readsOne_203 rfl).trans <| (s_iconst i_X9_readsOne_206).trans <| (s_iconst i_X9_readsOne_207).trans <| (s_v0 [.ref a0, .ref (X.2.1 36), .int (nZ 1), .int (nZ 1)] [] i_X9_readsOne_208 rfl (fun _ => rfl)).trans <| c_rcv <| c_clV fun h32 => (s_goto i_X9_readsOne_211).trans <| rfl) <| c_swc ((s_aload_n i_X9_readsOne_251 rfl).trans <| (s_ldcS_w i_X9_readsOne_252 rfl).trans <| (s_iconst i_X9_readsOne_255).trans <| (s_iconst i_X9_readsOne_256).trans <| (s_v0 [.ref a0, .ref (X.2.1 39), .int (nZ 1), .int (nZ 1)] [] i_X9_readsOne_257 rfl (fun _ => rfl)).trans <| c_rcv <| c_clV fun h33 => (s_aload_n i_X9_readsOne_260 rfl).trans <| (s_ldcS_w i_X9_readsOne_261 rfl).trans <| (s_iconst i_X9_readsOne_264).trans <| (s_iconst i_X9_readsOne_265).trans <| (s_v0 [.ref a0, .ref (X.2.1 35), .int (nZ 2), .int (nZ 1)] [] i_X9_readsOne_266 rfl (fun _ => rfl)).trans <| c_rcv <| c_clV fun h34 => (s_goto i_X9_readsOne_269).trans <| rfl) <| c_swc ((s_aload_n i_X9_readsOne_346 rfl).trans <| (s_iconst i_X9_readsOne_347).trans <| (s_pf6 i_X9_readsOne_348 rfl).trans <| c_chk <| c_pf fun h35 => rfl) <| c_swc ((s_aload_n i_X9_readsOne_346 rfl).trans <| (s_iconst i_X9_readsOne_347).trans <| (s_pf6 i_X9_readsOne_348 rfl).trans <| c_chk <| c_pf fun h36 => rfl) <| c_swc ((s_aload_n i_X9_readsOne_346 rfl).trans <| (s_iconst i_X9_readsOne_347).trans <| (s_pf6 i_X9_readsOne_348 rfl).trans <| c_chk <| c_pf fun h37 => rfl) <| c_swc ((s_aload_n i_X9_readsOne_346 rfl).trans <| (s_iconst i_X9_readsOne_347).trans <| (s_pf6 i_X9_readsOne_348 rfl).trans <| c_chk <| c_pf fun h38 => rfl) <| c_swc ((s_aload_n i_X9_readsOne_346 rfl).trans <| (s_iconst i_X9_readsOne_347).trans <| (s_pf6 i_X9_readsOne_348 rfl).trans <| c_chk <| c_pf fun h39 => rfl) <| c_swc ((s_aload_n i_X9_readsOne_346 rfl).trans <| (s_iconst i_X9_readsOne_347).trans <| (s_pf6 i_X9_readsOne_348 rfl).trans <| c_chk <| c_pf fun h40 => rfl) <| c_swc ((s_aload_n i_X9_readsOne_346 rfl).trans <| (s_iconst i_X9_readsOne_347).trans <| (s_pf6 i_X9_readsOne_348 rfl).trans <| c_chk <| c_pf fun h41 => rfl) <| c_swc ((s_iload_n i_X9_readsOne_214 rfl).trans <| (s_if_eq i_X9_readsOne_215).trans <| c_ite ((s_aload_n i_X9_readsOne_230 rfl).trans <| (s_ldcS_w i_X9_readsOne_231 rfl).trans <| (s_iconst i_X9_readsOne_234).trans <| (s_iconst i_X9_readsOne_235).trans <| (s_v0 [.ref a0, .ref (X.2.1 38), .int (nZ 1), .int (nZ 1)] [] i_X9_readsOne_236 rfl (fun _ => rfl)).trans <| c_rcv <| c_clV fun h42 => (s_aload_n i_X9_readsOne_239 rfl).trans <| (s_ldcS_w i_X9_readsOne_240 rfl).trans <| (s_iconst i_X9_readsOne_243).trans <| (s_iconst i_X9_readsOne_244).trans <| (s_v0 [.ref a0, .ref (X.2.1 35), .int (nZ 2), .int (nZ 2)] [] i_X9_readsOne_245 rfl (fun _ => rfl)).trans <| c_rcv <| c_clV fun h43 => (s_goto i_X9_readsOne_248).trans <| rfl) ((s_aload_n i_X9_readsOne_218 rfl).trans <| (s_ldcS_w i_X9_readsOne_219 rfl).trans <| (s_iconst i_X9_readsOne_222).trans <| (s_iconst i_X9_readsOne_223).trans <| (s_v0 [.ref a0, .ref (X.2.1 37), .int (nZ 1), .int (nZ 1)] [] i_X9_readsOne_224 rfl (fun _ => rfl)).trans <| c_rcv <| c_clV fun h44 => (s_goto i_X9_readsOne_227).trans <| rfl)) <| c_swc ((s_aload_n i_X9_readsOne_168 rfl).trans <| (s_ldcS_w i_X9_readsOne_169 rfl).trans <| (s_iconst i_X9_readsOne_172).trans <| (s_iconst i_X9_readsOne_173).trans <| (s_v0 [.ref a0, .ref (X.2.1 34), .int (nZ 1), .int (nZ 1)] [] i_X9_readsOne_174 rfl (fun _ => rfl)).trans <| c_rcv <| c_clV fun h45 => (s_iconst i_X9_readsOne_177).trans <| (s_istore_n (ls2 := [.ref a0, .int v1, .int (nZ 0), .int (nZ 2)]) i_X9_readsOne_178 (fun _ => rfl)).trans <| rfl) <| c_swc ((s_aload_n i_X9_readsOne_346 rfl).trans <| (s_iconst i_X9_readsOne_347).trans <| (s_pf6 i_X9_readsOne_348 rfl).trans <| c_chk <| c_pf fun h46 => rfl) <| c_swc ((s_aload_n i_X9_readsOne_346 rfl).trans <| (s_iconst i_X9_readsOne_347).trans <| (s_pf6 i_X9_readsOne_348 rfl).trans <| c_chk <| c_pf fun h47 => rfl) <| c_swc ((s_aload_n i_X9_readsOne_316 rfl).trans <| (s_ldcS_w i_X9_readsOne_317 rfl).trans <| (s_iconst i_X9_readsOne_320).trans <| (s_iconst i_X9_readsOne_321).trans <| (s_v0 [.ref a0, .ref (X.2.1 42), .int (nZ 1), .int (nZ 2)] [] i_X9_readsOne_322 rfl (fun _ => rfl)).trans <| c_rcv <| c_clV fun h48 => (s_aload_n i_X9_readsOne_325 rfl).trans <| (s_ldcS_w i_X9_readsOne_326 rfl).trans <| (s_iconst i_X9_readsOne_329).trans <| (s_iconst i_X9_readsOne_330).trans <| (s_v0 [.ref a0, .ref (X.2.1 35), .int (nZ 2), .int (nZ 2)] [] i_X9_readsOne_331 rfl (fun _ => rfl)).trans <| c_rcv <| c_clV fun h49 => (s_aload_n i_X9_readsOne_334 rfl).trans <| (s_ldcS_w i_X9_readsOne_335 rfl).trans <| (s_iconst i_X9_readsOne_338).trans <| (s_iconst i_X9_readsOne_339).trans <| (s_v0 [.ref a0, .ref (X.2.1 32), .int (nZ 3), .int (nZ 2)] [] i_X9_readsOne_340 rfl (fun _ => rfl)).trans <| c_rcv <| c_clV fun h50 => (s_goto i_X9_readsOne_343).trans <| rfl) <| c_swc ((s_aload_n i_X9_readsOne_346 rfl).trans <| (s_iconst i_X9_readsOne_347).trans <| (s_pf6 i_X9_readsOne_348 rfl).trans <| c_chk <| c_pf fun h51 => rfl) <| c_swc ((s_aload_n i_X9_readsOne_272 rfl).trans <| (s_ldcS_w i_X9_readsOne_273 rfl).trans <| (s_iconst i_X9_readsOne_276).trans <| (s_iconst i_X9_readsOne_277).trans <| (s_v0 [.ref a0, .ref (X.2.1 40), .int (nZ 1), .int (nZ 1)] [] i_X9_readsOne_278 rfl (fun _ => rfl)).trans <| c_rcv <| c_clV fun h52 => (s_aload_n i_X9_readsOne_281 rfl).trans <| (s_ldcS_w i_X9_readsOne_282 rfl).trans <| (s_iconst i_X9_readsOne_285).trans <| (s_iconst i_X9_readsOne_286).trans <| (s_v0 [.ref a0, .ref (X.2.1 35), .int (nZ 2), .int (nZ 2)] [] i_X9_readsOne_287 rfl (fun _ => rfl)).trans <| c_rcv <| c_clV fun h53 => (s_goto i_X9_readsOne_290).trans <| rfl) <| c_swc ((s_aload_n i_X9_readsOne_346 rfl).trans <| (s_iconst i_X9_readsOne_347).trans <| (s_pf6 i_X9_readsOne_348 rfl).trans <| c_chk <| c_pf fun h54 => rfl) <| c_swc ((s_aload_n i_X9_readsOne_346 rfl).trans <| (s_iconst i_X9_readsOne_347).trans <| (s_pf6 i_X9_readsOne_348 rfl).trans <| c_chk <| c_pf fun h55 => rfl) <| c_swc ((s_aload_n i_X9_readsOne_346 rfl).trans <| (s_iconst i_X9_readsOne_347).trans <| (s_pf6 i_X9_readsOne_348 rfl).trans <| c_chk <| c_pf fun h56 => rfl) <| c_swc ((s_aload_n i_X9_readsOne_346 rfl).trans <| (s_iconst i_X9_readsOne_347).trans <| (s_pf6 i_X9_readsOne_348 rfl).trans <| c_chk <| c_pf fun h57 => rfl) <| c_swc ((s_iload_n i_X9_readsOne_293 rfl).trans <| (s_if_eq i_X9_readsOne_294).trans <| c_ite ((s_aload_n i_X9_readsOne_309 rfl).trans <| (s_v0 [.ref a0] [] i_X9_readsOne_310 rfl (fun _ => rfl)).trans <| c_rcv <| c_clV fun h58 => (s_goto i_X9_readsOne_313).trans <| rfl) ((s_aload_n i_X9_readsOne_297 rfl).trans <| (s_ldcS_w i_X9_readsOne_298 rfl).trans <| (s_iconst i_X9_readsOne_301).trans <| (s_iconst i_X9_readsOne_302).trans <| (s_v0 [.ref a0, .ref (X.2.1 41), .int (nZ 1), .int (nZ 2)] [] i_X9_readsOne_303 rfl (fun _ => rfl)).trans <| c_rcv <| c_clV fun h59 => (s_goto i_X9_readsOne_306).trans <| rfl)) <| c_swn ((s_aload_n i_X9_readsOne_346 rfl).trans <| (s_iconst i_X9_readsOne_347).trans <| (s_pf6 i_X9_readsOne_348 rfl).trans <| c_chk <| c_pf fun h60 => rfl))
theorem bk_X9_readsOne_179 (X : mv_X) (call : mv_G) (h : mv_H) (a0 : Nat) (v1 : Int32) (v2 : Int32) (v3 : Int32) : mv_run X call m_X9_readsOne 179 [.ref a0, .int v1, .int v2, .int v3] [] h =
  if (nZ 5) ≤ v3 then 
  (mv_run X call m_X9_readsOne 351 [.ref a0, .int v1, .int v2, .int v3] [] h)
  else (mv_rcv X h [.ref a0, .ref (X.2.1 35), .int v3, .int (nZ 2)] 13 (mv_clV call 236 [.ref a0, .ref (X.2.1 35), .int v3, .int (nZ 2)] h mv_raise fun h1 =>
    mv_run X call m_X9_readsOne 179 [.ref a0, .int v1, .int v2, .int (v3 + nZ 1)] [] h1)) :=
  (s_iload_n i_X9_readsOne_179 rfl).trans <| (s_iconst i_X9_readsOne_180).trans <| (s_icmp_ge i_X9_readsOne_181).trans <| c_ite ((s_goto i_X9_readsOne_199).trans <| rfl) ((s_aload_n i_X9_readsOne_184 rfl).trans <| (s_ldcS_w i_X9_readsOne_185 rfl).trans <| (s_iload_n i_X9_readsOne_188 rfl).trans <| (s_iconst i_X9_readsOne_189).trans <| (s_v0 [.ref a0, .ref (X.2.1 35), .int v3, .int (nZ 2)] [] i_X9_readsOne_190 rfl (fun _ => rfl)).trans <| c_rcv <| c_clV fun h1 => (s_iinc (ls2 := [.ref a0, .int v1, .int v2, .int (v3 + nZ 1)]) i_X9_readsOne_193 rfl (fun _ => rfl)).trans <| (s_goto i_X9_readsOne_196).trans <| rfl)
theorem bk_X9_readsOne_351 (X : mv_X) (call : mv_G) (h : mv_H) (a0 : Nat) (v1 : Int32) (v2 : Int32) (j3 : Value) : mv_run X call m_X9_readsOne 351 [.ref a0, .int v1, .int v2, j3] [] h =
  mv_gI X h a0 13 25 fun x1 =>
  mv_pf h a0 13 25 (.int (x1 + (nZ 1))) fun h1 =>
  (some (.inl none, h1)) :=
  (s_aload_n i_X9_readsOne_351 rfl).trans <| (s_dupR i_X9_readsOne_352).trans <| (s_gf1 i_X9_readsOne_353 rfl).trans <| c_gI fun x1 => (s_iconst i_X9_readsOne_356).trans <| (s_iadd i_X9_readsOne_357).trans <| (s_pf1 i_X9_readsOne_358 rfl).trans <| c_pf fun h1 => s_ret i_X9_readsOne_361 rfl
theorem mc_X9_does (X : mv_X) (d : Nat) (h : mv_H) (a0 : Nat) (v1 : Int32) : mv_call X (d + 1) 239 [.ref a0, .int v1] h = mv_run X (mv_call X d) m_X9_does 0 [.ref a0, .int v1, .retAddr 0, .retAddr 0, .retAddr 0] [] h := rfl
theorem i_X9_does_0 : mv_look m_X9_does.2.2.2.1 32 0 = some (.aload_n 0, 0, []) := by decide +kernel
theorem i_X9_does_1 : mv_look m_X9_does.2.2.2.1 32 1 = some (.getfield 28, 0, []) := by decide +kernel
theorem i_X9_does_4 : mv_look m_X9_does.2.2.2.1 32 4 = some (.iconst 5, 0, []) := by decide +kernel
theorem i_X9_does_5 : mv_look m_X9_does.2.2.2.1 32 5 = some (.iload_n 1, 0, []) := by decide +kernel
theorem i_X9_does_6 : mv_look m_X9_does.2.2.2.1 32 6 = some (.imul, 0, []) := by decide +kernel
theorem i_X9_does_7 : mv_look m_X9_does.2.2.2.1 32 7 = some (.iconst 1, 0, []) := by decide +kernel
theorem i_X9_does_8 : mv_look m_X9_does.2.2.2.1 32 8 = some (.iadd, 0, []) := by decide +kernel
theorem i_X9_does_9 : mv_look m_X9_does.2.2.2.1 32 9 = some (.iaload, 0, []) := by decide +kernel
theorem i_X9_does_10 : mv_look m_X9_does.2.2.2.1 32 10 = some (.istore_n 2, 0, []) := by decide +kernel
theorem i_X9_does_11 : mv_look m_X9_does.2.2.2.1 32 11 = some (.aload_n 0, 0, []) := by decide +kernel
theorem i_X9_does_12 : mv_look m_X9_does.2.2.2.1 32 12 = some (.getfield 28, 0, []) := by decide +kernel
theorem i_X9_does_15 : mv_look m_X9_does.2.2.2.1 32 15 = some (.iconst 5, 0, []) := by decide +kernel
theorem i_X9_does_16 : mv_look m_X9_does.2.2.2.1 32 16 = some (.iload_n 1, 0, []) := by decide +kernel
theorem i_X9_does_17 : mv_look m_X9_does.2.2.2.1 32 17 = some (.imul, 0, []) := by decide +kernel
theorem i_X9_does_18 : mv_look m_X9_does.2.2.2.1 32 18 = some (.iconst 2, 0, []) := by decide +kernel
theorem i_X9_does_19 : mv_look m_X9_does.2.2.2.1 32 19 = some (.iadd, 0, []) := by decide +kernel
theorem i_X9_does_20 : mv_look m_X9_does.2.2.2.1 32 20 = some (.iaload, 0, []) := by decide +kernel
theorem i_X9_does_21 : mv_look m_X9_does.2.2.2.1 32 21 = some (.istore_n 3, 0, []) := by decide +kernel
theorem i_X9_does_22 : mv_look m_X9_does.2.2.2.1 32 22 = some (.aload_n 0, 0, []) := by decide +kernel
theorem i_X9_does_23 : mv_look m_X9_does.2.2.2.1 32 23 = some (.getfield 28, 0, []) := by decide +kernel
theorem i_X9_does_26 : mv_look m_X9_does.2.2.2.1 32 26 = some (.iconst 5, 0, []) := by decide +kernel
theorem i_X9_does_27 : mv_look m_X9_does.2.2.2.1 32 27 = some (.iload_n 1, 0, []) := by decide +kernel
theorem i_X9_does_28 : mv_look m_X9_does.2.2.2.1 32 28 = some (.imul, 0, []) := by decide +kernel
theorem i_X9_does_29 : mv_look m_X9_does.2.2.2.1 32 29 = some (.iconst 3, 0, []) := by decide +kernel
theorem i_X9_does_30 : mv_look m_X9_does.2.2.2.1 32 30 = some (.iadd, 0, []) := by decide +kernel
theorem i_X9_does_31 : mv_look m_X9_does.2.2.2.1 32 31 = some (.iaload, 0, []) := by decide +kernel
theorem i_X9_does_32 : mv_look m_X9_does.2.2.2.1 32 32 = some (.istore 4, 0, []) := by decide +kernel
theorem i_X9_does_34 : mv_look m_X9_does.2.2.2.1 32 34 = some (.aload_n 0, 0, []) := by decide +kernel
theorem i_X9_does_35 : mv_look m_X9_does.2.2.2.1 32 35 = some (.getfield 28, 0, []) := by decide +kernel
theorem i_X9_does_38 : mv_look m_X9_does.2.2.2.1 32 38 = some (.iconst 5, 0, []) := by decide +kernel
theorem i_X9_does_39 : mv_look m_X9_does.2.2.2.1 32 39 = some (.iload_n 1, 0, []) := by decide +kernel
theorem i_X9_does_40 : mv_look m_X9_does.2.2.2.1 32 40 = some (.imul, 0, []) := by decide +kernel
theorem i_X9_does_41 : mv_look m_X9_does.2.2.2.1 32 41 = some (.iaload, 0, []) := by decide +kernel
theorem i_X9_does_42 : mv_look m_X9_does.2.2.2.1 32 42 = some (.lookupswitch 139 #[(99, 93), (100, 112), (108, 99), (109, 74), (114, 119), (119, 126), (208, 106), (219, 133)], 181, [(99, 135), (100, 154), (108, 141), (109, 116), (114, 161), (119, 168), (208, 148), (219, 175)]) := by decide +kernel
theorem i_X9_does_116 : mv_look m_X9_does.2.2.2.1 32 116 = some (.aload_n 0, 0, []) := by decide +kernel
theorem i_X9_does_117 : mv_look m_X9_does.2.2.2.1 32 117 = some (.iload_n 2, 0, []) := by decide +kernel
theorem i_X9_does_118 : mv_look m_X9_does.2.2.2.1 32 118 = some (.iload_n 3, 0, []) := by decide +kernel
theorem i_X9_does_119 : mv_look m_X9_does.2.2.2.1 32 119 = some (.iload 4, 0, []) := by decide +kernel
theorem i_X9_does_121 : mv_look m_X9_does.2.2.2.1 32 121 = some (.aload_n 0, 0, []) := by decide +kernel
theorem i_X9_does_122 : mv_look m_X9_does.2.2.2.1 32 122 = some (.getfield 28, 0, []) := by decide +kernel
theorem i_X9_does_125 : mv_look m_X9_does.2.2.2.1 32 125 = some (.iconst 5, 0, []) := by decide +kernel
theorem i_X9_does_126 : mv_look m_X9_does.2.2.2.1 32 126 = some (.iload_n 1, 0, []) := by decide +kernel
theorem i_X9_does_127 : mv_look m_X9_does.2.2.2.1 32 127 = some (.imul, 0, []) := by decide +kernel
theorem i_X9_does_128 : mv_look m_X9_does.2.2.2.1 32 128 = some (.iconst 4, 0, []) := by decide +kernel
theorem i_X9_does_129 : mv_look m_X9_does.2.2.2.1 32 129 = some (.iadd, 0, []) := by decide +kernel
theorem i_X9_does_130 : mv_look m_X9_does.2.2.2.1 32 130 = some (.iaload, 0, []) := by decide +kernel
theorem i_X9_does_131 : mv_look m_X9_does.2.2.2.1 32 131 = some (.invokevirtual 157, 0, []) := by decide +kernel
theorem i_X9_does_134 : mv_look m_X9_does.2.2.2.1 32 134 = some (.ireturn, 0, []) := by decide +kernel
theorem i_X9_does_135 : mv_look m_X9_does.2.2.2.1 32 135 = some (.aload_n 0, 0, []) := by decide +kernel
theorem i_X9_does_136 : mv_look m_X9_does.2.2.2.1 32 136 = some (.iload_n 2, 0, []) := by decide +kernel
theorem i_X9_does_137 : mv_look m_X9_does.2.2.2.1 32 137 = some (.invokevirtual 164, 0, []) := by decide +kernel
theorem i_X9_does_140 : mv_look m_X9_does.2.2.2.1 32 140 = some (.ireturn, 0, []) := by decide +kernel
theorem i_X9_does_141 : mv_look m_X9_does.2.2.2.1 32 141 = some (.aload_n 0, 0, []) := by decide +kernel
theorem i_X9_does_142 : mv_look m_X9_does.2.2.2.1 32 142 = some (.iload_n 2, 0, []) := by decide +kernel
theorem i_X9_does_143 : mv_look m_X9_does.2.2.2.1 32 143 = some (.iload_n 3, 0, []) := by decide +kernel
theorem i_X9_does_144 : mv_look m_X9_does.2.2.2.1 32 144 = some (.invokevirtual 167, 0, []) := by decide +kernel
theorem i_X9_does_147 : mv_look m_X9_does.2.2.2.1 32 147 = some (.ireturn, 0, []) := by decide +kernel
theorem i_X9_does_148 : mv_look m_X9_does.2.2.2.1 32 148 = some (.aload_n 0, 0, []) := by decide +kernel
theorem i_X9_does_149 : mv_look m_X9_does.2.2.2.1 32 149 = some (.iload_n 2, 0, []) := by decide +kernel
theorem i_X9_does_150 : mv_look m_X9_does.2.2.2.1 32 150 = some (.invokevirtual 183, 0, []) := by decide +kernel
theorem i_X9_does_153 : mv_look m_X9_does.2.2.2.1 32 153 = some (.ireturn, 0, []) := by decide +kernel
theorem i_X9_does_154 : mv_look m_X9_does.2.2.2.1 32 154 = some (.aload_n 0, 0, []) := by decide +kernel
theorem i_X9_does_155 : mv_look m_X9_does.2.2.2.1 32 155 = some (.iload_n 2, 0, []) := by decide +kernel
theorem i_X9_does_156 : mv_look m_X9_does.2.2.2.1 32 156 = some (.iload_n 3, 0, []) := by decide +kernel
theorem i_X9_does_157 : mv_look m_X9_does.2.2.2.1 32 157 = some (.invokevirtual 170, 0, []) := by decide +kernel
theorem i_X9_does_160 : mv_look m_X9_does.2.2.2.1 32 160 = some (.ireturn, 0, []) := by decide +kernel
theorem i_X9_does_161 : mv_look m_X9_does.2.2.2.1 32 161 = some (.aload_n 0, 0, []) := by decide +kernel
theorem i_X9_does_162 : mv_look m_X9_does.2.2.2.1 32 162 = some (.iload_n 2, 0, []) := by decide +kernel
theorem i_X9_does_163 : mv_look m_X9_does.2.2.2.1 32 163 = some (.iload_n 3, 0, []) := by decide +kernel
theorem i_X9_does_164 : mv_look m_X9_does.2.2.2.1 32 164 = some (.invokevirtual 173, 0, []) := by decide +kernel
theorem i_X9_does_167 : mv_look m_X9_does.2.2.2.1 32 167 = some (.ireturn, 0, []) := by decide +kernel
theorem i_X9_does_168 : mv_look m_X9_does.2.2.2.1 32 168 = some (.aload_n 0, 0, []) := by decide +kernel
theorem i_X9_does_169 : mv_look m_X9_does.2.2.2.1 32 169 = some (.iload_n 2, 0, []) := by decide +kernel
theorem i_X9_does_170 : mv_look m_X9_does.2.2.2.1 32 170 = some (.iload_n 3, 0, []) := by decide +kernel
theorem i_X9_does_171 : mv_look m_X9_does.2.2.2.1 32 171 = some (.invokevirtual 176, 0, []) := by decide +kernel
theorem i_X9_does_174 : mv_look m_X9_does.2.2.2.1 32 174 = some (.ireturn, 0, []) := by decide +kernel
theorem i_X9_does_175 : mv_look m_X9_does.2.2.2.1 32 175 = some (.aload_n 0, 0, []) := by decide +kernel
theorem i_X9_does_176 : mv_look m_X9_does.2.2.2.1 32 176 = some (.iload_n 2, 0, []) := by decide +kernel
theorem i_X9_does_177 : mv_look m_X9_does.2.2.2.1 32 177 = some (.invokevirtual 186, 0, []) := by decide +kernel
theorem i_X9_does_180 : mv_look m_X9_does.2.2.2.1 32 180 = some (.ireturn, 0, []) := by decide +kernel
theorem i_X9_does_181 : mv_look m_X9_does.2.2.2.1 32 181 = some (.aload_n 0, 0, []) := by decide +kernel
theorem i_X9_does_182 : mv_look m_X9_does.2.2.2.1 32 182 = some (.iload_n 2, 0, []) := by decide +kernel
theorem i_X9_does_183 : mv_look m_X9_does.2.2.2.1 32 183 = some (.iload_n 3, 0, []) := by decide +kernel
theorem i_X9_does_184 : mv_look m_X9_does.2.2.2.1 32 184 = some (.iload 4, 0, []) := by decide +kernel
theorem i_X9_does_186 : mv_look m_X9_does.2.2.2.1 32 186 = some (.invokevirtual 179, 0, []) := by decide +kernel
theorem i_X9_does_189 : mv_look m_X9_does.2.2.2.1 32 189 = some (.ireturn, 0, []) := by decide +kernel
theorem bk_X9_does_0 (X : mv_X) (call : mv_G) (h : mv_H) (a0 : Nat) (v1 : Int32) : mv_run X call m_X9_does 0 [.ref a0, .int v1, .retAddr 0, .retAddr 0, .retAddr 0] [] h =
  mv_gR X h a0 13 9 fun r1 =>
  mv_aI X h 1 r1 (((nZ 5) * v1) + (nZ 1)) fun x1 =>
  mv_gR X h a0 13 9 fun r2 =>
  mv_aI X h 1 r2 (((nZ 5) * v1) + (nZ 2)) fun x2 =>
  mv_gR X h a0 13 9 fun r3 =>
  mv_aI X h 1 r3 (((nZ 5) * v1) + (nZ 3)) fun x3 =>
  mv_gR X h a0 13 9 fun r4 =>
  mv_aI X h 1 r4 ((nZ 5) * v1) fun x4 =>
  if x4 = nZ 99 then (mv_rcv X h [.ref a0, .int x1] 13 (mv_clI call 179 [.ref a0, .int x1] h mv_raise fun x5 h1 =>
    (some (.inl (some (.int x5)), h1)))) else
  if x4 = nZ 100 then (mv_rcv X h [.ref a0, .int x1, .int x2] 13 (mv_clI call 181 [.ref a0, .int x1, .int x2] h mv_raise fun x6 h2 =>
    (some (.inl (some (.int x6)), h2)))) else
  if x4 = nZ 108 then (mv_rcv X h [.ref a0, .int x1, .int x2] 13 (mv_clI call 180 [.ref a0, .int x1, .int x2] h mv_raise fun x7 h3 =>
    (some (.inl (some (.int x7)), h3)))) else
  if x4 = nZ 109 then (mv_gR X h a0 13 9 fun r5 =>
    mv_aI X h 1 r5 (((nZ 5) * v1) + (nZ 4)) fun x8 =>
    mv_rcv X h [.ref a0, .int x1, .int x2, .int x3, .int x8] 13 (mv_clI call 178 [.ref a0, .int x1, .int x2, .int x3, .int x8] h mv_raise fun x9 h4 =>
    (some (.inl (some (.int x9)), h4)))) else
  if x4 = nZ 114 then (mv_rcv X h [.ref a0, .int x1, .int x2] 13 (mv_clI call 182 [.ref a0, .int x1, .int x2] h mv_raise fun x10 h5 =>
    (some (.inl (some (.int x10)), h5)))) else
  if x4 = nZ 119 then (mv_rcv X h [.ref a0, .int x1, .int x2] 13 (mv_clI call 183 [.ref a0, .int x1, .int x2] h mv_raise fun x11 h6 =>
    (some (.inl (some (.int x11)), h6)))) else
  if x4 = nZ 208 then (mv_rcv X h [.ref a0, .int x1] 13 (mv_clI call 186 [.ref a0, .int x1] h mv_raise fun x12 h7 =>
    (some (.inl (some (.int x12)), h7)))) else
  if x4 = nZ 219 then (mv_rcv X h [.ref a0, .int x1] 13 (mv_clI call 184 [.ref a0, .int x1] h mv_raise fun x13 h8 =>
    (some (.inl (some (.int x13)), h8)))) else
   (mv_rcv X h [.ref a0, .int x1, .int x2, .int x3] 13 (mv_clI call 185 [.ref a0, .int x1, .int x2, .int x3] h mv_raise fun x14 h9 =>
    (some (.inl (some (.int x14)), h9)))) :=
  (s_aload_n i_X9_does_0 rfl).trans <| (s_gf2 i_X9_does_1 rfl).trans <| c_gR fun r1 => (s_iconst i_X9_does_4).trans <| (s_iload_n i_X9_does_5 rfl).trans <| (s_imul i_X9_does_6).trans <| (s_iconst i_X9_does_7).trans <| (s_iadd i_X9_does_8).trans <| (s_iaload i_X9_does_9).trans <| c_aI fun x1 => (s_istore_n (ls2 := [.ref a0, .int v1, .int x1, .retAddr 0, .retAddr 0]) i_X9_does_10 (fun _ => rfl)).trans <| (s_aload_n i_X9_does_11 rfl).trans <| (s_gf2 i_X9_does_12 rfl).trans <| c_gR fun r2 => (s_iconst i_X9_does_15).trans <| (s_iload_n i_X9_does_16 rfl).trans <| (s_imul i_X9_does_17).trans <| (s_iconst i_X9_does_18).trans <| (s_iadd i_X9_does_19).trans <| (s_iaload i_X9_does_20).trans <| c_aI fun x2 => (s_istore_n (ls2 := [.ref a0, .int v1, .int x1, .int x2, .retAddr 0]) i_X9_does_21 (fun _ => rfl)).trans <| (s_aload_n i_X9_does_22 rfl).trans <| (s_gf2 i_X9_does_23 rfl).trans <| c_gR fun r3 => (s_iconst i_X9_does_26).trans <| (s_iload_n i_X9_does_27 rfl).trans <| (s_imul i_X9_does_28).trans <| (s_iconst i_X9_does_29).trans <| (s_iadd i_X9_does_30).trans <| (s_iaload i_X9_does_31).trans <| c_aI fun x3 => (s_istore (ls2 := [.ref a0, .int v1, .int x1, .int x2, .int x3]) i_X9_does_32 (fun _ => rfl)).trans <| (s_aload_n i_X9_does_34 rfl).trans <| (s_gf2 i_X9_does_35 rfl).trans <| c_gR fun r4 => (s_iconst i_X9_does_38).trans <| (s_iload_n i_X9_does_39 rfl).trans <| (s_imul i_X9_does_40).trans <| (s_iaload i_X9_does_41).trans <| c_aI fun x4 => (s_lsw i_X9_does_42).trans <| c_swc ((s_aload_n i_X9_does_135 rfl).trans <| (s_iload_n i_X9_does_136 rfl).trans <| (s_v1 [.ref a0, .int x1] [] i_X9_does_137 rfl (fun _ => rfl)).trans <| c_rcv <| c_clI fun x5 h1 => s_iret1 i_X9_does_140 rfl) <| c_swc ((s_aload_n i_X9_does_154 rfl).trans <| (s_iload_n i_X9_does_155 rfl).trans <| (s_iload_n i_X9_does_156 rfl).trans <| (s_v1 [.ref a0, .int x1, .int x2] [] i_X9_does_157 rfl (fun _ => rfl)).trans <| c_rcv <| c_clI fun x6 h2 => s_iret1 i_X9_does_160 rfl) <| c_swc ((s_aload_n i_X9_does_141 rfl).trans <| (s_iload_n i_X9_does_142 rfl).trans <| (s_iload_n i_X9_does_143 rfl).trans <| (s_v1 [.ref a0, .int x1, .int x2] [] i_X9_does_144 rfl (fun _ => rfl)).trans <| c_rcv <| c_clI fun x7 h3 => s_iret1 i_X9_does_147 rfl) <| c_swc ((s_aload_n i_X9_does_116 rfl).trans <| (s_iload_n i_X9_does_117 rfl).trans <| (s_iload_n i_X9_does_118 rfl).trans <| (s_iload i_X9_does_119 rfl).trans <| (s_aload_n i_X9_does_121 rfl).trans <| (s_gf2 i_X9_does_122 rfl).trans <| c_gR fun r5 => (s_iconst i_X9_does_125).trans <| (s_iload_n i_X9_does_126 rfl).trans <| (s_imul i_X9_does_127).trans <| (s_iconst i_X9_does_128).trans <| (s_iadd i_X9_does_129).trans <| (s_iaload i_X9_does_130).trans <| c_aI fun x8 => (s_v1 [.ref a0, .int x1, .int x2, .int x3, .int x8] [] i_X9_does_131 rfl (fun _ => rfl)).trans <| c_rcv <| c_clI fun x9 h4 => s_iret1 i_X9_does_134 rfl) <| c_swc ((s_aload_n i_X9_does_161 rfl).trans <| (s_iload_n i_X9_does_162 rfl).trans <| (s_iload_n i_X9_does_163 rfl).trans <| (s_v1 [.ref a0, .int x1, .int x2] [] i_X9_does_164 rfl (fun _ => rfl)).trans <| c_rcv <| c_clI fun x10 h5 => s_iret1 i_X9_does_167 rfl) <| c_swc ((s_aload_n i_X9_does_168 rfl).trans <| (s_iload_n i_X9_does_169 rfl).trans <| (s_iload_n i_X9_does_170 rfl).trans <| (s_v1 [.ref a0, .int x1, .int x2] [] i_X9_does_171 rfl (fun _ => rfl)).trans <| c_rcv <| c_clI fun x11 h6 => s_iret1 i_X9_does_174 rfl) <| c_swc ((s_aload_n i_X9_does_148 rfl).trans <| (s_iload_n i_X9_does_149 rfl).trans <| (s_v1 [.ref a0, .int x1] [] i_X9_does_150 rfl (fun _ => rfl)).trans <| c_rcv <| c_clI fun x12 h7 => s_iret1 i_X9_does_153 rfl) <| c_swc ((s_aload_n i_X9_does_175 rfl).trans <| (s_iload_n i_X9_does_176 rfl).trans <| (s_v1 [.ref a0, .int x1] [] i_X9_does_177 rfl (fun _ => rfl)).trans <| c_rcv <| c_clI fun x13 h8 => s_iret1 i_X9_does_180 rfl) <| c_swn ((s_aload_n i_X9_does_181 rfl).trans <| (s_iload_n i_X9_does_182 rfl).trans <| (s_iload_n i_X9_does_183 rfl).trans <| (s_iload i_X9_does_184 rfl).trans <| (s_v1 [.ref a0, .int x1, .int x2, .int x3] [] i_X9_does_186 rfl (fun _ => rfl)).trans <| c_rcv <| c_clI fun x14 h9 => s_iret1 i_X9_does_189 rfl)
theorem mc_X9_execute (X : mv_X) (d : Nat) (h : mv_H) (a0 : Nat) : mv_call X (d + 1) 240 [.ref a0] h = mv_run X (mv_call X d) m_X9_execute 0 [.ref a0, .retAddr 0, .retAddr 0, .retAddr 0] [] h := rfl
theorem i_X9_execute_0 : mv_look m_X9_execute.2.2.2.1 32 0 = some (.aload_n 0, 0, []) := by decide +kernel
theorem i_X9_execute_1 : mv_look m_X9_execute.2.2.2.1 32 1 = some (.invokevirtual 154, 0, []) := by decide +kernel
theorem i_X9_execute_4 : mv_look m_X9_execute.2.2.2.1 32 4 = some (.aload_n 0, 0, []) := by decide +kernel
theorem i_X9_execute_5 : mv_look m_X9_execute.2.2.2.1 32 5 = some (.iconst 0, 0, []) := by decide +kernel
theorem i_X9_execute_6 : mv_look m_X9_execute.2.2.2.1 32 6 = some (.putfield 229, 0, []) := by decide +kernel
theorem i_X9_execute_9 : mv_look m_X9_execute.2.2.2.1 32 9 = some (.aload_n 0, 0, []) := by decide +kernel
theorem i_X9_execute_10 : mv_look m_X9_execute.2.2.2.1 32 10 = some (.aload_n 0, 0, []) := by decide +kernel
theorem i_X9_execute_11 : mv_look m_X9_execute.2.2.2.1 32 11 = some (.getfield 226, 0, []) := by decide +kernel
theorem i_X9_execute_14 : mv_look m_X9_execute.2.2.2.1 32 14 = some (.putfield 232, 0, []) := by decide +kernel
theorem i_X9_execute_17 : mv_look m_X9_execute.2.2.2.1 32 17 = some (.aload_n 0, 0, []) := by decide +kernel
theorem i_X9_execute_18 : mv_look m_X9_execute.2.2.2.1 32 18 = some (.iconst 0, 0, []) := by decide +kernel
theorem i_X9_execute_19 : mv_look m_X9_execute.2.2.2.1 32 19 = some (.putfield 226, 0, []) := by decide +kernel
theorem i_X9_execute_22 : mv_look m_X9_execute.2.2.2.1 32 22 = some (.aload_n 0, 0, []) := by decide +kernel
theorem i_X9_execute_23 : mv_look m_X9_execute.2.2.2.1 32 23 = some (.iconst 0, 0, []) := by decide +kernel
theorem i_X9_execute_24 : mv_look m_X9_execute.2.2.2.1 32 24 = some (.putfield 255, 0, []) := by decide +kernel
theorem i_X9_execute_27 : mv_look m_X9_execute.2.2.2.1 32 27 = some (.aload_n 0, 0, []) := by decide +kernel
theorem i_X9_execute_28 : mv_look m_X9_execute.2.2.2.1 32 28 = some (.iconst 0, 0, []) := by decide +kernel
theorem i_X9_execute_29 : mv_look m_X9_execute.2.2.2.1 32 29 = some (.putfield 240, 0, []) := by decide +kernel
theorem i_X9_execute_32 : mv_look m_X9_execute.2.2.2.1 32 32 = some (.aload_n 0, 0, []) := by decide +kernel
theorem i_X9_execute_33 : mv_look m_X9_execute.2.2.2.1 32 33 = some (.invokevirtual 291, 0, []) := by decide +kernel
theorem i_X9_execute_36 : mv_look m_X9_execute.2.2.2.1 32 36 = some (.aload_n 0, 0, []) := by decide +kernel
theorem i_X9_execute_37 : mv_look m_X9_execute.2.2.2.1 32 37 = some (.getfield 240, 0, []) := by decide +kernel
theorem i_X9_execute_40 : mv_look m_X9_execute.2.2.2.1 32 40 = some (.ifCond .ne 30, 70, []) := by decide +kernel
theorem i_X9_execute_43 : mv_look m_X9_execute.2.2.2.1 32 43 = some (.aload_n 0, 0, []) := by decide +kernel
theorem i_X9_execute_44 : mv_look m_X9_execute.2.2.2.1 32 44 = some (.iconst 0, 0, []) := by decide +kernel
theorem i_X9_execute_45 : mv_look m_X9_execute.2.2.2.1 32 45 = some (.invokevirtual 244, 0, []) := by decide +kernel
theorem i_X9_execute_48 : mv_look m_X9_execute.2.2.2.1 32 48 = some (.bipush 59, 0, []) := by decide +kernel
theorem i_X9_execute_50 : mv_look m_X9_execute.2.2.2.1 32 50 = some (.if_icmp .ne 20, 70, []) := by decide +kernel
theorem i_X9_execute_53 : mv_look m_X9_execute.2.2.2.1 32 53 = some (.aload_n 0, 0, []) := by decide +kernel
theorem i_X9_execute_54 : mv_look m_X9_execute.2.2.2.1 32 54 = some (.dup, 0, []) := by decide +kernel
theorem i_X9_execute_55 : mv_look m_X9_execute.2.2.2.1 32 55 = some (.getfield 229, 0, []) := by decide +kernel
theorem i_X9_execute_58 : mv_look m_X9_execute.2.2.2.1 32 58 = some (.iconst 1, 0, []) := by decide +kernel
theorem i_X9_execute_59 : mv_look m_X9_execute.2.2.2.1 32 59 = some (.iadd, 0, []) := by decide +kernel
theorem i_X9_execute_60 : mv_look m_X9_execute.2.2.2.1 32 60 = some (.putfield 229, 0, []) := by decide +kernel
theorem i_X9_execute_63 : mv_look m_X9_execute.2.2.2.1 32 63 = some (.aload_n 0, 0, []) := by decide +kernel
theorem i_X9_execute_64 : mv_look m_X9_execute.2.2.2.1 32 64 = some (.invokevirtual 291, 0, []) := by decide +kernel
theorem i_X9_execute_67 : mv_look m_X9_execute.2.2.2.1 32 67 = some (.goto (-31), 36, []) := by decide +kernel
theorem i_X9_execute_70 : mv_look m_X9_execute.2.2.2.1 32 70 = some (.aload_n 0, 0, []) := by decide +kernel
theorem i_X9_execute_71 : mv_look m_X9_execute.2.2.2.1 32 71 = some (.getfield 240, 0, []) := by decide +kernel
theorem i_X9_execute_74 : mv_look m_X9_execute.2.2.2.1 32 74 = some (.ifCond .ne 14, 88, []) := by decide +kernel
theorem i_X9_execute_77 : mv_look m_X9_execute.2.2.2.1 32 77 = some (.aload_n 0, 0, []) := by decide +kernel
theorem i_X9_execute_78 : mv_look m_X9_execute.2.2.2.1 32 78 = some (.getfield 229, 0, []) := by decide +kernel
theorem i_X9_execute_81 : mv_look m_X9_execute.2.2.2.1 32 81 = some (.aload_n 0, 0, []) := by decide +kernel
theorem i_X9_execute_82 : mv_look m_X9_execute.2.2.2.1 32 82 = some (.getfield 232, 0, []) := by decide +kernel
theorem i_X9_execute_85 : mv_look m_X9_execute.2.2.2.1 32 85 = some (.if_icmp .ge 17, 102, []) := by decide +kernel
theorem i_X9_execute_88 : mv_look m_X9_execute.2.2.2.1 32 88 = some (.aload_n 0, 0, []) := by decide +kernel
theorem i_X9_execute_89 : mv_look m_X9_execute.2.2.2.1 32 89 = some (.aload_n 0, 0, []) := by decide +kernel
theorem i_X9_execute_90 : mv_look m_X9_execute.2.2.2.1 32 90 = some (.getfield 229, 0, []) := by decide +kernel
theorem i_X9_execute_93 : mv_look m_X9_execute.2.2.2.1 32 93 = some (.putfield 46, 0, []) := by decide +kernel
theorem i_X9_execute_96 : mv_look m_X9_execute.2.2.2.1 32 96 = some (.aload_n 0, 0, []) := by decide +kernel
theorem i_X9_execute_97 : mv_look m_X9_execute.2.2.2.1 32 97 = some (.iconst 1, 0, []) := by decide +kernel
theorem i_X9_execute_98 : mv_look m_X9_execute.2.2.2.1 32 98 = some (.invokevirtual 72, 0, []) := by decide +kernel
theorem i_X9_execute_101 : mv_look m_X9_execute.2.2.2.1 32 101 = some (.ireturn, 0, []) := by decide +kernel
theorem i_X9_execute_102 : mv_look m_X9_execute.2.2.2.1 32 102 = some (.iconst 0, 0, []) := by decide +kernel
theorem i_X9_execute_103 : mv_look m_X9_execute.2.2.2.1 32 103 = some (.istore_n 1, 0, []) := by decide +kernel
theorem i_X9_execute_104 : mv_look m_X9_execute.2.2.2.1 32 104 = some (.iload_n 1, 0, []) := by decide +kernel
theorem i_X9_execute_105 : mv_look m_X9_execute.2.2.2.1 32 105 = some (.aload_n 0, 0, []) := by decide +kernel
theorem i_X9_execute_106 : mv_look m_X9_execute.2.2.2.1 32 106 = some (.getfield 255, 0, []) := by decide +kernel
theorem i_X9_execute_109 : mv_look m_X9_execute.2.2.2.1 32 109 = some (.if_icmp .ge 78, 187, []) := by decide +kernel
theorem i_X9_execute_112 : mv_look m_X9_execute.2.2.2.1 32 112 = some (.aload_n 0, 0, []) := by decide +kernel
theorem i_X9_execute_113 : mv_look m_X9_execute.2.2.2.1 32 113 = some (.iload_n 1, 0, []) := by decide +kernel
theorem i_X9_execute_114 : mv_look m_X9_execute.2.2.2.1 32 114 = some (.invokevirtual 294, 0, []) := by decide +kernel
theorem i_X9_execute_117 : mv_look m_X9_execute.2.2.2.1 32 117 = some (.istore_n 2, 0, []) := by decide +kernel
theorem i_X9_execute_118 : mv_look m_X9_execute.2.2.2.1 32 118 = some (.iload_n 2, 0, []) := by decide +kernel
theorem i_X9_execute_119 : mv_look m_X9_execute.2.2.2.1 32 119 = some (.ifCond .ne 6, 125, []) := by decide +kernel
theorem i_X9_execute_122 : mv_look m_X9_execute.2.2.2.1 32 122 = some (.goto 59, 181, []) := by decide +kernel
theorem i_X9_execute_125 : mv_look m_X9_execute.2.2.2.1 32 125 = some (.iconst 0, 0, []) := by decide +kernel
theorem i_X9_execute_126 : mv_look m_X9_execute.2.2.2.1 32 126 = some (.istore_n 3, 0, []) := by decide +kernel
theorem i_X9_execute_127 : mv_look m_X9_execute.2.2.2.1 32 127 = some (.iload_n 3, 0, []) := by decide +kernel
theorem i_X9_execute_128 : mv_look m_X9_execute.2.2.2.1 32 128 = some (.sipush 158, 0, []) := by decide +kernel
theorem i_X9_execute_131 : mv_look m_X9_execute.2.2.2.1 32 131 = some (.if_icmp .ge 21, 152, []) := by decide +kernel
theorem i_X9_execute_134 : mv_look m_X9_execute.2.2.2.1 32 134 = some (.aload_n 0, 0, []) := by decide +kernel
theorem i_X9_execute_135 : mv_look m_X9_execute.2.2.2.1 32 135 = some (.getfield 7, 0, []) := by decide +kernel
theorem i_X9_execute_138 : mv_look m_X9_execute.2.2.2.1 32 138 = some (.iload_n 3, 0, []) := by decide +kernel
theorem i_X9_execute_139 : mv_look m_X9_execute.2.2.2.1 32 139 = some (.aload_n 0, 0, []) := by decide +kernel
theorem i_X9_execute_140 : mv_look m_X9_execute.2.2.2.1 32 140 = some (.getfield 13, 0, []) := by decide +kernel
theorem i_X9_execute_143 : mv_look m_X9_execute.2.2.2.1 32 143 = some (.iload_n 3, 0, []) := by decide +kernel
theorem i_X9_execute_144 : mv_look m_X9_execute.2.2.2.1 32 144 = some (.iaload, 0, []) := by decide +kernel
theorem i_X9_execute_145 : mv_look m_X9_execute.2.2.2.1 32 145 = some (.iastore, 0, []) := by decide +kernel
theorem i_X9_execute_146 : mv_look m_X9_execute.2.2.2.1 32 146 = some (.iinc 3 1, 0, []) := by decide +kernel
theorem i_X9_execute_149 : mv_look m_X9_execute.2.2.2.1 32 149 = some (.goto (-22), 127, []) := by decide +kernel
theorem i_X9_execute_152 : mv_look m_X9_execute.2.2.2.1 32 152 = some (.aload_n 0, 0, []) := by decide +kernel
theorem i_X9_execute_153 : mv_look m_X9_execute.2.2.2.1 32 153 = some (.bipush 6, 0, []) := by decide +kernel
theorem i_X9_execute_155 : mv_look m_X9_execute.2.2.2.1 32 155 = some (.iload_n 1, 0, []) := by decide +kernel
theorem i_X9_execute_156 : mv_look m_X9_execute.2.2.2.1 32 156 = some (.invokevirtual 136, 0, []) := by decide +kernel
theorem i_X9_execute_159 : mv_look m_X9_execute.2.2.2.1 32 159 = some (.istore_n 3, 0, []) := by decide +kernel
theorem i_X9_execute_160 : mv_look m_X9_execute.2.2.2.1 32 160 = some (.aload_n 0, 0, []) := by decide +kernel
theorem i_X9_execute_161 : mv_look m_X9_execute.2.2.2.1 32 161 = some (.iload_n 2, 0, []) := by decide +kernel
theorem i_X9_execute_162 : mv_look m_X9_execute.2.2.2.1 32 162 = some (.ifCond .ge 8, 170, []) := by decide +kernel
theorem i_X9_execute_165 : mv_look m_X9_execute.2.2.2.1 32 165 = some (.iload_n 2, 0, []) := by decide +kernel
theorem i_X9_execute_166 : mv_look m_X9_execute.2.2.2.1 32 166 = some (.ineg, 0, []) := by decide +kernel
theorem i_X9_execute_167 : mv_look m_X9_execute.2.2.2.1 32 167 = some (.goto 5, 172, []) := by decide +kernel
theorem i_X9_execute_170 : mv_look m_X9_execute.2.2.2.1 32 170 = some (.bipush 7, 0, []) := by decide +kernel
theorem i_X9_execute_172 : mv_look m_X9_execute.2.2.2.1 32 172 = some (.putfield 65, 0, []) := by decide +kernel
theorem i_X9_execute_175 : mv_look m_X9_execute.2.2.2.1 32 175 = some (.aload_n 0, 0, []) := by decide +kernel
theorem i_X9_execute_176 : mv_look m_X9_execute.2.2.2.1 32 176 = some (.iconst 2, 0, []) := by decide +kernel
theorem i_X9_execute_177 : mv_look m_X9_execute.2.2.2.1 32 177 = some (.invokevirtual 72, 0, []) := by decide +kernel
theorem i_X9_execute_180 : mv_look m_X9_execute.2.2.2.1 32 180 = some (.ireturn, 0, []) := by decide +kernel
theorem i_X9_execute_181 : mv_look m_X9_execute.2.2.2.1 32 181 = some (.iinc 1 1, 0, []) := by decide +kernel
theorem i_X9_execute_184 : mv_look m_X9_execute.2.2.2.1 32 184 = some (.goto (-80), 104, []) := by decide +kernel
theorem i_X9_execute_187 : mv_look m_X9_execute.2.2.2.1 32 187 = some (.aload_n 0, 0, []) := by decide +kernel
theorem i_X9_execute_188 : mv_look m_X9_execute.2.2.2.1 32 188 = some (.aload_n 0, 0, []) := by decide +kernel
theorem i_X9_execute_189 : mv_look m_X9_execute.2.2.2.1 32 189 = some (.getfield 255, 0, []) := by decide +kernel
theorem i_X9_execute_192 : mv_look m_X9_execute.2.2.2.1 32 192 = some (.invokevirtual 68, 0, []) := by decide +kernel
theorem i_X9_execute_195 : mv_look m_X9_execute.2.2.2.1 32 195 = some (.ireturn, 0, []) := by decide +kernel
theorem bk_X9_execute_0 (X : mv_X) (call : mv_G) (h : mv_H) (a0 : Nat) : mv_run X call m_X9_execute 0 [.ref a0, .retAddr 0, .retAddr 0, .retAddr 0] [] h =
  mv_rcv X h [.ref a0] 13 (mv_clV call 151 [.ref a0] h mv_raise fun h1 =>
  mv_pf h1 a0 13 23 (.int (nZ 0)) fun h2 =>
  mv_gI X h2 a0 13 15 fun x1 =>
  mv_pf h2 a0 13 24 (.int x1) fun h3 =>
  mv_pf h3 a0 13 15 (.int (nZ 0)) fun h4 =>
  mv_pf h4 a0 13 25 (.int (nZ 0)) fun h5 =>
  mv_chk (mv_ok 6 (nZ 0)) (mv_pf h5 a0 13 26 (.int (nZ 0)) fun h6 =>
  mv_rcv X h6 [.ref a0] 13 (mv_clV call 238 [.ref a0] h6 mv_raise fun h7 =>
  mv_run X call m_X9_execute 36 [.ref a0, .retAddr 0, .retAddr 0, .retAddr 0] [] h7))) :=
  (s_aload_n i_X9_execute_0 rfl).trans <| (s_v0 [.ref a0] [] i_X9_execute_1 rfl (fun _ => rfl)).trans <| c_rcv <| c_clV fun h1 => (s_aload_n i_X9_execute_4 rfl).trans <| (s_iconst i_X9_execute_5).trans <| (s_pf1 i_X9_execute_6 rfl).trans <| c_pf fun h2 => (s_aload_n i_X9_execute_9 rfl).trans <| (s_aload_n i_X9_execute_10 rfl).trans <| (s_gf1 i_X9_execute_11 rfl).trans <| c_gI fun x1 => (s_pf1 i_X9_execute_14 rfl).trans <| c_pf fun h3 => (s_aload_n i_X9_execute_17 rfl).trans <| (s_iconst i_X9_execute_18).trans <| (s_pf1 i_X9_execute_19 rfl).trans <| c_pf fun h4 => (s_aload_n i_X9_execute_22 rfl).trans <| (s_iconst i_X9_execute_23).trans <| (s_pf1 i_X9_execute_24 rfl).trans <| c_pf fun h5 => (s_aload_n i_X9_execute_27 rfl).trans <| (s_iconst i_X9_execute_28).trans <| (s_pf6 i_X9_execute_29 rfl).trans <| c_chk <| c_pf fun h6 => (s_aload_n i_X9_execute_32 rfl).trans <| (s_v0 [.ref a0] [] i_X9_execute_33 rfl (fun _ => rfl)).trans <| c_rcv <| c_clV fun h7 => rfl
theorem bk_X9_execute_36 (X : mv_X) (call : mv_G) (h : mv_H) (a0 : Nat) : mv_run X call m_X9_execute 36 [.ref a0, .retAddr 0, .retAddr 0, .retAddr 0] [] h =
  mv_gI X h a0 13 26 fun x1 =>
  if x1 = 0 then 
  (mv_rcv X h [.ref a0, .int (nZ 0)] 13 (mv_clI call 234 [.ref a0, .int (nZ 0)] h mv_raise fun x2 h1 =>
    if x2 = (nZ 59) then 
    (mv_gI X h1 a0 13 23 fun x3 =>
      mv_pf h1 a0 13 23 (.int (x3 + (nZ 1))) fun h2 =>
      mv_rcv X h2 [.ref a0] 13 (mv_clV call 238 [.ref a0] h2 mv_raise fun h3 =>
      mv_run X call m_X9_execute 36 [.ref a0, .retAddr 0, .retAddr 0, .retAddr 0] [] h3))
    else (mv_gI X h1 a0 13 26 fun x4 =>
      if x4 = 0 then 
      (mv_gI X h1 a0 13 23 fun x5 =>
        mv_gI X h1 a0 13 24 fun x6 =>
        if x6 ≤ x5 then 
        (mv_run X call m_X9_execute 104 [.ref a0, .int (nZ 0), .retAddr 0, .retAddr 0] [] h1)
        else (mv_gI X h1 a0 13 23 fun x7 =>
          mv_pf h1 a0 13 17 (.int x7) fun h4 =>
          mv_rcv X h4 [.ref a0, .int (nZ 1)] 13 (mv_clI call 149 [.ref a0, .int (nZ 1)] h4 mv_raise fun x8 h5 =>
          (some (.inl (some (.int x8)), h5)))))
      else (mv_gI X h1 a0 13 23 fun x9 =>
        mv_pf h1 a0 13 17 (.int x9) fun h6 =>
        mv_rcv X h6 [.ref a0, .int (nZ 1)] 13 (mv_clI call 149 [.ref a0, .int (nZ 1)] h6 mv_raise fun x10 h7 =>
        (some (.inl (some (.int x10)), h7)))))))
  else (mv_gI X h a0 13 26 fun x11 =>
    if x11 = 0 then 
    (mv_gI X h a0 13 23 fun x12 =>
      mv_gI X h a0 13 24 fun x13 =>
      if x13 ≤ x12 then 
      (mv_run X call m_X9_execute 104 [.ref a0, .int (nZ 0), .retAddr 0, .retAddr 0] [] h)
      else (mv_gI X h a0 13 23 fun x14 =>
        mv_pf h a0 13 17 (.int x14) fun h8 =>
        mv_rcv X h8 [.ref a0, .int (nZ 1)] 13 (mv_clI call 149 [.ref a0, .int (nZ 1)] h8 mv_raise fun x15 h9 =>
        (some (.inl (some (.int x15)), h9)))))
    else (mv_gI X h a0 13 23 fun x16 =>
      mv_pf h a0 13 17 (.int x16) fun h10 =>
      mv_rcv X h10 [.ref a0, .int (nZ 1)] 13 (mv_clI call 149 [.ref a0, .int (nZ 1)] h10 mv_raise fun x17 h11 =>
      (some (.inl (some (.int x17)), h11))))) :=
  (s_aload_n i_X9_execute_36 rfl).trans <| (s_gf6 i_X9_execute_37 rfl).trans <| c_gI fun x1 => (s_if_ne i_X9_execute_40).trans <| c_ite ((s_aload_n i_X9_execute_43 rfl).trans <| (s_iconst i_X9_execute_44).trans <| (s_v1 [.ref a0, .int (nZ 0)] [] i_X9_execute_45 rfl (fun _ => rfl)).trans <| c_rcv <| c_clI fun x2 h1 => (s_bipush i_X9_execute_48).trans <| (s_icmp_ne i_X9_execute_50).trans <| c_ite ((s_aload_n i_X9_execute_53 rfl).trans <| (s_dupR i_X9_execute_54).trans <| (s_gf1 i_X9_execute_55 rfl).trans <| c_gI fun x3 => (s_iconst i_X9_execute_58).trans <| (s_iadd i_X9_execute_59).trans <| (s_pf1 i_X9_execute_60 rfl).trans <| c_pf fun h2 => (s_aload_n i_X9_execute_63 rfl).trans <| (s_v0 [.ref a0] [] i_X9_execute_64 rfl (fun _ => rfl)).trans <| c_rcv <| c_clV fun h3 => (s_goto i_X9_execute_67).trans <| rfl) ((s_aload_n i_X9_execute_70 rfl).trans <| (s_gf6 i_X9_execute_71 rfl).trans <| c_gI fun x4 => (s_if_ne i_X9_execute_74).trans <| c_ite ((s_aload_n i_X9_execute_77 rfl).trans <| (s_gf1 i_X9_execute_78 rfl).trans <| c_gI fun x5 => (s_aload_n i_X9_execute_81 rfl).trans <| (s_gf1 i_X9_execute_82 rfl).trans <| c_gI fun x6 => (s_icmp_ge i_X9_execute_85).trans <| c_ite ((s_iconst i_X9_execute_102).trans <| (s_istore_n (ls2 := [.ref a0, .int (nZ 0), .retAddr 0, .retAddr 0]) i_X9_execute_103 (fun _ => rfl)).trans <| rfl) ((s_aload_n i_X9_execute_88 rfl).trans <| (s_aload_n i_X9_execute_89 rfl).trans <| (s_gf1 i_X9_execute_90 rfl).trans <| c_gI fun x7 => (s_pf1 i_X9_execute_93 rfl).trans <| c_pf fun h4 => (s_aload_n i_X9_execute_96 rfl).trans <| (s_iconst i_X9_execute_97).trans <| (s_v1 [.ref a0, .int (nZ 1)] [] i_X9_execute_98 rfl (fun _ => rfl)).trans <| c_rcv <| c_clI fun x8 h5 => s_iret1 i_X9_execute_101 rfl)) ((s_aload_n i_X9_execute_88 rfl).trans <| (s_aload_n i_X9_execute_89 rfl).trans <| (s_gf1 i_X9_execute_90 rfl).trans <| c_gI fun x9 => (s_pf1 i_X9_execute_93 rfl).trans <| c_pf fun h6 => (s_aload_n i_X9_execute_96 rfl).trans <| (s_iconst i_X9_execute_97).trans <| (s_v1 [.ref a0, .int (nZ 1)] [] i_X9_execute_98 rfl (fun _ => rfl)).trans <| c_rcv <| c_clI fun x10 h7 => s_iret1 i_X9_execute_101 rfl))) ((s_aload_n i_X9_execute_70 rfl).trans <| (s_gf6 i_X9_execute_71 rfl).trans <| c_gI fun x11 => (s_if_ne i_X9_execute_74).trans <| c_ite ((s_aload_n i_X9_execute_77 rfl).trans <| (s_gf1 i_X9_execute_78 rfl).trans <| c_gI fun x12 => (s_aload_n i_X9_execute_81 rfl).trans <| (s_gf1 i_X9_execute_82 rfl).trans <| c_gI fun x13 => (s_icmp_ge i_X9_execute_85).trans <| c_ite ((s_iconst i_X9_execute_102).trans <| (s_istore_n (ls2 := [.ref a0, .int (nZ 0), .retAddr 0, .retAddr 0]) i_X9_execute_103 (fun _ => rfl)).trans <| rfl) ((s_aload_n i_X9_execute_88 rfl).trans <| (s_aload_n i_X9_execute_89 rfl).trans <| (s_gf1 i_X9_execute_90 rfl).trans <| c_gI fun x14 => (s_pf1 i_X9_execute_93 rfl).trans <| c_pf fun h8 => (s_aload_n i_X9_execute_96 rfl).trans <| (s_iconst i_X9_execute_97).trans <| (s_v1 [.ref a0, .int (nZ 1)] [] i_X9_execute_98 rfl (fun _ => rfl)).trans <| c_rcv <| c_clI fun x15 h9 => s_iret1 i_X9_execute_101 rfl)) ((s_aload_n i_X9_execute_88 rfl).trans <| (s_aload_n i_X9_execute_89 rfl).trans <| (s_gf1 i_X9_execute_90 rfl).trans <| c_gI fun x16 => (s_pf1 i_X9_execute_93 rfl).trans <| c_pf fun h10 => (s_aload_n i_X9_execute_96 rfl).trans <| (s_iconst i_X9_execute_97).trans <| (s_v1 [.ref a0, .int (nZ 1)] [] i_X9_execute_98 rfl (fun _ => rfl)).trans <| c_rcv <| c_clI fun x17 h11 => s_iret1 i_X9_execute_101 rfl))
theorem bk_X9_execute_104 (X : mv_X) (call : mv_G) (h : mv_H) (a0 : Nat) (v1 : Int32) (j2 : Value) : mv_run X call m_X9_execute 104 [.ref a0, .int v1, j2, .retAddr 0] [] h =
  mv_gI X h a0 13 25 fun x1 =>
  if x1 ≤ v1 then 
  (mv_gI X h a0 13 25 fun x2 =>
    mv_rcv X h [.ref a0, .int x2] 13 (mv_clI call 152 [.ref a0, .int x2] h mv_raise fun x3 h1 =>
    (some (.inl (some (.int x3)), h1))))
  else (mv_rcv X h [.ref a0, .int v1] 13 (mv_clI call 239 [.ref a0, .int v1] h mv_raise fun x4 h2 =>
    if x4 = 0 then 
    (mv_run X call m_X9_execute 104 [.ref a0, .int (v1 + nZ 1), .int x4, .retAddr 0] [] h2)
    else (mv_run X call m_X9_execute 127 [.ref a0, .int v1, .int x4, .int (nZ 0)] [] h2))) :=
  (s_iload_n i_X9_execute_104 rfl).trans <| (s_aload_n i_X9_execute_105 rfl).trans <| (s_gf1 i_X9_execute_106 rfl).trans <| c_gI fun x1 => (s_icmp_ge i_X9_execute_109).trans <| c_ite ((s_aload_n i_X9_execute_187 rfl).trans <| (s_aload_n i_X9_execute_188 rfl).trans <| (s_gf1 i_X9_execute_189 rfl).trans <| c_gI fun x2 => (s_v1 [.ref a0, .int x2] [] i_X9_execute_192 rfl (fun _ => rfl)).trans <| c_rcv <| c_clI fun x3 h1 => s_iret1 i_X9_execute_195 rfl) ((s_aload_n i_X9_execute_112 rfl).trans <| (s_iload_n i_X9_execute_113 rfl).trans <| (s_v1 [.ref a0, .int v1] [] i_X9_execute_114 rfl (fun _ => rfl)).trans <| c_rcv <| c_clI fun x4 h2 => (s_istore_n (ls2 := [.ref a0, .int v1, .int x4, .retAddr 0]) i_X9_execute_117 (fun _ => rfl)).trans <| (s_iload_n i_X9_execute_118 rfl).trans <| (s_if_ne i_X9_execute_119).trans <| c_ite ((s_goto i_X9_execute_122).trans <| (s_iinc (ls2 := [.ref a0, .int (v1 + nZ 1), .int x4, .retAddr 0]) i_X9_execute_181 rfl (fun _ => rfl)).trans <| (s_goto i_X9_execute_184).trans <| rfl) ((s_iconst i_X9_execute_125).trans <| (s_istore_n (ls2 := [.ref a0, .int v1, .int x4, .int (nZ 0)]) i_X9_execute_126 (fun _ => rfl)).trans <| rfl))
theorem bk_X9_execute_127 (X : mv_X) (call : mv_G) (h : mv_H) (a0 : Nat) (v1 : Int32) (v2 : Int32) (v3 : Int32) : mv_run X call m_X9_execute 127 [.ref a0, .int v1, .int v2, .int v3] [] h =
  if (nZ 158) ≤ v3 then 
  (mv_rcv X h [.ref a0, .int (nZ 6), .int v1] 13 (mv_clI call 154 [.ref a0, .int (nZ 6), .int v1] h mv_raise fun x1 h1 =>
    if 0 ≤ v2 then 
    (mv_pf h1 a0 13 21 (.int (nZ 7)) fun h2 =>
      mv_rcv X h2 [.ref a0, .int (nZ 2)] 13 (mv_clI call 149 [.ref a0, .int (nZ 2)] h2 mv_raise fun x2 h3 =>
      (some (.inl (some (.int x2)), h3))))
    else (mv_pf h1 a0 13 21 (.int (-v2)) fun h4 =>
      mv_rcv X h4 [.ref a0, .int (nZ 2)] 13 (mv_clI call 149 [.ref a0, .int (nZ 2)] h4 mv_raise fun x3 h5 =>
      (some (.inl (some (.int x3)), h5))))))
  else (mv_gR X h a0 13 1 fun r1 =>
    mv_gR X h a0 13 2 fun r2 =>
    mv_aI X h 1 r2 v3 fun x4 =>
    mv_as h 1 r1 v3 (.int x4) fun h6 =>
    mv_run X call m_X9_execute 127 [.ref a0, .int v1, .int v2, .int (v3 + nZ 1)] [] h6) :=
  (s_iload_n i_X9_execute_127 rfl).trans <| (s_sipush i_X9_execute_128).trans <| (s_icmp_ge i_X9_execute_131).trans <| c_ite ((s_aload_n i_X9_execute_152 rfl).trans <| (s_bipush i_X9_execute_153).trans <| (s_iload_n i_X9_execute_155 rfl).trans <| (s_v1 [.ref a0, .int (nZ 6), .int v1] [] i_X9_execute_156 rfl (fun _ => rfl)).trans <| c_rcv <| c_clI fun x1 h1 => (s_istore_n (ls2 := [.ref a0, .int v1, .int v2, .int x1]) i_X9_execute_159 (fun _ => rfl)).trans <| (s_aload_n i_X9_execute_160 rfl).trans <| (s_iload_n i_X9_execute_161 rfl).trans <| (s_if_ge i_X9_execute_162).trans <| c_ite ((s_bipush i_X9_execute_170).trans <| (s_pf1 i_X9_execute_172 rfl).trans <| c_pf fun h2 => (s_aload_n i_X9_execute_175 rfl).trans <| (s_iconst i_X9_execute_176).trans <| (s_v1 [.ref a0, .int (nZ 2)] [] i_X9_execute_177 rfl (fun _ => rfl)).trans <| c_rcv <| c_clI fun x2 h3 => s_iret1 i_X9_execute_180 rfl) ((s_iload_n i_X9_execute_165 rfl).trans <| (s_ineg i_X9_execute_166).trans <| (s_goto i_X9_execute_167).trans <| (s_pf1 i_X9_execute_172 rfl).trans <| c_pf fun h4 => (s_aload_n i_X9_execute_175 rfl).trans <| (s_iconst i_X9_execute_176).trans <| (s_v1 [.ref a0, .int (nZ 2)] [] i_X9_execute_177 rfl (fun _ => rfl)).trans <| c_rcv <| c_clI fun x3 h5 => s_iret1 i_X9_execute_180 rfl)) ((s_aload_n i_X9_execute_134 rfl).trans <| (s_gf2 i_X9_execute_135 rfl).trans <| c_gR fun r1 => (s_iload_n i_X9_execute_138 rfl).trans <| (s_aload_n i_X9_execute_139 rfl).trans <| (s_gf2 i_X9_execute_140 rfl).trans <| c_gR fun r2 => (s_iload_n i_X9_execute_143 rfl).trans <| (s_iaload i_X9_execute_144).trans <| c_aI fun x4 => (s_iastore i_X9_execute_145).trans <| c_as fun h6 => (s_iinc (ls2 := [.ref a0, .int v1, .int v2, .int (v3 + nZ 1)]) i_X9_execute_146 rfl (fun _ => rfl)).trans <| (s_goto i_X9_execute_149).trans <| rfl)
theorem mc_X9_faultPosition (X : mv_X) (d : Nat) (h : mv_H) (a0 : Nat) : mv_call X (d + 1) 241 [.ref a0] h = mv_run X (mv_call X d) m_X9_faultPosition 0 [.ref a0] [] h := rfl
theorem bk_X9_faultPosition_0 (X : mv_X) (call : mv_G) (h : mv_H) (a0 : Nat) : mv_run X call m_X9_faultPosition 0 [.ref a0] [] h =
  mv_pf h a0 13 0 (.int (nZ 0)) fun h1 =>
  mv_gI X h1 a0 13 17 fun x1 =>
  if x1 = (nZ (-1)) then 
  (mv_rcv X h1 [.ref a0, .int (nZ 1)] 13 (mv_clI call 149 [.ref a0, .int (nZ 1)] h1 mv_raise fun x2 h2 =>
    (some (.inl (some (.int x2)), h2))))
  else (mv_gI X h1 a0 13 17 fun x3 =>
    (some (.inl (some (.int x3)), h1))) :=
  (s_aload_n rfl rfl).trans <| (s_iconst rfl).trans <| (s_pf1 rfl rfl).trans <| c_pf fun h1 => (s_aload_n rfl rfl).trans <| (s_gf1 rfl rfl).trans <| c_gI fun x1 => (s_iconst rfl).trans <| (s_icmp_ne rfl).trans <| c_ite ((s_aload_n rfl rfl).trans <| (s_iconst rfl).trans <| (s_v1 [.ref a0, .int (nZ 1)] [] rfl rfl (fun _ => rfl)).trans <| c_rcv <| c_clI fun x2 h2 => (s_goto rfl).trans <| s_iret1 rfl rfl) ((s_aload_n rfl rfl).trans <| (s_gf1 rfl rfl).trans <| c_gI fun x3 => s_iret1 rfl rfl)
theorem mc_X9_writes (X : mv_X) (d : Nat) (h : mv_H) (a0 : Nat) (v1 : Int32) : mv_call X (d + 1) 242 [.ref a0, .int v1] h = mv_run X (mv_call X d) m_X9_writes 0 [.ref a0, .int v1] [] h := rfl
theorem bk_X9_writes_0 (X : mv_X) (call : mv_G) (h : mv_H) (a0 : Nat) (v1 : Int32) : mv_run X call m_X9_writes 0 [.ref a0, .int v1] [] h =
  mv_gR X h a0 13 10 fun r1 =>
  mv_gI X h a0 13 16 fun x1 =>
  mv_as h 1 r1 x1 (.int v1) fun h1 =>
  mv_gI X h1 a0 13 16 fun x2 =>
  mv_pf h1 a0 13 16 (.int (x2 + (nZ 1))) fun h2 =>
  (some (.inl none, h2)) :=
  (s_aload_n rfl rfl).trans <| (s_gf2 rfl rfl).trans <| c_gR fun r1 => (s_aload_n rfl rfl).trans <| (s_gf1 rfl rfl).trans <| c_gI fun x1 => (s_iload_n rfl rfl).trans <| (s_iastore rfl).trans <| c_as fun h1 => (s_aload_n rfl rfl).trans <| (s_dupR rfl).trans <| (s_gf1 rfl rfl).trans <| c_gI fun x2 => (s_iconst rfl).trans <| (s_iadd rfl).trans <| (s_pf1 rfl rfl).trans <| c_pf fun h2 => s_ret rfl rfl
theorem mc_X9_writesNumber (X : mv_X) (d : Nat) (h : mv_H) (a0 : Nat) (v1 : Int32) : mv_call X (d + 1) 243 [.ref a0, .int v1] h = mv_run X (mv_call X d) m_X9_writesNumber 0 [.ref a0, .int v1] [] h := rfl
theorem bk_X9_writesNumber_0 (X : mv_X) (call : mv_G) (h : mv_H) (a0 : Nat) (v1 : Int32) : mv_run X call m_X9_writesNumber 0 [.ref a0, .int v1] [] h =
  if v1 ≤ (nZ 9) then 
  (if (nZ 10) = 0 then none else 
    mv_rcv X h [.ref a0, .int ((nZ 48) + (v1 - v1 / (nZ 10) * (nZ 10)))] 13 (mv_clV call 242 [.ref a0, .int ((nZ 48) + (v1 - v1 / (nZ 10) * (nZ 10)))] h mv_raise fun h1 =>
    (some (.inl none, h1))))
  else (if (nZ 10) = 0 then none else 
    mv_rcv X h [.ref a0, .int ((nZ 48) + (v1 / (nZ 10)))] 13 (mv_clV call 242 [.ref a0, .int ((nZ 48) + (v1 / (nZ 10)))] h mv_raise fun h2 =>
    if (nZ 10) = 0 then none else 
    mv_rcv X h2 [.ref a0, .int ((nZ 48) + (v1 - v1 / (nZ 10) * (nZ 10)))] 13 (mv_clV call 242 [.ref a0, .int ((nZ 48) + (v1 - v1 / (nZ 10) * (nZ 10)))] h2 mv_raise fun h3 =>
    (some (.inl none, h3))))) :=
  (s_iload_n rfl rfl).trans <| (s_bipush rfl).trans <| (s_icmp_le rfl).trans <| c_ite ((s_aload_n rfl rfl).trans <| (s_bipush rfl).trans <| (s_iload_n rfl rfl).trans <| (s_bipush rfl).trans <| (s_irem rfl).trans <| c_ite rfl <| (s_iadd rfl).trans <| (s_v0 [.ref a0, .int ((nZ 48) + (v1 - v1 / (nZ 10) * (nZ 10)))] [] rfl rfl (fun _ => rfl)).trans <| c_rcv <| c_clV fun h1 => s_ret rfl rfl) ((s_aload_n rfl rfl).trans <| (s_bipush rfl).trans <| (s_iload_n rfl rfl).trans <| (s_bipush rfl).trans <| (s_idiv rfl).trans <| c_ite rfl <| (s_iadd rfl).trans <| (s_v0 [.ref a0, .int ((nZ 48) + (v1 / (nZ 10)))] [] rfl rfl (fun _ => rfl)).trans <| c_rcv <| c_clV fun h2 => (s_aload_n rfl rfl).trans <| (s_bipush rfl).trans <| (s_iload_n rfl rfl).trans <| (s_bipush rfl).trans <| (s_irem rfl).trans <| c_ite rfl <| (s_iadd rfl).trans <| (s_v0 [.ref a0, .int ((nZ 48) + (v1 - v1 / (nZ 10) * (nZ 10)))] [] rfl rfl (fun _ => rfl)).trans <| c_rcv <| c_clV fun h3 => s_ret rfl rfl)
theorem mc_X9_writeBalloon (X : mv_X) (d : Nat) (h : mv_H) (a0 : Nat) (v1 : Int32) : mv_call X (d + 1) 244 [.ref a0, .int v1] h = mv_run X (mv_call X d) m_X9_writeBalloon 0 [.ref a0, .int v1, .retAddr 0] [] h := rfl
theorem bk_X9_writeBalloon_0 (X : mv_X) (call : mv_G) (h : mv_H) (a0 : Nat) (v1 : Int32) : mv_run X call m_X9_writeBalloon 0 [.ref a0, .int v1, .retAddr 0] [] h =
  mv_rcv X h [.ref a0, .int v1] 13 (mv_clI call 198 [.ref a0, .int v1] h mv_raise fun x1 h1 =>
  if x1 = 0 then 
  ((some (.inl (some (.int (nZ 0))), h1)))
  else (mv_pf h1 a0 13 16 (.int (nZ 0)) fun h2 =>
    mv_rcv X h2 [.ref a0, .int v1] 13 (mv_clV call 243 [.ref a0, .int v1] h2 mv_raise fun h3 =>
    mv_rcv X h3 [.ref a0, .int (nZ 58)] 13 (mv_clV call 242 [.ref a0, .int (nZ 58)] h3 mv_raise fun h4 =>
    mv_rcv X h4 [.ref a0, .int v1] 13 (mv_clI call 167 [.ref a0, .int v1] h4 mv_raise fun x2 h5 =>
    mv_rcv X h5 [.ref a0, .int x2] 13 (mv_clV call 243 [.ref a0, .int x2] h5 mv_raise fun h6 =>
    mv_rcv X h6 [.ref a0, .int (nZ 47)] 13 (mv_clV call 242 [.ref a0, .int (nZ 47)] h6 mv_raise fun h7 =>
    mv_rcv X h7 [.ref a0, .int v1, .int (nZ 2)] 13 (mv_clI call 158 [.ref a0, .int v1, .int (nZ 2)] h7 mv_raise fun x3 h8 =>
    mv_rcv X h8 [.ref a0, .int x3] 13 (mv_clV call 243 [.ref a0, .int x3] h8 mv_raise fun h9 =>
    mv_rcv X h9 [.ref a0, .int v1] 13 (mv_clI call 168 [.ref a0, .int v1] h9 mv_raise fun x4 h10 =>
    if x4 = 0 then 
    (mv_run X call m_X9_writeBalloon 67 [.ref a0, .int v1, .int (nZ 0)] [] h10)
    else (mv_rcv X h10 [.ref a0, .int (nZ 33)] 13 (mv_clV call 242 [.ref a0, .int (nZ 33)] h10 mv_raise fun h11 =>
      mv_run X call m_X9_writeBalloon 67 [.ref a0, .int v1, .int (nZ 0)] [] h11)))))))))))) :=
  (s_aload_n rfl rfl).trans <| (s_iload_n rfl rfl).trans <| (s_v1 [.ref a0, .int v1] [] rfl rfl (fun _ => rfl)).trans <| c_rcv <| c_clI fun x1 h1 => (s_if_ne rfl).trans <| c_ite ((s_iconst rfl).trans <| s_iret1 rfl rfl) ((s_aload_n rfl rfl).trans <| (s_iconst rfl).trans <| (s_pf1 rfl rfl).trans <| c_pf fun h2 => (s_aload_n rfl rfl).trans <| (s_iload_n rfl rfl).trans <| (s_v0 [.ref a0, .int v1] [] rfl rfl (fun _ => rfl)).trans <| c_rcv <| c_clV fun h3 => (s_aload_n rfl rfl).trans <| (s_bipush rfl).trans <| (s_v0 [.ref a0, .int (nZ 58)] [] rfl rfl (fun _ => rfl)).trans <| c_rcv <| c_clV fun h4 => (s_aload_n rfl rfl).trans <| (s_aload_n rfl rfl).trans <| (s_iload_n rfl rfl).trans <| (s_v1 [.ref a0, .int v1] [.ref a0] rfl rfl (fun _ => rfl)).trans <| c_rcv <| c_clI fun x2 h5 => (s_v0 [.ref a0, .int x2] [] rfl rfl (fun _ => rfl)).trans <| c_rcv <| c_clV fun h6 => (s_aload_n rfl rfl).trans <| (s_bipush rfl).trans <| (s_v0 [.ref a0, .int (nZ 47)] [] rfl rfl (fun _ => rfl)).trans <| c_rcv <| c_clV fun h7 => (s_aload_n rfl rfl).trans <| (s_aload_n rfl rfl).trans <| (s_iload_n rfl rfl).trans <| (s_iconst rfl).trans <| (s_v1 [.ref a0, .int v1, .int (nZ 2)] [.ref a0] rfl rfl (fun _ => rfl)).trans <| c_rcv <| c_clI fun x3 h8 => (s_v0 [.ref a0, .int x3] [] rfl rfl (fun _ => rfl)).trans <| c_rcv <| c_clV fun h9 => (s_aload_n rfl rfl).trans <| (s_iload_n rfl rfl).trans <| (s_v1 [.ref a0, .int v1] [] rfl rfl (fun _ => rfl)).trans <| c_rcv <| c_clI fun x4 h10 => (s_if_eq rfl).trans <| c_ite ((s_iconst rfl).trans <| (s_istore_n (ls2 := [.ref a0, .int v1, .int (nZ 0)]) rfl (fun _ => rfl)).trans <| rfl) ((s_aload_n rfl rfl).trans <| (s_bipush rfl).trans <| (s_v0 [.ref a0, .int (nZ 33)] [] rfl rfl (fun _ => rfl)).trans <| c_rcv <| c_clV fun h11 => (s_iconst rfl).trans <| (s_istore_n (ls2 := [.ref a0, .int v1, .int (nZ 0)]) rfl (fun _ => rfl)).trans <| rfl))
theorem bk_X9_writeBalloon_67 (X : mv_X) (call : mv_G) (h : mv_H) (a0 : Nat) (v1 : Int32) (v2 : Int32) : mv_run X call m_X9_writeBalloon 67 [.ref a0, .int v1, .int v2] [] h =
  mv_rcv X h [.ref a0, .int v1, .int (nZ 4)] 13 (mv_clI call 158 [.ref a0, .int v1, .int (nZ 4)] h mv_raise fun x1 h1 =>
  if x1 ≤ v2 then 
  (mv_gI X h1 a0 13 16 fun x2 =>
    (some (.inl (some (.int x2)), h1)))
  else (mv_rcv X h1 [.ref a0, .int (nZ 43)] 13 (mv_clV call 242 [.ref a0, .int (nZ 43)] h1 mv_raise fun h2 =>
    mv_rcv X h2 [.ref a0, .int v1, .int ((nZ 5) + v2)] 13 (mv_clI call 158 [.ref a0, .int v1, .int ((nZ 5) + v2)] h2 mv_raise fun x3 h3 =>
    mv_rcv X h3 [.ref a0, .int x3] 13 (mv_clV call 243 [.ref a0, .int x3] h3 mv_raise fun h4 =>
    mv_run X call m_X9_writeBalloon 67 [.ref a0, .int v1, .int (v2 + nZ 1)] [] h4))))) :=
  (s_iload_n rfl rfl).trans <| (s_aload_n rfl rfl).trans <| (s_iload_n rfl rfl).trans <| (s_iconst rfl).trans <| (s_v1 [.ref a0, .int v1, .int (nZ 4)] [.int v2] rfl rfl (fun _ => rfl)).trans <| c_rcv <| c_clI fun x1 h1 => (s_icmp_ge rfl).trans <| c_ite ((s_aload_n rfl rfl).trans <| (s_gf1 rfl rfl).trans <| c_gI fun x2 => s_iret1 rfl rfl) ((s_aload_n rfl rfl).trans <| (s_bipush rfl).trans <| (s_v0 [.ref a0, .int (nZ 43)] [] rfl rfl (fun _ => rfl)).trans <| c_rcv <| c_clV fun h2 => (s_aload_n rfl rfl).trans <| (s_aload_n rfl rfl).trans <| (s_iload_n rfl rfl).trans <| (s_iconst rfl).trans <| (s_iload_n rfl rfl).trans <| (s_iadd rfl).trans <| (s_v1 [.ref a0, .int v1, .int ((nZ 5) + v2)] [.ref a0] rfl rfl (fun _ => rfl)).trans <| c_rcv <| c_clI fun x3 h3 => (s_v0 [.ref a0, .int x3] [] rfl rfl (fun _ => rfl)).trans <| c_rcv <| c_clV fun h4 => (s_iinc (ls2 := [.ref a0, .int v1, .int (v2 + nZ 1)]) rfl rfl (fun _ => rfl)).trans <| (s_goto rfl).trans <| rfl)
theorem mc_X9_lineCharacter (X : mv_X) (d : Nat) (h : mv_H) (a0 : Nat) (v1 : Int32) : mv_call X (d + 1) 245 [.ref a0, .int v1] h = mv_run X (mv_call X d) m_X9_lineCharacter 0 [.ref a0, .int v1] [] h := rfl
theorem bk_X9_lineCharacter_0 (X : mv_X) (call : mv_G) (h : mv_H) (a0 : Nat) (v1 : Int32) : mv_run X call m_X9_lineCharacter 0 [.ref a0, .int v1] [] h =
  mv_gI X h a0 13 16 fun x1 =>
  mv_clI call 150 [.int v1, .int (nZ 0), .int (x1 - (nZ 1))] h mv_raise fun x2 h1 =>
  if x2 = 0 then 
  (mv_pf h1 a0 13 0 (.int (nZ 1)) fun h2 =>
    mv_gI X h2 a0 13 0 fun x3 =>
    if x3 ≤ 0 then 
    (mv_gR X h2 a0 13 10 fun r1 =>
      mv_aI X h2 1 r1 v1 fun x4 =>
      mv_chk (mv_ok 7 ((x4).toUInt32 % 65536).toInt32) (some (.inl (some (.int ((x4).toUInt32 % 65536).toInt32)), h2)))
    else ((some (.inl (some (.int (nZ 0))), h2))))
  else (mv_pf h1 a0 13 0 (.int (nZ 0)) fun h3 =>
    mv_gI X h3 a0 13 0 fun x5 =>
    if x5 ≤ 0 then 
    (mv_gR X h3 a0 13 10 fun r2 =>
      mv_aI X h3 1 r2 v1 fun x6 =>
      mv_chk (mv_ok 7 ((x6).toUInt32 % 65536).toInt32) (some (.inl (some (.int ((x6).toUInt32 % 65536).toInt32)), h3)))
    else ((some (.inl (some (.int (nZ 0))), h3)))) :=
  (s_aload_n rfl rfl).trans <| (s_iload_n rfl rfl).trans <| (s_iconst rfl).trans <| (s_aload_n rfl rfl).trans <| (s_gf1 rfl rfl).trans <| c_gI fun x1 => (s_iconst rfl).trans <| (s_isub rfl).trans <| (s_s1 [.int v1, .int (nZ 0), .int (x1 - (nZ 1))] [.ref a0] rfl rfl (fun _ => rfl)).trans <| c_clI fun x2 h1 => (s_if_eq rfl).trans <| c_ite ((s_iconst rfl).trans <| (s_pf1 rfl rfl).trans <| c_pf fun h2 => (s_aload_n rfl rfl).trans <| (s_gf1 rfl rfl).trans <| c_gI fun x3 => (s_if_le rfl).trans <| c_ite ((s_aload_n rfl rfl).trans <| (s_gf2 rfl rfl).trans <| c_gR fun r1 => (s_iload_n rfl rfl).trans <| (s_iaload rfl).trans <| c_aI fun x4 => (s_i2c rfl).trans <| s_iret rfl) ((s_iconst rfl).trans <| (s_goto rfl).trans <| s_iretb rfl rfl)) ((s_iconst rfl).trans <| (s_goto rfl).trans <| (s_pf1 rfl rfl).trans <| c_pf fun h3 => (s_aload_n rfl rfl).trans <| (s_gf1 rfl rfl).trans <| c_gI fun x5 => (s_if_le rfl).trans <| c_ite ((s_aload_n rfl rfl).trans <| (s_gf2 rfl rfl).trans <| c_gR fun r2 => (s_iload_n rfl rfl).trans <| (s_iaload rfl).trans <| c_aI fun x6 => (s_i2c rfl).trans <| s_iret rfl) ((s_iconst rfl).trans <| (s_goto rfl).trans <| s_iretb rfl rfl))
theorem mc_X9_denial (X : mv_X) (d : Nat) (h : mv_H) (a0 : Nat) : mv_call X (d + 1) 246 [.ref a0] h = mv_run X (mv_call X d) m_X9_denial 0 [.ref a0] [] h := rfl
theorem bk_X9_denial_0 (X : mv_X) (call : mv_G) (h : mv_H) (a0 : Nat) : mv_run X call m_X9_denial 0 [.ref a0] [] h =
  mv_pf h a0 13 0 (.int (nZ 0)) fun h1 =>
  mv_gI X h1 a0 13 19 fun x1 =>
  if x1 = 0 then 
  (mv_rcv X h1 [.ref a0, .int (nZ 1)] 13 (mv_clI call 149 [.ref a0, .int (nZ 1)] h1 mv_raise fun x2 h2 =>
    (some (.inl (some (.int x2)), h2))))
  else (mv_gI X h1 a0 13 19 fun x3 =>
    (some (.inl (some (.int x3)), h1))) :=
  (s_aload_n rfl rfl).trans <| (s_iconst rfl).trans <| (s_pf1 rfl rfl).trans <| c_pf fun h1 => (s_aload_n rfl rfl).trans <| (s_gf1 rfl rfl).trans <| c_gI fun x1 => (s_if_ne rfl).trans <| c_ite ((s_aload_n rfl rfl).trans <| (s_iconst rfl).trans <| (s_v1 [.ref a0, .int (nZ 1)] [] rfl rfl (fun _ => rfl)).trans <| c_rcv <| c_clI fun x2 h2 => (s_goto rfl).trans <| s_iret1 rfl rfl) ((s_aload_n rfl rfl).trans <| (s_gf1 rfl rfl).trans <| c_gI fun x3 => s_iret1 rfl rfl)
theorem mc_X9_denialDetail (X : mv_X) (d : Nat) (h : mv_H) (a0 : Nat) : mv_call X (d + 1) 247 [.ref a0] h = mv_run X (mv_call X d) m_X9_denialDetail 0 [.ref a0] [] h := rfl
theorem bk_X9_denialDetail_0 (X : mv_X) (call : mv_G) (h : mv_H) (a0 : Nat) : mv_run X call m_X9_denialDetail 0 [.ref a0] [] h =
  mv_pf h a0 13 0 (.int (nZ 0)) fun h1 =>
  mv_gI X h1 a0 13 19 fun x1 =>
  if x1 = 0 then 
  (mv_rcv X h1 [.ref a0, .int (nZ 1)] 13 (mv_clI call 149 [.ref a0, .int (nZ 1)] h1 mv_raise fun x2 h2 =>
    (some (.inl (some (.int x2)), h2))))
  else (mv_gI X h1 a0 13 20 fun x3 =>
    (some (.inl (some (.int x3)), h1))) :=
  (s_aload_n rfl rfl).trans <| (s_iconst rfl).trans <| (s_pf1 rfl rfl).trans <| c_pf fun h1 => (s_aload_n rfl rfl).trans <| (s_gf1 rfl rfl).trans <| c_gI fun x1 => (s_if_ne rfl).trans <| c_ite ((s_aload_n rfl rfl).trans <| (s_iconst rfl).trans <| (s_v1 [.ref a0, .int (nZ 1)] [] rfl rfl (fun _ => rfl)).trans <| c_rcv <| c_clI fun x2 h2 => (s_goto rfl).trans <| s_iret1 rfl rfl) ((s_aload_n rfl rfl).trans <| (s_gf1 rfl rfl).trans <| c_gI fun x3 => s_iret1 rfl rfl)
theorem mc_X9_denialCause (X : mv_X) (d : Nat) (h : mv_H) (a0 : Nat) : mv_call X (d + 1) 248 [.ref a0] h = mv_run X (mv_call X d) m_X9_denialCause 0 [.ref a0] [] h := rfl
theorem bk_X9_denialCause_0 (X : mv_X) (call : mv_G) (h : mv_H) (a0 : Nat) : mv_run X call m_X9_denialCause 0 [.ref a0] [] h =
  mv_pf h a0 13 0 (.int (nZ 0)) fun h1 =>
  mv_gI X h1 a0 13 21 fun x1 =>
  if x1 = 0 then 
  (mv_rcv X h1 [.ref a0, .int (nZ 1)] 13 (mv_clI call 149 [.ref a0, .int (nZ 1)] h1 mv_raise fun x2 h2 =>
    (some (.inl (some (.int x2)), h2))))
  else (mv_gI X h1 a0 13 21 fun x3 =>
    (some (.inl (some (.int x3)), h1))) :=
  (s_aload_n rfl rfl).trans <| (s_iconst rfl).trans <| (s_pf1 rfl rfl).trans <| c_pf fun h1 => (s_aload_n rfl rfl).trans <| (s_gf1 rfl rfl).trans <| c_gI fun x1 => (s_if_ne rfl).trans <| c_ite ((s_aload_n rfl rfl).trans <| (s_iconst rfl).trans <| (s_v1 [.ref a0, .int (nZ 1)] [] rfl rfl (fun _ => rfl)).trans <| c_rcv <| c_clI fun x2 h2 => (s_goto rfl).trans <| s_iret1 rfl rfl) ((s_aload_n rfl rfl).trans <| (s_gf1 rfl rfl).trans <| c_gI fun x3 => s_iret1 rfl rfl)
theorem mc_X9_undo (X : mv_X) (d : Nat) (h : mv_H) (a0 : Nat) : mv_call X (d + 1) 249 [.ref a0] h = mv_run X (mv_call X d) m_X9_undo 0 [.ref a0, .retAddr 0] [] h := rfl
theorem bk_X9_undo_0 (X : mv_X) (call : mv_G) (h : mv_H) (a0 : Nat) : mv_run X call m_X9_undo 0 [.ref a0, .retAddr 0] [] h =
  mv_pf h a0 13 0 (.int (nZ 0)) fun h1 =>
  mv_gI X h1 a0 13 6 fun x1 =>
  if x1 = 0 then 
  (mv_rcv X h1 [.ref a0, .int (nZ 1)] 13 (mv_clI call 149 [.ref a0, .int (nZ 1)] h1 mv_raise fun x2 h2 =>
    (some (.inl (some (.int x2)), h2))))
  else (mv_gI X h1 a0 13 6 fun x3 =>
    mv_pf h1 a0 13 6 (.int (x3 - (nZ 1))) fun h3 =>
    mv_run X call m_X9_undo 30 [.ref a0, .int (nZ 0)] [] h3) :=
  (s_aload_n rfl rfl).trans <| (s_iconst rfl).trans <| (s_pf1 rfl rfl).trans <| c_pf fun h1 => (s_aload_n rfl rfl).trans <| (s_gf1 rfl rfl).trans <| c_gI fun x1 => (s_if_ne rfl).trans <| c_ite ((s_aload_n rfl rfl).trans <| (s_iconst rfl).trans <| (s_v1 [.ref a0, .int (nZ 1)] [] rfl rfl (fun _ => rfl)).trans <| c_rcv <| c_clI fun x2 h2 => s_iret1 rfl rfl) ((s_aload_n rfl rfl).trans <| (s_dupR rfl).trans <| (s_gf1 rfl rfl).trans <| c_gI fun x3 => (s_iconst rfl).trans <| (s_isub rfl).trans <| (s_pf1 rfl rfl).trans <| c_pf fun h3 => (s_iconst rfl).trans <| (s_istore_n (ls2 := [.ref a0, .int (nZ 0)]) rfl (fun _ => rfl)).trans <| rfl)
theorem bk_X9_undo_30 (X : mv_X) (call : mv_G) (h : mv_H) (a0 : Nat) (v1 : Int32) : mv_run X call m_X9_undo 30 [.ref a0, .int v1] [] h =
  if (nZ 158) ≤ v1 then 
  (mv_gI X h a0 13 6 fun x1 =>
    (some (.inl (some (.int x1)), h)))
  else (mv_gR X h a0 13 1 fun r1 =>
    mv_gR X h a0 13 4 fun r2 =>
    mv_gI X h a0 13 6 fun x2 =>
    mv_aI X h 1 r2 (((nZ 158) * x2) + v1) fun x3 =>
    mv_as h 1 r1 v1 (.int x3) fun h1 =>
    mv_run X call m_X9_undo 30 [.ref a0, .int (v1 + nZ 1)] [] h1) :=
  (s_iload_n rfl rfl).trans <| (s_sipush rfl).trans <| (s_icmp_ge rfl).trans <| c_ite ((s_aload_n rfl rfl).trans <| (s_gf1 rfl rfl).trans <| c_gI fun x1 => s_iret1 rfl rfl) ((s_aload_n rfl rfl).trans <| (s_gf2 rfl rfl).trans <| c_gR fun r1 => (s_iload_n rfl rfl).trans <| (s_aload_n rfl rfl).trans <| (s_gf2 rfl rfl).trans <| c_gR fun r2 => (s_sipush rfl).trans <| (s_aload_n rfl rfl).trans <| (s_gf1 rfl rfl).trans <| c_gI fun x2 => (s_imul rfl).trans <| (s_iload_n rfl rfl).trans <| (s_iadd rfl).trans <| (s_iaload rfl).trans <| c_aI fun x3 => (s_iastore rfl).trans <| c_as fun h1 => (s_iinc (ls2 := [.ref a0, .int (v1 + nZ 1)]) rfl rfl (fun _ => rfl)).trans <| (s_goto rfl).trans <| rfl)
theorem mc_X9_undoCount (X : mv_X) (d : Nat) (h : mv_H) (a0 : Nat) : mv_call X (d + 1) 250 [.ref a0] h = mv_run X (mv_call X d) m_X9_undoCount 0 [.ref a0] [] h := rfl
theorem bk_X9_undoCount_0 (X : mv_X) (call : mv_G) (h : mv_H) (a0 : Nat) : mv_run X call m_X9_undoCount 0 [.ref a0] [] h =
  mv_pf h a0 13 0 (.int (nZ 0)) fun h1 =>
  mv_gI X h1 a0 13 6 fun x1 =>
  (some (.inl (some (.int x1)), h1)) :=
  (s_aload_n rfl rfl).trans <| (s_iconst rfl).trans <| (s_pf1 rfl rfl).trans <| c_pf fun h1 => (s_aload_n rfl rfl).trans <| (s_gf1 rfl rfl).trans <| c_gI fun x1 => s_iret1 rfl rfl
theorem mc_X9_saveSnapshot (X : mv_X) (d : Nat) (h : mv_H) (a0 : Nat) : mv_call X (d + 1) 251 [.ref a0] h = mv_run X (mv_call X d) m_X9_saveSnapshot 0 [.ref a0, .retAddr 0] [] h := rfl
theorem bk_X9_saveSnapshot_0 (X : mv_X) (call : mv_G) (h : mv_H) (a0 : Nat) : mv_run X call m_X9_saveSnapshot 0 [.ref a0, .retAddr 0] [] h =
  mv_run X call m_X9_saveSnapshot 2 [.ref a0, .int (nZ 0)] [] h :=
  (s_iconst rfl).trans <| (s_istore_n (ls2 := [.ref a0, .int (nZ 0)]) rfl (fun _ => rfl)).trans <| rfl
theorem bk_X9_saveSnapshot_2 (X : mv_X) (call : mv_G) (h : mv_H) (a0 : Nat) (v1 : Int32) : mv_run X call m_X9_saveSnapshot 2 [.ref a0, .int v1] [] h =
  if (nZ 158) ≤ v1 then 
  (mv_chk (mv_ok 6 (nZ 1)) (mv_pf h a0 13 7 (.int (nZ 1)) fun h1 =>
    mv_rcv X h1 [.ref a0] 13 (mv_clI call 196 [.ref a0] h1 mv_raise fun x1 h2 =>
    (some (.inl (some (.int x1)), h2)))))
  else (mv_gR X h a0 13 3 fun r1 =>
    mv_gR X h a0 13 1 fun r2 =>
    mv_aI X h 1 r2 v1 fun x2 =>
    mv_as h 1 r1 v1 (.int x2) fun h3 =>
    mv_run X call m_X9_saveSnapshot 2 [.ref a0, .int (v1 + nZ 1)] [] h3) :=
  (s_iload_n rfl rfl).trans <| (s_sipush rfl).trans <| (s_icmp_ge rfl).trans <| c_ite ((s_aload_n rfl rfl).trans <| (s_iconst rfl).trans <| (s_pf6 rfl rfl).trans <| c_chk <| c_pf fun h1 => (s_aload_n rfl rfl).trans <| (s_v1 [.ref a0] [] rfl rfl (fun _ => rfl)).trans <| c_rcv <| c_clI fun x1 h2 => s_iret1 rfl rfl) ((s_aload_n rfl rfl).trans <| (s_gf2 rfl rfl).trans <| c_gR fun r1 => (s_iload_n rfl rfl).trans <| (s_aload_n rfl rfl).trans <| (s_gf2 rfl rfl).trans <| c_gR fun r2 => (s_iload_n rfl rfl).trans <| (s_iaload rfl).trans <| c_aI fun x2 => (s_iastore rfl).trans <| c_as fun h3 => (s_iinc (ls2 := [.ref a0, .int (v1 + nZ 1)]) rfl rfl (fun _ => rfl)).trans <| (s_goto rfl).trans <| rfl)
theorem mc_X9_restoreSnapshot (X : mv_X) (d : Nat) (h : mv_H) (a0 : Nat) : mv_call X (d + 1) 252 [.ref a0] h = mv_run X (mv_call X d) m_X9_restoreSnapshot 0 [.ref a0, .retAddr 0] [] h := rfl
theorem bk_X9_restoreSnapshot_0 (X : mv_X) (call : mv_G) (h : mv_H) (a0 : Nat) : mv_run X call m_X9_restoreSnapshot 0 [.ref a0, .retAddr 0] [] h =
  mv_pf h a0 13 0 (.int (nZ 0)) fun h1 =>
  mv_gI X h1 a0 13 7 fun x1 =>
  if x1 = 0 then 
  (mv_rcv X h1 [.ref a0, .int (nZ 1)] 13 (mv_clI call 149 [.ref a0, .int (nZ 1)] h1 mv_raise fun x2 h2 =>
    (some (.inl (some (.int x2)), h2))))
  else (mv_run X call m_X9_restoreSnapshot 20 [.ref a0, .int (nZ 0)] [] h1) :=
  (s_aload_n rfl rfl).trans <| (s_iconst rfl).trans <| (s_pf1 rfl rfl).trans <| c_pf fun h1 => (s_aload_n rfl rfl).trans <| (s_gf6 rfl rfl).trans <| c_gI fun x1 => (s_if_ne rfl).trans <| c_ite ((s_aload_n rfl rfl).trans <| (s_iconst rfl).trans <| (s_v1 [.ref a0, .int (nZ 1)] [] rfl rfl (fun _ => rfl)).trans <| c_rcv <| c_clI fun x2 h2 => s_iret1 rfl rfl) ((s_iconst rfl).trans <| (s_istore_n (ls2 := [.ref a0, .int (nZ 0)]) rfl (fun _ => rfl)).trans <| rfl)
theorem bk_X9_restoreSnapshot_20 (X : mv_X) (call : mv_G) (h : mv_H) (a0 : Nat) (v1 : Int32) : mv_run X call m_X9_restoreSnapshot 20 [.ref a0, .int v1] [] h =
  if (nZ 158) ≤ v1 then 
  (mv_pf h a0 13 6 (.int (nZ 0)) fun h1 =>
    mv_rcv X h1 [.ref a0] 13 (mv_clI call 196 [.ref a0] h1 mv_raise fun x1 h2 =>
    (some (.inl (some (.int x1)), h2))))
  else (mv_gR X h a0 13 1 fun r1 =>
    mv_gR X h a0 13 3 fun r2 =>
    mv_aI X h 1 r2 v1 fun x2 =>
    mv_as h 1 r1 v1 (.int x2) fun h3 =>
    mv_run X call m_X9_restoreSnapshot 20 [.ref a0, .int (v1 + nZ 1)] [] h3) :=
  (s_iload_n rfl rfl).trans <| (s_sipush rfl).trans <| (s_icmp_ge rfl).trans <| c_ite ((s_aload_n rfl rfl).trans <| (s_iconst rfl).trans <| (s_pf1 rfl rfl).trans <| c_pf fun h1 => (s_aload_n rfl rfl).trans <| (s_v1 [.ref a0] [] rfl rfl (fun _ => rfl)).trans <| c_rcv <| c_clI fun x1 h2 => s_iret1 rfl rfl) ((s_aload_n rfl rfl).trans <| (s_gf2 rfl rfl).trans <| c_gR fun r1 => (s_iload_n rfl rfl).trans <| (s_aload_n rfl rfl).trans <| (s_gf2 rfl rfl).trans <| c_gR fun r2 => (s_iload_n rfl rfl).trans <| (s_iaload rfl).trans <| c_aI fun x2 => (s_iastore rfl).trans <| c_as fun h3 => (s_iinc (ls2 := [.ref a0, .int (v1 + nZ 1)]) rfl rfl (fun _ => rfl)).trans <| (s_goto rfl).trans <| rfl)
