theorem mc_J5_init_d00df (X : mv_X) (d : Nat) (h : mv_H) (a0 : Nat) (v1 : Int32) : mv_call X (d + 1) 253 [.ref a0, .int v1] h = mv_run X (mv_call X d) m_J5_init_d00df 0 [.ref a0, .int v1] [] h := rfl
theorem bk_J5_init_d00df_0 (X : mv_X) (call : mv_G) (h : mv_H) (a0 : Nat) (v1 : Int32) : mv_run X call m_J5_init_d00df 0 [.ref a0, .int v1] [] h =
  mv_int (X.2.2 0) fun x1 =>
  if x1 = 0 then 
  (none)
  else (mv_newa h .byte (.int 0) v1 fun r1 h1 =>
    mv_pf h1 a0 1 0 (.ref r1) fun h2 =>
    mv_chk (mv_ok 8 (nZ 0)) (mv_pf h2 a0 1 1 (.int (nZ 0)) fun h3 =>
    (some (.inl none, h3)))) :=
  (s_aload_n rfl rfl).trans <| (s_oinit [] rfl rfl (fun _ => rfl)).trans <| (s_gs6 rfl rfl).trans <| c_int fun x1 => (s_if_eq rfl).trans <| c_ite ((s_aload_n rfl rfl).trans <| (s_iload_n rfl rfl).trans <| s_dead (.invokestatic 26) rfl rfl) ((s_aload_n rfl rfl).trans <| (s_iload_n rfl rfl).trans <| (s_newa_byte rfl).trans <| c_newa fun r1 h1 => (s_pf2 rfl rfl).trans <| c_pf fun h2 => (s_aload_n rfl rfl).trans <| (s_iconst rfl).trans <| (s_pf8 rfl rfl).trans <| c_chk <| c_pf fun h3 => (s_goto rfl).trans <| s_ret rfl rfl)
theorem mc_J5_length_8abf5 (X : mv_X) (d : Nat) (h : mv_H) (a0 : Nat) : mv_call X (d + 1) 254 [.ref a0] h = mv_run X (mv_call X d) m_J5_length_8abf5 0 [.ref a0] [] h := rfl
theorem bk_J5_length_8abf5_0 (X : mv_X) (call : mv_G) (h : mv_H) (a0 : Nat) : mv_run X call m_J5_length_8abf5 0 [.ref a0] [] h =
  mv_gI X h a0 1 3 fun x1 =>
  (some (.inl (some (.int x1)), h)) :=
  (s_aload_n rfl rfl).trans <| (s_gf1 rfl rfl).trans <| c_gI fun x1 => s_iret1 rfl rfl
theorem mc_J5_ensureCapacityInternal_d00df (X : mv_X) (d : Nat) (h : mv_H) (a0 : Nat) (v1 : Int32) : mv_call X (d + 1) 255 [.ref a0, .int v1] h = mv_run X (mv_call X d) m_J5_ensureCapacityInternal_d00df 0 [.ref a0, .int v1, .retAddr 0] [] h := rfl
theorem bk_J5_ensureCapacityInternal_d00df_0 (X : mv_X) (call : mv_G) (h : mv_H) (a0 : Nat) (v1 : Int32) : mv_run X call m_J5_ensureCapacityInternal_d00df 0 [.ref a0, .int v1, .retAddr 0] [] h =
  mv_gR X h a0 1 0 fun r1 =>
  mv_len X h r1 fun x1 =>
  mv_gI X h a0 1 1 fun x2 =>
  if (v1 - (x1 >>> (x2 &&& 31))) ≤ 0 then 
  ((some (.inl none, h)))
  else (mv_gR X h a0 1 0 fun r2 =>
    mv_rcv X h [.ref a0, .int v1] 1 (mv_clI call 256 [.ref a0, .int v1] h mv_raise fun x3 h1 =>
    mv_gI X h1 a0 1 1 fun x4 =>
    mv_clR call 282 [.ref r2, .int (x3 <<< (x4 &&& 31))] h1 mv_raise fun r3 h2 =>
    mv_pf h2 a0 1 0 (.ref r3) fun h3 =>
    (some (.inl none, h3)))) :=
  (s_aload_n rfl rfl).trans <| (s_gf2 rfl rfl).trans <| c_gR fun r1 => (s_alen rfl).trans <| c_len fun x1 => (s_aload_n rfl rfl).trans <| (s_gf8 rfl rfl).trans <| c_gI fun x2 => (s_ishr rfl).trans <| (s_istore_n (ls2 := [.ref a0, .int v1, .int (x1 >>> (x2 &&& 31))]) rfl (fun _ => rfl)).trans <| (s_iload_n rfl rfl).trans <| (s_iload_n rfl rfl).trans <| (s_isub rfl).trans <| (s_if_le rfl).trans <| c_ite (s_ret rfl rfl) ((s_aload_n rfl rfl).trans <| (s_aload_n rfl rfl).trans <| (s_gf2 rfl rfl).trans <| c_gR fun r2 => (s_aload_n rfl rfl).trans <| (s_iload_n rfl rfl).trans <| (s_v1 [.ref a0, .int v1] [.ref r2, .ref a0] rfl rfl (fun _ => rfl)).trans <| c_rcv <| c_clI fun x3 h1 => (s_aload_n rfl rfl).trans <| (s_gf8 rfl rfl).trans <| c_gI fun x4 => (s_ishl rfl).trans <| (s_s2 [.ref r2, .int (x3 <<< (x4 &&& 31))] [.ref a0] rfl rfl (fun _ => rfl)).trans <| c_clR fun r3 h2 => (s_pf2 rfl rfl).trans <| c_pf fun h3 => s_ret rfl rfl)
theorem mc_J5_newCapacity_0f7a4 (X : mv_X) (d : Nat) (h : mv_H) (a0 : Nat) (v1 : Int32) : mv_call X (d + 1) 256 [.ref a0, .int v1] h = mv_run X (mv_call X d) m_J5_newCapacity_0f7a4 0 [.ref a0, .int v1, .retAddr 0, .retAddr 0, .retAddr 0, .retAddr 0] [] h := rfl
theorem bk_J5_newCapacity_0f7a4_0 (X : mv_X) (call : mv_G) (h : mv_H) (a0 : Nat) (v1 : Int32) : mv_run X call m_J5_newCapacity_0f7a4 0 [.ref a0, .int v1, .retAddr 0, .retAddr 0, .retAddr 0, .retAddr 0] [] h =
  mv_gR X h a0 1 0 fun r1 =>
  mv_len X h r1 fun x1 =>
  mv_gI X h a0 1 1 fun x2 =>
  mv_gI X h a0 1 1 fun x3 =>
  mv_clI call 283 [.int x1, .int ((v1 <<< (x2 &&& 31)) - x1), .int (x1 + ((nZ 2) <<< (x3 &&& 31)))] h mv_raise fun x4 h1 =>
  if x4 = (nZ 2147483647) then 
  (none)
  else (mv_gI X h1 a0 1 1 fun x5 =>
    (some (.inl (some (.int (x4 >>> (x5 &&& 31)))), h1))) :=
  (s_aload_n rfl rfl).trans <| (s_gf2 rfl rfl).trans <| c_gR fun r1 => (s_alen rfl).trans <| c_len fun x1 => (s_istore_n (ls2 := [.ref a0, .int v1, .int x1, .retAddr 0, .retAddr 0, .retAddr 0]) rfl (fun _ => rfl)).trans <| (s_iload_n rfl rfl).trans <| (s_aload_n rfl rfl).trans <| (s_gf8 rfl rfl).trans <| c_gI fun x2 => (s_ishl rfl).trans <| (s_istore_n (ls2 := [.ref a0, .int v1, .int x1, .int (v1 <<< (x2 &&& 31)), .retAddr 0, .retAddr 0]) rfl (fun _ => rfl)).trans <| (s_iload_n rfl rfl).trans <| (s_iload_n rfl rfl).trans <| (s_isub rfl).trans <| (s_istore (ls2 := [.ref a0, .int v1, .int x1, .int (v1 <<< (x2 &&& 31)), .int ((v1 <<< (x2 &&& 31)) - x1), .retAddr 0]) rfl (fun _ => rfl)).trans <| (s_iload_n rfl rfl).trans <| (s_iload rfl rfl).trans <| (s_iload_n rfl rfl).trans <| (s_iconst rfl).trans <| (s_aload_n rfl rfl).trans <| (s_gf8 rfl rfl).trans <| c_gI fun x3 => (s_ishl rfl).trans <| (s_iadd rfl).trans <| (s_s1 [.int x1, .int ((v1 <<< (x2 &&& 31)) - x1), .int (x1 + ((nZ 2) <<< (x3 &&& 31)))] [] rfl rfl (fun _ => rfl)).trans <| c_clI fun x4 h1 => (s_istore (ls2 := [.ref a0, .int v1, .int x1, .int (v1 <<< (x2 &&& 31)), .int ((v1 <<< (x2 &&& 31)) - x1), .int x4]) rfl (fun _ => rfl)).trans <| (s_iload rfl rfl).trans <| (s_ldcI 2147483647 rfl).trans <| (s_icmp_ne rfl).trans <| c_ite (s_dead (.new 120) rfl rfl) ((s_iload rfl rfl).trans <| (s_aload_n rfl rfl).trans <| (s_gf8 rfl rfl).trans <| c_gI fun x5 => (s_ishr rfl).trans <| s_iret1 rfl rfl)
theorem mc_J5_setLength_d00df (X : mv_X) (d : Nat) (h : mv_H) (a0 : Nat) (v1 : Int32) : mv_call X (d + 1) 257 [.ref a0, .int v1] h = mv_run X (mv_call X d) m_J5_setLength_d00df 0 [.ref a0, .int v1] [] h := rfl
theorem bk_J5_setLength_d00df_0 (X : mv_X) (call : mv_G) (h : mv_H) (a0 : Nat) (v1 : Int32) : mv_run X call m_J5_setLength_d00df 0 [.ref a0, .int v1] [] h =
  if 0 ≤ v1 then 
  (mv_rcv X h [.ref a0, .int v1] 1 (mv_clV call 255 [.ref a0, .int v1] h mv_raise fun h1 =>
    mv_gI X h1 a0 1 3 fun x1 =>
    if v1 ≤ x1 then 
    (mv_gI X h1 a0 1 3 fun x2 =>
      if x2 ≤ v1 then 
      (mv_pf h1 a0 1 3 (.int v1) fun h2 =>
        (some (.inl none, h2)))
      else (mv_chk (mv_ok 6 (nZ 1)) (mv_pf h1 a0 1 2 (.int (nZ 1)) fun h3 =>
        mv_pf h3 a0 1 3 (.int v1) fun h4 =>
        (some (.inl none, h4)))))
    else (mv_rcv X h1 [.ref a0] 1 (mv_clI call 261 [.ref a0] h1 mv_raise fun x3 h5 =>
      if x3 = 0 then 
      (mv_gR X h5 a0 1 0 fun r1 =>
        mv_gI X h5 a0 1 3 fun x4 =>
        none)
      else (mv_gR X h5 a0 1 0 fun r2 =>
        mv_gI X h5 a0 1 3 fun x5 =>
        none)))))
  else (mv_new h (.inl (3, mv_df 3)) 6 fun r3 h6 =>
    none) :=
  (s_iload_n rfl rfl).trans <| (s_if_ge rfl).trans <| c_ite ((s_aload_n rfl rfl).trans <| (s_iload_n rfl rfl).trans <| (s_v0 [.ref a0, .int v1] [] rfl rfl (fun _ => rfl)).trans <| c_rcv <| c_clV fun h1 => (s_aload_n rfl rfl).trans <| (s_gf1 rfl rfl).trans <| c_gI fun x1 => (s_iload_n rfl rfl).trans <| (s_icmp_ge rfl).trans <| c_ite ((s_aload_n rfl rfl).trans <| (s_gf1 rfl rfl).trans <| c_gI fun x2 => (s_iload_n rfl rfl).trans <| (s_icmp_le rfl).trans <| c_ite ((s_aload_n rfl rfl).trans <| (s_iload_n rfl rfl).trans <| (s_pf1 rfl rfl).trans <| c_pf fun h2 => s_ret rfl rfl) ((s_aload_n rfl rfl).trans <| (s_iconst rfl).trans <| (s_pf6 rfl rfl).trans <| c_chk <| c_pf fun h3 => (s_aload_n rfl rfl).trans <| (s_iload_n rfl rfl).trans <| (s_pf1 rfl rfl).trans <| c_pf fun h4 => s_ret rfl rfl)) ((s_aload_n rfl rfl).trans <| (s_v1 [.ref a0] [] rfl rfl (fun _ => rfl)).trans <| c_rcv <| c_clI fun x3 h5 => (s_if_eq rfl).trans <| c_ite ((s_aload_n rfl rfl).trans <| (s_gf2 rfl rfl).trans <| c_gR fun r1 => (s_aload_n rfl rfl).trans <| (s_gf1 rfl rfl).trans <| c_gI fun x4 => (s_iload_n rfl rfl).trans <| s_dead (.invokestatic 137) rfl rfl) ((s_aload_n rfl rfl).trans <| (s_gf2 rfl rfl).trans <| c_gR fun r2 => (s_aload_n rfl rfl).trans <| (s_gf1 rfl rfl).trans <| c_gI fun x5 => (s_iload_n rfl rfl).trans <| s_dead (.invokestatic 133) rfl rfl))) ((s_new rfl rfl).trans <| c_new fun r3 h6 => (s_dupR rfl).trans <| (s_iload_n rfl rfl).trans <| s_dead (.invokespecial 131) rfl rfl)
theorem mc_J5_append_3fe6f (X : mv_X) (d : Nat) (h : mv_H) (a0 : Nat) (v1 : Int32) : mv_call X (d + 1) 259 [.ref a0, .int v1] h = mv_run X (mv_call X d) m_J5_append_3fe6f 0 [.ref a0, .int v1] [] h := rfl
theorem bk_J5_append_3fe6f_0 (X : mv_X) (call : mv_G) (h : mv_H) (a0 : Nat) (v1 : Int32) : mv_run X call m_J5_append_3fe6f 0 [.ref a0, .int v1] [] h =
  mv_gI X h a0 1 3 fun x1 =>
  mv_rcv X h [.ref a0, .int (x1 + (nZ 1))] 1 (mv_clV call 255 [.ref a0, .int (x1 + (nZ 1))] h mv_raise fun h1 =>
  mv_rcv X h1 [.ref a0] 1 (mv_clI call 261 [.ref a0] h1 mv_raise fun x2 h2 =>
  if x2 = 0 then 
  (mv_rcv X h2 [.ref a0] 1 (mv_clI call 261 [.ref a0] h2 mv_raise fun x3 h3 =>
    if x3 = 0 then 
    (mv_gR X h3 a0 1 0 fun r1 =>
      mv_gI X h3 a0 1 3 fun x4 =>
      mv_pf h3 a0 1 3 (.int (x4 + (nZ 1))) fun h4 =>
      none)
    else (none)))
  else (mv_clI call 280 [.int v1] h2 mv_raise fun x5 h5 =>
    if x5 = 0 then 
    (mv_rcv X h5 [.ref a0] 1 (mv_clI call 261 [.ref a0] h5 mv_raise fun x6 h6 =>
      if x6 = 0 then 
      (mv_gR X h6 a0 1 0 fun r2 =>
        mv_gI X h6 a0 1 3 fun x7 =>
        mv_pf h6 a0 1 3 (.int (x7 + (nZ 1))) fun h7 =>
        none)
      else (none)))
    else (mv_gR X h5 a0 1 0 fun r3 =>
      mv_gI X h5 a0 1 3 fun x8 =>
      mv_pf h5 a0 1 3 (.int (x8 + (nZ 1))) fun h8 =>
      mv_as h8 8 r3 x8 (.int ((v1).toInt8.toInt32).toInt8.toInt32) fun h9 =>
      (some (.inl (some (.ref a0)), h9)))))) :=
  (s_aload_n rfl rfl).trans <| (s_aload_n rfl rfl).trans <| (s_gf1 rfl rfl).trans <| c_gI fun x1 => (s_iconst rfl).trans <| (s_iadd rfl).trans <| (s_v0 [.ref a0, .int (x1 + (nZ 1))] [] rfl rfl (fun _ => rfl)).trans <| c_rcv <| c_clV fun h1 => (s_aload_n rfl rfl).trans <| (s_v1 [.ref a0] [] rfl rfl (fun _ => rfl)).trans <| c_rcv <| c_clI fun x2 h2 => (s_if_eq rfl).trans <| c_ite ((s_aload_n rfl rfl).trans <| (s_v1 [.ref a0] [] rfl rfl (fun _ => rfl)).trans <| c_rcv <| c_clI fun x3 h3 => (s_if_eq rfl).trans <| c_ite ((s_aload_n rfl rfl).trans <| (s_gf2 rfl rfl).trans <| c_gR fun r1 => (s_aload_n rfl rfl).trans <| (s_dupR rfl).trans <| (s_gf1 rfl rfl).trans <| c_gI fun x4 => (s_dup_x1 rfl).trans <| (s_iconst rfl).trans <| (s_iadd rfl).trans <| (s_pf1 rfl rfl).trans <| c_pf fun h4 => (s_iload_n rfl rfl).trans <| s_dead (.invokestatic 197) rfl rfl) ((s_aload_n rfl rfl).trans <| s_dead (.invokevirtual 195) rfl rfl)) ((s_iload_n rfl rfl).trans <| (s_s1 [.int v1] [] rfl rfl (fun _ => rfl)).trans <| c_clI fun x5 h5 => (s_if_eq rfl).trans <| c_ite ((s_aload_n rfl rfl).trans <| (s_v1 [.ref a0] [] rfl rfl (fun _ => rfl)).trans <| c_rcv <| c_clI fun x6 h6 => (s_if_eq rfl).trans <| c_ite ((s_aload_n rfl rfl).trans <| (s_gf2 rfl rfl).trans <| c_gR fun r2 => (s_aload_n rfl rfl).trans <| (s_dupR rfl).trans <| (s_gf1 rfl rfl).trans <| c_gI fun x7 => (s_dup_x1 rfl).trans <| (s_iconst rfl).trans <| (s_iadd rfl).trans <| (s_pf1 rfl rfl).trans <| c_pf fun h7 => (s_iload_n rfl rfl).trans <| s_dead (.invokestatic 197) rfl rfl) ((s_aload_n rfl rfl).trans <| s_dead (.invokevirtual 195) rfl rfl)) ((s_aload_n rfl rfl).trans <| (s_gf2 rfl rfl).trans <| c_gR fun r3 => (s_aload_n rfl rfl).trans <| (s_dupR rfl).trans <| (s_gf1 rfl rfl).trans <| c_gI fun x8 => (s_dup_x1 rfl).trans <| (s_iconst rfl).trans <| (s_iadd rfl).trans <| (s_pf1 rfl rfl).trans <| c_pf fun h8 => (s_iload_n rfl rfl).trans <| (s_i2b rfl).trans <| (s_bastore rfl).trans <| c_as fun h9 => (s_goto rfl).trans <| (s_aload_n rfl rfl).trans <| s_areturn rfl rfl))
theorem mc_J5_append_c97b9 (X : mv_X) (d : Nat) (h : mv_H) (a0 : Nat) (v1 : Int32) : mv_call X (d + 1) 260 [.ref a0, .int v1] h = mv_run X (mv_call X d) m_J5_append_c97b9 0 [.ref a0, .int v1, .retAddr 0, .retAddr 0] [] h := rfl
theorem bk_J5_append_c97b9_0 (X : mv_X) (call : mv_G) (h : mv_H) (a0 : Nat) (v1 : Int32) : mv_run X call m_J5_append_c97b9 0 [.ref a0, .int v1, .retAddr 0, .retAddr 0] [] h =
  mv_gI X h a0 1 3 fun x1 =>
  mv_clI call 263 [.int v1] h mv_raise fun x2 h1 =>
  mv_rcv X h1 [.ref a0, .int (x1 + x2)] 1 (mv_clV call 255 [.ref a0, .int (x1 + x2)] h1 mv_raise fun h2 =>
  mv_rcv X h2 [.ref a0] 1 (mv_clI call 261 [.ref a0] h2 mv_raise fun x3 h3 =>
  if x3 = 0 then 
  (mv_gR X h3 a0 1 0 fun r1 =>
    none)
  else (mv_gR X h3 a0 1 0 fun r2 =>
    mv_clI call 262 [.int v1, .int (x1 + x2), .ref r2] h3 mv_raise fun x4 h4 =>
    mv_pf h4 a0 1 3 (.int (x1 + x2)) fun h5 =>
    (some (.inl (some (.ref a0)), h5))))) :=
  (s_aload_n rfl rfl).trans <| (s_gf1 rfl rfl).trans <| c_gI fun x1 => (s_istore_n (ls2 := [.ref a0, .int v1, .int x1, .retAddr 0]) rfl (fun _ => rfl)).trans <| (s_iload_n rfl rfl).trans <| (s_iload_n rfl rfl).trans <| (s_s1 [.int v1] [.int x1] rfl rfl (fun _ => rfl)).trans <| c_clI fun x2 h1 => (s_iadd rfl).trans <| (s_istore_n (ls2 := [.ref a0, .int v1, .int x1, .int (x1 + x2)]) rfl (fun _ => rfl)).trans <| (s_aload_n rfl rfl).trans <| (s_iload_n rfl rfl).trans <| (s_v0 [.ref a0, .int (x1 + x2)] [] rfl rfl (fun _ => rfl)).trans <| c_rcv <| c_clV fun h2 => (s_aload_n rfl rfl).trans <| (s_v1 [.ref a0] [] rfl rfl (fun _ => rfl)).trans <| c_rcv <| c_clI fun x3 h3 => (s_if_eq rfl).trans <| c_ite ((s_iload_n rfl rfl).trans <| (s_iload_n rfl rfl).trans <| (s_iload_n rfl rfl).trans <| (s_aload_n rfl rfl).trans <| (s_gf2 rfl rfl).trans <| c_gR fun r1 => s_dead (.invokestatic 251) rfl rfl) ((s_iload_n rfl rfl).trans <| (s_iload_n rfl rfl).trans <| (s_aload_n rfl rfl).trans <| (s_gf2 rfl rfl).trans <| c_gR fun r2 => (s_s1 [.int v1, .int (x1 + x2), .ref r2] [] rfl rfl (fun _ => rfl)).trans <| c_clI fun x4 h4 => (s_popI rfl).trans <| (s_goto rfl).trans <| (s_aload_n rfl rfl).trans <| (s_iload_n rfl rfl).trans <| (s_pf1 rfl rfl).trans <| c_pf fun h5 => (s_aload_n rfl rfl).trans <| s_areturn rfl rfl)
theorem mc_J5_isLatin1_aae02 (X : mv_X) (d : Nat) (h : mv_H) (a0 : Nat) : mv_call X (d + 1) 261 [.ref a0] h = mv_run X (mv_call X d) m_J5_isLatin1_aae02 0 [.ref a0] [] h := rfl
theorem bk_J5_isLatin1_aae02_0 (X : mv_X) (call : mv_G) (h : mv_H) (a0 : Nat) : mv_run X call m_J5_isLatin1_aae02 0 [.ref a0] [] h =
  mv_int (X.2.2 0) fun x1 =>
  if x1 = 0 then 
  ((some (.inl (some (.int (nZ 0))), h)))
  else (mv_gI X h a0 1 1 fun x2 =>
    if x2 = 0 then 
    ((some (.inl (some (.int (nZ 1))), h)))
    else ((some (.inl (some (.int (nZ 0))), h)))) :=
  (s_gs6 rfl rfl).trans <| c_int fun x1 => (s_if_eq rfl).trans <| c_ite ((s_iconst rfl).trans <| s_iretb rfl rfl) ((s_aload_n rfl rfl).trans <| (s_gf8 rfl rfl).trans <| c_gI fun x2 => (s_if_ne rfl).trans <| c_ite ((s_iconst rfl).trans <| (s_goto rfl).trans <| s_iretb rfl rfl) ((s_iconst rfl).trans <| s_iretb rfl rfl))
theorem mc_J6_getChars_ba4f3 (X : mv_X) (d : Nat) (h : mv_H) (v0 : Int32) (v1 : Int32) (a2 : Nat) : mv_call X (d + 1) 262 [.int v0, .int v1, .ref a2] h = mv_run X (mv_call X d) m_J6_getChars_ba4f3 0 [.int v0, .int v1, .ref a2, .retAddr 0, .retAddr 0, .retAddr 0, .retAddr 0] [] h := rfl
theorem bk_J6_getChars_ba4f3_0 (X : mv_X) (call : mv_G) (h : mv_H) (v0 : Int32) (v1 : Int32) (a2 : Nat) : mv_run X call m_J6_getChars_ba4f3 0 [.int v0, .int v1, .ref a2, .retAddr 0, .retAddr 0, .retAddr 0, .retAddr 0] [] h =
  if 0 ≤ v0 then 
  (if (nZ 0) = 0 then 
    (mv_run X call m_J6_getChars_ba4f3 22 [.int (-v0), .int v1, .ref a2, .retAddr 0, .retAddr 0, .int v1, .int (nZ 0)] [] h)
    else (mv_run X call m_J6_getChars_ba4f3 22 [.int v0, .int v1, .ref a2, .retAddr 0, .retAddr 0, .int v1, .int (nZ 0)] [] h))
  else (if (nZ 1) = 0 then 
    (mv_run X call m_J6_getChars_ba4f3 22 [.int (-v0), .int v1, .ref a2, .retAddr 0, .retAddr 0, .int v1, .int (nZ 1)] [] h)
    else (mv_run X call m_J6_getChars_ba4f3 22 [.int v0, .int v1, .ref a2, .retAddr 0, .retAddr 0, .int v1, .int (nZ 1)] [] h)) :=
  (s_iload_n rfl rfl).trans <| (s_istore (ls2 := [.int v0, .int v1, .ref a2, .retAddr 0, .retAddr 0, .int v1, .retAddr 0]) rfl (fun _ => rfl)).trans <| (s_iload_n rfl rfl).trans <| (s_if_ge rfl).trans <| c_ite ((s_iconst rfl).trans <| (s_istore (ls2 := [.int v0, .int v1, .ref a2, .retAddr 0, .retAddr 0, .int v1, .int (nZ 0)]) rfl (fun _ => rfl)).trans <| (s_iload rfl rfl).trans <| (s_if_ne rfl).trans <| c_ite ((s_iload_n rfl rfl).trans <| (s_ineg rfl).trans <| (s_istore_n (ls2 := [.int (-v0), .int v1, .ref a2, .retAddr 0, .retAddr 0, .int v1, .int (nZ 0)]) rfl (fun _ => rfl)).trans <| rfl) (rfl)) ((s_iconst rfl).trans <| (s_goto rfl).trans <| (s_istore (ls2 := [.int v0, .int v1, .ref a2, .retAddr 0, .retAddr 0, .int v1, .int (nZ 1)]) rfl (fun _ => rfl)).trans <| (s_iload rfl rfl).trans <| (s_if_ne rfl).trans <| c_ite ((s_iload_n rfl rfl).trans <| (s_ineg rfl).trans <| (s_istore_n (ls2 := [.int (-v0), .int v1, .ref a2, .retAddr 0, .retAddr 0, .int v1, .int (nZ 1)]) rfl (fun _ => rfl)).trans <| rfl) (rfl))
theorem bk_J6_getChars_ba4f3_22 (X : mv_X) (call : mv_G) (h : mv_H) (v0 : Int32) (v1 : Int32) (a2 : Nat) (j3 : Value) (j4 : Value) (v5 : Int32) (v6 : Int32) : mv_run X call m_J6_getChars_ba4f3 22 [.int v0, .int v1, .ref a2, j3, j4, .int v5, .int v6] [] h =
  if (nZ (-100)) < v0 then 
  (mv_ref (X.2.2 1) fun r1 =>
    mv_aI X h 8 r1 (-v0) fun x1 =>
    mv_as h 8 a2 (v5 + nZ (-1)) (.int (x1).toInt8.toInt32) fun h1 =>
    if (nZ (-9)) ≤ v0 then 
    (if v6 = 0 then 
      ((some (.inl (some (.int (v5 + nZ (-1)))), h1)))
      else (mv_as h1 8 a2 ((v5 + nZ (-1)) + nZ (-1)) (.int ((nZ 45)).toInt8.toInt32) fun h2 =>
        (some (.inl (some (.int ((v5 + nZ (-1)) + nZ (-1)))), h2))))
    else (mv_ref (X.2.2 2) fun r2 =>
      mv_aI X h1 8 r2 (-v0) fun x2 =>
      mv_as h1 8 a2 ((v5 + nZ (-1)) + nZ (-1)) (.int (x2).toInt8.toInt32) fun h3 =>
      if v6 = 0 then 
      ((some (.inl (some (.int ((v5 + nZ (-1)) + nZ (-1)))), h3)))
      else (mv_as h3 8 a2 (((v5 + nZ (-1)) + nZ (-1)) + nZ (-1)) (.int ((nZ 45)).toInt8.toInt32) fun h4 =>
        (some (.inl (some (.int (((v5 + nZ (-1)) + nZ (-1)) + nZ (-1)))), h4)))))
  else (if (nZ 100) = 0 then none else 
    mv_ref (X.2.2 1) fun r3 =>
    mv_aI X h 8 r3 (((v0 / (nZ 100)) * (nZ 100)) - v0) fun x3 =>
    mv_as h 8 a2 (v5 + nZ (-1)) (.int (x3).toInt8.toInt32) fun h5 =>
    mv_ref (X.2.2 2) fun r4 =>
    mv_aI X h5 8 r4 (((v0 / (nZ 100)) * (nZ 100)) - v0) fun x4 =>
    mv_as h5 8 a2 ((v5 + nZ (-1)) + nZ (-1)) (.int (x4).toInt8.toInt32) fun h6 =>
    mv_run X call m_J6_getChars_ba4f3 22 [.int (v0 / (nZ 100)), .int v1, .ref a2, .int (v0 / (nZ 100)), .int (((v0 / (nZ 100)) * (nZ 100)) - v0), .int ((v5 + nZ (-1)) + nZ (-1)), .int v6] [] h6) :=
  (s_iload_n rfl rfl).trans <| (s_bipush rfl).trans <| (s_icmp_gt rfl).trans <| c_ite ((s_aload_n rfl rfl).trans <| (s_iinc (ls2 := [.int v0, .int v1, .ref a2, j3, j4, .int (v5 + nZ (-1)), .int v6]) rfl rfl (fun _ => rfl)).trans <| (s_iload rfl rfl).trans <| (s_gs2 rfl rfl).trans <| c_ref fun r1 => (s_iload_n rfl rfl).trans <| (s_ineg rfl).trans <| (s_baload rfl).trans <| c_aI fun x1 => (s_bastore rfl).trans <| c_as fun h1 => (s_iload_n rfl rfl).trans <| (s_bipush rfl).trans <| (s_icmp_ge rfl).trans <| c_ite ((s_iload rfl rfl).trans <| (s_if_eq rfl).trans <| c_ite ((s_iload rfl rfl).trans <| s_iret1 rfl rfl) ((s_aload_n rfl rfl).trans <| (s_iinc (ls2 := [.int v0, .int v1, .ref a2, j3, j4, .int ((v5 + nZ (-1)) + nZ (-1)), .int v6]) rfl rfl (fun _ => rfl)).trans <| (s_iload rfl rfl).trans <| (s_bipush rfl).trans <| (s_bastore rfl).trans <| c_as fun h2 => (s_iload rfl rfl).trans <| s_iret1 rfl rfl)) ((s_aload_n rfl rfl).trans <| (s_iinc (ls2 := [.int v0, .int v1, .ref a2, j3, j4, .int ((v5 + nZ (-1)) + nZ (-1)), .int v6]) rfl rfl (fun _ => rfl)).trans <| (s_iload rfl rfl).trans <| (s_gs2 rfl rfl).trans <| c_ref fun r2 => (s_iload_n rfl rfl).trans <| (s_ineg rfl).trans <| (s_baload rfl).trans <| c_aI fun x2 => (s_bastore rfl).trans <| c_as fun h3 => (s_iload rfl rfl).trans <| (s_if_eq rfl).trans <| c_ite ((s_iload rfl rfl).trans <| s_iret1 rfl rfl) ((s_aload_n rfl rfl).trans <| (s_iinc (ls2 := [.int v0, .int v1, .ref a2, j3, j4, .int (((v5 + nZ (-1)) + nZ (-1)) + nZ (-1)), .int v6]) rfl rfl (fun _ => rfl)).trans <| (s_iload rfl rfl).trans <| (s_bipush rfl).trans <| (s_bastore rfl).trans <| c_as fun h4 => (s_iload rfl rfl).trans <| s_iret1 rfl rfl))) ((s_iload_n rfl rfl).trans <| (s_bipush rfl).trans <| (s_idiv rfl).trans <| c_ite rfl <| (s_istore_n (ls2 := [.int v0, .int v1, .ref a2, .int (v0 / (nZ 100)), j4, .int v5, .int v6]) rfl (fun _ => rfl)).trans <| (s_iload_n rfl rfl).trans <| (s_bipush rfl).trans <| (s_imul rfl).trans <| (s_iload_n rfl rfl).trans <| (s_isub rfl).trans <| (s_istore (ls2 := [.int v0, .int v1, .ref a2, .int (v0 / (nZ 100)), .int (((v0 / (nZ 100)) * (nZ 100)) - v0), .int v5, .int v6]) rfl (fun _ => rfl)).trans <| (s_iload_n rfl rfl).trans <| (s_istore_n (ls2 := [.int (v0 / (nZ 100)), .int v1, .ref a2, .int (v0 / (nZ 100)), .int (((v0 / (nZ 100)) * (nZ 100)) - v0), .int v5, .int v6]) rfl (fun _ => rfl)).trans <| (s_aload_n rfl rfl).trans <| (s_iinc (ls2 := [.int (v0 / (nZ 100)), .int v1, .ref a2, .int (v0 / (nZ 100)), .int (((v0 / (nZ 100)) * (nZ 100)) - v0), .int (v5 + nZ (-1)), .int v6]) rfl rfl (fun _ => rfl)).trans <| (s_iload rfl rfl).trans <| (s_gs2 rfl rfl).trans <| c_ref fun r3 => (s_iload rfl rfl).trans <| (s_baload rfl).trans <| c_aI fun x3 => (s_bastore rfl).trans <| c_as fun h5 => (s_aload_n rfl rfl).trans <| (s_iinc (ls2 := [.int (v0 / (nZ 100)), .int v1, .ref a2, .int (v0 / (nZ 100)), .int (((v0 / (nZ 100)) * (nZ 100)) - v0), .int ((v5 + nZ (-1)) + nZ (-1)), .int v6]) rfl rfl (fun _ => rfl)).trans <| (s_iload rfl rfl).trans <| (s_gs2 rfl rfl).trans <| c_ref fun r4 => (s_iload rfl rfl).trans <| (s_baload rfl).trans <| c_aI fun x4 => (s_bastore rfl).trans <| c_as fun h6 => (s_goto rfl).trans <| rfl)
theorem mc_J6_stringSize_0f7a4 (X : mv_X) (d : Nat) (h : mv_H) (v0 : Int32) : mv_call X (d + 1) 263 [.int v0] h = mv_run X (mv_call X d) m_J6_stringSize_0f7a4 0 [.int v0, .retAddr 0, .retAddr 0, .retAddr 0] [] h := rfl
theorem bk_J6_stringSize_0f7a4_0 (X : mv_X) (call : mv_G) (h : mv_H) (v0 : Int32) : mv_run X call m_J6_stringSize_0f7a4 0 [.int v0, .retAddr 0, .retAddr 0, .retAddr 0] [] h =
  if v0 < 0 then 
  (mv_run X call m_J6_stringSize_0f7a4 16 [.int v0, .int (nZ 1), .int (nZ (-10)), .int (nZ 1)] [] h)
  else (mv_run X call m_J6_stringSize_0f7a4 16 [.int (-v0), .int (nZ 0), .int (nZ (-10)), .int (nZ 1)] [] h) :=
  (s_iconst rfl).trans <| (s_istore_n (ls2 := [.int v0, .int (nZ 1), .retAddr 0, .retAddr 0]) rfl (fun _ => rfl)).trans <| (s_iload_n rfl rfl).trans <| (s_if_lt rfl).trans <| c_ite ((s_bipush rfl).trans <| (s_istore_n (ls2 := [.int v0, .int (nZ 1), .int (nZ (-10)), .retAddr 0]) rfl (fun _ => rfl)).trans <| (s_iconst rfl).trans <| (s_istore_n (ls2 := [.int v0, .int (nZ 1), .int (nZ (-10)), .int (nZ 1)]) rfl (fun _ => rfl)).trans <| rfl) ((s_iconst rfl).trans <| (s_istore_n (ls2 := [.int v0, .int (nZ 0), .retAddr 0, .retAddr 0]) rfl (fun _ => rfl)).trans <| (s_iload_n rfl rfl).trans <| (s_ineg rfl).trans <| (s_istore_n (ls2 := [.int (-v0), .int (nZ 0), .retAddr 0, .retAddr 0]) rfl (fun _ => rfl)).trans <| (s_bipush rfl).trans <| (s_istore_n (ls2 := [.int (-v0), .int (nZ 0), .int (nZ (-10)), .retAddr 0]) rfl (fun _ => rfl)).trans <| (s_iconst rfl).trans <| (s_istore_n (ls2 := [.int (-v0), .int (nZ 0), .int (nZ (-10)), .int (nZ 1)]) rfl (fun _ => rfl)).trans <| rfl)
theorem bk_J6_stringSize_0f7a4_16 (X : mv_X) (call : mv_G) (h : mv_H) (v0 : Int32) (v1 : Int32) (v2 : Int32) (v3 : Int32) : mv_run X call m_J6_stringSize_0f7a4 16 [.int v0, .int v1, .int v2, .int v3] [] h =
  if (nZ 10) ≤ v3 then 
  ((some (.inl (some (.int ((nZ 10) + v1))), h)))
  else (if v0 ≤ v2 then 
    (mv_run X call m_J6_stringSize_0f7a4 16 [.int v0, .int v1, .int ((nZ 10) * v2), .int (v3 + nZ 1)] [] h)
    else ((some (.inl (some (.int (v3 + v1))), h)))) :=
  (s_iload_n rfl rfl).trans <| (s_bipush rfl).trans <| (s_icmp_ge rfl).trans <| c_ite ((s_bipush rfl).trans <| (s_iload_n rfl rfl).trans <| (s_iadd rfl).trans <| s_iret1 rfl rfl) ((s_iload_n rfl rfl).trans <| (s_iload_n rfl rfl).trans <| (s_icmp_le rfl).trans <| c_ite ((s_bipush rfl).trans <| (s_iload_n rfl rfl).trans <| (s_imul rfl).trans <| (s_istore_n (ls2 := [.int v0, .int v1, .int ((nZ 10) * v2), .int v3]) rfl (fun _ => rfl)).trans <| (s_iinc (ls2 := [.int v0, .int v1, .int ((nZ 10) * v2), .int (v3 + nZ 1)]) rfl rfl (fun _ => rfl)).trans <| (s_goto rfl).trans <| rfl) ((s_iload_n rfl rfl).trans <| (s_iload_n rfl rfl).trans <| (s_iadd rfl).trans <| s_iret1 rfl rfl))
theorem mc_J6_bitCount_0f7a4 (X : mv_X) (d : Nat) (h : mv_H) (v0 : Int32) : mv_call X (d + 1) 264 [.int v0] h = mv_run X (mv_call X d) m_J6_bitCount_0f7a4 0 [.int v0] [] h := rfl
theorem bk_J6_bitCount_0f7a4_0 (X : mv_X) (call : mv_G) (h : mv_H) (v0 : Int32) : mv_run X call m_J6_bitCount_0f7a4 0 [.int v0] [] h =
  (some (.inl (some (.int ((((((((v0 - (((v0).toUInt32 >>> (((nZ 1)).toUInt32 &&& Int32.toUInt32 31)).toInt32 &&& (nZ 1431655765))) &&& (nZ 858993459)) + ((((v0 - (((v0).toUInt32 >>> (((nZ 1)).toUInt32 &&& Int32.toUInt32 31)).toInt32 &&& (nZ 1431655765)))).toUInt32 >>> (((nZ 2)).toUInt32 &&& Int32.toUInt32 31)).toInt32 &&& (nZ 858993459))) + (((((v0 - (((v0).toUInt32 >>> (((nZ 1)).toUInt32 &&& Int32.toUInt32 31)).toInt32 &&& (nZ 1431655765))) &&& (nZ 858993459)) + ((((v0 - (((v0).toUInt32 >>> (((nZ 1)).toUInt32 &&& Int32.toUInt32 31)).toInt32 &&& (nZ 1431655765)))).toUInt32 >>> (((nZ 2)).toUInt32 &&& Int32.toUInt32 31)).toInt32 &&& (nZ 858993459)))).toUInt32 >>> (((nZ 4)).toUInt32 &&& Int32.toUInt32 31)).toInt32) &&& (nZ 252645135)) + (((((((v0 - (((v0).toUInt32 >>> (((nZ 1)).toUInt32 &&& Int32.toUInt32 31)).toInt32 &&& (nZ 1431655765))) &&& (nZ 858993459)) + ((((v0 - (((v0).toUInt32 >>> (((nZ 1)).toUInt32 &&& Int32.toUInt32 31)).toInt32 &&& (nZ 1431655765)))).toUInt32 >>> (((nZ 2)).toUInt32 &&& Int32.toUInt32 31)).toInt32 &&& (nZ 858993459))) + (((((v0 - (((v0).toUInt32 >>> (((nZ 1)).toUInt32 &&& Int32.toUInt32 31)).toInt32 &&& (nZ 1431655765))) &&& (nZ 858993459)) + ((((v0 - (((v0).toUInt32 >>> (((nZ 1)).toUInt32 &&& Int32.toUInt32 31)).toInt32 &&& (nZ 1431655765)))).toUInt32 >>> (((nZ 2)).toUInt32 &&& Int32.toUInt32 31)).toInt32 &&& (nZ 858993459)))).toUInt32 >>> (((nZ 4)).toUInt32 &&& Int32.toUInt32 31)).toInt32) &&& (nZ 252645135))).toUInt32 >>> (((nZ 8)).toUInt32 &&& Int32.toUInt32 31)).toInt32) + ((((((((v0 - (((v0).toUInt32 >>> (((nZ 1)).toUInt32 &&& Int32.toUInt32 31)).toInt32 &&& (nZ 1431655765))) &&& (nZ 858993459)) + ((((v0 - (((v0).toUInt32 >>> (((nZ 1)).toUInt32 &&& Int32.toUInt32 31)).toInt32 &&& (nZ 1431655765)))).toUInt32 >>> (((nZ 2)).toUInt32 &&& Int32.toUInt32 31)).toInt32 &&& (nZ 858993459))) + (((((v0 - (((v0).toUInt32 >>> (((nZ 1)).toUInt32 &&& Int32.toUInt32 31)).toInt32 &&& (nZ 1431655765))) &&& (nZ 858993459)) + ((((v0 - (((v0).toUInt32 >>> (((nZ 1)).toUInt32 &&& Int32.toUInt32 31)).toInt32 &&& (nZ 1431655765)))).toUInt32 >>> (((nZ 2)).toUInt32 &&& Int32.toUInt32 31)).toInt32 &&& (nZ 858993459)))).toUInt32 >>> (((nZ 4)).toUInt32 &&& Int32.toUInt32 31)).toInt32) &&& (nZ 252645135)) + (((((((v0 - (((v0).toUInt32 >>> (((nZ 1)).toUInt32 &&& Int32.toUInt32 31)).toInt32 &&& (nZ 1431655765))) &&& (nZ 858993459)) + ((((v0 - (((v0).toUInt32 >>> (((nZ 1)).toUInt32 &&& Int32.toUInt32 31)).toInt32 &&& (nZ 1431655765)))).toUInt32 >>> (((nZ 2)).toUInt32 &&& Int32.toUInt32 31)).toInt32 &&& (nZ 858993459))) + (((((v0 - (((v0).toUInt32 >>> (((nZ 1)).toUInt32 &&& Int32.toUInt32 31)).toInt32 &&& (nZ 1431655765))) &&& (nZ 858993459)) + ((((v0 - (((v0).toUInt32 >>> (((nZ 1)).toUInt32 &&& Int32.toUInt32 31)).toInt32 &&& (nZ 1431655765)))).toUInt32 >>> (((nZ 2)).toUInt32 &&& Int32.toUInt32 31)).toInt32 &&& (nZ 858993459)))).toUInt32 >>> (((nZ 4)).toUInt32 &&& Int32.toUInt32 31)).toInt32) &&& (nZ 252645135))).toUInt32 >>> (((nZ 8)).toUInt32 &&& Int32.toUInt32 31)).toInt32)).toUInt32 >>> (((nZ 16)).toUInt32 &&& Int32.toUInt32 31)).toInt32) &&& (nZ 63)))), h)) :=
  (s_iload_n rfl rfl).trans <| (s_iload_n rfl rfl).trans <| (s_iconst rfl).trans <| (s_iushr rfl).trans <| (s_ldcI_w 1431655765 rfl).trans <| (s_iand rfl).trans <| (s_isub rfl).trans <| (s_istore_n (ls2 := [.int (v0 - (((v0).toUInt32 >>> (((nZ 1)).toUInt32 &&& Int32.toUInt32 31)).toInt32 &&& (nZ 1431655765)))]) rfl (fun _ => rfl)).trans <| (s_iload_n rfl rfl).trans <| (s_ldcI_w 858993459 rfl).trans <| (s_iand rfl).trans <| (s_iload_n rfl rfl).trans <| (s_iconst rfl).trans <| (s_iushr rfl).trans <| (s_ldcI_w 858993459 rfl).trans <| (s_iand rfl).trans <| (s_iadd rfl).trans <| (s_istore_n (ls2 := [.int (((v0 - (((v0).toUInt32 >>> (((nZ 1)).toUInt32 &&& Int32.toUInt32 31)).toInt32 &&& (nZ 1431655765))) &&& (nZ 858993459)) + ((((v0 - (((v0).toUInt32 >>> (((nZ 1)).toUInt32 &&& Int32.toUInt32 31)).toInt32 &&& (nZ 1431655765)))).toUInt32 >>> (((nZ 2)).toUInt32 &&& Int32.toUInt32 31)).toInt32 &&& (nZ 858993459)))]) rfl (fun _ => rfl)).trans <| (s_iload_n rfl rfl).trans <| (s_iload_n rfl rfl).trans <| (s_iconst rfl).trans <| (s_iushr rfl).trans <| (s_iadd rfl).trans <| (s_ldcI_w 252645135 rfl).trans <| (s_iand rfl).trans <| (s_istore_n (ls2 := [.int (((((v0 - (((v0).toUInt32 >>> (((nZ 1)).toUInt32 &&& Int32.toUInt32 31)).toInt32 &&& (nZ 1431655765))) &&& (nZ 858993459)) + ((((v0 - (((v0).toUInt32 >>> (((nZ 1)).toUInt32 &&& Int32.toUInt32 31)).toInt32 &&& (nZ 1431655765)))).toUInt32 >>> (((nZ 2)).toUInt32 &&& Int32.toUInt32 31)).toInt32 &&& (nZ 858993459))) + (((((v0 - (((v0).toUInt32 >>> (((nZ 1)).toUInt32 &&& Int32.toUInt32 31)).toInt32 &&& (nZ 1431655765))) &&& (nZ 858993459)) + ((((v0 - (((v0).toUInt32 >>> (((nZ 1)).toUInt32 &&& Int32.toUInt32 31)).toInt32 &&& (nZ 1431655765)))).toUInt32 >>> (((nZ 2)).toUInt32 &&& Int32.toUInt32 31)).toInt32 &&& (nZ 858993459)))).toUInt32 >>> (((nZ 4)).toUInt32 &&& Int32.toUInt32 31)).toInt32) &&& (nZ 252645135))]) rfl (fun _ => rfl)).trans <| (s_iload_n rfl rfl).trans <| (s_iload_n rfl rfl).trans <| (s_bipush rfl).trans <| (s_iushr rfl).trans <| (s_iadd rfl).trans <| (s_istore_n (ls2 := [.int ((((((v0 - (((v0).toUInt32 >>> (((nZ 1)).toUInt32 &&& Int32.toUInt32 31)).toInt32 &&& (nZ 1431655765))) &&& (nZ 858993459)) + ((((v0 - (((v0).toUInt32 >>> (((nZ 1)).toUInt32 &&& Int32.toUInt32 31)).toInt32 &&& (nZ 1431655765)))).toUInt32 >>> (((nZ 2)).toUInt32 &&& Int32.toUInt32 31)).toInt32 &&& (nZ 858993459))) + (((((v0 - (((v0).toUInt32 >>> (((nZ 1)).toUInt32 &&& Int32.toUInt32 31)).toInt32 &&& (nZ 1431655765))) &&& (nZ 858993459)) + ((((v0 - (((v0).toUInt32 >>> (((nZ 1)).toUInt32 &&& Int32.toUInt32 31)).toInt32 &&& (nZ 1431655765)))).toUInt32 >>> (((nZ 2)).toUInt32 &&& Int32.toUInt32 31)).toInt32 &&& (nZ 858993459)))).toUInt32 >>> (((nZ 4)).toUInt32 &&& Int32.toUInt32 31)).toInt32) &&& (nZ 252645135)) + (((((((v0 - (((v0).toUInt32 >>> (((nZ 1)).toUInt32 &&& Int32.toUInt32 31)).toInt32 &&& (nZ 1431655765))) &&& (nZ 858993459)) + ((((v0 - (((v0).toUInt32 >>> (((nZ 1)).toUInt32 &&& Int32.toUInt32 31)).toInt32 &&& (nZ 1431655765)))).toUInt32 >>> (((nZ 2)).toUInt32 &&& Int32.toUInt32 31)).toInt32 &&& (nZ 858993459))) + (((((v0 - (((v0).toUInt32 >>> (((nZ 1)).toUInt32 &&& Int32.toUInt32 31)).toInt32 &&& (nZ 1431655765))) &&& (nZ 858993459)) + ((((v0 - (((v0).toUInt32 >>> (((nZ 1)).toUInt32 &&& Int32.toUInt32 31)).toInt32 &&& (nZ 1431655765)))).toUInt32 >>> (((nZ 2)).toUInt32 &&& Int32.toUInt32 31)).toInt32 &&& (nZ 858993459)))).toUInt32 >>> (((nZ 4)).toUInt32 &&& Int32.toUInt32 31)).toInt32) &&& (nZ 252645135))).toUInt32 >>> (((nZ 8)).toUInt32 &&& Int32.toUInt32 31)).toInt32)]) rfl (fun _ => rfl)).trans <| (s_iload_n rfl rfl).trans <| (s_iload_n rfl rfl).trans <| (s_bipush rfl).trans <| (s_iushr rfl).trans <| (s_iadd rfl).trans <| (s_istore_n (ls2 := [.int (((((((v0 - (((v0).toUInt32 >>> (((nZ 1)).toUInt32 &&& Int32.toUInt32 31)).toInt32 &&& (nZ 1431655765))) &&& (nZ 858993459)) + ((((v0 - (((v0).toUInt32 >>> (((nZ 1)).toUInt32 &&& Int32.toUInt32 31)).toInt32 &&& (nZ 1431655765)))).toUInt32 >>> (((nZ 2)).toUInt32 &&& Int32.toUInt32 31)).toInt32 &&& (nZ 858993459))) + (((((v0 - (((v0).toUInt32 >>> (((nZ 1)).toUInt32 &&& Int32.toUInt32 31)).toInt32 &&& (nZ 1431655765))) &&& (nZ 858993459)) + ((((v0 - (((v0).toUInt32 >>> (((nZ 1)).toUInt32 &&& Int32.toUInt32 31)).toInt32 &&& (nZ 1431655765)))).toUInt32 >>> (((nZ 2)).toUInt32 &&& Int32.toUInt32 31)).toInt32 &&& (nZ 858993459)))).toUInt32 >>> (((nZ 4)).toUInt32 &&& Int32.toUInt32 31)).toInt32) &&& (nZ 252645135)) + (((((((v0 - (((v0).toUInt32 >>> (((nZ 1)).toUInt32 &&& Int32.toUInt32 31)).toInt32 &&& (nZ 1431655765))) &&& (nZ 858993459)) + ((((v0 - (((v0).toUInt32 >>> (((nZ 1)).toUInt32 &&& Int32.toUInt32 31)).toInt32 &&& (nZ 1431655765)))).toUInt32 >>> (((nZ 2)).toUInt32 &&& Int32.toUInt32 31)).toInt32 &&& (nZ 858993459))) + (((((v0 - (((v0).toUInt32 >>> (((nZ 1)).toUInt32 &&& Int32.toUInt32 31)).toInt32 &&& (nZ 1431655765))) &&& (nZ 858993459)) + ((((v0 - (((v0).toUInt32 >>> (((nZ 1)).toUInt32 &&& Int32.toUInt32 31)).toInt32 &&& (nZ 1431655765)))).toUInt32 >>> (((nZ 2)).toUInt32 &&& Int32.toUInt32 31)).toInt32 &&& (nZ 858993459)))).toUInt32 >>> (((nZ 4)).toUInt32 &&& Int32.toUInt32 31)).toInt32) &&& (nZ 252645135))).toUInt32 >>> (((nZ 8)).toUInt32 &&& Int32.toUInt32 31)).toInt32) + ((((((((v0 - (((v0).toUInt32 >>> (((nZ 1)).toUInt32 &&& Int32.toUInt32 31)).toInt32 &&& (nZ 1431655765))) &&& (nZ 858993459)) + ((((v0 - (((v0).toUInt32 >>> (((nZ 1)).toUInt32 &&& Int32.toUInt32 31)).toInt32 &&& (nZ 1431655765)))).toUInt32 >>> (((nZ 2)).toUInt32 &&& Int32.toUInt32 31)).toInt32 &&& (nZ 858993459))) + (((((v0 - (((v0).toUInt32 >>> (((nZ 1)).toUInt32 &&& Int32.toUInt32 31)).toInt32 &&& (nZ 1431655765))) &&& (nZ 858993459)) + ((((v0 - (((v0).toUInt32 >>> (((nZ 1)).toUInt32 &&& Int32.toUInt32 31)).toInt32 &&& (nZ 1431655765)))).toUInt32 >>> (((nZ 2)).toUInt32 &&& Int32.toUInt32 31)).toInt32 &&& (nZ 858993459)))).toUInt32 >>> (((nZ 4)).toUInt32 &&& Int32.toUInt32 31)).toInt32) &&& (nZ 252645135)) + (((((((v0 - (((v0).toUInt32 >>> (((nZ 1)).toUInt32 &&& Int32.toUInt32 31)).toInt32 &&& (nZ 1431655765))) &&& (nZ 858993459)) + ((((v0 - (((v0).toUInt32 >>> (((nZ 1)).toUInt32 &&& Int32.toUInt32 31)).toInt32 &&& (nZ 1431655765)))).toUInt32 >>> (((nZ 2)).toUInt32 &&& Int32.toUInt32 31)).toInt32 &&& (nZ 858993459))) + (((((v0 - (((v0).toUInt32 >>> (((nZ 1)).toUInt32 &&& Int32.toUInt32 31)).toInt32 &&& (nZ 1431655765))) &&& (nZ 858993459)) + ((((v0 - (((v0).toUInt32 >>> (((nZ 1)).toUInt32 &&& Int32.toUInt32 31)).toInt32 &&& (nZ 1431655765)))).toUInt32 >>> (((nZ 2)).toUInt32 &&& Int32.toUInt32 31)).toInt32 &&& (nZ 858993459)))).toUInt32 >>> (((nZ 4)).toUInt32 &&& Int32.toUInt32 31)).toInt32) &&& (nZ 252645135))).toUInt32 >>> (((nZ 8)).toUInt32 &&& Int32.toUInt32 31)).toInt32)).toUInt32 >>> (((nZ 16)).toUInt32 &&& Int32.toUInt32 31)).toInt32)]) rfl (fun _ => rfl)).trans <| (s_iload_n rfl rfl).trans <| (s_bipush rfl).trans <| (s_iand rfl).trans <| s_iret1 rfl rfl
theorem mc_J9_abs_0f7a4 (X : mv_X) (d : Nat) (h : mv_H) (v0 : Int32) : mv_call X (d + 1) 265 [.int v0] h = mv_run X (mv_call X d) m_J9_abs_0f7a4 0 [.int v0] [] h := rfl
theorem bk_J9_abs_0f7a4_0 (X : mv_X) (call : mv_G) (h : mv_H) (v0 : Int32) : mv_run X call m_J9_abs_0f7a4 0 [.int v0] [] h =
  if 0 ≤ v0 then 
  ((some (.inl (some (.int v0)), h)))
  else ((some (.inl (some (.int (-v0))), h))) :=
  (s_iload_n rfl rfl).trans <| (s_if_ge rfl).trans <| c_ite ((s_iload_n rfl rfl).trans <| s_iret1 rfl rfl) ((s_iload_n rfl rfl).trans <| (s_ineg rfl).trans <| (s_goto rfl).trans <| s_iret1 rfl rfl)
theorem mc_J9_max_7cf53 (X : mv_X) (d : Nat) (h : mv_H) (v0 : Int32) (v1 : Int32) : mv_call X (d + 1) 266 [.int v0, .int v1] h = mv_run X (mv_call X d) m_J9_max_7cf53 0 [.int v0, .int v1] [] h := rfl
theorem bk_J9_max_7cf53_0 (X : mv_X) (call : mv_G) (h : mv_H) (v0 : Int32) (v1 : Int32) : mv_run X call m_J9_max_7cf53 0 [.int v0, .int v1] [] h =
  if v0 < v1 then 
  ((some (.inl (some (.int v1)), h)))
  else ((some (.inl (some (.int v0)), h))) :=
  (s_iload_n rfl rfl).trans <| (s_iload_n rfl rfl).trans <| (s_icmp_lt rfl).trans <| c_ite ((s_iload_n rfl rfl).trans <| s_iret1 rfl rfl) ((s_iload_n rfl rfl).trans <| (s_goto rfl).trans <| s_iret1 rfl rfl)
theorem mc_J9_min_7cf53 (X : mv_X) (d : Nat) (h : mv_H) (v0 : Int32) (v1 : Int32) : mv_call X (d + 1) 267 [.int v0, .int v1] h = mv_run X (mv_call X d) m_J9_min_7cf53 0 [.int v0, .int v1] [] h := rfl
theorem bk_J9_min_7cf53_0 (X : mv_X) (call : mv_G) (h : mv_H) (v0 : Int32) (v1 : Int32) : mv_run X call m_J9_min_7cf53 0 [.int v0, .int v1] [] h =
  if v1 < v0 then 
  ((some (.inl (some (.int v1)), h)))
  else ((some (.inl (some (.int v0)), h))) :=
  (s_iload_n rfl rfl).trans <| (s_iload_n rfl rfl).trans <| (s_icmp_gt rfl).trans <| c_ite ((s_iload_n rfl rfl).trans <| s_iret1 rfl rfl) ((s_iload_n rfl rfl).trans <| (s_goto rfl).trans <| s_iret1 rfl rfl)
theorem mc_J0_length_8abf5 (X : mv_X) (d : Nat) (h : mv_H) (a0 : Nat) : mv_call X (d + 1) 268 [.ref a0] h = mv_run X (mv_call X d) m_J0_length_8abf5 0 [.ref a0] [] h := rfl
theorem bk_J0_length_8abf5_0 (X : mv_X) (call : mv_G) (h : mv_H) (a0 : Nat) : mv_run X call m_J0_length_8abf5 0 [.ref a0] [] h =
  mv_gR X h a0 0 0 fun r1 =>
  mv_len X h r1 fun x1 =>
  mv_rcv X h [.ref a0] 0 (mv_clI call 270 [.ref a0] h mv_raise fun x2 h1 =>
  (some (.inl (some (.int (x1 >>> (x2 &&& 31)))), h1))) :=
  (s_aload_n rfl rfl).trans <| (s_gf2 rfl rfl).trans <| c_gR fun r1 => (s_alen rfl).trans <| c_len fun x1 => (s_aload_n rfl rfl).trans <| (s_v1 [.ref a0] [.int x1] rfl rfl (fun _ => rfl)).trans <| c_rcv <| c_clI fun x2 h1 => (s_ishr rfl).trans <| s_iret1 rfl rfl
theorem mc_J0_charAt_5068e (X : mv_X) (d : Nat) (h : mv_H) (a0 : Nat) (v1 : Int32) : mv_call X (d + 1) 269 [.ref a0, .int v1] h = mv_run X (mv_call X d) m_J0_charAt_5068e 0 [.ref a0, .int v1] [] h := rfl
theorem bk_J0_charAt_5068e_0 (X : mv_X) (call : mv_G) (h : mv_H) (a0 : Nat) (v1 : Int32) : mv_run X call m_J0_charAt_5068e 0 [.ref a0, .int v1] [] h =
  mv_rcv X h [.ref a0] 0 (mv_clI call 271 [.ref a0] h mv_raise fun x1 h1 =>
  if x1 = 0 then 
  (mv_gR X h1 a0 0 0 fun r1 =>
    none)
  else (mv_gR X h1 a0 0 0 fun r2 =>
    mv_clI call 279 [.ref r2, .int v1] h1 mv_raise fun x2 h2 =>
    mv_chk (mv_ok 7 x2) (some (.inl (some (.int x2)), h2)))) :=
  (s_aload_n rfl rfl).trans <| (s_v1 [.ref a0] [] rfl rfl (fun _ => rfl)).trans <| c_rcv <| c_clI fun x1 h1 => (s_if_eq rfl).trans <| c_ite ((s_aload_n rfl rfl).trans <| (s_gf2 rfl rfl).trans <| c_gR fun r1 => (s_iload_n rfl rfl).trans <| s_dead (.invokestatic 498) rfl rfl) ((s_aload_n rfl rfl).trans <| (s_gf2 rfl rfl).trans <| c_gR fun r2 => (s_iload_n rfl rfl).trans <| (s_s1 [.ref r2, .int v1] [] rfl rfl (fun _ => rfl)).trans <| c_clI fun x2 h2 => s_iret rfl)
theorem mc_J0_coder_7d493 (X : mv_X) (d : Nat) (h : mv_H) (a0 : Nat) : mv_call X (d + 1) 270 [.ref a0] h = mv_run X (mv_call X d) m_J0_coder_7d493 0 [.ref a0] [] h := rfl
theorem bk_J0_coder_7d493_0 (X : mv_X) (call : mv_G) (h : mv_H) (a0 : Nat) : mv_run X call m_J0_coder_7d493 0 [.ref a0] [] h =
  mv_int (X.2.2 0) fun x1 =>
  if x1 = 0 then 
  ((some (.inl (some (.int (nZ 1))), h)))
  else (mv_gI X h a0 0 1 fun x2 =>
    mv_chk (mv_ok 8 x2) (some (.inl (some (.int x2)), h))) :=
  (s_gs6 rfl rfl).trans <| c_int fun x1 => (s_if_eq rfl).trans <| c_ite ((s_iconst rfl).trans <| s_iretb rfl rfl) ((s_aload_n rfl rfl).trans <| (s_gf8 rfl rfl).trans <| c_gI fun x2 => (s_goto rfl).trans <| s_iret rfl)
theorem mc_J0_isLatin1_aae02 (X : mv_X) (d : Nat) (h : mv_H) (a0 : Nat) : mv_call X (d + 1) 271 [.ref a0] h = mv_run X (mv_call X d) m_J0_isLatin1_aae02 0 [.ref a0] [] h := rfl
theorem bk_J0_isLatin1_aae02_0 (X : mv_X) (call : mv_G) (h : mv_H) (a0 : Nat) : mv_run X call m_J0_isLatin1_aae02 0 [.ref a0] [] h =
  mv_int (X.2.2 0) fun x1 =>
  if x1 = 0 then 
  ((some (.inl (some (.int (nZ 0))), h)))
  else (mv_gI X h a0 0 1 fun x2 =>
    if x2 = 0 then 
    ((some (.inl (some (.int (nZ 1))), h)))
    else ((some (.inl (some (.int (nZ 0))), h)))) :=
  (s_gs6 rfl rfl).trans <| c_int fun x1 => (s_if_eq rfl).trans <| c_ite ((s_iconst rfl).trans <| s_iretb rfl rfl) ((s_aload_n rfl rfl).trans <| (s_gf8 rfl rfl).trans <| c_gI fun x2 => (s_if_ne rfl).trans <| c_ite ((s_iconst rfl).trans <| (s_goto rfl).trans <| s_iretb rfl rfl) ((s_iconst rfl).trans <| s_iretb rfl rfl))
theorem mc_J0_checkIndex_df160 (X : mv_X) (d : Nat) (h : mv_H) (v0 : Int32) (v1 : Int32) : mv_call X (d + 1) 272 [.int v0, .int v1] h = mv_run X (mv_call X d) m_J0_checkIndex_df160 0 [.int v0, .int v1] [] h := rfl
theorem bk_J0_checkIndex_df160_0 (X : mv_X) (call : mv_G) (h : mv_H) (v0 : Int32) (v1 : Int32) : mv_run X call m_J0_checkIndex_df160 0 [.int v0, .int v1] [] h =
  mv_chk (mv_nr (X.2.2 3)) (
  mv_clI call 284 [.int v0, .int v1, (X.2.2 3)] h mv_raise fun x1 h1 =>
  (some (.inl none, h1))) :=
  (s_iload_n rfl rfl).trans <| (s_iload_n rfl rfl).trans <| (s_gs9 rfl rfl).trans <| c_chkH fun hb => (s_s1 [.int v0, .int v1, (X.2.2 3)] [] rfl rfl (mv_args_J hb)).trans <| c_clI fun x1 h1 => (s_popI rfl).trans <| s_ret rfl rfl
theorem mc_J4_init_da8c8 (X : mv_X) (d : Nat) (h : mv_H) (a0 : Nat) : mv_call X (d + 1) 273 [.ref a0] h = mv_run X (mv_call X d) m_J4_init_da8c8 0 [.ref a0] [] h := rfl
theorem bk_J4_init_da8c8_0 (X : mv_X) (call : mv_G) (h : mv_H) (a0 : Nat) : mv_run X call m_J4_init_da8c8 0 [.ref a0] [] h =
  mv_clV call 253 [.ref a0, .int (nZ 16)] h mv_raise fun h1 =>
  (some (.inl none, h1)) :=
  (s_aload_n rfl rfl).trans <| (s_bipush rfl).trans <| (s_i0 [.int (nZ 16)] [] rfl rfl (fun _ => rfl)).trans <| c_clV fun h1 => s_ret rfl rfl
theorem mc_J4_append_cf468 (X : mv_X) (d : Nat) (h : mv_H) (a0 : Nat) (v1 : Int32) : mv_call X (d + 1) 274 [.ref a0, .int v1] h = mv_run X (mv_call X d) m_J4_append_cf468 0 [.ref a0, .int v1] [] h := rfl
theorem bk_J4_append_cf468_0 (X : mv_X) (call : mv_G) (h : mv_H) (a0 : Nat) (v1 : Int32) : mv_run X call m_J4_append_cf468 0 [.ref a0, .int v1] [] h =
  mv_rcv X h [.ref a0, .int v1] 1 (mv_clR call 259 [.ref a0, .int v1] h mv_raise fun r1 h1 =>
  (some (.inl (some (.ref a0)), h1))) :=
  (s_aload_n rfl rfl).trans <| (s_iload_n rfl rfl).trans <| (s_u2 [.ref a0, .int v1] [] rfl rfl (fun _ => rfl)).trans <| c_rcv <| c_clR fun r1 h1 => (s_popR rfl).trans <| (s_aload_n rfl rfl).trans <| s_areturn rfl rfl
theorem mc_J4_append_bf812 (X : mv_X) (d : Nat) (h : mv_H) (a0 : Nat) (v1 : Int32) : mv_call X (d + 1) 275 [.ref a0, .int v1] h = mv_run X (mv_call X d) m_J4_append_bf812 0 [.ref a0, .int v1] [] h := rfl
theorem bk_J4_append_bf812_0 (X : mv_X) (call : mv_G) (h : mv_H) (a0 : Nat) (v1 : Int32) : mv_run X call m_J4_append_bf812 0 [.ref a0, .int v1] [] h =
  mv_rcv X h [.ref a0, .int v1] 1 (mv_clR call 260 [.ref a0, .int v1] h mv_raise fun r1 h1 =>
  (some (.inl (some (.ref a0)), h1))) :=
  (s_aload_n rfl rfl).trans <| (s_iload_n rfl rfl).trans <| (s_u2 [.ref a0, .int v1] [] rfl rfl (fun _ => rfl)).trans <| c_rcv <| c_clR fun r1 h1 => (s_popR rfl).trans <| (s_aload_n rfl rfl).trans <| s_areturn rfl rfl
theorem mc_J4_setLength_d00df (X : mv_X) (d : Nat) (h : mv_H) (a0 : Nat) (v1 : Int32) : mv_call X (d + 1) 277 [.ref a0, .int v1] h = mv_run X (mv_call X d) m_J4_setLength_d00df 0 [.ref a0, .int v1] [] h := rfl
theorem bk_J4_setLength_d00df_0 (X : mv_X) (call : mv_G) (h : mv_H) (a0 : Nat) (v1 : Int32) : mv_run X call m_J4_setLength_d00df 0 [.ref a0, .int v1] [] h =
  mv_rcv X h [.ref a0, .int v1] 1 (mv_clV call 257 [.ref a0, .int v1] h mv_raise fun h1 =>
  (some (.inl none, h1))) :=
  (s_aload_n rfl rfl).trans <| (s_iload_n rfl rfl).trans <| (s_u0 [.ref a0, .int v1] [] rfl rfl (fun _ => rfl)).trans <| c_rcv <| c_clV fun h1 => s_ret rfl rfl
theorem mc_J4_length_8abf5 (X : mv_X) (d : Nat) (h : mv_H) (a0 : Nat) : mv_call X (d + 1) 278 [.ref a0] h = mv_run X (mv_call X d) m_J4_length_8abf5 0 [.ref a0] [] h := rfl
theorem bk_J4_length_8abf5_0 (X : mv_X) (call : mv_G) (h : mv_H) (a0 : Nat) : mv_run X call m_J4_length_8abf5 0 [.ref a0] [] h =
  mv_rcv X h [.ref a0] 1 (mv_clI call 254 [.ref a0] h mv_raise fun x1 h1 =>
  (some (.inl (some (.int x1)), h1))) :=
  (s_aload_n rfl rfl).trans <| (s_u1 [.ref a0] [] rfl rfl (fun _ => rfl)).trans <| c_rcv <| c_clI fun x1 h1 => s_iret1 rfl rfl
theorem mc_J1_charAt_3b067 (X : mv_X) (d : Nat) (h : mv_H) (a0 : Nat) (v1 : Int32) : mv_call X (d + 1) 279 [.ref a0, .int v1] h = mv_run X (mv_call X d) m_J1_charAt_3b067 0 [.ref a0, .int v1] [] h := rfl
theorem bk_J1_charAt_3b067_0 (X : mv_X) (call : mv_G) (h : mv_H) (a0 : Nat) (v1 : Int32) : mv_run X call m_J1_charAt_3b067 0 [.ref a0, .int v1] [] h =
  mv_len X h a0 fun x1 =>
  mv_clV call 272 [.int v1, .int x1] h mv_raise fun h1 =>
  mv_aI X h1 8 a0 v1 fun x2 =>
  mv_chk (mv_ok 7 (((x2 &&& (nZ 255))).toUInt32 % 65536).toInt32) (some (.inl (some (.int (((x2 &&& (nZ 255))).toUInt32 % 65536).toInt32)), h1)) :=
  (s_iload_n rfl rfl).trans <| (s_aload_n rfl rfl).trans <| (s_alen rfl).trans <| c_len fun x1 => (s_s0 [.int v1, .int x1] [] rfl rfl (fun _ => rfl)).trans <| c_clV fun h1 => (s_aload_n rfl rfl).trans <| (s_iload_n rfl rfl).trans <| (s_baload rfl).trans <| c_aI fun x2 => (s_sipush rfl).trans <| (s_iand rfl).trans <| (s_i2c rfl).trans <| s_iret rfl
theorem mc_J1_canEncode_fc78d (X : mv_X) (d : Nat) (h : mv_H) (v0 : Int32) : mv_call X (d + 1) 280 [.int v0] h = mv_run X (mv_call X d) m_J1_canEncode_fc78d 0 [.int v0] [] h := rfl
theorem bk_J1_canEncode_fc78d_0 (X : mv_X) (call : mv_G) (h : mv_H) (v0 : Int32) : mv_run X call m_J1_canEncode_fc78d 0 [.int v0] [] h =
  if (nZ 255) < v0 then 
  ((some (.inl (some (.int (nZ 0))), h)))
  else ((some (.inl (some (.int (nZ 1))), h))) :=
  (s_iload_n rfl rfl).trans <| (s_sipush rfl).trans <| (s_icmp_gt rfl).trans <| c_ite ((s_iconst rfl).trans <| s_iretb rfl rfl) ((s_iconst rfl).trans <| (s_goto rfl).trans <| s_iretb rfl rfl)
theorem mc_J7_fill_53178 (X : mv_X) (d : Nat) (h : mv_H) (a0 : Nat) (v1 : Int32) : mv_call X (d + 1) 281 [.ref a0, .int v1] h = mv_run X (mv_call X d) m_J7_fill_53178 0 [.ref a0, .int v1, .retAddr 0, .retAddr 0] [] h := rfl
theorem bk_J7_fill_53178_0 (X : mv_X) (call : mv_G) (h : mv_H) (a0 : Nat) (v1 : Int32) : mv_run X call m_J7_fill_53178 0 [.ref a0, .int v1, .retAddr 0, .retAddr 0] [] h =
  mv_len X h a0 fun x1 =>
  mv_run X call m_J7_fill_53178 5 [.ref a0, .int v1, .int (nZ 0), .int x1] [] h :=
  (s_iconst rfl).trans <| (s_istore_n (ls2 := [.ref a0, .int v1, .int (nZ 0), .retAddr 0]) rfl (fun _ => rfl)).trans <| (s_aload_n rfl rfl).trans <| (s_alen rfl).trans <| c_len fun x1 => (s_istore_n (ls2 := [.ref a0, .int v1, .int (nZ 0), .int x1]) rfl (fun _ => rfl)).trans <| rfl
theorem bk_J7_fill_53178_5 (X : mv_X) (call : mv_G) (h : mv_H) (a0 : Nat) (v1 : Int32) (v2 : Int32) (v3 : Int32) : mv_run X call m_J7_fill_53178 5 [.ref a0, .int v1, .int v2, .int v3] [] h =
  if v3 ≤ v2 then 
  ((some (.inl none, h)))
  else (mv_as h 1 a0 v2 (.int v1) fun h1 =>
    mv_run X call m_J7_fill_53178 5 [.ref a0, .int v1, .int (v2 + nZ 1), .int v3] [] h1) :=
  (s_iload_n rfl rfl).trans <| (s_iload_n rfl rfl).trans <| (s_icmp_ge rfl).trans <| c_ite (s_ret rfl rfl) ((s_aload_n rfl rfl).trans <| (s_iload_n rfl rfl).trans <| (s_iload_n rfl rfl).trans <| (s_iastore rfl).trans <| c_as fun h1 => (s_iinc (ls2 := [.ref a0, .int v1, .int (v2 + nZ 1), .int v3]) rfl rfl (fun _ => rfl)).trans <| (s_goto rfl).trans <| rfl)
theorem mc_J7_copyOf_9075b (X : mv_X) (d : Nat) (h : mv_H) (a0 : Nat) (v1 : Int32) : mv_call X (d + 1) 282 [.ref a0, .int v1] h = mv_run X (mv_call X d) m_J7_copyOf_9075b 0 [.ref a0, .int v1, .retAddr 0] [] h := rfl
theorem bk_J7_copyOf_9075b_0 (X : mv_X) (call : mv_G) (h : mv_H) (a0 : Nat) (v1 : Int32) : mv_run X call m_J7_copyOf_9075b 0 [.ref a0, .int v1, .retAddr 0] [] h =
  mv_len X h a0 fun x1 =>
  if v1 = x1 then 
  (mv_cln h a0 fun r1 h1 =>
    mv_isB h1 r1 (
    (some (.inl (some (.ref r1)), h1))))
  else (mv_newa h .byte (.int 0) v1 fun r2 h2 =>
    mv_len X h2 a0 fun x2 =>
    mv_clI call 267 [.int x2, .int v1] h2 mv_raise fun x3 h3 =>
    mv_cpy X h3 a0 (nZ 0) r2 (nZ 0) x3 fun h4 =>
    (some (.inl (some (.ref r2)), h4))) :=
  (s_iload_n rfl rfl).trans <| (s_aload_n rfl rfl).trans <| (s_alen rfl).trans <| c_len fun x1 => (s_icmp_ne rfl).trans <| c_ite ((s_aload_n rfl rfl).trans <| (s_cln [] rfl rfl (fun _ => rfl)).trans <| c_cln fun r1 h1 => (s_castB rfl rfl).trans <| c_isB <| s_areturn rfl rfl) ((s_iload_n rfl rfl).trans <| (s_newa_byte rfl).trans <| c_newa fun r2 h2 => (s_astore_n (ls2 := [.ref a0, .int v1, .ref r2]) rfl (fun _ => rfl)).trans <| (s_aload_n rfl rfl).trans <| (s_iconst rfl).trans <| (s_aload_n rfl rfl).trans <| (s_iconst rfl).trans <| (s_aload_n rfl rfl).trans <| (s_alen rfl).trans <| c_len fun x2 => (s_iload_n rfl rfl).trans <| (s_s1 [.int x2, .int v1] [.int (nZ 0), .ref r2, .int (nZ 0), .ref a0] rfl rfl (fun _ => rfl)).trans <| c_clI fun x3 h3 => (s_cpy [] rfl rfl (fun _ => rfl)).trans <| c_cpy fun h4 => (s_aload_n rfl rfl).trans <| s_areturn rfl rfl)
theorem mc_J8_newLength_cabcc (X : mv_X) (d : Nat) (h : mv_H) (v0 : Int32) (v1 : Int32) (v2 : Int32) : mv_call X (d + 1) 283 [.int v0, .int v1, .int v2] h = mv_run X (mv_call X d) m_J8_newLength_cabcc 0 [.int v0, .int v1, .int v2, .retAddr 0] [] h := rfl
theorem bk_J8_newLength_cabcc_0 (X : mv_X) (call : mv_G) (h : mv_H) (v0 : Int32) (v1 : Int32) (v2 : Int32) : mv_run X call m_J8_newLength_cabcc 0 [.int v0, .int v1, .int v2, .retAddr 0] [] h =
  mv_clI call 266 [.int v1, .int v2] h mv_raise fun x1 h1 =>
  if (v0 + x1) ≤ (nZ 0) then 
  (none)
  else (if (nZ 2147483639) < (v0 + x1) then 
    (none)
    else ((some (.inl (some (.int (v0 + x1))), h1)))) :=
  (s_iload_n rfl rfl).trans <| (s_iload_n rfl rfl).trans <| (s_iload_n rfl rfl).trans <| (s_s1 [.int v1, .int v2] [.int v0] rfl rfl (fun _ => rfl)).trans <| c_clI fun x1 h1 => (s_iadd rfl).trans <| (s_istore_n (ls2 := [.int v0, .int v1, .int v2, .int (v0 + x1)]) rfl (fun _ => rfl)).trans <| (s_iconst rfl).trans <| (s_iload_n rfl rfl).trans <| (s_icmp_ge rfl).trans <| c_ite ((s_iload_n rfl rfl).trans <| (s_iload_n rfl rfl).trans <| s_dead (.invokestatic 201) rfl rfl) ((s_iload_n rfl rfl).trans <| (s_ldcI 2147483639 rfl).trans <| (s_icmp_gt rfl).trans <| c_ite ((s_iload_n rfl rfl).trans <| (s_iload_n rfl rfl).trans <| s_dead (.invokestatic 201) rfl rfl) ((s_iload_n rfl rfl).trans <| s_iret1 rfl rfl))
theorem mc_J3_checkIndex_8e157 (X : mv_X) (d : Nat) (h : mv_H) (v0 : Int32) (v1 : Int32) (j2 : Value) : mv_call X (d + 1) 284 [.int v0, .int v1, j2] h = mv_run X (mv_call X d) m_J3_checkIndex_8e157 0 [.int v0, .int v1, j2] [] h := rfl
theorem bk_J3_checkIndex_8e157_0 (X : mv_X) (call : mv_G) (h : mv_H) (v0 : Int32) (v1 : Int32) (j2 : Value) : mv_run X call m_J3_checkIndex_8e157 0 [.int v0, .int v1, j2] [] h =
  if v0 < 0 then 
  (mv_ref j2 fun r1 =>
    none)
  else (if v0 < v1 then 
    ((some (.inl (some (.int v0)), h)))
    else (mv_ref j2 fun r2 =>
      none)) :=
  (s_iload_n rfl rfl).trans <| (s_if_lt rfl).trans <| c_ite ((s_aloadJ_n rfl rfl).trans <| c_ref fun r1 => (s_iload_n rfl rfl).trans <| (s_iload_n rfl rfl).trans <| s_dead (.invokestatic 95) rfl rfl) ((s_iload_n rfl rfl).trans <| (s_iload_n rfl rfl).trans <| (s_icmp_lt rfl).trans <| c_ite ((s_iload_n rfl rfl).trans <| s_iret1 rfl rfl) ((s_aloadJ_n rfl rfl).trans <| c_ref fun r2 => (s_iload_n rfl rfl).trans <| (s_iload_n rfl rfl).trans <| s_dead (.invokestatic 95) rfl rfl))
theorem mc_J5_append_cf1ce (X : mv_X) (d : Nat) (h : mv_H) (a0 : Nat) (a1 : Nat) : mv_call X (d + 1) 330 [.ref a0, .ref a1] h = mv_run X (mv_call X d) m_J5_append_cf1ce 0 [.ref a0, .ref a1, .retAddr 0] [] h := rfl
theorem bk_J5_append_cf1ce_0 (X : mv_X) (call : mv_G) (h : mv_H) (a0 : Nat) (a1 : Nat) : mv_run X call m_J5_append_cf1ce 0 [.ref a0, .ref a1, .retAddr 0] [] h =
  mv_rcv X h [.ref a1] 0 (mv_clI call 268 [.ref a1] h mv_raise fun x1 h1 =>
  mv_gI X h1 a0 1 3 fun x2 =>
  mv_rcv X h1 [.ref a0, .int (x2 + x1)] 1 (mv_clV call 255 [.ref a0, .int (x2 + x1)] h1 mv_raise fun h2 =>
  mv_gI X h2 a0 1 3 fun x3 =>
  mv_rcv X h2 [.ref a0, .int x3, .ref a1] 1 (mv_clV call 333 [.ref a0, .int x3, .ref a1] h2 mv_raise fun h3 =>
  mv_gI X h3 a0 1 3 fun x4 =>
  mv_pf h3 a0 1 3 (.int (x4 + x1)) fun h4 =>
  (some (.inl (some (.ref a0)), h4))))) :=
  (s_aload_n rfl rfl).trans <| (s_ifnn rfl).trans <| (s_aload_n rfl rfl).trans <| (s_v1 [.ref a1] [] rfl rfl (fun _ => rfl)).trans <| c_rcv <| c_clI fun x1 h1 => (s_istore_n (ls2 := [.ref a0, .ref a1, .int x1]) rfl (fun _ => rfl)).trans <| (s_aload_n rfl rfl).trans <| (s_aload_n rfl rfl).trans <| (s_gf1 rfl rfl).trans <| c_gI fun x2 => (s_iload_n rfl rfl).trans <| (s_iadd rfl).trans <| (s_v0 [.ref a0, .int (x2 + x1)] [] rfl rfl (fun _ => rfl)).trans <| c_rcv <| c_clV fun h2 => (s_aload_n rfl rfl).trans <| (s_aload_n rfl rfl).trans <| (s_gf1 rfl rfl).trans <| c_gI fun x3 => (s_aload_n rfl rfl).trans <| (s_v0 [.ref a0, .int x3, .ref a1] [] rfl rfl (fun _ => rfl)).trans <| c_rcv <| c_clV fun h3 => (s_aload_n rfl rfl).trans <| (s_dupR rfl).trans <| (s_gf1 rfl rfl).trans <| c_gI fun x4 => (s_iload_n rfl rfl).trans <| (s_iadd rfl).trans <| (s_pf1 rfl rfl).trans <| c_pf fun h4 => (s_aload_n rfl rfl).trans <| s_areturn rfl rfl
theorem mc_J5_getValue_6d5f1 (X : mv_X) (d : Nat) (h : mv_H) (a0 : Nat) : mv_call X (d + 1) 331 [.ref a0] h = mv_run X (mv_call X d) m_J5_getValue_6d5f1 0 [.ref a0] [] h := rfl
theorem bk_J5_getValue_6d5f1_0 (X : mv_X) (call : mv_G) (h : mv_H) (a0 : Nat) : mv_run X call m_J5_getValue_6d5f1 0 [.ref a0] [] h =
  mv_gR X h a0 1 0 fun r1 =>
  (some (.inl (some (.ref r1)), h)) :=
  (s_aload_n rfl rfl).trans <| (s_gf2 rfl rfl).trans <| c_gR fun r1 => s_areturn rfl rfl
theorem mc_J5_inflateIfNeededFor_a7421 (X : mv_X) (d : Nat) (h : mv_H) (a0 : Nat) (a1 : Nat) : mv_call X (d + 1) 332 [.ref a0, .ref a1] h = mv_run X (mv_call X d) m_J5_inflateIfNeededFor_a7421 0 [.ref a0, .ref a1] [] h := rfl
theorem bk_J5_inflateIfNeededFor_a7421_0 (X : mv_X) (call : mv_G) (h : mv_H) (a0 : Nat) (a1 : Nat) : mv_run X call m_J5_inflateIfNeededFor_a7421 0 [.ref a0, .ref a1] [] h =
  mv_int (X.2.2 0) fun x1 =>
  if x1 = 0 then 
  ((some (.inl none, h)))
  else (mv_gI X h a0 1 1 fun x2 =>
    mv_rcv X h [.ref a1] 0 (mv_clI call 270 [.ref a1] h mv_raise fun x3 h1 =>
    if x2 = x3 then 
    ((some (.inl none, h1)))
    else (none))) :=
  (s_gs6 rfl rfl).trans <| c_int fun x1 => (s_if_eq rfl).trans <| c_ite (s_ret rfl rfl) ((s_aload_n rfl rfl).trans <| (s_gf8 rfl rfl).trans <| c_gI fun x2 => (s_aload_n rfl rfl).trans <| (s_v1 [.ref a1] [.int x2] rfl rfl (fun _ => rfl)).trans <| c_rcv <| c_clI fun x3 h1 => (s_icmp_eq rfl).trans <| c_ite (s_ret rfl rfl) ((s_aload_n rfl rfl).trans <| s_dead (.invokevirtual 195) rfl rfl))
theorem mc_J5_putStringAt_47b60 (X : mv_X) (d : Nat) (h : mv_H) (a0 : Nat) (v1 : Int32) (a2 : Nat) : mv_call X (d + 1) 333 [.ref a0, .int v1, .ref a2] h = mv_run X (mv_call X d) m_J5_putStringAt_47b60 0 [.ref a0, .int v1, .ref a2] [] h := rfl
theorem bk_J5_putStringAt_47b60_0 (X : mv_X) (call : mv_G) (h : mv_H) (a0 : Nat) (v1 : Int32) (a2 : Nat) : mv_run X call m_J5_putStringAt_47b60 0 [.ref a0, .int v1, .ref a2] [] h =
  mv_rcv X h [.ref a0, .ref a2] 1 (mv_clV call 332 [.ref a0, .ref a2] h mv_raise fun h1 =>
  mv_gR X h1 a0 1 0 fun r1 =>
  mv_gI X h1 a0 1 1 fun x1 =>
  mv_rcv X h1 [.ref a2, .ref r1, .int v1, .int x1] 0 (mv_clV call 335 [.ref a2, .ref r1, .int v1, .int x1] h1 mv_raise fun h2 =>
  (some (.inl none, h2)))) :=
  (s_aload_n rfl rfl).trans <| (s_aload_n rfl rfl).trans <| (s_v0 [.ref a0, .ref a2] [] rfl rfl (fun _ => rfl)).trans <| c_rcv <| c_clV fun h1 => (s_aload_n rfl rfl).trans <| (s_aload_n rfl rfl).trans <| (s_gf2 rfl rfl).trans <| c_gR fun r1 => (s_iload_n rfl rfl).trans <| (s_aload_n rfl rfl).trans <| (s_gf8 rfl rfl).trans <| c_gI fun x1 => (s_v0 [.ref a2, .ref r1, .int v1, .int x1] [] rfl rfl (fun _ => rfl)).trans <| c_rcv <| c_clV fun h2 => s_ret rfl rfl
theorem mc_J0_init_81219 (X : mv_X) (d : Nat) (h : mv_H) (a0 : Nat) (a1 : Nat) : mv_call X (d + 1) 334 [.ref a0, .ref a1] h = mv_run X (mv_call X d) m_J0_init_81219 0 [.ref a0, .ref a1] [] h := rfl
theorem bk_J0_init_81219_0 (X : mv_X) (call : mv_G) (h : mv_H) (a0 : Nat) (a1 : Nat) : mv_run X call m_J0_init_81219 0 [.ref a0, .ref a1] [] h =
  mv_clV call 336 [.ref a0, .ref a1, .null] h mv_raise fun h1 =>
  (some (.inl none, h1)) :=
  (s_aload_n rfl rfl).trans <| (s_aload_n rfl rfl).trans <| (s_null rfl).trans <| (s_i0 [.ref a1, .null] [] rfl rfl (fun _ => rfl)).trans <| c_clV fun h1 => s_ret rfl rfl
theorem mc_J0_getBytes_840e7 (X : mv_X) (d : Nat) (h : mv_H) (a0 : Nat) (a1 : Nat) (v2 : Int32) (v3 : Int32) : mv_call X (d + 1) 335 [.ref a0, .ref a1, .int v2, .int v3] h = mv_run X (mv_call X d) m_J0_getBytes_840e7 0 [.ref a0, .ref a1, .int v2, .int v3] [] h := rfl
theorem bk_J0_getBytes_840e7_0 (X : mv_X) (call : mv_G) (h : mv_H) (a0 : Nat) (a1 : Nat) (v2 : Int32) (v3 : Int32) : mv_run X call m_J0_getBytes_840e7 0 [.ref a0, .ref a1, .int v2, .int v3] [] h =
  mv_rcv X h [.ref a0] 0 (mv_clI call 270 [.ref a0] h mv_raise fun x1 h1 =>
  if x1 = v3 then 
  (mv_gR X h1 a0 0 0 fun r1 =>
    mv_gR X h1 a0 0 0 fun r2 =>
    mv_len X h1 r2 fun x2 =>
    mv_cpy X h1 r1 (nZ 0) a1 (v2 <<< (v3 &&& 31)) x2 fun h2 =>
    (some (.inl none, h2)))
  else (mv_gR X h1 a0 0 0 fun r3 =>
    mv_gR X h1 a0 0 0 fun r4 =>
    mv_len X h1 r4 fun x3 =>
    none)) :=
  (s_aload_n rfl rfl).trans <| (s_v1 [.ref a0] [] rfl rfl (fun _ => rfl)).trans <| c_rcv <| c_clI fun x1 h1 => (s_iload_n rfl rfl).trans <| (s_icmp_ne rfl).trans <| c_ite ((s_aload_n rfl rfl).trans <| (s_gf2 rfl rfl).trans <| c_gR fun r1 => (s_iconst rfl).trans <| (s_aload_n rfl rfl).trans <| (s_iload_n rfl rfl).trans <| (s_iload_n rfl rfl).trans <| (s_ishl rfl).trans <| (s_aload_n rfl rfl).trans <| (s_gf2 rfl rfl).trans <| c_gR fun r2 => (s_alen rfl).trans <| c_len fun x2 => (s_cpy [] rfl rfl (fun _ => rfl)).trans <| c_cpy fun h2 => (s_goto rfl).trans <| s_ret rfl rfl) ((s_aload_n rfl rfl).trans <| (s_gf2 rfl rfl).trans <| c_gR fun r3 => (s_iconst rfl).trans <| (s_aload_n rfl rfl).trans <| (s_iload_n rfl rfl).trans <| (s_aload_n rfl rfl).trans <| (s_gf2 rfl rfl).trans <| c_gR fun r4 => (s_alen rfl).trans <| c_len fun x3 => s_dead (.invokestatic 106) rfl rfl)
theorem mc_J0_init_db425 (X : mv_X) (d : Nat) (h : mv_H) (a0 : Nat) (a1 : Nat) (j2 : Value) : mv_call X (d + 1) 336 [.ref a0, .ref a1, j2] h = mv_run X (mv_call X d) m_J0_init_db425 0 [.ref a0, .ref a1, j2, .retAddr 0, .retAddr 0] [] h := rfl
theorem bk_J0_init_db425_0 (X : mv_X) (call : mv_G) (h : mv_H) (a0 : Nat) (a1 : Nat) (j2 : Value) : mv_run X call m_J0_init_db425 0 [.ref a0, .ref a1, j2, .retAddr 0, .retAddr 0] [] h =
  mv_rcv X h [.ref a1] 1 (mv_clR call 331 [.ref a1] h mv_raise fun r1 h1 =>
  mv_rcv X h1 [.ref a1] 1 (mv_clI call 278 [.ref a1] h1 mv_raise fun x1 h2 =>
  mv_rcv X h2 [.ref a1] 1 (mv_clI call 261 [.ref a1] h2 mv_raise fun x2 h3 =>
  if x2 = 0 then 
  (mv_int (X.2.2 0) fun x3 =>
    if x3 = 0 then 
    (mv_chk (mv_ok 8 (nZ 1)) (mv_pf h3 a0 0 1 (.int (nZ 1)) fun h4 =>
      mv_clR call 340 [.ref r1, .int (nZ 0), .int (x1 <<< ((nZ 1) &&& 31))] h4 mv_raise fun r2 h5 =>
      mv_pf h5 a0 0 0 (.ref r2) fun h6 =>
      (some (.inl none, h6))))
    else (mv_gI X h3 a1 1 2 fun x4 =>
      if x4 = 0 then 
      (mv_chk (mv_ok 8 (nZ 1)) (mv_pf h3 a0 0 1 (.int (nZ 1)) fun h7 =>
        mv_clR call 340 [.ref r1, .int (nZ 0), .int (x1 <<< ((nZ 1) &&& 31))] h7 mv_raise fun r3 h8 =>
        mv_pf h8 a0 0 0 (.ref r3) fun h9 =>
        (some (.inl none, h9))))
      else (none)))
  else (mv_chk (mv_ok 8 (nZ 0)) (mv_pf h3 a0 0 1 (.int (nZ 0)) fun h10 =>
    mv_clR call 340 [.ref r1, .int (nZ 0), .int x1] h10 mv_raise fun r4 h11 =>
    mv_pf h11 a0 0 0 (.ref r4) fun h12 =>
    (some (.inl none, h12))))))) :=
  (s_aload_n rfl rfl).trans <| (s_oinit [] rfl rfl (fun _ => rfl)).trans <| (s_aload_n rfl rfl).trans <| (s_v2 [.ref a1] [] rfl rfl (fun _ => rfl)).trans <| c_rcv <| c_clR fun r1 h1 => (s_astore_n (ls2 := [.ref a0, .ref a1, j2, .ref r1, .retAddr 0]) rfl (fun _ => rfl)).trans <| (s_aload_n rfl rfl).trans <| (s_v1 [.ref a1] [] rfl rfl (fun _ => rfl)).trans <| c_rcv <| c_clI fun x1 h2 => (s_istore (ls2 := [.ref a0, .ref a1, j2, .ref r1, .int x1]) rfl (fun _ => rfl)).trans <| (s_aload_n rfl rfl).trans <| (s_v1 [.ref a1] [] rfl rfl (fun _ => rfl)).trans <| c_rcv <| c_clI fun x2 h3 => (s_if_eq rfl).trans <| c_ite ((s_gs6 rfl rfl).trans <| c_int fun x3 => (s_if_eq rfl).trans <| c_ite ((s_aload_n rfl rfl).trans <| (s_iconst rfl).trans <| (s_pf8 rfl rfl).trans <| c_chk <| c_pf fun h4 => (s_aload_n rfl rfl).trans <| (s_aload_n rfl rfl).trans <| (s_iconst rfl).trans <| (s_iload rfl rfl).trans <| (s_iconst rfl).trans <| (s_ishl rfl).trans <| (s_s2 [.ref r1, .int (nZ 0), .int (x1 <<< ((nZ 1) &&& 31))] [.ref a0] rfl rfl (fun _ => rfl)).trans <| c_clR fun r2 h5 => (s_pf2 rfl rfl).trans <| c_pf fun h6 => s_ret rfl rfl) ((s_aload_n rfl rfl).trans <| (s_gf6 rfl rfl).trans <| c_gI fun x4 => (s_if_eq rfl).trans <| c_ite ((s_aload_n rfl rfl).trans <| (s_iconst rfl).trans <| (s_pf8 rfl rfl).trans <| c_chk <| c_pf fun h7 => (s_aload_n rfl rfl).trans <| (s_aload_n rfl rfl).trans <| (s_iconst rfl).trans <| (s_iload rfl rfl).trans <| (s_iconst rfl).trans <| (s_ishl rfl).trans <| (s_s2 [.ref r1, .int (nZ 0), .int (x1 <<< ((nZ 1) &&& 31))] [.ref a0] rfl rfl (fun _ => rfl)).trans <| c_clR fun r3 h8 => (s_pf2 rfl rfl).trans <| c_pf fun h9 => s_ret rfl rfl) ((s_aload_n rfl rfl).trans <| (s_aload_n rfl rfl).trans <| (s_iconst rfl).trans <| (s_iload rfl rfl).trans <| s_dead (.invokestatic 1051) rfl rfl))) ((s_aload_n rfl rfl).trans <| (s_iconst rfl).trans <| (s_pf8 rfl rfl).trans <| c_chk <| c_pf fun h10 => (s_aload_n rfl rfl).trans <| (s_aload_n rfl rfl).trans <| (s_iconst rfl).trans <| (s_iload rfl rfl).trans <| (s_s2 [.ref r1, .int (nZ 0), .int x1] [.ref a0] rfl rfl (fun _ => rfl)).trans <| c_clR fun r4 h11 => (s_pf2 rfl rfl).trans <| c_pf fun h12 => (s_goto rfl).trans <| s_ret rfl rfl)
theorem mc_J4_append_15ec4 (X : mv_X) (d : Nat) (h : mv_H) (a0 : Nat) (a1 : Nat) : mv_call X (d + 1) 337 [.ref a0, .ref a1] h = mv_run X (mv_call X d) m_J4_append_15ec4 0 [.ref a0, .ref a1] [] h := rfl
theorem bk_J4_append_15ec4_0 (X : mv_X) (call : mv_G) (h : mv_H) (a0 : Nat) (a1 : Nat) : mv_run X call m_J4_append_15ec4 0 [.ref a0, .ref a1] [] h =
  mv_rcv X h [.ref a0, .ref a1] 1 (mv_clR call 330 [.ref a0, .ref a1] h mv_raise fun r1 h1 =>
  (some (.inl (some (.ref a0)), h1))) :=
  (s_aload_n rfl rfl).trans <| (s_aload_n rfl rfl).trans <| (s_u2 [.ref a0, .ref a1] [] rfl rfl (fun _ => rfl)).trans <| c_rcv <| c_clR fun r1 h1 => (s_popR rfl).trans <| (s_aload_n rfl rfl).trans <| s_areturn rfl rfl
theorem mc_J4_toString_0e30d (X : mv_X) (d : Nat) (h : mv_H) (a0 : Nat) : mv_call X (d + 1) 338 [.ref a0] h = mv_run X (mv_call X d) m_J4_toString_0e30d 0 [.ref a0] [] h := rfl
theorem bk_J4_toString_0e30d_0 (X : mv_X) (call : mv_G) (h : mv_H) (a0 : Nat) : mv_run X call m_J4_toString_0e30d 0 [.ref a0] [] h =
  mv_new h (.inl (0, mv_df 0)) 4 fun r1 h1 =>
  mv_clV call 334 [.ref r1, .ref a0] h1 mv_raise fun h2 =>
  (some (.inl (some (.ref r1)), h2)) :=
  (s_new rfl rfl).trans <| c_new fun r1 h1 => (s_dupR rfl).trans <| (s_aload_n rfl rfl).trans <| (s_i0 [.ref a0] [.ref r1] rfl rfl (fun _ => rfl)).trans <| c_clV fun h2 => s_areturn rfl rfl
theorem mc_J7_checkLength_df160 (X : mv_X) (d : Nat) (h : mv_H) (v0 : Int32) (v1 : Int32) : mv_call X (d + 1) 339 [.int v0, .int v1] h = mv_run X (mv_call X d) m_J7_checkLength_df160 0 [.int v0, .int v1] [] h := rfl
theorem bk_J7_checkLength_df160_0 (X : mv_X) (call : mv_G) (h : mv_H) (v0 : Int32) (v1 : Int32) : mv_run X call m_J7_checkLength_df160 0 [.int v0, .int v1] [] h =
  if v0 ≤ v1 then 
  ((some (.inl none, h)))
  else (none) :=
  (s_iload_n rfl rfl).trans <| (s_iload_n rfl rfl).trans <| (s_icmp_ge rfl).trans <| c_ite (s_ret rfl rfl) (s_dead (.new 43) rfl rfl)
theorem mc_J7_copyOfRange_39247 (X : mv_X) (d : Nat) (h : mv_H) (a0 : Nat) (v1 : Int32) (v2 : Int32) : mv_call X (d + 1) 340 [.ref a0, .int v1, .int v2] h = mv_run X (mv_call X d) m_J7_copyOfRange_39247 0 [.ref a0, .int v1, .int v2] [] h := rfl
theorem bk_J7_copyOfRange_39247_0 (X : mv_X) (call : mv_G) (h : mv_H) (a0 : Nat) (v1 : Int32) (v2 : Int32) : mv_run X call m_J7_copyOfRange_39247 0 [.ref a0, .int v1, .int v2] [] h =
  if v1 = 0 then 
  (mv_len X h a0 fun x1 =>
    if v2 = x1 then 
    (mv_cln h a0 fun r1 h1 =>
      mv_isB h1 r1 (
      (some (.inl (some (.ref r1)), h1))))
    else (mv_clR call 341 [.ref a0, .int v1, .int v2] h mv_raise fun r2 h2 =>
      (some (.inl (some (.ref r2)), h2))))
  else (mv_clR call 341 [.ref a0, .int v1, .int v2] h mv_raise fun r3 h3 =>
    (some (.inl (some (.ref r3)), h3))) :=
  (s_iload_n rfl rfl).trans <| (s_if_ne rfl).trans <| c_ite ((s_iload_n rfl rfl).trans <| (s_aload_n rfl rfl).trans <| (s_alen rfl).trans <| c_len fun x1 => (s_icmp_eq rfl).trans <| c_ite ((s_aload_n rfl rfl).trans <| (s_cln [] rfl rfl (fun _ => rfl)).trans <| c_cln fun r1 h1 => (s_castB rfl rfl).trans <| c_isB <| s_areturn rfl rfl) ((s_aload_n rfl rfl).trans <| (s_iload_n rfl rfl).trans <| (s_iload_n rfl rfl).trans <| (s_s2 [.ref a0, .int v1, .int v2] [] rfl rfl (fun _ => rfl)).trans <| c_clR fun r2 h2 => s_areturn rfl rfl)) ((s_aload_n rfl rfl).trans <| (s_iload_n rfl rfl).trans <| (s_iload_n rfl rfl).trans <| (s_s2 [.ref a0, .int v1, .int v2] [] rfl rfl (fun _ => rfl)).trans <| c_clR fun r3 h3 => s_areturn rfl rfl)
theorem mc_J7_copyOfRangeByte_39247 (X : mv_X) (d : Nat) (h : mv_H) (a0 : Nat) (v1 : Int32) (v2 : Int32) : mv_call X (d + 1) 341 [.ref a0, .int v1, .int v2] h = mv_run X (mv_call X d) m_J7_copyOfRangeByte_39247 0 [.ref a0, .int v1, .int v2, .retAddr 0, .retAddr 0] [] h := rfl
theorem bk_J7_copyOfRangeByte_39247_0 (X : mv_X) (call : mv_G) (h : mv_H) (a0 : Nat) (v1 : Int32) (v2 : Int32) : mv_run X call m_J7_copyOfRangeByte_39247 0 [.ref a0, .int v1, .int v2, .retAddr 0, .retAddr 0] [] h =
  mv_clV call 339 [.int v1, .int v2] h mv_raise fun h1 =>
  mv_newa h1 .byte (.int 0) (v2 - v1) fun r1 h2 =>
  mv_len X h2 a0 fun x1 =>
  mv_clI call 267 [.int (x1 - v1), .int (v2 - v1)] h2 mv_raise fun x2 h3 =>
  mv_cpy X h3 a0 v1 r1 (nZ 0) x2 fun h4 =>
  (some (.inl (some (.ref r1)), h4)) :=
  (s_iload_n rfl rfl).trans <| (s_iload_n rfl rfl).trans <| (s_s0 [.int v1, .int v2] [] rfl rfl (fun _ => rfl)).trans <| c_clV fun h1 => (s_iload_n rfl rfl).trans <| (s_iload_n rfl rfl).trans <| (s_isub rfl).trans <| (s_istore_n (ls2 := [.ref a0, .int v1, .int v2, .int (v2 - v1), .retAddr 0]) rfl (fun _ => rfl)).trans <| (s_iload_n rfl rfl).trans <| (s_newa_byte rfl).trans <| c_newa fun r1 h2 => (s_astore (ls2 := [.ref a0, .int v1, .int v2, .int (v2 - v1), .ref r1]) rfl (fun _ => rfl)).trans <| (s_aload_n rfl rfl).trans <| (s_iload_n rfl rfl).trans <| (s_aload rfl rfl).trans <| (s_iconst rfl).trans <| (s_aload_n rfl rfl).trans <| (s_alen rfl).trans <| c_len fun x1 => (s_iload_n rfl rfl).trans <| (s_isub rfl).trans <| (s_iload_n rfl rfl).trans <| (s_s1 [.int (x1 - v1), .int (v2 - v1)] [.int (nZ 0), .ref r1, .int v1, .ref a0] rfl rfl (fun _ => rfl)).trans <| c_clI fun x2 h3 => (s_cpy [] rfl rfl (fun _ => rfl)).trans <| c_cpy fun h4 => (s_aload rfl rfl).trans <| s_areturn rfl rfl
