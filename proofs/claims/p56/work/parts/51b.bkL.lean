theorem mc_L_cell (X : mv_X) (d : Nat) (h : mv_H) (a0 : Nat) (v1 : Int32) : mv_call X (d + 1) 342 [.ref a0, .int v1] h = mv_run X (mv_call X d) m_L_cell 0 [.ref a0, .int v1] [] h := rfl
theorem bk_L_cell_0 (X : mv_X) (call : mv_G) (h : mv_H) (a0 : Nat) (v1 : Int32) : mv_run X call m_L_cell 0 [.ref a0, .int v1] [] h =
  mv_len X h a0 fun x1 =>
  if x1 ≤ v1 then 
  ((some (.inl (some (.int ((nZ 40503) * v1))), h)))
  else (mv_aI X h 1 a0 v1 fun x2 =>
    (some (.inl (some (.int x2)), h))) :=
  (s_iload_n rfl rfl).trans <| (s_aload_n rfl rfl).trans <| (s_alen rfl).trans <| c_len fun x1 => (s_icmp_ge rfl).trans <| c_ite ((s_ldcI 40503 rfl).trans <| (s_iload_n rfl rfl).trans <| (s_imul rfl).trans <| s_iret1 rfl rfl) ((s_aload_n rfl rfl).trans <| (s_iload_n rfl rfl).trans <| (s_iaload rfl).trans <| c_aI fun x2 => (s_goto rfl).trans <| s_iret1 rfl rfl)
theorem mc_L_pick (X : mv_X) (d : Nat) (h : mv_H) (a0 : Nat) (v1 : Int32) (v2 : Int32) : mv_call X (d + 1) 343 [.ref a0, .int v1, .int v2] h = mv_run X (mv_call X d) m_L_pick 0 [.ref a0, .int v1, .int v2] [] h := rfl
theorem bk_L_pick_0 (X : mv_X) (call : mv_G) (h : mv_H) (a0 : Nat) (v1 : Int32) (v2 : Int32) : mv_run X call m_L_pick 0 [.ref a0, .int v1, .int v2] [] h =
  mv_clI call 342 [.ref a0, .int v1] h mv_raise fun x1 h1 =>
  if v2 = 0 then none else 
  (some (.inl (some (.int (((x1).toUInt32 >>> (((nZ 1)).toUInt32 &&& Int32.toUInt32 31)).toInt32 - ((x1).toUInt32 >>> (((nZ 1)).toUInt32 &&& Int32.toUInt32 31)).toInt32 / v2 * v2))), h1)) :=
  (s_aload_n rfl rfl).trans <| (s_iload_n rfl rfl).trans <| (s_s1 [.ref a0, .int v1] [] rfl rfl (fun _ => rfl)).trans <| c_clI fun x1 h1 => (s_iconst rfl).trans <| (s_iushr rfl).trans <| (s_iload_n rfl rfl).trans <| (s_irem rfl).trans <| c_ite rfl <| s_iret1 rfl rfl
theorem mc_L_moor (X : mv_X) (d : Nat) (h : mv_H) (a0 : Nat) (v1 : Int32) (v2 : Int32) (v3 : Int32) (v4 : Int32) : mv_call X (d + 1) 344 [.ref a0, .int v1, .int v2, .int v3, .int v4] h = mv_run X (mv_call X d) m_L_moor 0 [.ref a0, .int v1, .int v2, .int v3, .int v4, .retAddr 0] [] h := rfl
theorem bk_L_moor_0 (X : mv_X) (call : mv_G) (h : mv_H) (a0 : Nat) (v1 : Int32) (v2 : Int32) (v3 : Int32) (v4 : Int32) : mv_run X call m_L_moor 0 [.ref a0, .int v1, .int v2, .int v3, .int v4, .retAddr 0] [] h =
  mv_run X call m_L_moor 6 [.ref a0, .int v1, .int v2, .int v3, .int v4, .retAddr 0] [.int v4, .int v3, .int v2, .int v1, .ref a0] h :=
  (s_aload_n rfl rfl).trans <| (s_iload_n rfl rfl).trans <| (s_iload_n rfl rfl).trans <| (s_iload_n rfl rfl).trans <| (s_iload rfl rfl).trans <| rfl
theorem bk_L_moor_6 (X : mv_X) (call : mv_G) (h : mv_H) (a0 : Nat) (v1 : Int32) (v2 : Int32) (v3 : Int32) (v4 : Int32) (s0 : Int32) (s1 : Int32) (s2 : Int32) (s3 : Int32) (s4 : Nat) : mv_run X call m_L_moor 6 [.ref a0, .int v1, .int v2, .int v3, .int v4, .retAddr 0] [.int s0, .int s1, .int s2, .int s3, .ref s4] h =
  mv_rcv X h [.ref s4, .int s3, .int s2, .int s1, .int s0] 12 (mv_clI call 84 [.ref s4, .int s3, .int s2, .int s1, .int s0] h (mv_thr [(0, 9, 12, 0, 5), (0, 9, 17, 3, 5)] 6 [.ref a0, .int v1, .int v2, .int v3, .int v4, .retAddr 0] (mv_run X call m_L_moor)) fun x1 h1 =>
  mv_run X call m_L_moor 9 [.ref a0, .int v1, .int v2, .int v3, .int v4, .retAddr 0] [.int x1] h1) :=
  (s_v1 [.ref s4, .int s3, .int s2, .int s1, .int s0] [] rfl rfl (fun _ => rfl)).trans <| c_rcv <| c_clI fun x1 h1 => rfl
theorem bk_L_moor_9 (X : mv_X) (call : mv_G) (h : mv_H) (a0 : Nat) (v1 : Int32) (v2 : Int32) (v3 : Int32) (v4 : Int32) (s0 : Int32) : mv_run X call m_L_moor 9 [.ref a0, .int v1, .int v2, .int v3, .int v4, .retAddr 0] [.int s0] h =
  (some (.inl (some (.int s0)), h)) :=
  s_iret1 rfl rfl
theorem bk_L_moor_12 (X : mv_X) (call : mv_G) (h : mv_H) (a0 : Nat) (v1 : Int32) (v2 : Int32) (v3 : Int32) (v4 : Int32) : mv_run X call m_L_moor 12 [.ref a0, .int v1, .int v2, .int v3, .int v4, .retAddr 0] [] h =
  (some (.inl (some (.int (nZ (-78)))), h)) :=
  (s_bipush rfl).trans <| s_iret1 rfl rfl
theorem bk_L_moor_17 (X : mv_X) (call : mv_G) (h : mv_H) (a0 : Nat) (v1 : Int32) (v2 : Int32) (v3 : Int32) (v4 : Int32) : mv_run X call m_L_moor 17 [.ref a0, .int v1, .int v2, .int v3, .int v4, .retAddr 0] [] h =
  (some (.inl (some (.int (nZ (-76)))), h)) :=
  (s_bipush rfl).trans <| s_iret1 rfl rfl
theorem mc_L_castOff (X : mv_X) (d : Nat) (h : mv_H) (a0 : Nat) (v1 : Int32) : mv_call X (d + 1) 345 [.ref a0, .int v1] h = mv_run X (mv_call X d) m_L_castOff 0 [.ref a0, .int v1, .retAddr 0] [] h := rfl
theorem bk_L_castOff_0 (X : mv_X) (call : mv_G) (h : mv_H) (a0 : Nat) (v1 : Int32) : mv_run X call m_L_castOff 0 [.ref a0, .int v1, .retAddr 0] [] h =
  mv_run X call m_L_castOff 2 [.ref a0, .int v1, .retAddr 0] [.int v1, .ref a0] h :=
  (s_aload_n rfl rfl).trans <| (s_iload_n rfl rfl).trans <| rfl
theorem bk_L_castOff_2 (X : mv_X) (call : mv_G) (h : mv_H) (a0 : Nat) (v1 : Int32) (s0 : Int32) (s1 : Nat) : mv_run X call m_L_castOff 2 [.ref a0, .int v1, .retAddr 0] [.int s0, .ref s1] h =
  mv_rcv X h [.ref s1, .int s0] 12 (mv_clI call 85 [.ref s1, .int s0] h (mv_thr [(0, 5, 7, 1, 2)] 2 [.ref a0, .int v1, .retAddr 0] (mv_run X call m_L_castOff)) fun x1 h1 =>
  mv_run X call m_L_castOff 5 [.ref a0, .int v1, .retAddr 0] [.int x1] h1) :=
  (s_v1 [.ref s1, .int s0] [] rfl rfl (fun _ => rfl)).trans <| c_rcv <| c_clI fun x1 h1 => rfl
theorem bk_L_castOff_5 (X : mv_X) (call : mv_G) (h : mv_H) (a0 : Nat) (v1 : Int32) (s0 : Int32) : mv_run X call m_L_castOff 5 [.ref a0, .int v1, .retAddr 0] [.int s0] h =
  (some (.inl (some (.int s0)), h)) :=
  s_iret1 rfl rfl
theorem bk_L_castOff_7 (X : mv_X) (call : mv_G) (h : mv_H) (a0 : Nat) (v1 : Int32) : mv_run X call m_L_castOff 7 [.ref a0, .int v1, .retAddr 0] [] h =
  (some (.inl (some (.int (nZ (-75)))), h)) :=
  (s_bipush rfl).trans <| s_iret1 rfl rfl
theorem mc_L_isMoored (X : mv_X) (d : Nat) (h : mv_H) (a0 : Nat) (v1 : Int32) : mv_call X (d + 1) 346 [.ref a0, .int v1] h = mv_run X (mv_call X d) m_L_isMoored 0 [.ref a0, .int v1, .retAddr 0] [] h := rfl
theorem bk_L_isMoored_0 (X : mv_X) (call : mv_G) (h : mv_H) (a0 : Nat) (v1 : Int32) : mv_run X call m_L_isMoored 0 [.ref a0, .int v1, .retAddr 0] [] h =
  mv_run X call m_L_isMoored 2 [.ref a0, .int v1, .retAddr 0] [.int v1, .ref a0] h :=
  (s_aload_n rfl rfl).trans <| (s_iload_n rfl rfl).trans <| rfl
theorem bk_L_isMoored_2 (X : mv_X) (call : mv_G) (h : mv_H) (a0 : Nat) (v1 : Int32) (s0 : Int32) (s1 : Nat) : mv_run X call m_L_isMoored 2 [.ref a0, .int v1, .retAddr 0] [.int s0, .ref s1] h =
  mv_rcv X h [.ref s1, .int s0] 12 (mv_clI call 87 [.ref s1, .int s0] h (mv_thr [(0, 13, 15, 0, 2)] 2 [.ref a0, .int v1, .retAddr 0] (mv_run X call m_L_isMoored)) fun x1 h1 =>
  mv_run X call m_L_isMoored 5 [.ref a0, .int v1, .retAddr 0] [.int x1] h1) :=
  (s_v1 [.ref s1, .int s0] [] rfl rfl (fun _ => rfl)).trans <| c_rcv <| c_clI fun x1 h1 => rfl
theorem bk_L_isMoored_5 (X : mv_X) (call : mv_G) (h : mv_H) (a0 : Nat) (v1 : Int32) (s0 : Int32) : mv_run X call m_L_isMoored 5 [.ref a0, .int v1, .retAddr 0] [.int s0] h =
  if s0 = 0 then 
  ((some (.inl (some (.int (nZ 0))), h)))
  else ((some (.inl (some (.int (nZ 1))), h))) :=
  (s_if_eq rfl).trans <| c_ite ((s_iconst rfl).trans <| s_iret1 rfl rfl) ((s_iconst rfl).trans <| (s_goto rfl).trans <| s_iret1 rfl rfl)
theorem bk_L_isMoored_15 (X : mv_X) (call : mv_G) (h : mv_H) (a0 : Nat) (v1 : Int32) : mv_run X call m_L_isMoored 15 [.ref a0, .int v1, .retAddr 0] [] h =
  (some (.inl (some (.int (nZ (-78)))), h)) :=
  (s_bipush rfl).trans <| s_iret1 rfl rfl
theorem mc_L_lift (X : mv_X) (d : Nat) (h : mv_H) (a0 : Nat) (v1 : Int32) : mv_call X (d + 1) 347 [.ref a0, .int v1] h = mv_run X (mv_call X d) m_L_lift 0 [.ref a0, .int v1, .retAddr 0] [] h := rfl
theorem bk_L_lift_0 (X : mv_X) (call : mv_G) (h : mv_H) (a0 : Nat) (v1 : Int32) : mv_run X call m_L_lift 0 [.ref a0, .int v1, .retAddr 0] [] h =
  mv_run X call m_L_lift 2 [.ref a0, .int v1, .retAddr 0] [.int v1, .ref a0] h :=
  (s_aload_n rfl rfl).trans <| (s_iload_n rfl rfl).trans <| rfl
theorem bk_L_lift_2 (X : mv_X) (call : mv_G) (h : mv_H) (a0 : Nat) (v1 : Int32) (s0 : Int32) (s1 : Nat) : mv_run X call m_L_lift 2 [.ref a0, .int v1, .retAddr 0] [.int s0, .ref s1] h =
  mv_rcv X h [.ref s1, .int s0] 12 (mv_clI call 88 [.ref s1, .int s0] h (mv_thr [(0, 5, 7, 1, 2)] 2 [.ref a0, .int v1, .retAddr 0] (mv_run X call m_L_lift)) fun x1 h1 =>
  mv_run X call m_L_lift 5 [.ref a0, .int v1, .retAddr 0] [.int x1] h1) :=
  (s_v1 [.ref s1, .int s0] [] rfl rfl (fun _ => rfl)).trans <| c_rcv <| c_clI fun x1 h1 => rfl
theorem bk_L_lift_5 (X : mv_X) (call : mv_G) (h : mv_H) (a0 : Nat) (v1 : Int32) (s0 : Int32) : mv_run X call m_L_lift 5 [.ref a0, .int v1, .retAddr 0] [.int s0] h =
  (some (.inl (some (.int s0)), h)) :=
  s_iret1 rfl rfl
theorem bk_L_lift_7 (X : mv_X) (call : mv_G) (h : mv_H) (a0 : Nat) (v1 : Int32) : mv_run X call m_L_lift 7 [.ref a0, .int v1, .retAddr 0] [] h =
  (some (.inl (some (.int (nZ (-75)))), h)) :=
  (s_bipush rfl).trans <| s_iret1 rfl rfl
theorem mc_L_ballast (X : mv_X) (d : Nat) (h : mv_H) (a0 : Nat) (v1 : Int32) : mv_call X (d + 1) 348 [.ref a0, .int v1] h = mv_run X (mv_call X d) m_L_ballast 0 [.ref a0, .int v1, .retAddr 0] [] h := rfl
theorem bk_L_ballast_0 (X : mv_X) (call : mv_G) (h : mv_H) (a0 : Nat) (v1 : Int32) : mv_run X call m_L_ballast 0 [.ref a0, .int v1, .retAddr 0] [] h =
  mv_run X call m_L_ballast 2 [.ref a0, .int v1, .retAddr 0] [.int v1, .ref a0] h :=
  (s_aload_n rfl rfl).trans <| (s_iload_n rfl rfl).trans <| rfl
theorem bk_L_ballast_2 (X : mv_X) (call : mv_G) (h : mv_H) (a0 : Nat) (v1 : Int32) (s0 : Int32) (s1 : Nat) : mv_run X call m_L_ballast 2 [.ref a0, .int v1, .retAddr 0] [.int s0, .ref s1] h =
  mv_rcv X h [.ref s1, .int s0] 12 (mv_clI call 89 [.ref s1, .int s0] h (mv_thr [(0, 5, 7, 1, 2)] 2 [.ref a0, .int v1, .retAddr 0] (mv_run X call m_L_ballast)) fun x1 h1 =>
  mv_run X call m_L_ballast 5 [.ref a0, .int v1, .retAddr 0] [.int x1] h1) :=
  (s_v1 [.ref s1, .int s0] [] rfl rfl (fun _ => rfl)).trans <| c_rcv <| c_clI fun x1 h1 => rfl
theorem bk_L_ballast_5 (X : mv_X) (call : mv_G) (h : mv_H) (a0 : Nat) (v1 : Int32) (s0 : Int32) : mv_run X call m_L_ballast 5 [.ref a0, .int v1, .retAddr 0] [.int s0] h =
  (some (.inl (some (.int s0)), h)) :=
  s_iret1 rfl rfl
theorem bk_L_ballast_7 (X : mv_X) (call : mv_G) (h : mv_H) (a0 : Nat) (v1 : Int32) : mv_run X call m_L_ballast 7 [.ref a0, .int v1, .retAddr 0] [] h =
  (some (.inl (some (.int (nZ (-75)))), h)) :=
  (s_bipush rfl).trans <| s_iret1 rfl rfl
theorem mc_L_height (X : mv_X) (d : Nat) (h : mv_H) (a0 : Nat) (v1 : Int32) : mv_call X (d + 1) 349 [.ref a0, .int v1] h = mv_run X (mv_call X d) m_L_height 0 [.ref a0, .int v1, .retAddr 0] [] h := rfl
theorem bk_L_height_0 (X : mv_X) (call : mv_G) (h : mv_H) (a0 : Nat) (v1 : Int32) : mv_run X call m_L_height 0 [.ref a0, .int v1, .retAddr 0] [] h =
  mv_run X call m_L_height 2 [.ref a0, .int v1, .retAddr 0] [.int v1, .ref a0] h :=
  (s_aload_n rfl rfl).trans <| (s_iload_n rfl rfl).trans <| rfl
theorem bk_L_height_2 (X : mv_X) (call : mv_G) (h : mv_H) (a0 : Nat) (v1 : Int32) (s0 : Int32) (s1 : Nat) : mv_run X call m_L_height 2 [.ref a0, .int v1, .retAddr 0] [.int s0, .ref s1] h =
  mv_rcv X h [.ref s1, .int s0] 12 (mv_clI call 90 [.ref s1, .int s0] h (mv_thr [(0, 5, 7, 1, 2)] 2 [.ref a0, .int v1, .retAddr 0] (mv_run X call m_L_height)) fun x1 h1 =>
  mv_run X call m_L_height 5 [.ref a0, .int v1, .retAddr 0] [.int x1] h1) :=
  (s_v1 [.ref s1, .int s0] [] rfl rfl (fun _ => rfl)).trans <| c_rcv <| c_clI fun x1 h1 => rfl
theorem bk_L_height_5 (X : mv_X) (call : mv_G) (h : mv_H) (a0 : Nat) (v1 : Int32) (s0 : Int32) : mv_run X call m_L_height 5 [.ref a0, .int v1, .retAddr 0] [.int s0] h =
  (some (.inl (some (.int s0)), h)) :=
  s_iret1 rfl rfl
theorem bk_L_height_7 (X : mv_X) (call : mv_G) (h : mv_H) (a0 : Nat) (v1 : Int32) : mv_run X call m_L_height 7 [.ref a0, .int v1, .retAddr 0] [] h =
  (some (.inl (some (.int (nZ (-75)))), h)) :=
  (s_bipush rfl).trans <| s_iret1 rfl rfl
theorem mc_L_isBursting (X : mv_X) (d : Nat) (h : mv_H) (a0 : Nat) (v1 : Int32) : mv_call X (d + 1) 350 [.ref a0, .int v1] h = mv_run X (mv_call X d) m_L_isBursting 0 [.ref a0, .int v1, .retAddr 0] [] h := rfl
theorem bk_L_isBursting_0 (X : mv_X) (call : mv_G) (h : mv_H) (a0 : Nat) (v1 : Int32) : mv_run X call m_L_isBursting 0 [.ref a0, .int v1, .retAddr 0] [] h =
  mv_run X call m_L_isBursting 2 [.ref a0, .int v1, .retAddr 0] [.int v1, .ref a0] h :=
  (s_aload_n rfl rfl).trans <| (s_iload_n rfl rfl).trans <| rfl
theorem bk_L_isBursting_2 (X : mv_X) (call : mv_G) (h : mv_H) (a0 : Nat) (v1 : Int32) (s0 : Int32) (s1 : Nat) : mv_run X call m_L_isBursting 2 [.ref a0, .int v1, .retAddr 0] [.int s0, .ref s1] h =
  mv_rcv X h [.ref s1, .int s0] 12 (mv_clI call 91 [.ref s1, .int s0] h (mv_thr [(0, 13, 15, 1, 2)] 2 [.ref a0, .int v1, .retAddr 0] (mv_run X call m_L_isBursting)) fun x1 h1 =>
  mv_run X call m_L_isBursting 5 [.ref a0, .int v1, .retAddr 0] [.int x1] h1) :=
  (s_v1 [.ref s1, .int s0] [] rfl rfl (fun _ => rfl)).trans <| c_rcv <| c_clI fun x1 h1 => rfl
theorem bk_L_isBursting_5 (X : mv_X) (call : mv_G) (h : mv_H) (a0 : Nat) (v1 : Int32) (s0 : Int32) : mv_run X call m_L_isBursting 5 [.ref a0, .int v1, .retAddr 0] [.int s0] h =
  if s0 = 0 then 
  ((some (.inl (some (.int (nZ 0))), h)))
  else ((some (.inl (some (.int (nZ 1))), h))) :=
  (s_if_eq rfl).trans <| c_ite ((s_iconst rfl).trans <| s_iret1 rfl rfl) ((s_iconst rfl).trans <| (s_goto rfl).trans <| s_iret1 rfl rfl)
theorem bk_L_isBursting_15 (X : mv_X) (call : mv_G) (h : mv_H) (a0 : Nat) (v1 : Int32) : mv_run X call m_L_isBursting 15 [.ref a0, .int v1, .retAddr 0] [] h =
  (some (.inl (some (.int (nZ (-75)))), h)) :=
  (s_bipush rfl).trans <| s_iret1 rfl rfl
theorem mc_L_berthByHeight (X : mv_X) (d : Nat) (h : mv_H) (a0 : Nat) (v1 : Int32) : mv_call X (d + 1) 351 [.ref a0, .int v1] h = mv_run X (mv_call X d) m_L_berthByHeight 0 [.ref a0, .int v1, .retAddr 0] [] h := rfl
theorem bk_L_berthByHeight_0 (X : mv_X) (call : mv_G) (h : mv_H) (a0 : Nat) (v1 : Int32) : mv_run X call m_L_berthByHeight 0 [.ref a0, .int v1, .retAddr 0] [] h =
  mv_run X call m_L_berthByHeight 2 [.ref a0, .int v1, .retAddr 0] [.int v1, .ref a0] h :=
  (s_aload_n rfl rfl).trans <| (s_iload_n rfl rfl).trans <| rfl
theorem bk_L_berthByHeight_2 (X : mv_X) (call : mv_G) (h : mv_H) (a0 : Nat) (v1 : Int32) (s0 : Int32) (s1 : Nat) : mv_run X call m_L_berthByHeight 2 [.ref a0, .int v1, .retAddr 0] [.int s0, .ref s1] h =
  mv_rcv X h [.ref s1, .int s0] 12 (mv_clI call 92 [.ref s1, .int s0] h (mv_thr [(0, 5, 7, 1, 2)] 2 [.ref a0, .int v1, .retAddr 0] (mv_run X call m_L_berthByHeight)) fun x1 h1 =>
  mv_run X call m_L_berthByHeight 5 [.ref a0, .int v1, .retAddr 0] [.int x1] h1) :=
  (s_v1 [.ref s1, .int s0] [] rfl rfl (fun _ => rfl)).trans <| c_rcv <| c_clI fun x1 h1 => rfl
theorem bk_L_berthByHeight_5 (X : mv_X) (call : mv_G) (h : mv_H) (a0 : Nat) (v1 : Int32) (s0 : Int32) : mv_run X call m_L_berthByHeight 5 [.ref a0, .int v1, .retAddr 0] [.int s0] h =
  (some (.inl (some (.int s0)), h)) :=
  s_iret1 rfl rfl
theorem bk_L_berthByHeight_7 (X : mv_X) (call : mv_G) (h : mv_H) (a0 : Nat) (v1 : Int32) : mv_run X call m_L_berthByHeight 7 [.ref a0, .int v1, .retAddr 0] [] h =
  (some (.inl (some (.int (nZ (-75)))), h)) :=
  (s_bipush rfl).trans <| s_iret1 rfl rfl
theorem mc_L_load (X : mv_X) (d : Nat) (h : mv_H) (a0 : Nat) (v1 : Int32) (v2 : Int32) : mv_call X (d + 1) 352 [.ref a0, .int v1, .int v2] h = mv_run X (mv_call X d) m_L_load 0 [.ref a0, .int v1, .int v2, .retAddr 0] [] h := rfl
theorem bk_L_load_0 (X : mv_X) (call : mv_G) (h : mv_H) (a0 : Nat) (v1 : Int32) (v2 : Int32) : mv_run X call m_L_load 0 [.ref a0, .int v1, .int v2, .retAddr 0] [] h =
  mv_run X call m_L_load 3 [.ref a0, .int v1, .int v2, .retAddr 0] [.int v2, .int v1, .ref a0] h :=
  (s_aload_n rfl rfl).trans <| (s_iload_n rfl rfl).trans <| (s_iload_n rfl rfl).trans <| rfl
theorem bk_L_load_3 (X : mv_X) (call : mv_G) (h : mv_H) (a0 : Nat) (v1 : Int32) (v2 : Int32) (s0 : Int32) (s1 : Int32) (s2 : Nat) : mv_run X call m_L_load 3 [.ref a0, .int v1, .int v2, .retAddr 0] [.int s0, .int s1, .ref s2] h =
  mv_rcv X h [.ref s2, .int s1, .int s0] 12 (mv_clI call 93 [.ref s2, .int s1, .int s0] h (mv_thr [(0, 6, 8, 1, 3), (0, 6, 12, 0, 3), (0, 6, 16, 3, 3)] 3 [.ref a0, .int v1, .int v2, .retAddr 0] (mv_run X call m_L_load)) fun x1 h1 =>
  mv_run X call m_L_load 6 [.ref a0, .int v1, .int v2, .retAddr 0] [.int x1] h1) :=
  (s_v1 [.ref s2, .int s1, .int s0] [] rfl rfl (fun _ => rfl)).trans <| c_rcv <| c_clI fun x1 h1 => rfl
theorem bk_L_load_6 (X : mv_X) (call : mv_G) (h : mv_H) (a0 : Nat) (v1 : Int32) (v2 : Int32) (s0 : Int32) : mv_run X call m_L_load 6 [.ref a0, .int v1, .int v2, .retAddr 0] [.int s0] h =
  (some (.inl (some (.int s0)), h)) :=
  s_iret1 rfl rfl
theorem bk_L_load_8 (X : mv_X) (call : mv_G) (h : mv_H) (a0 : Nat) (v1 : Int32) (v2 : Int32) : mv_run X call m_L_load 8 [.ref a0, .int v1, .int v2, .retAddr 0] [] h =
  (some (.inl (some (.int (nZ (-75)))), h)) :=
  (s_bipush rfl).trans <| s_iret1 rfl rfl
theorem bk_L_load_12 (X : mv_X) (call : mv_G) (h : mv_H) (a0 : Nat) (v1 : Int32) (v2 : Int32) : mv_run X call m_L_load 12 [.ref a0, .int v1, .int v2, .retAddr 0] [] h =
  (some (.inl (some (.int (nZ (-78)))), h)) :=
  (s_bipush rfl).trans <| s_iret1 rfl rfl
theorem bk_L_load_16 (X : mv_X) (call : mv_G) (h : mv_H) (a0 : Nat) (v1 : Int32) (v2 : Int32) : mv_run X call m_L_load 16 [.ref a0, .int v1, .int v2, .retAddr 0] [] h =
  (some (.inl (some (.int (nZ (-76)))), h)) :=
  (s_bipush rfl).trans <| s_iret1 rfl rfl
theorem mc_L_drop (X : mv_X) (d : Nat) (h : mv_H) (a0 : Nat) (v1 : Int32) (v2 : Int32) : mv_call X (d + 1) 353 [.ref a0, .int v1, .int v2] h = mv_run X (mv_call X d) m_L_drop 0 [.ref a0, .int v1, .int v2, .retAddr 0] [] h := rfl
theorem bk_L_drop_0 (X : mv_X) (call : mv_G) (h : mv_H) (a0 : Nat) (v1 : Int32) (v2 : Int32) : mv_run X call m_L_drop 0 [.ref a0, .int v1, .int v2, .retAddr 0] [] h =
  mv_run X call m_L_drop 3 [.ref a0, .int v1, .int v2, .retAddr 0] [.int v2, .int v1, .ref a0] h :=
  (s_aload_n rfl rfl).trans <| (s_iload_n rfl rfl).trans <| (s_iload_n rfl rfl).trans <| rfl
theorem bk_L_drop_3 (X : mv_X) (call : mv_G) (h : mv_H) (a0 : Nat) (v1 : Int32) (v2 : Int32) (s0 : Int32) (s1 : Int32) (s2 : Nat) : mv_run X call m_L_drop 3 [.ref a0, .int v1, .int v2, .retAddr 0] [.int s0, .int s1, .ref s2] h =
  mv_rcv X h [.ref s2, .int s1, .int s0] 12 (mv_clI call 94 [.ref s2, .int s1, .int s0] h (mv_thr [(0, 6, 8, 1, 3), (0, 6, 12, 2, 3)] 3 [.ref a0, .int v1, .int v2, .retAddr 0] (mv_run X call m_L_drop)) fun x1 h1 =>
  mv_run X call m_L_drop 6 [.ref a0, .int v1, .int v2, .retAddr 0] [.int x1] h1) :=
  (s_v1 [.ref s2, .int s1, .int s0] [] rfl rfl (fun _ => rfl)).trans <| c_rcv <| c_clI fun x1 h1 => rfl
theorem bk_L_drop_6 (X : mv_X) (call : mv_G) (h : mv_H) (a0 : Nat) (v1 : Int32) (v2 : Int32) (s0 : Int32) : mv_run X call m_L_drop 6 [.ref a0, .int v1, .int v2, .retAddr 0] [.int s0] h =
  (some (.inl (some (.int s0)), h)) :=
  s_iret1 rfl rfl
theorem bk_L_drop_8 (X : mv_X) (call : mv_G) (h : mv_H) (a0 : Nat) (v1 : Int32) (v2 : Int32) : mv_run X call m_L_drop 8 [.ref a0, .int v1, .int v2, .retAddr 0] [] h =
  (some (.inl (some (.int (nZ (-75)))), h)) :=
  (s_bipush rfl).trans <| s_iret1 rfl rfl
theorem bk_L_drop_12 (X : mv_X) (call : mv_G) (h : mv_H) (a0 : Nat) (v1 : Int32) (v2 : Int32) : mv_run X call m_L_drop 12 [.ref a0, .int v1, .int v2, .retAddr 0] [] h =
  (some (.inl (some (.int (nZ (-77)))), h)) :=
  (s_bipush rfl).trans <| s_iret1 rfl rfl
theorem mc_L_rise (X : mv_X) (d : Nat) (h : mv_H) (a0 : Nat) (v1 : Int32) (v2 : Int32) : mv_call X (d + 1) 354 [.ref a0, .int v1, .int v2] h = mv_run X (mv_call X d) m_L_rise 0 [.ref a0, .int v1, .int v2, .retAddr 0] [] h := rfl
theorem bk_L_rise_0 (X : mv_X) (call : mv_G) (h : mv_H) (a0 : Nat) (v1 : Int32) (v2 : Int32) : mv_run X call m_L_rise 0 [.ref a0, .int v1, .int v2, .retAddr 0] [] h =
  mv_run X call m_L_rise 3 [.ref a0, .int v1, .int v2, .retAddr 0] [.int v2, .int v1, .ref a0] h :=
  (s_aload_n rfl rfl).trans <| (s_iload_n rfl rfl).trans <| (s_iload_n rfl rfl).trans <| rfl
theorem bk_L_rise_3 (X : mv_X) (call : mv_G) (h : mv_H) (a0 : Nat) (v1 : Int32) (v2 : Int32) (s0 : Int32) (s1 : Int32) (s2 : Nat) : mv_run X call m_L_rise 3 [.ref a0, .int v1, .int v2, .retAddr 0] [.int s0, .int s1, .ref s2] h =
  mv_rcv X h [.ref s2, .int s1, .int s0] 12 (mv_clI call 95 [.ref s2, .int s1, .int s0] h (mv_thr [(0, 6, 8, 1, 3), (0, 6, 12, 0, 3), (0, 6, 16, 3, 3)] 3 [.ref a0, .int v1, .int v2, .retAddr 0] (mv_run X call m_L_rise)) fun x1 h1 =>
  mv_run X call m_L_rise 6 [.ref a0, .int v1, .int v2, .retAddr 0] [.int x1] h1) :=
  (s_v1 [.ref s2, .int s1, .int s0] [] rfl rfl (fun _ => rfl)).trans <| c_rcv <| c_clI fun x1 h1 => rfl
theorem bk_L_rise_6 (X : mv_X) (call : mv_G) (h : mv_H) (a0 : Nat) (v1 : Int32) (v2 : Int32) (s0 : Int32) : mv_run X call m_L_rise 6 [.ref a0, .int v1, .int v2, .retAddr 0] [.int s0] h =
  (some (.inl (some (.int s0)), h)) :=
  s_iret1 rfl rfl
theorem bk_L_rise_8 (X : mv_X) (call : mv_G) (h : mv_H) (a0 : Nat) (v1 : Int32) (v2 : Int32) : mv_run X call m_L_rise 8 [.ref a0, .int v1, .int v2, .retAddr 0] [] h =
  (some (.inl (some (.int (nZ (-75)))), h)) :=
  (s_bipush rfl).trans <| s_iret1 rfl rfl
theorem bk_L_rise_12 (X : mv_X) (call : mv_G) (h : mv_H) (a0 : Nat) (v1 : Int32) (v2 : Int32) : mv_run X call m_L_rise 12 [.ref a0, .int v1, .int v2, .retAddr 0] [] h =
  (some (.inl (some (.int (nZ (-78)))), h)) :=
  (s_bipush rfl).trans <| s_iret1 rfl rfl
theorem bk_L_rise_16 (X : mv_X) (call : mv_G) (h : mv_H) (a0 : Nat) (v1 : Int32) (v2 : Int32) : mv_run X call m_L_rise 16 [.ref a0, .int v1, .int v2, .retAddr 0] [] h =
  (some (.inl (some (.int (nZ (-76)))), h)) :=
  (s_bipush rfl).trans <| s_iret1 rfl rfl
theorem mc_L_bagCount (X : mv_X) (d : Nat) (h : mv_H) (a0 : Nat) (v1 : Int32) : mv_call X (d + 1) 355 [.ref a0, .int v1] h = mv_run X (mv_call X d) m_L_bagCount 0 [.ref a0, .int v1, .retAddr 0] [] h := rfl
theorem bk_L_bagCount_0 (X : mv_X) (call : mv_G) (h : mv_H) (a0 : Nat) (v1 : Int32) : mv_run X call m_L_bagCount 0 [.ref a0, .int v1, .retAddr 0] [] h =
  mv_run X call m_L_bagCount 2 [.ref a0, .int v1, .retAddr 0] [.int v1, .ref a0] h :=
  (s_aload_n rfl rfl).trans <| (s_iload_n rfl rfl).trans <| rfl
theorem bk_L_bagCount_2 (X : mv_X) (call : mv_G) (h : mv_H) (a0 : Nat) (v1 : Int32) (s0 : Int32) (s1 : Nat) : mv_run X call m_L_bagCount 2 [.ref a0, .int v1, .retAddr 0] [.int s0, .ref s1] h =
  mv_rcv X h [.ref s1, .int s0] 12 (mv_clI call 96 [.ref s1, .int s0] h (mv_thr [(0, 5, 7, 1, 2)] 2 [.ref a0, .int v1, .retAddr 0] (mv_run X call m_L_bagCount)) fun x1 h1 =>
  mv_run X call m_L_bagCount 5 [.ref a0, .int v1, .retAddr 0] [.int x1] h1) :=
  (s_v1 [.ref s1, .int s0] [] rfl rfl (fun _ => rfl)).trans <| c_rcv <| c_clI fun x1 h1 => rfl
theorem bk_L_bagCount_5 (X : mv_X) (call : mv_G) (h : mv_H) (a0 : Nat) (v1 : Int32) (s0 : Int32) : mv_run X call m_L_bagCount 5 [.ref a0, .int v1, .retAddr 0] [.int s0] h =
  (some (.inl (some (.int s0)), h)) :=
  s_iret1 rfl rfl
theorem bk_L_bagCount_7 (X : mv_X) (call : mv_G) (h : mv_H) (a0 : Nat) (v1 : Int32) : mv_run X call m_L_bagCount 7 [.ref a0, .int v1, .retAddr 0] [] h =
  (some (.inl (some (.int (nZ (-75)))), h)) :=
  (s_bipush rfl).trans <| s_iret1 rfl rfl
theorem mc_L_bagWeight (X : mv_X) (d : Nat) (h : mv_H) (a0 : Nat) (v1 : Int32) (v2 : Int32) : mv_call X (d + 1) 356 [.ref a0, .int v1, .int v2] h = mv_run X (mv_call X d) m_L_bagWeight 0 [.ref a0, .int v1, .int v2, .retAddr 0] [] h := rfl
theorem bk_L_bagWeight_0 (X : mv_X) (call : mv_G) (h : mv_H) (a0 : Nat) (v1 : Int32) (v2 : Int32) : mv_run X call m_L_bagWeight 0 [.ref a0, .int v1, .int v2, .retAddr 0] [] h =
  mv_run X call m_L_bagWeight 3 [.ref a0, .int v1, .int v2, .retAddr 0] [.int v2, .int v1, .ref a0] h :=
  (s_aload_n rfl rfl).trans <| (s_iload_n rfl rfl).trans <| (s_iload_n rfl rfl).trans <| rfl
theorem bk_L_bagWeight_3 (X : mv_X) (call : mv_G) (h : mv_H) (a0 : Nat) (v1 : Int32) (v2 : Int32) (s0 : Int32) (s1 : Int32) (s2 : Nat) : mv_run X call m_L_bagWeight 3 [.ref a0, .int v1, .int v2, .retAddr 0] [.int s0, .int s1, .ref s2] h =
  mv_rcv X h [.ref s2, .int s1, .int s0] 12 (mv_clI call 97 [.ref s2, .int s1, .int s0] h (mv_thr [(0, 6, 8, 1, 3), (0, 6, 12, 2, 3)] 3 [.ref a0, .int v1, .int v2, .retAddr 0] (mv_run X call m_L_bagWeight)) fun x1 h1 =>
  mv_run X call m_L_bagWeight 6 [.ref a0, .int v1, .int v2, .retAddr 0] [.int x1] h1) :=
  (s_v1 [.ref s2, .int s1, .int s0] [] rfl rfl (fun _ => rfl)).trans <| c_rcv <| c_clI fun x1 h1 => rfl
theorem bk_L_bagWeight_6 (X : mv_X) (call : mv_G) (h : mv_H) (a0 : Nat) (v1 : Int32) (v2 : Int32) (s0 : Int32) : mv_run X call m_L_bagWeight 6 [.ref a0, .int v1, .int v2, .retAddr 0] [.int s0] h =
  (some (.inl (some (.int s0)), h)) :=
  s_iret1 rfl rfl
theorem bk_L_bagWeight_8 (X : mv_X) (call : mv_G) (h : mv_H) (a0 : Nat) (v1 : Int32) (v2 : Int32) : mv_run X call m_L_bagWeight 8 [.ref a0, .int v1, .int v2, .retAddr 0] [] h =
  (some (.inl (some (.int (nZ (-75)))), h)) :=
  (s_bipush rfl).trans <| s_iret1 rfl rfl
theorem bk_L_bagWeight_12 (X : mv_X) (call : mv_G) (h : mv_H) (a0 : Nat) (v1 : Int32) (v2 : Int32) : mv_run X call m_L_bagWeight 12 [.ref a0, .int v1, .int v2, .retAddr 0] [] h =
  (some (.inl (some (.int (nZ (-77)))), h)) :=
  (s_bipush rfl).trans <| s_iret1 rfl rfl
theorem mc_L_fewestDrops (X : mv_X) (d : Nat) (h : mv_H) (a0 : Nat) (v1 : Int32) (v2 : Int32) : mv_call X (d + 1) 357 [.ref a0, .int v1, .int v2] h = mv_run X (mv_call X d) m_L_fewestDrops 0 [.ref a0, .int v1, .int v2, .retAddr 0] [] h := rfl
theorem bk_L_fewestDrops_0 (X : mv_X) (call : mv_G) (h : mv_H) (a0 : Nat) (v1 : Int32) (v2 : Int32) : mv_run X call m_L_fewestDrops 0 [.ref a0, .int v1, .int v2, .retAddr 0] [] h =
  mv_run X call m_L_fewestDrops 3 [.ref a0, .int v1, .int v2, .retAddr 0] [.int v2, .int v1, .ref a0] h :=
  (s_aload_n rfl rfl).trans <| (s_iload_n rfl rfl).trans <| (s_iload_n rfl rfl).trans <| rfl
theorem bk_L_fewestDrops_3 (X : mv_X) (call : mv_G) (h : mv_H) (a0 : Nat) (v1 : Int32) (v2 : Int32) (s0 : Int32) (s1 : Int32) (s2 : Nat) : mv_run X call m_L_fewestDrops 3 [.ref a0, .int v1, .int v2, .retAddr 0] [.int s0, .int s1, .ref s2] h =
  mv_rcv X h [.ref s2, .int s1, .int s0] 12 (mv_clI call 98 [.ref s2, .int s1, .int s0] h (mv_thr [(0, 6, 8, 0, 3), (0, 6, 12, 1, 3)] 3 [.ref a0, .int v1, .int v2, .retAddr 0] (mv_run X call m_L_fewestDrops)) fun x1 h1 =>
  mv_run X call m_L_fewestDrops 6 [.ref a0, .int v1, .int v2, .retAddr 0] [.int x1] h1) :=
  (s_v1 [.ref s2, .int s1, .int s0] [] rfl rfl (fun _ => rfl)).trans <| c_rcv <| c_clI fun x1 h1 => rfl
theorem bk_L_fewestDrops_6 (X : mv_X) (call : mv_G) (h : mv_H) (a0 : Nat) (v1 : Int32) (v2 : Int32) (s0 : Int32) : mv_run X call m_L_fewestDrops 6 [.ref a0, .int v1, .int v2, .retAddr 0] [.int s0] h =
  (some (.inl (some (.int s0)), h)) :=
  s_iret1 rfl rfl
theorem bk_L_fewestDrops_8 (X : mv_X) (call : mv_G) (h : mv_H) (a0 : Nat) (v1 : Int32) (v2 : Int32) : mv_run X call m_L_fewestDrops 8 [.ref a0, .int v1, .int v2, .retAddr 0] [] h =
  (some (.inl (some (.int (nZ (-78)))), h)) :=
  (s_bipush rfl).trans <| s_iret1 rfl rfl
theorem bk_L_fewestDrops_12 (X : mv_X) (call : mv_G) (h : mv_H) (a0 : Nat) (v1 : Int32) (v2 : Int32) : mv_run X call m_L_fewestDrops 12 [.ref a0, .int v1, .int v2, .retAddr 0] [] h =
  (some (.inl (some (.int (nZ (-75)))), h)) :=
  (s_bipush rfl).trans <| s_iret1 rfl rfl
theorem mc_L_fewestDropsBySets (X : mv_X) (d : Nat) (h : mv_H) (a0 : Nat) (v1 : Int32) (v2 : Int32) : mv_call X (d + 1) 358 [.ref a0, .int v1, .int v2] h = mv_run X (mv_call X d) m_L_fewestDropsBySets 0 [.ref a0, .int v1, .int v2, .retAddr 0] [] h := rfl
theorem bk_L_fewestDropsBySets_0 (X : mv_X) (call : mv_G) (h : mv_H) (a0 : Nat) (v1 : Int32) (v2 : Int32) : mv_run X call m_L_fewestDropsBySets 0 [.ref a0, .int v1, .int v2, .retAddr 0] [] h =
  mv_run X call m_L_fewestDropsBySets 3 [.ref a0, .int v1, .int v2, .retAddr 0] [.int v2, .int v1, .ref a0] h :=
  (s_aload_n rfl rfl).trans <| (s_iload_n rfl rfl).trans <| (s_iload_n rfl rfl).trans <| rfl
theorem bk_L_fewestDropsBySets_3 (X : mv_X) (call : mv_G) (h : mv_H) (a0 : Nat) (v1 : Int32) (v2 : Int32) (s0 : Int32) (s1 : Int32) (s2 : Nat) : mv_run X call m_L_fewestDropsBySets 3 [.ref a0, .int v1, .int v2, .retAddr 0] [.int s0, .int s1, .ref s2] h =
  mv_rcv X h [.ref s2, .int s1, .int s0] 12 (mv_clI call 99 [.ref s2, .int s1, .int s0] h (mv_thr [(0, 6, 8, 0, 3), (0, 6, 12, 1, 3)] 3 [.ref a0, .int v1, .int v2, .retAddr 0] (mv_run X call m_L_fewestDropsBySets)) fun x1 h1 =>
  mv_run X call m_L_fewestDropsBySets 6 [.ref a0, .int v1, .int v2, .retAddr 0] [.int x1] h1) :=
  (s_v1 [.ref s2, .int s1, .int s0] [] rfl rfl (fun _ => rfl)).trans <| c_rcv <| c_clI fun x1 h1 => rfl
theorem bk_L_fewestDropsBySets_6 (X : mv_X) (call : mv_G) (h : mv_H) (a0 : Nat) (v1 : Int32) (v2 : Int32) (s0 : Int32) : mv_run X call m_L_fewestDropsBySets 6 [.ref a0, .int v1, .int v2, .retAddr 0] [.int s0] h =
  (some (.inl (some (.int s0)), h)) :=
  s_iret1 rfl rfl
theorem bk_L_fewestDropsBySets_8 (X : mv_X) (call : mv_G) (h : mv_H) (a0 : Nat) (v1 : Int32) (v2 : Int32) : mv_run X call m_L_fewestDropsBySets 8 [.ref a0, .int v1, .int v2, .retAddr 0] [] h =
  (some (.inl (some (.int (nZ (-78)))), h)) :=
  (s_bipush rfl).trans <| s_iret1 rfl rfl
theorem bk_L_fewestDropsBySets_12 (X : mv_X) (call : mv_G) (h : mv_H) (a0 : Nat) (v1 : Int32) (v2 : Int32) : mv_run X call m_L_fewestDropsBySets 12 [.ref a0, .int v1, .int v2, .retAddr 0] [] h =
  (some (.inl (some (.int (nZ (-75)))), h)) :=
  (s_bipush rfl).trans <| s_iret1 rfl rfl
theorem mc_L_dropWeight (X : mv_X) (d : Nat) (h : mv_H) (a0 : Nat) (v1 : Int32) (v2 : Int32) : mv_call X (d + 1) 359 [.ref a0, .int v1, .int v2] h = mv_run X (mv_call X d) m_L_dropWeight 0 [.ref a0, .int v1, .int v2, .retAddr 0] [] h := rfl
theorem bk_L_dropWeight_0 (X : mv_X) (call : mv_G) (h : mv_H) (a0 : Nat) (v1 : Int32) (v2 : Int32) : mv_run X call m_L_dropWeight 0 [.ref a0, .int v1, .int v2, .retAddr 0] [] h =
  mv_run X call m_L_dropWeight 3 [.ref a0, .int v1, .int v2, .retAddr 0] [.int v2, .int v1, .ref a0] h :=
  (s_aload_n rfl rfl).trans <| (s_iload_n rfl rfl).trans <| (s_iload_n rfl rfl).trans <| rfl
theorem bk_L_dropWeight_3 (X : mv_X) (call : mv_G) (h : mv_H) (a0 : Nat) (v1 : Int32) (v2 : Int32) (s0 : Int32) (s1 : Int32) (s2 : Nat) : mv_run X call m_L_dropWeight 3 [.ref a0, .int v1, .int v2, .retAddr 0] [.int s0, .int s1, .ref s2] h =
  mv_rcv X h [.ref s2, .int s1, .int s0] 12 (mv_clI call 100 [.ref s2, .int s1, .int s0] h (mv_thr [(0, 6, 8, 0, 3), (0, 6, 12, 1, 3)] 3 [.ref a0, .int v1, .int v2, .retAddr 0] (mv_run X call m_L_dropWeight)) fun x1 h1 =>
  mv_run X call m_L_dropWeight 6 [.ref a0, .int v1, .int v2, .retAddr 0] [.int x1] h1) :=
  (s_v1 [.ref s2, .int s1, .int s0] [] rfl rfl (fun _ => rfl)).trans <| c_rcv <| c_clI fun x1 h1 => rfl
theorem bk_L_dropWeight_6 (X : mv_X) (call : mv_G) (h : mv_H) (a0 : Nat) (v1 : Int32) (v2 : Int32) (s0 : Int32) : mv_run X call m_L_dropWeight 6 [.ref a0, .int v1, .int v2, .retAddr 0] [.int s0] h =
  (some (.inl (some (.int s0)), h)) :=
  s_iret1 rfl rfl
theorem bk_L_dropWeight_8 (X : mv_X) (call : mv_G) (h : mv_H) (a0 : Nat) (v1 : Int32) (v2 : Int32) : mv_run X call m_L_dropWeight 8 [.ref a0, .int v1, .int v2, .retAddr 0] [] h =
  (some (.inl (some (.int (nZ (-78)))), h)) :=
  (s_bipush rfl).trans <| s_iret1 rfl rfl
theorem bk_L_dropWeight_12 (X : mv_X) (call : mv_G) (h : mv_H) (a0 : Nat) (v1 : Int32) (v2 : Int32) : mv_run X call m_L_dropWeight 12 [.ref a0, .int v1, .int v2, .retAddr 0] [] h =
  (some (.inl (some (.int (nZ (-75)))), h)) :=
  (s_bipush rfl).trans <| s_iret1 rfl rfl
theorem mc_L_setWind (X : mv_X) (d : Nat) (h : mv_H) (a0 : Nat) (v1 : Int32) (v2 : Int32) : mv_call X (d + 1) 360 [.ref a0, .int v1, .int v2] h = mv_run X (mv_call X d) m_L_setWind 0 [.ref a0, .int v1, .int v2, .retAddr 0] [] h := rfl
theorem bk_L_setWind_0 (X : mv_X) (call : mv_G) (h : mv_H) (a0 : Nat) (v1 : Int32) (v2 : Int32) : mv_run X call m_L_setWind 0 [.ref a0, .int v1, .int v2, .retAddr 0] [] h =
  mv_run X call m_L_setWind 3 [.ref a0, .int v1, .int v2, .retAddr 0] [.int v2, .int v1, .ref a0] h :=
  (s_aload_n rfl rfl).trans <| (s_iload_n rfl rfl).trans <| (s_iload_n rfl rfl).trans <| rfl
theorem bk_L_setWind_3 (X : mv_X) (call : mv_G) (h : mv_H) (a0 : Nat) (v1 : Int32) (v2 : Int32) (s0 : Int32) (s1 : Int32) (s2 : Nat) : mv_run X call m_L_setWind 3 [.ref a0, .int v1, .int v2, .retAddr 0] [.int s0, .int s1, .ref s2] h =
  mv_rcv X h [.ref s2, .int s1, .int s0] 12 (mv_clI call 101 [.ref s2, .int s1, .int s0] h (mv_thr [(0, 6, 8, 0, 3), (0, 6, 12, 3, 3)] 3 [.ref a0, .int v1, .int v2, .retAddr 0] (mv_run X call m_L_setWind)) fun x1 h1 =>
  mv_run X call m_L_setWind 6 [.ref a0, .int v1, .int v2, .retAddr 0] [.int x1] h1) :=
  (s_v1 [.ref s2, .int s1, .int s0] [] rfl rfl (fun _ => rfl)).trans <| c_rcv <| c_clI fun x1 h1 => rfl
theorem bk_L_setWind_6 (X : mv_X) (call : mv_G) (h : mv_H) (a0 : Nat) (v1 : Int32) (v2 : Int32) (s0 : Int32) : mv_run X call m_L_setWind 6 [.ref a0, .int v1, .int v2, .retAddr 0] [.int s0] h =
  (some (.inl (some (.int s0)), h)) :=
  s_iret1 rfl rfl
theorem bk_L_setWind_8 (X : mv_X) (call : mv_G) (h : mv_H) (a0 : Nat) (v1 : Int32) (v2 : Int32) : mv_run X call m_L_setWind 8 [.ref a0, .int v1, .int v2, .retAddr 0] [] h =
  (some (.inl (some (.int (nZ (-78)))), h)) :=
  (s_bipush rfl).trans <| s_iret1 rfl rfl
theorem bk_L_setWind_12 (X : mv_X) (call : mv_G) (h : mv_H) (a0 : Nat) (v1 : Int32) (v2 : Int32) : mv_run X call m_L_setWind 12 [.ref a0, .int v1, .int v2, .retAddr 0] [] h =
  (some (.inl (some (.int (nZ (-76)))), h)) :=
  (s_bipush rfl).trans <| s_iret1 rfl rfl
theorem mc_L_wind (X : mv_X) (d : Nat) (h : mv_H) (a0 : Nat) (v1 : Int32) : mv_call X (d + 1) 361 [.ref a0, .int v1] h = mv_run X (mv_call X d) m_L_wind 0 [.ref a0, .int v1, .retAddr 0] [] h := rfl
theorem bk_L_wind_0 (X : mv_X) (call : mv_G) (h : mv_H) (a0 : Nat) (v1 : Int32) : mv_run X call m_L_wind 0 [.ref a0, .int v1, .retAddr 0] [] h =
  mv_run X call m_L_wind 2 [.ref a0, .int v1, .retAddr 0] [.int v1, .ref a0] h :=
  (s_aload_n rfl rfl).trans <| (s_iload_n rfl rfl).trans <| rfl
theorem bk_L_wind_2 (X : mv_X) (call : mv_G) (h : mv_H) (a0 : Nat) (v1 : Int32) (s0 : Int32) (s1 : Nat) : mv_run X call m_L_wind 2 [.ref a0, .int v1, .retAddr 0] [.int s0, .ref s1] h =
  mv_rcv X h [.ref s1, .int s0] 12 (mv_clI call 102 [.ref s1, .int s0] h (mv_thr [(0, 5, 7, 0, 2)] 2 [.ref a0, .int v1, .retAddr 0] (mv_run X call m_L_wind)) fun x1 h1 =>
  mv_run X call m_L_wind 5 [.ref a0, .int v1, .retAddr 0] [.int x1] h1) :=
  (s_v1 [.ref s1, .int s0] [] rfl rfl (fun _ => rfl)).trans <| c_rcv <| c_clI fun x1 h1 => rfl
theorem bk_L_wind_5 (X : mv_X) (call : mv_G) (h : mv_H) (a0 : Nat) (v1 : Int32) (s0 : Int32) : mv_run X call m_L_wind 5 [.ref a0, .int v1, .retAddr 0] [.int s0] h =
  (some (.inl (some (.int s0)), h)) :=
  s_iret1 rfl rfl
theorem bk_L_wind_7 (X : mv_X) (call : mv_G) (h : mv_H) (a0 : Nat) (v1 : Int32) : mv_run X call m_L_wind 7 [.ref a0, .int v1, .retAddr 0] [] h =
  (some (.inl (some (.int (nZ (-78)))), h)) :=
  (s_bipush rfl).trans <| s_iret1 rfl rfl
theorem mc_L_top (X : mv_X) (d : Nat) (h : mv_H) (a0 : Nat) (v1 : Int32) : mv_call X (d + 1) 362 [.ref a0, .int v1] h = mv_run X (mv_call X d) m_L_top 0 [.ref a0, .int v1, .retAddr 0] [] h := rfl
theorem bk_L_top_0 (X : mv_X) (call : mv_G) (h : mv_H) (a0 : Nat) (v1 : Int32) : mv_run X call m_L_top 0 [.ref a0, .int v1, .retAddr 0] [] h =
  mv_run X call m_L_top 2 [.ref a0, .int v1, .retAddr 0] [.int v1, .ref a0] h :=
  (s_aload_n rfl rfl).trans <| (s_iload_n rfl rfl).trans <| rfl
theorem bk_L_top_2 (X : mv_X) (call : mv_G) (h : mv_H) (a0 : Nat) (v1 : Int32) (s0 : Int32) (s1 : Nat) : mv_run X call m_L_top 2 [.ref a0, .int v1, .retAddr 0] [.int s0, .ref s1] h =
  mv_rcv X h [.ref s1, .int s0] 12 (mv_clI call 103 [.ref s1, .int s0] h (mv_thr [(0, 5, 7, 1, 2)] 2 [.ref a0, .int v1, .retAddr 0] (mv_run X call m_L_top)) fun x1 h1 =>
  mv_run X call m_L_top 5 [.ref a0, .int v1, .retAddr 0] [.int x1] h1) :=
  (s_v1 [.ref s1, .int s0] [] rfl rfl (fun _ => rfl)).trans <| c_rcv <| c_clI fun x1 h1 => rfl
theorem bk_L_top_5 (X : mv_X) (call : mv_G) (h : mv_H) (a0 : Nat) (v1 : Int32) (s0 : Int32) : mv_run X call m_L_top 5 [.ref a0, .int v1, .retAddr 0] [.int s0] h =
  (some (.inl (some (.int s0)), h)) :=
  s_iret1 rfl rfl
theorem bk_L_top_7 (X : mv_X) (call : mv_G) (h : mv_H) (a0 : Nat) (v1 : Int32) : mv_run X call m_L_top 7 [.ref a0, .int v1, .retAddr 0] [] h =
  (some (.inl (some (.int (nZ (-975)))), h)) :=
  (s_sipush rfl).trans <| s_iret1 rfl rfl
theorem mc_L_longestCalm (X : mv_X) (d : Nat) (h : mv_H) (a0 : Nat) (v1 : Int32) : mv_call X (d + 1) 363 [.ref a0, .int v1] h = mv_run X (mv_call X d) m_L_longestCalm 0 [.ref a0, .int v1, .retAddr 0] [] h := rfl
theorem bk_L_longestCalm_0 (X : mv_X) (call : mv_G) (h : mv_H) (a0 : Nat) (v1 : Int32) : mv_run X call m_L_longestCalm 0 [.ref a0, .int v1, .retAddr 0] [] h =
  mv_run X call m_L_longestCalm 2 [.ref a0, .int v1, .retAddr 0] [.int v1, .ref a0] h :=
  (s_aload_n rfl rfl).trans <| (s_iload_n rfl rfl).trans <| rfl
theorem bk_L_longestCalm_2 (X : mv_X) (call : mv_G) (h : mv_H) (a0 : Nat) (v1 : Int32) (s0 : Int32) (s1 : Nat) : mv_run X call m_L_longestCalm 2 [.ref a0, .int v1, .retAddr 0] [.int s0, .ref s1] h =
  mv_rcv X h [.ref s1, .int s0] 12 (mv_clI call 106 [.ref s1, .int s0] h (mv_thr [(0, 5, 7, 0, 2)] 2 [.ref a0, .int v1, .retAddr 0] (mv_run X call m_L_longestCalm)) fun x1 h1 =>
  mv_run X call m_L_longestCalm 5 [.ref a0, .int v1, .retAddr 0] [.int x1] h1) :=
  (s_v1 [.ref s1, .int s0] [] rfl rfl (fun _ => rfl)).trans <| c_rcv <| c_clI fun x1 h1 => rfl
theorem bk_L_longestCalm_5 (X : mv_X) (call : mv_G) (h : mv_H) (a0 : Nat) (v1 : Int32) (s0 : Int32) : mv_run X call m_L_longestCalm 5 [.ref a0, .int v1, .retAddr 0] [.int s0] h =
  (some (.inl (some (.int s0)), h)) :=
  s_iret1 rfl rfl
theorem bk_L_longestCalm_7 (X : mv_X) (call : mv_G) (h : mv_H) (a0 : Nat) (v1 : Int32) : mv_run X call m_L_longestCalm 7 [.ref a0, .int v1, .retAddr 0] [] h =
  (some (.inl (some (.int (nZ (-78)))), h)) :=
  (s_bipush rfl).trans <| s_iret1 rfl rfl
theorem mc_L_longestCalmByTrying (X : mv_X) (d : Nat) (h : mv_H) (a0 : Nat) (v1 : Int32) : mv_call X (d + 1) 364 [.ref a0, .int v1] h = mv_run X (mv_call X d) m_L_longestCalmByTrying 0 [.ref a0, .int v1, .retAddr 0] [] h := rfl
theorem bk_L_longestCalmByTrying_0 (X : mv_X) (call : mv_G) (h : mv_H) (a0 : Nat) (v1 : Int32) : mv_run X call m_L_longestCalmByTrying 0 [.ref a0, .int v1, .retAddr 0] [] h =
  mv_run X call m_L_longestCalmByTrying 2 [.ref a0, .int v1, .retAddr 0] [.int v1, .ref a0] h :=
  (s_aload_n rfl rfl).trans <| (s_iload_n rfl rfl).trans <| rfl
theorem bk_L_longestCalmByTrying_2 (X : mv_X) (call : mv_G) (h : mv_H) (a0 : Nat) (v1 : Int32) (s0 : Int32) (s1 : Nat) : mv_run X call m_L_longestCalmByTrying 2 [.ref a0, .int v1, .retAddr 0] [.int s0, .ref s1] h =
  mv_rcv X h [.ref s1, .int s0] 12 (mv_clI call 107 [.ref s1, .int s0] h (mv_thr [(0, 5, 7, 0, 2)] 2 [.ref a0, .int v1, .retAddr 0] (mv_run X call m_L_longestCalmByTrying)) fun x1 h1 =>
  mv_run X call m_L_longestCalmByTrying 5 [.ref a0, .int v1, .retAddr 0] [.int x1] h1) :=
  (s_v1 [.ref s1, .int s0] [] rfl rfl (fun _ => rfl)).trans <| c_rcv <| c_clI fun x1 h1 => rfl
theorem bk_L_longestCalmByTrying_5 (X : mv_X) (call : mv_G) (h : mv_H) (a0 : Nat) (v1 : Int32) (s0 : Int32) : mv_run X call m_L_longestCalmByTrying 5 [.ref a0, .int v1, .retAddr 0] [.int s0] h =
  (some (.inl (some (.int s0)), h)) :=
  s_iret1 rfl rfl
theorem bk_L_longestCalmByTrying_7 (X : mv_X) (call : mv_G) (h : mv_H) (a0 : Nat) (v1 : Int32) : mv_run X call m_L_longestCalmByTrying 7 [.ref a0, .int v1, .retAddr 0] [] h =
  (some (.inl (some (.int (nZ (-78)))), h)) :=
  (s_bipush rfl).trans <| s_iret1 rfl rfl
theorem mc_L_addPilot (X : mv_X) (d : Nat) (h : mv_H) (a0 : Nat) (v1 : Int32) (v2 : Int32) (v3 : Int32) : mv_call X (d + 1) 365 [.ref a0, .int v1, .int v2, .int v3] h = mv_run X (mv_call X d) m_L_addPilot 0 [.ref a0, .int v1, .int v2, .int v3, .retAddr 0] [] h := rfl
theorem bk_L_addPilot_0 (X : mv_X) (call : mv_G) (h : mv_H) (a0 : Nat) (v1 : Int32) (v2 : Int32) (v3 : Int32) : mv_run X call m_L_addPilot 0 [.ref a0, .int v1, .int v2, .int v3, .retAddr 0] [] h =
  mv_run X call m_L_addPilot 4 [.ref a0, .int v1, .int v2, .int v3, .retAddr 0] [.int v3, .int v2, .int v1, .ref a0] h :=
  (s_aload_n rfl rfl).trans <| (s_iload_n rfl rfl).trans <| (s_iload_n rfl rfl).trans <| (s_iload_n rfl rfl).trans <| rfl
theorem bk_L_addPilot_4 (X : mv_X) (call : mv_G) (h : mv_H) (a0 : Nat) (v1 : Int32) (v2 : Int32) (v3 : Int32) (s0 : Int32) (s1 : Int32) (s2 : Int32) (s3 : Nat) : mv_run X call m_L_addPilot 4 [.ref a0, .int v1, .int v2, .int v3, .retAddr 0] [.int s0, .int s1, .int s2, .ref s3] h =
  mv_rcv X h [.ref s3, .int s2, .int s1, .int s0] 12 (mv_clI call 108 [.ref s3, .int s2, .int s1, .int s0] h (mv_thr [(0, 7, 10, 0, 4), (0, 7, 15, 3, 4)] 4 [.ref a0, .int v1, .int v2, .int v3, .retAddr 0] (mv_run X call m_L_addPilot)) fun x1 h1 =>
  mv_run X call m_L_addPilot 7 [.ref a0, .int v1, .int v2, .int v3, .retAddr 0] [.int x1] h1) :=
  (s_v1 [.ref s3, .int s2, .int s1, .int s0] [] rfl rfl (fun _ => rfl)).trans <| c_rcv <| c_clI fun x1 h1 => rfl
theorem bk_L_addPilot_7 (X : mv_X) (call : mv_G) (h : mv_H) (a0 : Nat) (v1 : Int32) (v2 : Int32) (v3 : Int32) (s0 : Int32) : mv_run X call m_L_addPilot 7 [.ref a0, .int v1, .int v2, .int v3, .retAddr 0] [.int s0] h =
  (some (.inl (some (.int s0)), h)) :=
  s_iret1 rfl rfl
theorem bk_L_addPilot_10 (X : mv_X) (call : mv_G) (h : mv_H) (a0 : Nat) (v1 : Int32) (v2 : Int32) (v3 : Int32) : mv_run X call m_L_addPilot 10 [.ref a0, .int v1, .int v2, .int v3, .retAddr 0] [] h =
  (some (.inl (some (.int (nZ (-78)))), h)) :=
  (s_bipush rfl).trans <| s_iret1 rfl rfl
theorem bk_L_addPilot_15 (X : mv_X) (call : mv_G) (h : mv_H) (a0 : Nat) (v1 : Int32) (v2 : Int32) (v3 : Int32) : mv_run X call m_L_addPilot 15 [.ref a0, .int v1, .int v2, .int v3, .retAddr 0] [] h =
  (some (.inl (some (.int (nZ (-76)))), h)) :=
  (s_bipush rfl).trans <| s_iret1 rfl rfl
theorem mc_L_removePilot (X : mv_X) (d : Nat) (h : mv_H) (a0 : Nat) (v1 : Int32) : mv_call X (d + 1) 366 [.ref a0, .int v1] h = mv_run X (mv_call X d) m_L_removePilot 0 [.ref a0, .int v1, .retAddr 0] [] h := rfl
theorem bk_L_removePilot_0 (X : mv_X) (call : mv_G) (h : mv_H) (a0 : Nat) (v1 : Int32) : mv_run X call m_L_removePilot 0 [.ref a0, .int v1, .retAddr 0] [] h =
  mv_run X call m_L_removePilot 2 [.ref a0, .int v1, .retAddr 0] [.int v1, .ref a0] h :=
  (s_aload_n rfl rfl).trans <| (s_iload_n rfl rfl).trans <| rfl
theorem bk_L_removePilot_2 (X : mv_X) (call : mv_G) (h : mv_H) (a0 : Nat) (v1 : Int32) (s0 : Int32) (s1 : Nat) : mv_run X call m_L_removePilot 2 [.ref a0, .int v1, .retAddr 0] [.int s0, .ref s1] h =
  mv_rcv X h [.ref s1, .int s0] 12 (mv_clI call 109 [.ref s1, .int s0] h (mv_thr [(0, 5, 7, 2, 2)] 2 [.ref a0, .int v1, .retAddr 0] (mv_run X call m_L_removePilot)) fun x1 h1 =>
  mv_run X call m_L_removePilot 5 [.ref a0, .int v1, .retAddr 0] [.int x1] h1) :=
  (s_v1 [.ref s1, .int s0] [] rfl rfl (fun _ => rfl)).trans <| c_rcv <| c_clI fun x1 h1 => rfl
theorem bk_L_removePilot_5 (X : mv_X) (call : mv_G) (h : mv_H) (a0 : Nat) (v1 : Int32) (s0 : Int32) : mv_run X call m_L_removePilot 5 [.ref a0, .int v1, .retAddr 0] [.int s0] h =
  (some (.inl (some (.int s0)), h)) :=
  s_iret1 rfl rfl
theorem bk_L_removePilot_7 (X : mv_X) (call : mv_G) (h : mv_H) (a0 : Nat) (v1 : Int32) : mv_run X call m_L_removePilot 7 [.ref a0, .int v1, .retAddr 0] [] h =
  (some (.inl (some (.int (nZ (-77)))), h)) :=
  (s_bipush rfl).trans <| s_iret1 rfl rfl
theorem mc_L_isOnDuty (X : mv_X) (d : Nat) (h : mv_H) (a0 : Nat) (v1 : Int32) (v2 : Int32) : mv_call X (d + 1) 367 [.ref a0, .int v1, .int v2] h = mv_run X (mv_call X d) m_L_isOnDuty 0 [.ref a0, .int v1, .int v2, .retAddr 0] [] h := rfl
theorem bk_L_isOnDuty_0 (X : mv_X) (call : mv_G) (h : mv_H) (a0 : Nat) (v1 : Int32) (v2 : Int32) : mv_run X call m_L_isOnDuty 0 [.ref a0, .int v1, .int v2, .retAddr 0] [] h =
  mv_run X call m_L_isOnDuty 3 [.ref a0, .int v1, .int v2, .retAddr 0] [.int v2, .int v1, .ref a0] h :=
  (s_aload_n rfl rfl).trans <| (s_iload_n rfl rfl).trans <| (s_iload_n rfl rfl).trans <| rfl
theorem bk_L_isOnDuty_3 (X : mv_X) (call : mv_G) (h : mv_H) (a0 : Nat) (v1 : Int32) (v2 : Int32) (s0 : Int32) (s1 : Int32) (s2 : Nat) : mv_run X call m_L_isOnDuty 3 [.ref a0, .int v1, .int v2, .retAddr 0] [.int s0, .int s1, .ref s2] h =
  mv_rcv X h [.ref s2, .int s1, .int s0] 12 (mv_clI call 111 [.ref s2, .int s1, .int s0] h (mv_thr [(0, 14, 16, 2, 3), (0, 14, 20, 0, 3)] 3 [.ref a0, .int v1, .int v2, .retAddr 0] (mv_run X call m_L_isOnDuty)) fun x1 h1 =>
  mv_run X call m_L_isOnDuty 6 [.ref a0, .int v1, .int v2, .retAddr 0] [.int x1] h1) :=
  (s_v1 [.ref s2, .int s1, .int s0] [] rfl rfl (fun _ => rfl)).trans <| c_rcv <| c_clI fun x1 h1 => rfl
theorem bk_L_isOnDuty_6 (X : mv_X) (call : mv_G) (h : mv_H) (a0 : Nat) (v1 : Int32) (v2 : Int32) (s0 : Int32) : mv_run X call m_L_isOnDuty 6 [.ref a0, .int v1, .int v2, .retAddr 0] [.int s0] h =
  if s0 = 0 then 
  ((some (.inl (some (.int (nZ 0))), h)))
  else ((some (.inl (some (.int (nZ 1))), h))) :=
  (s_if_eq rfl).trans <| c_ite ((s_iconst rfl).trans <| s_iret1 rfl rfl) ((s_iconst rfl).trans <| (s_goto rfl).trans <| s_iret1 rfl rfl)
theorem bk_L_isOnDuty_16 (X : mv_X) (call : mv_G) (h : mv_H) (a0 : Nat) (v1 : Int32) (v2 : Int32) : mv_run X call m_L_isOnDuty 16 [.ref a0, .int v1, .int v2, .retAddr 0] [] h =
  (some (.inl (some (.int (nZ (-77)))), h)) :=
  (s_bipush rfl).trans <| s_iret1 rfl rfl
theorem bk_L_isOnDuty_20 (X : mv_X) (call : mv_G) (h : mv_H) (a0 : Nat) (v1 : Int32) (v2 : Int32) : mv_run X call m_L_isOnDuty 20 [.ref a0, .int v1, .int v2, .retAddr 0] [] h =
  (some (.inl (some (.int (nZ (-78)))), h)) :=
  (s_bipush rfl).trans <| s_iret1 rfl rfl
theorem mc_L_canCrew (X : mv_X) (d : Nat) (h : mv_H) (a0 : Nat) (v1 : Int32) (v2 : Int32) : mv_call X (d + 1) 368 [.ref a0, .int v1, .int v2] h = mv_run X (mv_call X d) m_L_canCrew 0 [.ref a0, .int v1, .int v2, .retAddr 0] [] h := rfl
theorem bk_L_canCrew_0 (X : mv_X) (call : mv_G) (h : mv_H) (a0 : Nat) (v1 : Int32) (v2 : Int32) : mv_run X call m_L_canCrew 0 [.ref a0, .int v1, .int v2, .retAddr 0] [] h =
  mv_run X call m_L_canCrew 3 [.ref a0, .int v1, .int v2, .retAddr 0] [.int v2, .int v1, .ref a0] h :=
  (s_aload_n rfl rfl).trans <| (s_iload_n rfl rfl).trans <| (s_iload_n rfl rfl).trans <| rfl
theorem bk_L_canCrew_3 (X : mv_X) (call : mv_G) (h : mv_H) (a0 : Nat) (v1 : Int32) (v2 : Int32) (s0 : Int32) (s1 : Int32) (s2 : Nat) : mv_run X call m_L_canCrew 3 [.ref a0, .int v1, .int v2, .retAddr 0] [.int s0, .int s1, .ref s2] h =
  mv_rcv X h [.ref s2, .int s1, .int s0] 12 (mv_clI call 112 [.ref s2, .int s1, .int s0] h (mv_thr [(0, 14, 16, 2, 3), (0, 14, 20, 1, 3)] 3 [.ref a0, .int v1, .int v2, .retAddr 0] (mv_run X call m_L_canCrew)) fun x1 h1 =>
  mv_run X call m_L_canCrew 6 [.ref a0, .int v1, .int v2, .retAddr 0] [.int x1] h1) :=
  (s_v1 [.ref s2, .int s1, .int s0] [] rfl rfl (fun _ => rfl)).trans <| c_rcv <| c_clI fun x1 h1 => rfl
theorem bk_L_canCrew_6 (X : mv_X) (call : mv_G) (h : mv_H) (a0 : Nat) (v1 : Int32) (v2 : Int32) (s0 : Int32) : mv_run X call m_L_canCrew 6 [.ref a0, .int v1, .int v2, .retAddr 0] [.int s0] h =
  if s0 = 0 then 
  ((some (.inl (some (.int (nZ 0))), h)))
  else ((some (.inl (some (.int (nZ 1))), h))) :=
  (s_if_eq rfl).trans <| c_ite ((s_iconst rfl).trans <| s_iret1 rfl rfl) ((s_iconst rfl).trans <| (s_goto rfl).trans <| s_iret1 rfl rfl)
theorem bk_L_canCrew_16 (X : mv_X) (call : mv_G) (h : mv_H) (a0 : Nat) (v1 : Int32) (v2 : Int32) : mv_run X call m_L_canCrew 16 [.ref a0, .int v1, .int v2, .retAddr 0] [] h =
  (some (.inl (some (.int (nZ (-77)))), h)) :=
  (s_bipush rfl).trans <| s_iret1 rfl rfl
theorem bk_L_canCrew_20 (X : mv_X) (call : mv_G) (h : mv_H) (a0 : Nat) (v1 : Int32) (v2 : Int32) : mv_run X call m_L_canCrew 20 [.ref a0, .int v1, .int v2, .retAddr 0] [] h =
  (some (.inl (some (.int (nZ (-75)))), h)) :=
  (s_bipush rfl).trans <| s_iret1 rfl rfl
theorem mc_L_pass (X : mv_X) (d : Nat) (h : mv_H) (a0 : Nat) (v1 : Int32) : mv_call X (d + 1) 369 [.ref a0, .int v1] h = mv_run X (mv_call X d) m_L_pass 0 [.ref a0, .int v1, .retAddr 0] [] h := rfl
theorem bk_L_pass_0 (X : mv_X) (call : mv_G) (h : mv_H) (a0 : Nat) (v1 : Int32) : mv_run X call m_L_pass 0 [.ref a0, .int v1, .retAddr 0] [] h =
  mv_run X call m_L_pass 2 [.ref a0, .int v1, .retAddr 0] [.int v1, .ref a0] h :=
  (s_aload_n rfl rfl).trans <| (s_iload_n rfl rfl).trans <| rfl
theorem bk_L_pass_2 (X : mv_X) (call : mv_G) (h : mv_H) (a0 : Nat) (v1 : Int32) (s0 : Int32) (s1 : Nat) : mv_run X call m_L_pass 2 [.ref a0, .int v1, .retAddr 0] [.int s0, .ref s1] h =
  mv_rcv X h [.ref s1, .int s0] 12 (mv_clI call 115 [.ref s1, .int s0] h (mv_thr [(0, 5, 7, 0, 2)] 2 [.ref a0, .int v1, .retAddr 0] (mv_run X call m_L_pass)) fun x1 h1 =>
  mv_run X call m_L_pass 5 [.ref a0, .int v1, .retAddr 0] [.int x1] h1) :=
  (s_v1 [.ref s1, .int s0] [] rfl rfl (fun _ => rfl)).trans <| c_rcv <| c_clI fun x1 h1 => rfl
theorem bk_L_pass_5 (X : mv_X) (call : mv_G) (h : mv_H) (a0 : Nat) (v1 : Int32) (s0 : Int32) : mv_run X call m_L_pass 5 [.ref a0, .int v1, .retAddr 0] [.int s0] h =
  (some (.inl (some (.int s0)), h)) :=
  s_iret1 rfl rfl
theorem bk_L_pass_7 (X : mv_X) (call : mv_G) (h : mv_H) (a0 : Nat) (v1 : Int32) : mv_run X call m_L_pass 7 [.ref a0, .int v1, .retAddr 0] [] h =
  (some (.inl (some (.int (nZ (-78)))), h)) :=
  (s_bipush rfl).trans <| s_iret1 rfl rfl
theorem mc_L_meanHeight (X : mv_X) (d : Nat) (h : mv_H) (a0 : Nat) : mv_call X (d + 1) 370 [.ref a0] h = mv_run X (mv_call X d) m_L_meanHeight 0 [.ref a0, .retAddr 0] [] h := rfl
theorem bk_L_meanHeight_0 (X : mv_X) (call : mv_G) (h : mv_H) (a0 : Nat) : mv_run X call m_L_meanHeight 0 [.ref a0, .retAddr 0] [] h =
  mv_run X call m_L_meanHeight 1 [.ref a0, .retAddr 0] [.ref a0] h :=
  (s_aload_n rfl rfl).trans <| rfl
theorem bk_L_meanHeight_1 (X : mv_X) (call : mv_G) (h : mv_H) (a0 : Nat) (s0 : Nat) : mv_run X call m_L_meanHeight 1 [.ref a0, .retAddr 0] [.ref s0] h =
  mv_rcv X h [.ref s0] 12 (mv_clD call 123 [.ref s0] h (mv_thr [(0, 4, 6, 5, 1)] 1 [.ref a0, .retAddr 0] (mv_run X call m_L_meanHeight)) fun d1 h1 =>
  mv_run X call m_L_meanHeight 4 [.ref a0, .retAddr 0] [.double d1] h1) :=
  (s_v5 [.ref s0] [] rfl rfl (fun _ => rfl)).trans <| c_rcv <| c_clD fun d1 h1 => rfl
theorem bk_L_meanHeight_4 (X : mv_X) (call : mv_G) (h : mv_H) (a0 : Nat) (s0 : UInt64) : mv_run X call m_L_meanHeight 4 [.ref a0, .retAddr 0] [.double s0] h =
  (some (.inl (some (.double s0)), h)) :=
  s_dreturn rfl rfl
theorem bk_L_meanHeight_6 (X : mv_X) (call : mv_G) (h : mv_H) (a0 : Nat) : mv_run X call m_L_meanHeight 6 [.ref a0, .retAddr 0] [] h =
  (some (.inl (some (.double (UInt64.ofNat 13858279740860792832))), h)) :=
  (s_ldc2D rfl rfl).trans <| s_dreturn rfl rfl
theorem mc_L_strain (X : mv_X) (d : Nat) (h : mv_H) (a0 : Nat) (v1 : Int32) : mv_call X (d + 1) 371 [.ref a0, .int v1] h = mv_run X (mv_call X d) m_L_strain 0 [.ref a0, .int v1, .retAddr 0] [] h := rfl
theorem bk_L_strain_0 (X : mv_X) (call : mv_G) (h : mv_H) (a0 : Nat) (v1 : Int32) : mv_run X call m_L_strain 0 [.ref a0, .int v1, .retAddr 0] [] h =
  mv_run X call m_L_strain 2 [.ref a0, .int v1, .retAddr 0] [.int v1, .ref a0] h :=
  (s_aload_n rfl rfl).trans <| (s_iload_n rfl rfl).trans <| rfl
theorem bk_L_strain_2 (X : mv_X) (call : mv_G) (h : mv_H) (a0 : Nat) (v1 : Int32) (s0 : Int32) (s1 : Nat) : mv_run X call m_L_strain 2 [.ref a0, .int v1, .retAddr 0] [.int s0, .ref s1] h =
  mv_rcv X h [.ref s1, .int s0] 12 (mv_clF call 124 [.ref s1, .int s0] h (mv_thr [(0, 5, 7, 1, 2)] 2 [.ref a0, .int v1, .retAddr 0] (mv_run X call m_L_strain)) fun f1 h1 =>
  mv_run X call m_L_strain 5 [.ref a0, .int v1, .retAddr 0] [.float f1] h1) :=
  (s_v4 [.ref s1, .int s0] [] rfl rfl (fun _ => rfl)).trans <| c_rcv <| c_clF fun f1 h1 => rfl
theorem bk_L_strain_5 (X : mv_X) (call : mv_G) (h : mv_H) (a0 : Nat) (v1 : Int32) (s0 : UInt32) : mv_run X call m_L_strain 5 [.ref a0, .int v1, .retAddr 0] [.float s0] h =
  (some (.inl (some (.float s0)), h)) :=
  s_freturn rfl rfl
theorem bk_L_strain_7 (X : mv_X) (call : mv_G) (h : mv_H) (a0 : Nat) (v1 : Int32) : mv_run X call m_L_strain 7 [.ref a0, .int v1, .retAddr 0] [] h =
  (some (.inl (some (.float (UInt32.ofNat 3264610304))), h)) :=
  (s_ldcF rfl rfl).trans <| s_freturn rfl rfl
theorem mc_L_feed (X : mv_X) (d : Nat) (h : mv_H) (a0 : Nat) (v1 : Int32) : mv_call X (d + 1) 372 [.ref a0, .int v1] h = mv_run X (mv_call X d) m_L_feed 0 [.ref a0, .int v1, .retAddr 0] [] h := rfl
theorem bk_L_feed_0 (X : mv_X) (call : mv_G) (h : mv_H) (a0 : Nat) (v1 : Int32) : mv_run X call m_L_feed 0 [.ref a0, .int v1, .retAddr 0] [] h =
  mv_run X call m_L_feed 2 [.ref a0, .int v1, .retAddr 0] [.int v1, .ref a0] h :=
  (s_aload_n rfl rfl).trans <| (s_iload_n rfl rfl).trans <| rfl
theorem bk_L_feed_2 (X : mv_X) (call : mv_G) (h : mv_H) (a0 : Nat) (v1 : Int32) (s0 : Int32) (s1 : Nat) : mv_run X call m_L_feed 2 [.ref a0, .int v1, .retAddr 0] [.int s0, .ref s1] h =
  mv_rcv X h [.ref s1, .int s0] 12 (mv_clI call 125 [.ref s1, .int s0] h (mv_thr [(0, 5, 7, 4, 2)] 2 [.ref a0, .int v1, .retAddr 0] (mv_run X call m_L_feed)) fun x1 h1 =>
  mv_run X call m_L_feed 5 [.ref a0, .int v1, .retAddr 0] [.int x1] h1) :=
  (s_v1 [.ref s1, .int s0] [] rfl rfl (fun _ => rfl)).trans <| c_rcv <| c_clI fun x1 h1 => rfl
theorem bk_L_feed_5 (X : mv_X) (call : mv_G) (h : mv_H) (a0 : Nat) (v1 : Int32) (s0 : Int32) : mv_run X call m_L_feed 5 [.ref a0, .int v1, .retAddr 0] [.int s0] h =
  (some (.inl (some (.int s0)), h)) :=
  s_iret1 rfl rfl
theorem bk_L_feed_7 (X : mv_X) (call : mv_G) (h : mv_H) (a0 : Nat) (v1 : Int32) : mv_run X call m_L_feed 7 [.ref a0, .int v1, .retAddr 0] [] h =
  (some (.inl (some (.int (nZ (-79)))), h)) :=
  (s_bipush rfl).trans <| s_iret1 rfl rfl
theorem mc_L_execute (X : mv_X) (d : Nat) (h : mv_H) (a0 : Nat) : mv_call X (d + 1) 373 [.ref a0] h = mv_run X (mv_call X d) m_L_execute 0 [.ref a0, .retAddr 0] [] h := rfl
theorem bk_L_execute_0 (X : mv_X) (call : mv_G) (h : mv_H) (a0 : Nat) : mv_run X call m_L_execute 0 [.ref a0, .retAddr 0] [] h =
  mv_run X call m_L_execute 1 [.ref a0, .retAddr 0] [.ref a0] h :=
  (s_aload_n rfl rfl).trans <| rfl
theorem bk_L_execute_1 (X : mv_X) (call : mv_G) (h : mv_H) (a0 : Nat) (s0 : Nat) : mv_run X call m_L_execute 1 [.ref a0, .retAddr 0] [.ref s0] h =
  mv_rcv X h [.ref s0] 12 (mv_clI call 126 [.ref s0] h (mv_thr [(0, 4, 6, 0, 1), (0, 4, 10, 3, 1)] 1 [.ref a0, .retAddr 0] (mv_run X call m_L_execute)) fun x1 h1 =>
  mv_run X call m_L_execute 4 [.ref a0, .retAddr 0] [.int x1] h1) :=
  (s_v1 [.ref s0] [] rfl rfl (fun _ => rfl)).trans <| c_rcv <| c_clI fun x1 h1 => rfl
theorem bk_L_execute_4 (X : mv_X) (call : mv_G) (h : mv_H) (a0 : Nat) (s0 : Int32) : mv_run X call m_L_execute 4 [.ref a0, .retAddr 0] [.int s0] h =
  (some (.inl (some (.int s0)), h)) :=
  s_iret1 rfl rfl
theorem bk_L_execute_6 (X : mv_X) (call : mv_G) (h : mv_H) (a0 : Nat) : mv_run X call m_L_execute 6 [.ref a0, .retAddr 0] [] h =
  (some (.inl (some (.int (nZ (-78)))), h)) :=
  (s_bipush rfl).trans <| s_iret1 rfl rfl
theorem bk_L_execute_10 (X : mv_X) (call : mv_G) (h : mv_H) (a0 : Nat) : mv_run X call m_L_execute 10 [.ref a0, .retAddr 0] [] h =
  (some (.inl (some (.int (nZ (-76)))), h)) :=
  (s_bipush rfl).trans <| s_iret1 rfl rfl
theorem mc_L_writeBalloon (X : mv_X) (d : Nat) (h : mv_H) (a0 : Nat) (v1 : Int32) : mv_call X (d + 1) 374 [.ref a0, .int v1] h = mv_run X (mv_call X d) m_L_writeBalloon 0 [.ref a0, .int v1, .retAddr 0] [] h := rfl
theorem bk_L_writeBalloon_0 (X : mv_X) (call : mv_G) (h : mv_H) (a0 : Nat) (v1 : Int32) : mv_run X call m_L_writeBalloon 0 [.ref a0, .int v1, .retAddr 0] [] h =
  mv_run X call m_L_writeBalloon 2 [.ref a0, .int v1, .retAddr 0] [.int v1, .ref a0] h :=
  (s_aload_n rfl rfl).trans <| (s_iload_n rfl rfl).trans <| rfl
theorem bk_L_writeBalloon_2 (X : mv_X) (call : mv_G) (h : mv_H) (a0 : Nat) (v1 : Int32) (s0 : Int32) (s1 : Nat) : mv_run X call m_L_writeBalloon 2 [.ref a0, .int v1, .retAddr 0] [.int s0, .ref s1] h =
  mv_rcv X h [.ref s1, .int s0] 12 (mv_clI call 128 [.ref s1, .int s0] h (mv_thr [(0, 5, 7, 1, 2)] 2 [.ref a0, .int v1, .retAddr 0] (mv_run X call m_L_writeBalloon)) fun x1 h1 =>
  mv_run X call m_L_writeBalloon 5 [.ref a0, .int v1, .retAddr 0] [.int x1] h1) :=
  (s_v1 [.ref s1, .int s0] [] rfl rfl (fun _ => rfl)).trans <| c_rcv <| c_clI fun x1 h1 => rfl
theorem bk_L_writeBalloon_5 (X : mv_X) (call : mv_G) (h : mv_H) (a0 : Nat) (v1 : Int32) (s0 : Int32) : mv_run X call m_L_writeBalloon 5 [.ref a0, .int v1, .retAddr 0] [.int s0] h =
  (some (.inl (some (.int s0)), h)) :=
  s_iret1 rfl rfl
theorem bk_L_writeBalloon_7 (X : mv_X) (call : mv_G) (h : mv_H) (a0 : Nat) (v1 : Int32) : mv_run X call m_L_writeBalloon 7 [.ref a0, .int v1, .retAddr 0] [] h =
  (some (.inl (some (.int (nZ (-75)))), h)) :=
  (s_bipush rfl).trans <| s_iret1 rfl rfl
theorem mc_L_denial (X : mv_X) (d : Nat) (h : mv_H) (a0 : Nat) : mv_call X (d + 1) 375 [.ref a0] h = mv_run X (mv_call X d) m_L_denial 0 [.ref a0, .retAddr 0] [] h := rfl
theorem bk_L_denial_0 (X : mv_X) (call : mv_G) (h : mv_H) (a0 : Nat) : mv_run X call m_L_denial 0 [.ref a0, .retAddr 0] [] h =
  mv_run X call m_L_denial 1 [.ref a0, .retAddr 0] [.ref a0] h :=
  (s_aload_n rfl rfl).trans <| rfl
theorem bk_L_denial_1 (X : mv_X) (call : mv_G) (h : mv_H) (a0 : Nat) (s0 : Nat) : mv_run X call m_L_denial 1 [.ref a0, .retAddr 0] [.ref s0] h =
  mv_rcv X h [.ref s0] 12 (mv_clI call 130 [.ref s0] h (mv_thr [(0, 4, 6, 1, 1)] 1 [.ref a0, .retAddr 0] (mv_run X call m_L_denial)) fun x1 h1 =>
  mv_run X call m_L_denial 4 [.ref a0, .retAddr 0] [.int x1] h1) :=
  (s_v1 [.ref s0] [] rfl rfl (fun _ => rfl)).trans <| c_rcv <| c_clI fun x1 h1 => rfl
theorem bk_L_denial_4 (X : mv_X) (call : mv_G) (h : mv_H) (a0 : Nat) (s0 : Int32) : mv_run X call m_L_denial 4 [.ref a0, .retAddr 0] [.int s0] h =
  (some (.inl (some (.int s0)), h)) :=
  s_iret1 rfl rfl
theorem bk_L_denial_6 (X : mv_X) (call : mv_G) (h : mv_H) (a0 : Nat) : mv_run X call m_L_denial 6 [.ref a0, .retAddr 0] [] h =
  (some (.inl (some (.int (nZ (-75)))), h)) :=
  (s_bipush rfl).trans <| s_iret1 rfl rfl
theorem mc_L_denialDetail (X : mv_X) (d : Nat) (h : mv_H) (a0 : Nat) : mv_call X (d + 1) 376 [.ref a0] h = mv_run X (mv_call X d) m_L_denialDetail 0 [.ref a0, .retAddr 0] [] h := rfl
theorem bk_L_denialDetail_0 (X : mv_X) (call : mv_G) (h : mv_H) (a0 : Nat) : mv_run X call m_L_denialDetail 0 [.ref a0, .retAddr 0] [] h =
  mv_run X call m_L_denialDetail 1 [.ref a0, .retAddr 0] [.ref a0] h :=
  (s_aload_n rfl rfl).trans <| rfl
theorem bk_L_denialDetail_1 (X : mv_X) (call : mv_G) (h : mv_H) (a0 : Nat) (s0 : Nat) : mv_run X call m_L_denialDetail 1 [.ref a0, .retAddr 0] [.ref s0] h =
  mv_rcv X h [.ref s0] 12 (mv_clI call 131 [.ref s0] h (mv_thr [(0, 4, 6, 1, 1)] 1 [.ref a0, .retAddr 0] (mv_run X call m_L_denialDetail)) fun x1 h1 =>
  mv_run X call m_L_denialDetail 4 [.ref a0, .retAddr 0] [.int x1] h1) :=
  (s_v1 [.ref s0] [] rfl rfl (fun _ => rfl)).trans <| c_rcv <| c_clI fun x1 h1 => rfl
theorem bk_L_denialDetail_4 (X : mv_X) (call : mv_G) (h : mv_H) (a0 : Nat) (s0 : Int32) : mv_run X call m_L_denialDetail 4 [.ref a0, .retAddr 0] [.int s0] h =
  (some (.inl (some (.int s0)), h)) :=
  s_iret1 rfl rfl
theorem bk_L_denialDetail_6 (X : mv_X) (call : mv_G) (h : mv_H) (a0 : Nat) : mv_run X call m_L_denialDetail 6 [.ref a0, .retAddr 0] [] h =
  (some (.inl (some (.int (nZ (-75)))), h)) :=
  (s_bipush rfl).trans <| s_iret1 rfl rfl
theorem mc_L_undo (X : mv_X) (d : Nat) (h : mv_H) (a0 : Nat) : mv_call X (d + 1) 377 [.ref a0] h = mv_run X (mv_call X d) m_L_undo 0 [.ref a0, .retAddr 0] [] h := rfl
theorem bk_L_undo_0 (X : mv_X) (call : mv_G) (h : mv_H) (a0 : Nat) : mv_run X call m_L_undo 0 [.ref a0, .retAddr 0] [] h =
  mv_run X call m_L_undo 1 [.ref a0, .retAddr 0] [.ref a0] h :=
  (s_aload_n rfl rfl).trans <| rfl
theorem bk_L_undo_1 (X : mv_X) (call : mv_G) (h : mv_H) (a0 : Nat) (s0 : Nat) : mv_run X call m_L_undo 1 [.ref a0, .retAddr 0] [.ref s0] h =
  mv_rcv X h [.ref s0] 12 (mv_clI call 133 [.ref s0] h (mv_thr [(0, 4, 6, 4, 1)] 1 [.ref a0, .retAddr 0] (mv_run X call m_L_undo)) fun x1 h1 =>
  mv_run X call m_L_undo 4 [.ref a0, .retAddr 0] [.int x1] h1) :=
  (s_v1 [.ref s0] [] rfl rfl (fun _ => rfl)).trans <| c_rcv <| c_clI fun x1 h1 => rfl
theorem bk_L_undo_4 (X : mv_X) (call : mv_G) (h : mv_H) (a0 : Nat) (s0 : Int32) : mv_run X call m_L_undo 4 [.ref a0, .retAddr 0] [.int s0] h =
  (some (.inl (some (.int s0)), h)) :=
  s_iret1 rfl rfl
theorem bk_L_undo_6 (X : mv_X) (call : mv_G) (h : mv_H) (a0 : Nat) : mv_run X call m_L_undo 6 [.ref a0, .retAddr 0] [] h =
  (some (.inl (some (.int (nZ (-79)))), h)) :=
  (s_bipush rfl).trans <| s_iret1 rfl rfl
theorem mc_L_restoreSnapshot (X : mv_X) (d : Nat) (h : mv_H) (a0 : Nat) : mv_call X (d + 1) 378 [.ref a0] h = mv_run X (mv_call X d) m_L_restoreSnapshot 0 [.ref a0, .retAddr 0] [] h := rfl
theorem bk_L_restoreSnapshot_0 (X : mv_X) (call : mv_G) (h : mv_H) (a0 : Nat) : mv_run X call m_L_restoreSnapshot 0 [.ref a0, .retAddr 0] [] h =
  mv_run X call m_L_restoreSnapshot 1 [.ref a0, .retAddr 0] [.ref a0] h :=
  (s_aload_n rfl rfl).trans <| rfl
theorem bk_L_restoreSnapshot_1 (X : mv_X) (call : mv_G) (h : mv_H) (a0 : Nat) (s0 : Nat) : mv_run X call m_L_restoreSnapshot 1 [.ref a0, .retAddr 0] [.ref s0] h =
  mv_rcv X h [.ref s0] 12 (mv_clI call 136 [.ref s0] h (mv_thr [(0, 4, 6, 4, 1)] 1 [.ref a0, .retAddr 0] (mv_run X call m_L_restoreSnapshot)) fun x1 h1 =>
  mv_run X call m_L_restoreSnapshot 4 [.ref a0, .retAddr 0] [.int x1] h1) :=
  (s_v1 [.ref s0] [] rfl rfl (fun _ => rfl)).trans <| c_rcv <| c_clI fun x1 h1 => rfl
theorem bk_L_restoreSnapshot_4 (X : mv_X) (call : mv_G) (h : mv_H) (a0 : Nat) (s0 : Int32) : mv_run X call m_L_restoreSnapshot 4 [.ref a0, .retAddr 0] [.int s0] h =
  (some (.inl (some (.int s0)), h)) :=
  s_iret1 rfl rfl
theorem bk_L_restoreSnapshot_6 (X : mv_X) (call : mv_G) (h : mv_H) (a0 : Nat) : mv_run X call m_L_restoreSnapshot 6 [.ref a0, .retAddr 0] [] h =
  (some (.inl (some (.int (nZ (-79)))), h)) :=
  (s_bipush rfl).trans <| s_iret1 rfl rfl
theorem mc_L_runs (X : mv_X) (d : Nat) (h : mv_H) (a0 : Nat) (a1 : Nat) : mv_call X (d + 1) 379 [.ref a0, .ref a1] h = mv_run X (mv_call X d) m_L_runs 0 [.ref a0, .ref a1, .retAddr 0, .retAddr 0] [] h := rfl
theorem bk_L_runs_0 (X : mv_X) (call : mv_G) (h : mv_H) (a0 : Nat) (a1 : Nat) : mv_run X call m_L_runs 0 [.ref a0, .ref a1, .retAddr 0, .retAddr 0] [] h =
  mv_run X call m_L_runs 2 [.ref a0, .ref a1, .int (nZ 0), .retAddr 0] [] h :=
  (s_iconst rfl).trans <| (s_istore_n (ls2 := [.ref a0, .ref a1, .int (nZ 0), .retAddr 0]) rfl (fun _ => rfl)).trans <| rfl
theorem bk_L_runs_2 (X : mv_X) (call : mv_G) (h : mv_H) (a0 : Nat) (a1 : Nat) (v2 : Int32) (j3 : Value) : mv_run X call m_L_runs 2 [.ref a0, .ref a1, .int v2, j3] [] h =
  mv_rcv X h [.ref a1] 0 (mv_clI call 268 [.ref a1] h mv_raise fun x1 h1 =>
  if x1 ≤ v2 then 
  (mv_clI call 373 [.ref a0] h1 mv_raise fun x2 h2 =>
    (some (.inl (some (.int x2)), h2)))
  else (mv_rcv X h1 [.ref a1, .int v2] 0 (mv_clI call 269 [.ref a1, .int v2] h1 mv_raise fun x3 h3 =>
    mv_clI call 372 [.ref a0, .int x3] h3 mv_raise fun x4 h4 =>
    mv_run X call m_L_runs 2 [.ref a0, .ref a1, .int (v2 + nZ 1), .int x4] [] h4))) :=
  (s_iload_n rfl rfl).trans <| (s_aload_n rfl rfl).trans <| (s_v1 [.ref a1] [.int v2] rfl rfl (fun _ => rfl)).trans <| c_rcv <| c_clI fun x1 h1 => (s_icmp_ge rfl).trans <| c_ite ((s_aload_n rfl rfl).trans <| (s_s1 [.ref a0] [] rfl rfl (fun _ => rfl)).trans <| c_clI fun x2 h2 => s_iret1 rfl rfl) ((s_aload_n rfl rfl).trans <| (s_aload_n rfl rfl).trans <| (s_iload_n rfl rfl).trans <| (s_v1 [.ref a1, .int v2] [.ref a0] rfl rfl (fun _ => rfl)).trans <| c_rcv <| c_clI fun x3 h3 => (s_s1 [.ref a0, .int x3] [] rfl rfl (fun _ => rfl)).trans <| c_clI fun x4 h4 => (s_istore_n (ls2 := [.ref a0, .ref a1, .int v2, .int x4]) rfl (fun _ => rfl)).trans <| (s_iinc (ls2 := [.ref a0, .ref a1, .int (v2 + nZ 1), .int x4]) rfl rfl (fun _ => rfl)).trans <| (s_goto rfl).trans <| rfl)
theorem mc_L_law (X : mv_X) (d : Nat) (h : mv_H) (a0 : Nat) : mv_call X (d + 1) 380 [.ref a0] h = mv_run X (mv_call X d) m_L_law 0 [.ref a0, .retAddr 0, .retAddr 0, .retAddr 0, .retAddr 0, .retAddr 0, .retAddr 0, .retAddr 0, .retAddr 0, .retAddr 0, .retAddr 0, .retAddr 0, .retAddr 0, .retAddr 0, .retAddr 0, .retAddr 0, .retAddr 0, .retAddr 0, .retAddr 0, .retAddr 0, .retAddr 0, .retAddr 0, .retAddr 0, .retAddr 0, .retAddr 0, .retAddr 0, .retAddr 0, .retAddr 0, .retAddr 0, .retAddr 0] [] h := rfl
theorem i_L_law_0 : mv_look m_L_law.2.2.2.1 32 0 = some (.new 15, 0, []) := by decide +kernel
theorem i_L_law_3 : mv_look m_L_law.2.2.2.1 32 3 = some (.dup, 0, []) := by decide +kernel
theorem i_L_law_4 : mv_look m_L_law.2.2.2.1 32 4 = some (.invokespecial 179, 0, []) := by decide +kernel
theorem i_L_law_7 : mv_look m_L_law.2.2.2.1 32 7 = some (.astore_n 1, 0, []) := by decide +kernel
theorem i_L_law_8 : mv_look m_L_law.2.2.2.1 32 8 = some (.bipush 70, 0, []) := by decide +kernel
theorem i_L_law_10 : mv_look m_L_law.2.2.2.1 32 10 = some (.newarray .long, 0, []) := by decide +kernel
theorem i_L_law_12 : mv_look m_L_law.2.2.2.1 32 12 = some (.astore_n 2, 0, []) := by decide +kernel
theorem i_L_law_13 : mv_look m_L_law.2.2.2.1 32 13 = some (.iconst 0, 0, []) := by decide +kernel
theorem i_L_law_14 : mv_look m_L_law.2.2.2.1 32 14 = some (.istore_n 3, 0, []) := by decide +kernel
theorem i_L_law_15 : mv_look m_L_law.2.2.2.1 32 15 = some (.aload_n 2, 0, []) := by decide +kernel
theorem i_L_law_16 : mv_look m_L_law.2.2.2.1 32 16 = some (.iload_n 3, 0, []) := by decide +kernel
theorem i_L_law_17 : mv_look m_L_law.2.2.2.1 32 17 = some (.aload_n 1, 0, []) := by decide +kernel
theorem i_L_law_18 : mv_look m_L_law.2.2.2.1 32 18 = some (.invokestatic 180, 0, []) := by decide +kernel
theorem i_L_law_21 : mv_look m_L_law.2.2.2.1 32 21 = some (.lastore, 0, []) := by decide +kernel
theorem i_L_law_22 : mv_look m_L_law.2.2.2.1 32 22 = some (.iconst 0, 0, []) := by decide +kernel
theorem i_L_law_23 : mv_look m_L_law.2.2.2.1 32 23 = some (.istore 4, 0, []) := by decide +kernel
theorem i_L_law_25 : mv_look m_L_law.2.2.2.1 32 25 = some (.iconst 0, 0, []) := by decide +kernel
theorem i_L_law_26 : mv_look m_L_law.2.2.2.1 32 26 = some (.istore 5, 0, []) := by decide +kernel
theorem i_L_law_28 : mv_look m_L_law.2.2.2.1 32 28 = some (.iload 5, 0, []) := by decide +kernel
theorem i_L_law_30 : mv_look m_L_law.2.2.2.1 32 30 = some (.bipush 54, 0, []) := by decide +kernel
theorem i_L_law_32 : mv_look m_L_law.2.2.2.1 32 32 = some (.if_icmp .ge 978, 1010, []) := by decide +kernel
theorem i_L_law_35 : mv_look m_L_law.2.2.2.1 32 35 = some (.aload_n 1, 0, []) := by decide +kernel
theorem i_L_law_36 : mv_look m_L_law.2.2.2.1 32 36 = some (.invokestatic 180, 0, []) := by decide +kernel
theorem i_L_law_39 : mv_look m_L_law.2.2.2.1 32 39 = some (.lstore 6, 0, []) := by decide +kernel
theorem i_L_law_41 : mv_look m_L_law.2.2.2.1 32 41 = some (.aload_n 1, 0, []) := by decide +kernel
theorem i_L_law_42 : mv_look m_L_law.2.2.2.1 32 42 = some (.invokevirtual 184, 0, []) := by decide +kernel
theorem i_L_law_45 : mv_look m_L_law.2.2.2.1 32 45 = some (.istore 8, 0, []) := by decide +kernel
theorem i_L_law_47 : mv_look m_L_law.2.2.2.1 32 47 = some (.iload 5, 0, []) := by decide +kernel
theorem i_L_law_49 : mv_look m_L_law.2.2.2.1 32 49 = some (.iconst 5, 0, []) := by decide +kernel
theorem i_L_law_50 : mv_look m_L_law.2.2.2.1 32 50 = some (.if_icmp .ge 7, 57, []) := by decide +kernel
theorem i_L_law_53 : mv_look m_L_law.2.2.2.1 32 53 = some (.iconst 0, 0, []) := by decide +kernel
theorem i_L_law_54 : mv_look m_L_law.2.2.2.1 32 54 = some (.goto 35, 89, []) := by decide +kernel
theorem i_L_law_57 : mv_look m_L_law.2.2.2.1 32 57 = some (.iload 5, 0, []) := by decide +kernel
theorem i_L_law_59 : mv_look m_L_law.2.2.2.1 32 59 = some (.bipush 10, 0, []) := by decide +kernel
theorem i_L_law_61 : mv_look m_L_law.2.2.2.1 32 61 = some (.if_icmp .ge 8, 69, []) := by decide +kernel
theorem i_L_law_64 : mv_look m_L_law.2.2.2.1 32 64 = some (.bipush 8, 0, []) := by decide +kernel
theorem i_L_law_66 : mv_look m_L_law.2.2.2.1 32 66 = some (.goto 23, 89, []) := by decide +kernel
theorem i_L_law_69 : mv_look m_L_law.2.2.2.1 32 69 = some (.iload 5, 0, []) := by decide +kernel
theorem i_L_law_71 : mv_look m_L_law.2.2.2.1 32 71 = some (.bipush 12, 0, []) := by decide +kernel
theorem i_L_law_73 : mv_look m_L_law.2.2.2.1 32 73 = some (.if_icmp .ge 8, 81, []) := by decide +kernel
theorem i_L_law_76 : mv_look m_L_law.2.2.2.1 32 76 = some (.bipush 33, 0, []) := by decide +kernel
theorem i_L_law_78 : mv_look m_L_law.2.2.2.1 32 78 = some (.goto 11, 89, []) := by decide +kernel
theorem i_L_law_81 : mv_look m_L_law.2.2.2.1 32 81 = some (.aload_n 0, 0, []) := by decide +kernel
theorem i_L_law_82 : mv_look m_L_law.2.2.2.1 32 82 = some (.iload 4, 0, []) := by decide +kernel
theorem i_L_law_84 : mv_look m_L_law.2.2.2.1 32 84 = some (.bipush 46, 0, []) := by decide +kernel
theorem i_L_law_86 : mv_look m_L_law.2.2.2.1 32 86 = some (.invokestatic 187, 0, []) := by decide +kernel
theorem i_L_law_89 : mv_look m_L_law.2.2.2.1 32 89 = some (.istore 9, 0, []) := by decide +kernel
theorem i_L_law_91 : mv_look m_L_law.2.2.2.1 32 91 = some (.aload_n 1, 0, []) := by decide +kernel
theorem i_L_law_92 : mv_look m_L_law.2.2.2.1 32 92 = some (.aload_n 0, 0, []) := by decide +kernel
theorem i_L_law_93 : mv_look m_L_law.2.2.2.1 32 93 = some (.iload 4, 0, []) := by decide +kernel
theorem i_L_law_95 : mv_look m_L_law.2.2.2.1 32 95 = some (.iconst 1, 0, []) := by decide +kernel
theorem i_L_law_96 : mv_look m_L_law.2.2.2.1 32 96 = some (.iadd, 0, []) := by decide +kernel
theorem i_L_law_97 : mv_look m_L_law.2.2.2.1 32 97 = some (.bipush 10, 0, []) := by decide +kernel
theorem i_L_law_99 : mv_look m_L_law.2.2.2.1 32 99 = some (.invokestatic 187, 0, []) := by decide +kernel
theorem i_L_law_102 : mv_look m_L_law.2.2.2.1 32 102 = some (.iload 9, 0, []) := by decide +kernel
theorem i_L_law_104 : mv_look m_L_law.2.2.2.1 32 104 = some (.bipush 8, 0, []) := by decide +kernel
theorem i_L_law_106 : mv_look m_L_law.2.2.2.1 32 106 = some (.if_icmp .lt 13, 119, []) := by decide +kernel
theorem i_L_law_109 : mv_look m_L_law.2.2.2.1 32 109 = some (.iload 5, 0, []) := by decide +kernel
theorem i_L_law_111 : mv_look m_L_law.2.2.2.1 32 111 = some (.bipush 13, 0, []) := by decide +kernel
theorem i_L_law_113 : mv_look m_L_law.2.2.2.1 32 113 = some (.irem, 0, []) := by decide +kernel
theorem i_L_law_114 : mv_look m_L_law.2.2.2.1 32 114 = some (.bipush 12, 0, []) := by decide +kernel
theorem i_L_law_116 : mv_look m_L_law.2.2.2.1 32 116 = some (.if_icmp .ne 7, 123, []) := by decide +kernel
theorem i_L_law_119 : mv_look m_L_law.2.2.2.1 32 119 = some (.iconst 1, 0, []) := by decide +kernel
theorem i_L_law_120 : mv_look m_L_law.2.2.2.1 32 120 = some (.goto 4, 124, []) := by decide +kernel
theorem i_L_law_123 : mv_look m_L_law.2.2.2.1 32 123 = some (.iconst 0, 0, []) := by decide +kernel
theorem i_L_law_124 : mv_look m_L_law.2.2.2.1 32 124 = some (.invokestatic 191, 0, []) := by decide +kernel
theorem i_L_law_127 : mv_look m_L_law.2.2.2.1 32 127 = some (.istore 10, 0, []) := by decide +kernel
theorem i_L_law_129 : mv_look m_L_law.2.2.2.1 32 129 = some (.aload_n 1, 0, []) := by decide +kernel
theorem i_L_law_130 : mv_look m_L_law.2.2.2.1 32 130 = some (.iload 10, 0, []) := by decide +kernel
theorem i_L_law_132 : mv_look m_L_law.2.2.2.1 32 132 = some (.invokestatic 195, 0, []) := by decide +kernel
theorem i_L_law_135 : mv_look m_L_law.2.2.2.1 32 135 = some (.istore 11, 0, []) := by decide +kernel
theorem i_L_law_137 : mv_look m_L_law.2.2.2.1 32 137 = some (.iconst 1, 0, []) := by decide +kernel
theorem i_L_law_138 : mv_look m_L_law.2.2.2.1 32 138 = some (.aload_n 0, 0, []) := by decide +kernel
theorem i_L_law_139 : mv_look m_L_law.2.2.2.1 32 139 = some (.iload 4, 0, []) := by decide +kernel
theorem i_L_law_141 : mv_look m_L_law.2.2.2.1 32 141 = some (.iconst 2, 0, []) := by decide +kernel
theorem i_L_law_142 : mv_look m_L_law.2.2.2.1 32 142 = some (.iadd, 0, []) := by decide +kernel
theorem i_L_law_143 : mv_look m_L_law.2.2.2.1 32 143 = some (.bipush 40, 0, []) := by decide +kernel
theorem i_L_law_145 : mv_look m_L_law.2.2.2.1 32 145 = some (.invokestatic 187, 0, []) := by decide +kernel
theorem i_L_law_148 : mv_look m_L_law.2.2.2.1 32 148 = some (.iadd, 0, []) := by decide +kernel
theorem i_L_law_149 : mv_look m_L_law.2.2.2.1 32 149 = some (.istore 12, 0, []) := by decide +kernel
theorem i_L_law_151 : mv_look m_L_law.2.2.2.1 32 151 = some (.aload_n 1, 0, []) := by decide +kernel
theorem i_L_law_152 : mv_look m_L_law.2.2.2.1 32 152 = some (.iload 10, 0, []) := by decide +kernel
theorem i_L_law_154 : mv_look m_L_law.2.2.2.1 32 154 = some (.iload 12, 0, []) := by decide +kernel
theorem i_L_law_156 : mv_look m_L_law.2.2.2.1 32 156 = some (.invokestatic 197, 0, []) := by decide +kernel
theorem i_L_law_159 : mv_look m_L_law.2.2.2.1 32 159 = some (.istore 13, 0, []) := by decide +kernel
theorem i_L_law_161 : mv_look m_L_law.2.2.2.1 32 161 = some (.aload_n 1, 0, []) := by decide +kernel
theorem i_L_law_162 : mv_look m_L_law.2.2.2.1 32 162 = some (.iload 10, 0, []) := by decide +kernel
theorem i_L_law_164 : mv_look m_L_law.2.2.2.1 32 164 = some (.iload 12, 0, []) := by decide +kernel
theorem i_L_law_166 : mv_look m_L_law.2.2.2.1 32 166 = some (.invokestatic 200, 0, []) := by decide +kernel
theorem i_L_law_169 : mv_look m_L_law.2.2.2.1 32 169 = some (.istore 14, 0, []) := by decide +kernel
theorem i_L_law_171 : mv_look m_L_law.2.2.2.1 32 171 = some (.aload_n 1, 0, []) := by decide +kernel
theorem i_L_law_172 : mv_look m_L_law.2.2.2.1 32 172 = some (.iload 10, 0, []) := by decide +kernel
theorem i_L_law_174 : mv_look m_L_law.2.2.2.1 32 174 = some (.invokestatic 202, 0, []) := by decide +kernel
theorem i_L_law_177 : mv_look m_L_law.2.2.2.1 32 177 = some (.istore 15, 0, []) := by decide +kernel
theorem i_L_law_179 : mv_look m_L_law.2.2.2.1 32 179 = some (.aload_n 1, 0, []) := by decide +kernel
theorem i_L_law_180 : mv_look m_L_law.2.2.2.1 32 180 = some (.iload 10, 0, []) := by decide +kernel
theorem i_L_law_182 : mv_look m_L_law.2.2.2.1 32 182 = some (.invokestatic 204, 0, []) := by decide +kernel
theorem i_L_law_185 : mv_look m_L_law.2.2.2.1 32 185 = some (.istore 16, 0, []) := by decide +kernel
theorem i_L_law_187 : mv_look m_L_law.2.2.2.1 32 187 = some (.aload_n 1, 0, []) := by decide +kernel
theorem i_L_law_188 : mv_look m_L_law.2.2.2.1 32 188 = some (.invokevirtual 206, 0, []) := by decide +kernel
theorem i_L_law_191 : mv_look m_L_law.2.2.2.1 32 191 = some (.istore 17, 0, []) := by decide +kernel
theorem i_L_law_193 : mv_look m_L_law.2.2.2.1 32 193 = some (.aload_n 1, 0, []) := by decide +kernel
theorem i_L_law_194 : mv_look m_L_law.2.2.2.1 32 194 = some (.invokevirtual 209, 0, []) := by decide +kernel
theorem i_L_law_197 : mv_look m_L_law.2.2.2.1 32 197 = some (.istore 18, 0, []) := by decide +kernel
theorem i_L_law_199 : mv_look m_L_law.2.2.2.1 32 199 = some (.aload_n 1, 0, []) := by decide +kernel
theorem i_L_law_200 : mv_look m_L_law.2.2.2.1 32 200 = some (.invokevirtual 212, 0, []) := by decide +kernel
theorem i_L_law_203 : mv_look m_L_law.2.2.2.1 32 203 = some (.istore 19, 0, []) := by decide +kernel
theorem i_L_law_205 : mv_look m_L_law.2.2.2.1 32 205 = some (.aload_n 1, 0, []) := by decide +kernel
theorem i_L_law_206 : mv_look m_L_law.2.2.2.1 32 206 = some (.invokevirtual 215, 0, []) := by decide +kernel
theorem i_L_law_209 : mv_look m_L_law.2.2.2.1 32 209 = some (.istore 20, 0, []) := by decide +kernel
theorem i_L_law_211 : mv_look m_L_law.2.2.2.1 32 211 = some (.aload_n 1, 0, []) := by decide +kernel
theorem i_L_law_212 : mv_look m_L_law.2.2.2.1 32 212 = some (.invokevirtual 218, 0, []) := by decide +kernel
theorem i_L_law_215 : mv_look m_L_law.2.2.2.1 32 215 = some (.istore 21, 0, []) := by decide +kernel
theorem i_L_law_217 : mv_look m_L_law.2.2.2.1 32 217 = some (.aload_n 1, 0, []) := by decide +kernel
theorem i_L_law_218 : mv_look m_L_law.2.2.2.1 32 218 = some (.invokevirtual 221, 0, []) := by decide +kernel
theorem i_L_law_221 : mv_look m_L_law.2.2.2.1 32 221 = some (.istore 22, 0, []) := by decide +kernel
theorem i_L_law_223 : mv_look m_L_law.2.2.2.1 32 223 = some (.aload_n 1, 0, []) := by decide +kernel
theorem i_L_law_224 : mv_look m_L_law.2.2.2.1 32 224 = some (.invokevirtual 224, 0, []) := by decide +kernel
theorem i_L_law_227 : mv_look m_L_law.2.2.2.1 32 227 = some (.istore 23, 0, []) := by decide +kernel
theorem i_L_law_229 : mv_look m_L_law.2.2.2.1 32 229 = some (.aload_n 1, 0, []) := by decide +kernel
theorem i_L_law_230 : mv_look m_L_law.2.2.2.1 32 230 = some (.invokevirtual 227, 0, []) := by decide +kernel
theorem i_L_law_233 : mv_look m_L_law.2.2.2.1 32 233 = some (.istore 24, 0, []) := by decide +kernel
theorem i_L_law_235 : mv_look m_L_law.2.2.2.1 32 235 = some (.aload_n 0, 0, []) := by decide +kernel
theorem i_L_law_236 : mv_look m_L_law.2.2.2.1 32 236 = some (.iload 4, 0, []) := by decide +kernel
theorem i_L_law_238 : mv_look m_L_law.2.2.2.1 32 238 = some (.iload 9, 0, []) := by decide +kernel
theorem i_L_law_240 : mv_look m_L_law.2.2.2.1 32 240 = some (.aload_n 1, 0, []) := by decide +kernel
theorem i_L_law_241 : mv_look m_L_law.2.2.2.1 32 241 = some (.iload 10, 0, []) := by decide +kernel
theorem i_L_law_243 : mv_look m_L_law.2.2.2.1 32 243 = some (.iload 12, 0, []) := by decide +kernel
theorem i_L_law_245 : mv_look m_L_law.2.2.2.1 32 245 = some (.invokestatic 230, 0, []) := by decide +kernel
theorem i_L_law_248 : mv_look m_L_law.2.2.2.1 32 248 = some (.istore 25, 0, []) := by decide +kernel
theorem i_L_law_250 : mv_look m_L_law.2.2.2.1 32 250 = some (.iload 9, 0, []) := by decide +kernel
theorem i_L_law_252 : mv_look m_L_law.2.2.2.1 32 252 = some (.bipush 27, 0, []) := by decide +kernel
theorem i_L_law_254 : mv_look m_L_law.2.2.2.1 32 254 = some (.if_icmp .le 14, 268, []) := by decide +kernel
theorem i_L_law_257 : mv_look m_L_law.2.2.2.1 32 257 = some (.iload 9, 0, []) := by decide +kernel
theorem i_L_law_259 : mv_look m_L_law.2.2.2.1 32 259 = some (.bipush 32, 0, []) := by decide +kernel
theorem i_L_law_261 : mv_look m_L_law.2.2.2.1 32 261 = some (.if_icmp .ge 7, 268, []) := by decide +kernel
theorem i_L_law_264 : mv_look m_L_law.2.2.2.1 32 264 = some (.iconst 1, 0, []) := by decide +kernel
theorem i_L_law_265 : mv_look m_L_law.2.2.2.1 32 265 = some (.goto 4, 269, []) := by decide +kernel
theorem i_L_law_268 : mv_look m_L_law.2.2.2.1 32 268 = some (.iconst 0, 0, []) := by decide +kernel
theorem i_L_law_269 : mv_look m_L_law.2.2.2.1 32 269 = some (.istore 26, 0, []) := by decide +kernel
theorem i_L_law_271 : mv_look m_L_law.2.2.2.1 32 271 = some (.iload 26, 0, []) := by decide +kernel
theorem i_L_law_273 : mv_look m_L_law.2.2.2.1 32 273 = some (.ifCond .eq 18, 291, []) := by decide +kernel
theorem i_L_law_276 : mv_look m_L_law.2.2.2.1 32 276 = some (.iload 25, 0, []) := by decide +kernel
theorem i_L_law_278 : mv_look m_L_law.2.2.2.1 32 278 = some (.bipush (-70), 0, []) := by decide +kernel
theorem i_L_law_280 : mv_look m_L_law.2.2.2.1 32 280 = some (.if_icmp .le 7, 287, []) := by decide +kernel
theorem i_L_law_283 : mv_look m_L_law.2.2.2.1 32 283 = some (.iconst 1, 0, []) := by decide +kernel
theorem i_L_law_284 : mv_look m_L_law.2.2.2.1 32 284 = some (.goto 17, 301, []) := by decide +kernel
theorem i_L_law_287 : mv_look m_L_law.2.2.2.1 32 287 = some (.iconst 0, 0, []) := by decide +kernel
theorem i_L_law_288 : mv_look m_L_law.2.2.2.1 32 288 = some (.goto 13, 301, []) := by decide +kernel
theorem i_L_law_291 : mv_look m_L_law.2.2.2.1 32 291 = some (.iload 25, 0, []) := by decide +kernel
theorem i_L_law_293 : mv_look m_L_law.2.2.2.1 32 293 = some (.ifCond .lt 7, 300, []) := by decide +kernel
theorem i_L_law_296 : mv_look m_L_law.2.2.2.1 32 296 = some (.iconst 1, 0, []) := by decide +kernel
theorem i_L_law_297 : mv_look m_L_law.2.2.2.1 32 297 = some (.goto 4, 301, []) := by decide +kernel
theorem i_L_law_300 : mv_look m_L_law.2.2.2.1 32 300 = some (.iconst 0, 0, []) := by decide +kernel
theorem i_L_law_301 : mv_look m_L_law.2.2.2.1 32 301 = some (.istore 27, 0, []) := by decide +kernel
theorem i_L_law_303 : mv_look m_L_law.2.2.2.1 32 303 = some (.iload 27, 0, []) := by decide +kernel
theorem i_L_law_305 : mv_look m_L_law.2.2.2.1 32 305 = some (.ifCond .eq 41, 346, []) := by decide +kernel
theorem i_L_law_308 : mv_look m_L_law.2.2.2.1 32 308 = some (.iload 9, 0, []) := by decide +kernel
theorem i_L_law_310 : mv_look m_L_law.2.2.2.1 32 310 = some (.bipush 7, 0, []) := by decide +kernel
theorem i_L_law_312 : mv_look m_L_law.2.2.2.1 32 312 = some (.if_icmp .gt 34, 346, []) := by decide +kernel
theorem i_L_law_315 : mv_look m_L_law.2.2.2.1 32 315 = some (.iload 25, 0, []) := by decide +kernel
theorem i_L_law_317 : mv_look m_L_law.2.2.2.1 32 317 = some (.aload_n 1, 0, []) := by decide +kernel
theorem i_L_law_318 : mv_look m_L_law.2.2.2.1 32 318 = some (.iload 10, 0, []) := by decide +kernel
theorem i_L_law_320 : mv_look m_L_law.2.2.2.1 32 320 = some (.invokestatic 195, 0, []) := by decide +kernel
theorem i_L_law_323 : mv_look m_L_law.2.2.2.1 32 323 = some (.if_icmp .ne 27, 350, []) := by decide +kernel
theorem i_L_law_326 : mv_look m_L_law.2.2.2.1 32 326 = some (.aload_n 1, 0, []) := by decide +kernel
theorem i_L_law_327 : mv_look m_L_law.2.2.2.1 32 327 = some (.invokevirtual 209, 0, []) := by decide +kernel
theorem i_L_law_330 : mv_look m_L_law.2.2.2.1 32 330 = some (.iload 18, 0, []) := by decide +kernel
theorem i_L_law_332 : mv_look m_L_law.2.2.2.1 32 332 = some (.iconst 1, 0, []) := by decide +kernel
theorem i_L_law_333 : mv_look m_L_law.2.2.2.1 32 333 = some (.iadd, 0, []) := by decide +kernel
theorem i_L_law_334 : mv_look m_L_law.2.2.2.1 32 334 = some (.if_icmp .ne 16, 350, []) := by decide +kernel
theorem i_L_law_337 : mv_look m_L_law.2.2.2.1 32 337 = some (.aload_n 1, 0, []) := by decide +kernel
theorem i_L_law_338 : mv_look m_L_law.2.2.2.1 32 338 = some (.iload 10, 0, []) := by decide +kernel
theorem i_L_law_340 : mv_look m_L_law.2.2.2.1 32 340 = some (.invokestatic 204, 0, []) := by decide +kernel
theorem i_L_law_343 : mv_look m_L_law.2.2.2.1 32 343 = some (.ifCond .ne 7, 350, []) := by decide +kernel
theorem i_L_law_346 : mv_look m_L_law.2.2.2.1 32 346 = some (.iconst 1, 0, []) := by decide +kernel
theorem i_L_law_347 : mv_look m_L_law.2.2.2.1 32 347 = some (.goto 4, 351, []) := by decide +kernel
theorem i_L_law_350 : mv_look m_L_law.2.2.2.1 32 350 = some (.iconst 0, 0, []) := by decide +kernel
theorem i_L_law_351 : mv_look m_L_law.2.2.2.1 32 351 = some (.istore 28, 0, []) := by decide +kernel
theorem i_L_law_353 : mv_look m_L_law.2.2.2.1 32 353 = some (.iload 28, 0, []) := by decide +kernel
theorem i_L_law_355 : mv_look m_L_law.2.2.2.1 32 355 = some (.iload 27, 0, []) := by decide +kernel
theorem i_L_law_357 : mv_look m_L_law.2.2.2.1 32 357 = some (.ifCond .eq 74, 431, []) := by decide +kernel
theorem i_L_law_360 : mv_look m_L_law.2.2.2.1 32 360 = some (.iload 9, 0, []) := by decide +kernel
theorem i_L_law_362 : mv_look m_L_law.2.2.2.1 32 362 = some (.bipush 8, 0, []) := by decide +kernel
theorem i_L_law_364 : mv_look m_L_law.2.2.2.1 32 364 = some (.if_icmp .lt 67, 431, []) := by decide +kernel
theorem i_L_law_367 : mv_look m_L_law.2.2.2.1 32 367 = some (.iload 9, 0, []) := by decide +kernel
theorem i_L_law_369 : mv_look m_L_law.2.2.2.1 32 369 = some (.bipush 19, 0, []) := by decide +kernel
theorem i_L_law_371 : mv_look m_L_law.2.2.2.1 32 371 = some (.if_icmp .gt 60, 431, []) := by decide +kernel
theorem i_L_law_374 : mv_look m_L_law.2.2.2.1 32 374 = some (.iload 25, 0, []) := by decide +kernel
theorem i_L_law_376 : mv_look m_L_law.2.2.2.1 32 376 = some (.iload 15, 0, []) := by decide +kernel
theorem i_L_law_378 : mv_look m_L_law.2.2.2.1 32 378 = some (.if_icmp .le 57, 435, []) := by decide +kernel
theorem i_L_law_381 : mv_look m_L_law.2.2.2.1 32 381 = some (.iload 25, 0, []) := by decide +kernel
theorem i_L_law_383 : mv_look m_L_law.2.2.2.1 32 383 = some (.aload_n 1, 0, []) := by decide +kernel
theorem i_L_law_384 : mv_look m_L_law.2.2.2.1 32 384 = some (.iload 10, 0, []) := by decide +kernel
theorem i_L_law_386 : mv_look m_L_law.2.2.2.1 32 386 = some (.invokestatic 202, 0, []) := by decide +kernel
theorem i_L_law_389 : mv_look m_L_law.2.2.2.1 32 389 = some (.if_icmp .ne 46, 435, []) := by decide +kernel
theorem i_L_law_392 : mv_look m_L_law.2.2.2.1 32 392 = some (.aload_n 1, 0, []) := by decide +kernel
theorem i_L_law_393 : mv_look m_L_law.2.2.2.1 32 393 = some (.iload 10, 0, []) := by decide +kernel
theorem i_L_law_395 : mv_look m_L_law.2.2.2.1 32 395 = some (.invokestatic 204, 0, []) := by decide +kernel
theorem i_L_law_398 : mv_look m_L_law.2.2.2.1 32 398 = some (.iload 16, 0, []) := by decide +kernel
theorem i_L_law_400 : mv_look m_L_law.2.2.2.1 32 400 = some (.iconst 1, 0, []) := by decide +kernel
theorem i_L_law_401 : mv_look m_L_law.2.2.2.1 32 401 = some (.iadd, 0, []) := by decide +kernel
theorem i_L_law_402 : mv_look m_L_law.2.2.2.1 32 402 = some (.if_icmp .ne 33, 435, []) := by decide +kernel
theorem i_L_law_405 : mv_look m_L_law.2.2.2.1 32 405 = some (.aload_n 1, 0, []) := by decide +kernel
theorem i_L_law_406 : mv_look m_L_law.2.2.2.1 32 406 = some (.invokevirtual 218, 0, []) := by decide +kernel
theorem i_L_law_409 : mv_look m_L_law.2.2.2.1 32 409 = some (.iload 21, 0, []) := by decide +kernel
theorem i_L_law_411 : mv_look m_L_law.2.2.2.1 32 411 = some (.iload 25, 0, []) := by decide +kernel
theorem i_L_law_413 : mv_look m_L_law.2.2.2.1 32 413 = some (.iadd, 0, []) := by decide +kernel
theorem i_L_law_414 : mv_look m_L_law.2.2.2.1 32 414 = some (.iload 15, 0, []) := by decide +kernel
theorem i_L_law_416 : mv_look m_L_law.2.2.2.1 32 416 = some (.isub, 0, []) := by decide +kernel
theorem i_L_law_417 : mv_look m_L_law.2.2.2.1 32 417 = some (.if_icmp .ne 18, 435, []) := by decide +kernel
theorem i_L_law_420 : mv_look m_L_law.2.2.2.1 32 420 = some (.aload_n 1, 0, []) := by decide +kernel
theorem i_L_law_421 : mv_look m_L_law.2.2.2.1 32 421 = some (.iload 10, 0, []) := by decide +kernel
theorem i_L_law_423 : mv_look m_L_law.2.2.2.1 32 423 = some (.invokestatic 195, 0, []) := by decide +kernel
theorem i_L_law_426 : mv_look m_L_law.2.2.2.1 32 426 = some (.iload 11, 0, []) := by decide +kernel
theorem i_L_law_428 : mv_look m_L_law.2.2.2.1 32 428 = some (.if_icmp .gt 7, 435, []) := by decide +kernel
theorem i_L_law_431 : mv_look m_L_law.2.2.2.1 32 431 = some (.iconst 1, 0, []) := by decide +kernel
theorem i_L_law_432 : mv_look m_L_law.2.2.2.1 32 432 = some (.goto 4, 436, []) := by decide +kernel
theorem i_L_law_435 : mv_look m_L_law.2.2.2.1 32 435 = some (.iconst 0, 0, []) := by decide +kernel
theorem i_L_law_436 : mv_look m_L_law.2.2.2.1 32 436 = some (.iand, 0, []) := by decide +kernel
theorem i_L_law_437 : mv_look m_L_law.2.2.2.1 32 437 = some (.istore 28, 0, []) := by decide +kernel
theorem i_L_law_439 : mv_look m_L_law.2.2.2.1 32 439 = some (.iload 28, 0, []) := by decide +kernel
theorem i_L_law_441 : mv_look m_L_law.2.2.2.1 32 441 = some (.iload 27, 0, []) := by decide +kernel
theorem i_L_law_443 : mv_look m_L_law.2.2.2.1 32 443 = some (.ifCond .eq 38, 481, []) := by decide +kernel
theorem i_L_law_446 : mv_look m_L_law.2.2.2.1 32 446 = some (.iload 9, 0, []) := by decide +kernel
theorem i_L_law_448 : mv_look m_L_law.2.2.2.1 32 448 = some (.bipush 20, 0, []) := by decide +kernel
theorem i_L_law_450 : mv_look m_L_law.2.2.2.1 32 450 = some (.if_icmp .ne 31, 481, []) := by decide +kernel
theorem i_L_law_453 : mv_look m_L_law.2.2.2.1 32 453 = some (.iload 25, 0, []) := by decide +kernel
theorem i_L_law_455 : mv_look m_L_law.2.2.2.1 32 455 = some (.iload 15, 0, []) := by decide +kernel
theorem i_L_law_457 : mv_look m_L_law.2.2.2.1 32 457 = some (.if_icmp .ne 28, 485, []) := by decide +kernel
theorem i_L_law_460 : mv_look m_L_law.2.2.2.1 32 460 = some (.aload_n 1, 0, []) := by decide +kernel
theorem i_L_law_461 : mv_look m_L_law.2.2.2.1 32 461 = some (.invokevirtual 215, 0, []) := by decide +kernel
theorem i_L_law_464 : mv_look m_L_law.2.2.2.1 32 464 = some (.iload 20, 0, []) := by decide +kernel
theorem i_L_law_466 : mv_look m_L_law.2.2.2.1 32 466 = some (.iload 15, 0, []) := by decide +kernel
theorem i_L_law_468 : mv_look m_L_law.2.2.2.1 32 468 = some (.iadd, 0, []) := by decide +kernel
theorem i_L_law_469 : mv_look m_L_law.2.2.2.1 32 469 = some (.if_icmp .ne 16, 485, []) := by decide +kernel
theorem i_L_law_472 : mv_look m_L_law.2.2.2.1 32 472 = some (.aload_n 1, 0, []) := by decide +kernel
theorem i_L_law_473 : mv_look m_L_law.2.2.2.1 32 473 = some (.iload 10, 0, []) := by decide +kernel
theorem i_L_law_475 : mv_look m_L_law.2.2.2.1 32 475 = some (.invokestatic 234, 0, []) := by decide +kernel
theorem i_L_law_478 : mv_look m_L_law.2.2.2.1 32 478 = some (.ifCond .ne 7, 485, []) := by decide +kernel
theorem i_L_law_481 : mv_look m_L_law.2.2.2.1 32 481 = some (.iconst 1, 0, []) := by decide +kernel
theorem i_L_law_482 : mv_look m_L_law.2.2.2.1 32 482 = some (.goto 4, 486, []) := by decide +kernel
theorem i_L_law_485 : mv_look m_L_law.2.2.2.1 32 485 = some (.iconst 0, 0, []) := by decide +kernel
theorem i_L_law_486 : mv_look m_L_law.2.2.2.1 32 486 = some (.iand, 0, []) := by decide +kernel
theorem i_L_law_487 : mv_look m_L_law.2.2.2.1 32 487 = some (.istore 28, 0, []) := by decide +kernel
theorem i_L_law_489 : mv_look m_L_law.2.2.2.1 32 489 = some (.iload 28, 0, []) := by decide +kernel
theorem i_L_law_491 : mv_look m_L_law.2.2.2.1 32 491 = some (.iload 27, 0, []) := by decide +kernel
theorem i_L_law_493 : mv_look m_L_law.2.2.2.1 32 493 = some (.ifCond .eq 54, 547, []) := by decide +kernel
theorem i_L_law_496 : mv_look m_L_law.2.2.2.1 32 496 = some (.iload 9, 0, []) := by decide +kernel
theorem i_L_law_498 : mv_look m_L_law.2.2.2.1 32 498 = some (.bipush 21, 0, []) := by decide +kernel
theorem i_L_law_500 : mv_look m_L_law.2.2.2.1 32 500 = some (.if_icmp .lt 47, 547, []) := by decide +kernel
theorem i_L_law_503 : mv_look m_L_law.2.2.2.1 32 503 = some (.iload 9, 0, []) := by decide +kernel
theorem i_L_law_505 : mv_look m_L_law.2.2.2.1 32 505 = some (.bipush 22, 0, []) := by decide +kernel
theorem i_L_law_507 : mv_look m_L_law.2.2.2.1 32 507 = some (.if_icmp .gt 40, 547, []) := by decide +kernel
theorem i_L_law_510 : mv_look m_L_law.2.2.2.1 32 510 = some (.aload_n 1, 0, []) := by decide +kernel
theorem i_L_law_511 : mv_look m_L_law.2.2.2.1 32 511 = some (.invokevirtual 215, 0, []) := by decide +kernel
theorem i_L_law_514 : mv_look m_L_law.2.2.2.1 32 514 = some (.iload 20, 0, []) := by decide +kernel
theorem i_L_law_516 : mv_look m_L_law.2.2.2.1 32 516 = some (.iload 25, 0, []) := by decide +kernel
theorem i_L_law_518 : mv_look m_L_law.2.2.2.1 32 518 = some (.iadd, 0, []) := by decide +kernel
theorem i_L_law_519 : mv_look m_L_law.2.2.2.1 32 519 = some (.if_icmp .ne 32, 551, []) := by decide +kernel
theorem i_L_law_522 : mv_look m_L_law.2.2.2.1 32 522 = some (.aload_n 1, 0, []) := by decide +kernel
theorem i_L_law_523 : mv_look m_L_law.2.2.2.1 32 523 = some (.iload 10, 0, []) := by decide +kernel
theorem i_L_law_525 : mv_look m_L_law.2.2.2.1 32 525 = some (.invokestatic 202, 0, []) := by decide +kernel
theorem i_L_law_528 : mv_look m_L_law.2.2.2.1 32 528 = some (.iload 15, 0, []) := by decide +kernel
theorem i_L_law_530 : mv_look m_L_law.2.2.2.1 32 530 = some (.iload 25, 0, []) := by decide +kernel
theorem i_L_law_532 : mv_look m_L_law.2.2.2.1 32 532 = some (.isub, 0, []) := by decide +kernel
theorem i_L_law_533 : mv_look m_L_law.2.2.2.1 32 533 = some (.if_icmp .ne 18, 551, []) := by decide +kernel
theorem i_L_law_536 : mv_look m_L_law.2.2.2.1 32 536 = some (.aload_n 1, 0, []) := by decide +kernel
theorem i_L_law_537 : mv_look m_L_law.2.2.2.1 32 537 = some (.iload 10, 0, []) := by decide +kernel
theorem i_L_law_539 : mv_look m_L_law.2.2.2.1 32 539 = some (.invokestatic 195, 0, []) := by decide +kernel
theorem i_L_law_542 : mv_look m_L_law.2.2.2.1 32 542 = some (.iload 11, 0, []) := by decide +kernel
theorem i_L_law_544 : mv_look m_L_law.2.2.2.1 32 544 = some (.if_icmp .lt 7, 551, []) := by decide +kernel
theorem i_L_law_547 : mv_look m_L_law.2.2.2.1 32 547 = some (.iconst 1, 0, []) := by decide +kernel
theorem i_L_law_548 : mv_look m_L_law.2.2.2.1 32 548 = some (.goto 4, 552, []) := by decide +kernel
theorem i_L_law_551 : mv_look m_L_law.2.2.2.1 32 551 = some (.iconst 0, 0, []) := by decide +kernel
theorem i_L_law_552 : mv_look m_L_law.2.2.2.1 32 552 = some (.iand, 0, []) := by decide +kernel
theorem i_L_law_553 : mv_look m_L_law.2.2.2.1 32 553 = some (.istore 28, 0, []) := by decide +kernel
theorem i_L_law_555 : mv_look m_L_law.2.2.2.1 32 555 = some (.iload 28, 0, []) := by decide +kernel
theorem i_L_law_557 : mv_look m_L_law.2.2.2.1 32 557 = some (.iload 9, 0, []) := by decide +kernel
theorem i_L_law_559 : mv_look m_L_law.2.2.2.1 32 559 = some (.bipush 23, 0, []) := by decide +kernel
theorem i_L_law_561 : mv_look m_L_law.2.2.2.1 32 561 = some (.if_icmp .lt 147, 708, []) := by decide +kernel
theorem i_L_law_564 : mv_look m_L_law.2.2.2.1 32 564 = some (.iload 9, 0, []) := by decide +kernel
theorem i_L_law_566 : mv_look m_L_law.2.2.2.1 32 566 = some (.bipush 27, 0, []) := by decide +kernel
theorem i_L_law_568 : mv_look m_L_law.2.2.2.1 32 568 = some (.if_icmp .gt 140, 708, []) := by decide +kernel
theorem i_L_law_571 : mv_look m_L_law.2.2.2.1 32 571 = some (.iload 27, 0, []) := by decide +kernel
theorem i_L_law_573 : mv_look m_L_law.2.2.2.1 32 573 = some (.ifCond .eq 55, 628, []) := by decide +kernel
theorem i_L_law_576 : mv_look m_L_law.2.2.2.1 32 576 = some (.iload 25, 0, []) := by decide +kernel
theorem i_L_law_578 : mv_look m_L_law.2.2.2.1 32 578 = some (.iload 13, 0, []) := by decide +kernel
theorem i_L_law_580 : mv_look m_L_law.2.2.2.1 32 580 = some (.if_icmp .ne 132, 712, []) := by decide +kernel
theorem i_L_law_583 : mv_look m_L_law.2.2.2.1 32 583 = some (.iload 13, 0, []) := by decide +kernel
theorem i_L_law_585 : mv_look m_L_law.2.2.2.1 32 585 = some (.ifCond .le 127, 712, []) := by decide +kernel
theorem i_L_law_588 : mv_look m_L_law.2.2.2.1 32 588 = some (.aload_n 1, 0, []) := by decide +kernel
theorem i_L_law_589 : mv_look m_L_law.2.2.2.1 32 589 = some (.invokevirtual 215, 0, []) := by decide +kernel
theorem i_L_law_592 : mv_look m_L_law.2.2.2.1 32 592 = some (.iload 20, 0, []) := by decide +kernel
theorem i_L_law_594 : mv_look m_L_law.2.2.2.1 32 594 = some (.iload 14, 0, []) := by decide +kernel
theorem i_L_law_596 : mv_look m_L_law.2.2.2.1 32 596 = some (.iadd, 0, []) := by decide +kernel
theorem i_L_law_597 : mv_look m_L_law.2.2.2.1 32 597 = some (.if_icmp .ne 115, 712, []) := by decide +kernel
theorem i_L_law_600 : mv_look m_L_law.2.2.2.1 32 600 = some (.aload_n 1, 0, []) := by decide +kernel
theorem i_L_law_601 : mv_look m_L_law.2.2.2.1 32 601 = some (.iload 10, 0, []) := by decide +kernel
theorem i_L_law_603 : mv_look m_L_law.2.2.2.1 32 603 = some (.invokestatic 202, 0, []) := by decide +kernel
theorem i_L_law_606 : mv_look m_L_law.2.2.2.1 32 606 = some (.iload 15, 0, []) := by decide +kernel
theorem i_L_law_608 : mv_look m_L_law.2.2.2.1 32 608 = some (.iload 14, 0, []) := by decide +kernel
theorem i_L_law_610 : mv_look m_L_law.2.2.2.1 32 610 = some (.isub, 0, []) := by decide +kernel
theorem i_L_law_611 : mv_look m_L_law.2.2.2.1 32 611 = some (.if_icmp .ne 101, 712, []) := by decide +kernel
theorem i_L_law_614 : mv_look m_L_law.2.2.2.1 32 614 = some (.aload_n 1, 0, []) := by decide +kernel
theorem i_L_law_615 : mv_look m_L_law.2.2.2.1 32 615 = some (.iload 10, 0, []) := by decide +kernel
theorem i_L_law_617 : mv_look m_L_law.2.2.2.1 32 617 = some (.invokestatic 195, 0, []) := by decide +kernel
theorem i_L_law_620 : mv_look m_L_law.2.2.2.1 32 620 = some (.iload 12, 0, []) := by decide +kernel
theorem i_L_law_622 : mv_look m_L_law.2.2.2.1 32 622 = some (.if_icmp .lt 90, 712, []) := by decide +kernel
theorem i_L_law_625 : mv_look m_L_law.2.2.2.1 32 625 = some (.goto 83, 708, []) := by decide +kernel
theorem i_L_law_628 : mv_look m_L_law.2.2.2.1 32 628 = some (.iload 25, 0, []) := by decide +kernel
theorem i_L_law_630 : mv_look m_L_law.2.2.2.1 32 630 = some (.bipush (-75), 0, []) := by decide +kernel
theorem i_L_law_632 : mv_look m_L_law.2.2.2.1 32 632 = some (.if_icmp .ne 13, 645, []) := by decide +kernel
theorem i_L_law_635 : mv_look m_L_law.2.2.2.1 32 635 = some (.iload 11, 0, []) := by decide +kernel
theorem i_L_law_637 : mv_look m_L_law.2.2.2.1 32 637 = some (.bipush (-75), 0, []) := by decide +kernel
theorem i_L_law_639 : mv_look m_L_law.2.2.2.1 32 639 = some (.if_icmp .ne 73, 712, []) := by decide +kernel
theorem i_L_law_642 : mv_look m_L_law.2.2.2.1 32 642 = some (.goto 66, 708, []) := by decide +kernel
theorem i_L_law_645 : mv_look m_L_law.2.2.2.1 32 645 = some (.iload 25, 0, []) := by decide +kernel
theorem i_L_law_647 : mv_look m_L_law.2.2.2.1 32 647 = some (.bipush (-76), 0, []) := by decide +kernel
theorem i_L_law_649 : mv_look m_L_law.2.2.2.1 32 649 = some (.if_icmp .ne 63, 712, []) := by decide +kernel
theorem i_L_law_652 : mv_look m_L_law.2.2.2.1 32 652 = some (.aload_n 1, 0, []) := by decide +kernel
theorem i_L_law_653 : mv_look m_L_law.2.2.2.1 32 653 = some (.invokestatic 170, 0, []) := by decide +kernel
theorem i_L_law_656 : mv_look m_L_law.2.2.2.1 32 656 = some (.iconst 4, 0, []) := by decide +kernel
theorem i_L_law_657 : mv_look m_L_law.2.2.2.1 32 657 = some (.if_icmp .ne 27, 684, []) := by decide +kernel
theorem i_L_law_660 : mv_look m_L_law.2.2.2.1 32 660 = some (.iload 11, 0, []) := by decide +kernel
theorem i_L_law_662 : mv_look m_L_law.2.2.2.1 32 662 = some (.iload 12, 0, []) := by decide +kernel
theorem i_L_law_664 : mv_look m_L_law.2.2.2.1 32 664 = some (.if_icmp .lt 48, 712, []) := by decide +kernel
theorem i_L_law_667 : mv_look m_L_law.2.2.2.1 32 667 = some (.aload_n 1, 0, []) := by decide +kernel
theorem i_L_law_668 : mv_look m_L_law.2.2.2.1 32 668 = some (.invokestatic 172, 0, []) := by decide +kernel
theorem i_L_law_671 : mv_look m_L_law.2.2.2.1 32 671 = some (.iload 11, 0, []) := by decide +kernel
theorem i_L_law_673 : mv_look m_L_law.2.2.2.1 32 673 = some (.if_icmp .ne 39, 712, []) := by decide +kernel
theorem i_L_law_676 : mv_look m_L_law.2.2.2.1 32 676 = some (.iload 13, 0, []) := by decide +kernel
theorem i_L_law_678 : mv_look m_L_law.2.2.2.1 32 678 = some (.ifCond .ne 34, 712, []) := by decide +kernel
theorem i_L_law_681 : mv_look m_L_law.2.2.2.1 32 681 = some (.goto 27, 708, []) := by decide +kernel
theorem i_L_law_684 : mv_look m_L_law.2.2.2.1 32 684 = some (.aload_n 1, 0, []) := by decide +kernel
theorem i_L_law_685 : mv_look m_L_law.2.2.2.1 32 685 = some (.invokestatic 170, 0, []) := by decide +kernel
theorem i_L_law_688 : mv_look m_L_law.2.2.2.1 32 688 = some (.iconst 3, 0, []) := by decide +kernel
theorem i_L_law_689 : mv_look m_L_law.2.2.2.1 32 689 = some (.if_icmp .ne 23, 712, []) := by decide +kernel
theorem i_L_law_692 : mv_look m_L_law.2.2.2.1 32 692 = some (.iload 13, 0, []) := by decide +kernel
theorem i_L_law_694 : mv_look m_L_law.2.2.2.1 32 694 = some (.bipush (-75), 0, []) := by decide +kernel
theorem i_L_law_696 : mv_look m_L_law.2.2.2.1 32 696 = some (.if_icmp .ne 16, 712, []) := by decide +kernel
theorem i_L_law_699 : mv_look m_L_law.2.2.2.1 32 699 = some (.aload_n 1, 0, []) := by decide +kernel
theorem i_L_law_700 : mv_look m_L_law.2.2.2.1 32 700 = some (.invokestatic 172, 0, []) := by decide +kernel
theorem i_L_law_703 : mv_look m_L_law.2.2.2.1 32 703 = some (.iload 12, 0, []) := by decide +kernel
theorem i_L_law_705 : mv_look m_L_law.2.2.2.1 32 705 = some (.if_icmp .ge 7, 712, []) := by decide +kernel
theorem i_L_law_708 : mv_look m_L_law.2.2.2.1 32 708 = some (.iconst 1, 0, []) := by decide +kernel
theorem i_L_law_709 : mv_look m_L_law.2.2.2.1 32 709 = some (.goto 4, 713, []) := by decide +kernel
theorem i_L_law_712 : mv_look m_L_law.2.2.2.1 32 712 = some (.iconst 0, 0, []) := by decide +kernel
theorem i_L_law_713 : mv_look m_L_law.2.2.2.1 32 713 = some (.iand, 0, []) := by decide +kernel
theorem i_L_law_714 : mv_look m_L_law.2.2.2.1 32 714 = some (.istore 28, 0, []) := by decide +kernel
theorem i_L_law_716 : mv_look m_L_law.2.2.2.1 32 716 = some (.iload 28, 0, []) := by decide +kernel
theorem i_L_law_718 : mv_look m_L_law.2.2.2.1 32 718 = some (.iload 27, 0, []) := by decide +kernel
theorem i_L_law_720 : mv_look m_L_law.2.2.2.1 32 720 = some (.ifCond .eq 35, 755, []) := by decide +kernel
theorem i_L_law_723 : mv_look m_L_law.2.2.2.1 32 723 = some (.iload 9, 0, []) := by decide +kernel
theorem i_L_law_725 : mv_look m_L_law.2.2.2.1 32 725 = some (.bipush 32, 0, []) := by decide +kernel
theorem i_L_law_727 : mv_look m_L_law.2.2.2.1 32 727 = some (.if_icmp .lt 28, 755, []) := by decide +kernel
theorem i_L_law_730 : mv_look m_L_law.2.2.2.1 32 730 = some (.iload 9, 0, []) := by decide +kernel
theorem i_L_law_732 : mv_look m_L_law.2.2.2.1 32 732 = some (.bipush 35, 0, []) := by decide +kernel
theorem i_L_law_734 : mv_look m_L_law.2.2.2.1 32 734 = some (.if_icmp .gt 21, 755, []) := by decide +kernel
theorem i_L_law_737 : mv_look m_L_law.2.2.2.1 32 737 = some (.iload 25, 0, []) := by decide +kernel
theorem i_L_law_739 : mv_look m_L_law.2.2.2.1 32 739 = some (.iload 24, 0, []) := by decide +kernel
theorem i_L_law_741 : mv_look m_L_law.2.2.2.1 32 741 = some (.if_icmp .ne 18, 759, []) := by decide +kernel
theorem i_L_law_744 : mv_look m_L_law.2.2.2.1 32 744 = some (.aload_n 1, 0, []) := by decide +kernel
theorem i_L_law_745 : mv_look m_L_law.2.2.2.1 32 745 = some (.invokevirtual 227, 0, []) := by decide +kernel
theorem i_L_law_748 : mv_look m_L_law.2.2.2.1 32 748 = some (.iload 24, 0, []) := by decide +kernel
theorem i_L_law_750 : mv_look m_L_law.2.2.2.1 32 750 = some (.iconst 1, 0, []) := by decide +kernel
theorem i_L_law_751 : mv_look m_L_law.2.2.2.1 32 751 = some (.iadd, 0, []) := by decide +kernel
theorem i_L_law_752 : mv_look m_L_law.2.2.2.1 32 752 = some (.if_icmp .ne 7, 759, []) := by decide +kernel
theorem i_L_law_755 : mv_look m_L_law.2.2.2.1 32 755 = some (.iconst 1, 0, []) := by decide +kernel
theorem i_L_law_756 : mv_look m_L_law.2.2.2.1 32 756 = some (.goto 4, 760, []) := by decide +kernel
theorem i_L_law_759 : mv_look m_L_law.2.2.2.1 32 759 = some (.iconst 0, 0, []) := by decide +kernel
theorem i_L_law_760 : mv_look m_L_law.2.2.2.1 32 760 = some (.iand, 0, []) := by decide +kernel
theorem i_L_law_761 : mv_look m_L_law.2.2.2.1 32 761 = some (.istore 28, 0, []) := by decide +kernel
theorem i_L_law_763 : mv_look m_L_law.2.2.2.1 32 763 = some (.iload 27, 0, []) := by decide +kernel
theorem i_L_law_765 : mv_look m_L_law.2.2.2.1 32 765 = some (.ifCond .eq 21, 786, []) := by decide +kernel
theorem i_L_law_768 : mv_look m_L_law.2.2.2.1 32 768 = some (.iload 9, 0, []) := by decide +kernel
theorem i_L_law_770 : mv_look m_L_law.2.2.2.1 32 770 = some (.bipush 36, 0, []) := by decide +kernel
theorem i_L_law_772 : mv_look m_L_law.2.2.2.1 32 772 = some (.if_icmp .le 14, 786, []) := by decide +kernel
theorem i_L_law_775 : mv_look m_L_law.2.2.2.1 32 775 = some (.iload 9, 0, []) := by decide +kernel
theorem i_L_law_777 : mv_look m_L_law.2.2.2.1 32 777 = some (.bipush 44, 0, []) := by decide +kernel
theorem i_L_law_779 : mv_look m_L_law.2.2.2.1 32 779 = some (.if_icmp .ge 7, 786, []) := by decide +kernel
theorem i_L_law_782 : mv_look m_L_law.2.2.2.1 32 782 = some (.iconst 1, 0, []) := by decide +kernel
theorem i_L_law_783 : mv_look m_L_law.2.2.2.1 32 783 = some (.goto 4, 787, []) := by decide +kernel
theorem i_L_law_786 : mv_look m_L_law.2.2.2.1 32 786 = some (.iconst 0, 0, []) := by decide +kernel
theorem i_L_law_787 : mv_look m_L_law.2.2.2.1 32 787 = some (.istore 29, 0, []) := by decide +kernel
theorem i_L_law_789 : mv_look m_L_law.2.2.2.1 32 789 = some (.iload 28, 0, []) := by decide +kernel
theorem i_L_law_791 : mv_look m_L_law.2.2.2.1 32 791 = some (.iload 29, 0, []) := by decide +kernel
theorem i_L_law_793 : mv_look m_L_law.2.2.2.1 32 793 = some (.ifCond .eq 85, 878, []) := by decide +kernel
theorem i_L_law_796 : mv_look m_L_law.2.2.2.1 32 796 = some (.aload_n 1, 0, []) := by decide +kernel
theorem i_L_law_797 : mv_look m_L_law.2.2.2.1 32 797 = some (.invokevirtual 221, 0, []) := by decide +kernel
theorem i_L_law_800 : mv_look m_L_law.2.2.2.1 32 800 = some (.iload 22, 0, []) := by decide +kernel
theorem i_L_law_802 : mv_look m_L_law.2.2.2.1 32 802 = some (.iload 25, 0, []) := by decide +kernel
theorem i_L_law_804 : mv_look m_L_law.2.2.2.1 32 804 = some (.iadd, 0, []) := by decide +kernel
theorem i_L_law_805 : mv_look m_L_law.2.2.2.1 32 805 = some (.if_icmp .ne 77, 882, []) := by decide +kernel
theorem i_L_law_808 : mv_look m_L_law.2.2.2.1 32 808 = some (.aload_n 1, 0, []) := by decide +kernel
theorem i_L_law_809 : mv_look m_L_law.2.2.2.1 32 809 = some (.invokevirtual 209, 0, []) := by decide +kernel
theorem i_L_law_812 : mv_look m_L_law.2.2.2.1 32 812 = some (.iload 18, 0, []) := by decide +kernel
theorem i_L_law_814 : mv_look m_L_law.2.2.2.1 32 814 = some (.iload 25, 0, []) := by decide +kernel
theorem i_L_law_816 : mv_look m_L_law.2.2.2.1 32 816 = some (.isub, 0, []) := by decide +kernel
theorem i_L_law_817 : mv_look m_L_law.2.2.2.1 32 817 = some (.if_icmp .ne 65, 882, []) := by decide +kernel
theorem i_L_law_820 : mv_look m_L_law.2.2.2.1 32 820 = some (.aload_n 1, 0, []) := by decide +kernel
theorem i_L_law_821 : mv_look m_L_law.2.2.2.1 32 821 = some (.invokevirtual 224, 0, []) := by decide +kernel
theorem i_L_law_824 : mv_look m_L_law.2.2.2.1 32 824 = some (.iload 23, 0, []) := by decide +kernel
theorem i_L_law_826 : mv_look m_L_law.2.2.2.1 32 826 = some (.if_icmp .le 56, 882, []) := by decide +kernel
theorem i_L_law_829 : mv_look m_L_law.2.2.2.1 32 829 = some (.aload_n 1, 0, []) := by decide +kernel
theorem i_L_law_830 : mv_look m_L_law.2.2.2.1 32 830 = some (.invokevirtual 212, 0, []) := by decide +kernel
theorem i_L_law_833 : mv_look m_L_law.2.2.2.1 32 833 = some (.iload 19, 0, []) := by decide +kernel
theorem i_L_law_835 : mv_look m_L_law.2.2.2.1 32 835 = some (.if_icmp .lt 47, 882, []) := by decide +kernel
theorem i_L_law_838 : mv_look m_L_law.2.2.2.1 32 838 = some (.iload 25, 0, []) := by decide +kernel
theorem i_L_law_840 : mv_look m_L_law.2.2.2.1 32 840 = some (.aload_n 1, 0, []) := by decide +kernel
theorem i_L_law_841 : mv_look m_L_law.2.2.2.1 32 841 = some (.invokevirtual 224, 0, []) := by decide +kernel
theorem i_L_law_844 : mv_look m_L_law.2.2.2.1 32 844 = some (.iload 23, 0, []) := by decide +kernel
theorem i_L_law_846 : mv_look m_L_law.2.2.2.1 32 846 = some (.iconst 1, 0, []) := by decide +kernel
theorem i_L_law_847 : mv_look m_L_law.2.2.2.1 32 847 = some (.iadd, 0, []) := by decide +kernel
theorem i_L_law_848 : mv_look m_L_law.2.2.2.1 32 848 = some (.if_icmp .ne 8, 856, []) := by decide +kernel
theorem i_L_law_851 : mv_look m_L_law.2.2.2.1 32 851 = some (.iload 17, 0, []) := by decide +kernel
theorem i_L_law_853 : mv_look m_L_law.2.2.2.1 32 853 = some (.goto 4, 857, []) := by decide +kernel
theorem i_L_law_856 : mv_look m_L_law.2.2.2.1 32 856 = some (.iconst 0, 0, []) := by decide +kernel
theorem i_L_law_857 : mv_look m_L_law.2.2.2.1 32 857 = some (.if_icmp .lt 25, 882, []) := by decide +kernel
theorem i_L_law_860 : mv_look m_L_law.2.2.2.1 32 860 = some (.aload_n 1, 0, []) := by decide +kernel
theorem i_L_law_861 : mv_look m_L_law.2.2.2.1 32 861 = some (.invokevirtual 224, 0, []) := by decide +kernel
theorem i_L_law_864 : mv_look m_L_law.2.2.2.1 32 864 = some (.iload 23, 0, []) := by decide +kernel
theorem i_L_law_866 : mv_look m_L_law.2.2.2.1 32 866 = some (.iconst 1, 0, []) := by decide +kernel
theorem i_L_law_867 : mv_look m_L_law.2.2.2.1 32 867 = some (.iadd, 0, []) := by decide +kernel
theorem i_L_law_868 : mv_look m_L_law.2.2.2.1 32 868 = some (.if_icmp .gt 10, 878, []) := by decide +kernel
theorem i_L_law_871 : mv_look m_L_law.2.2.2.1 32 871 = some (.iload 25, 0, []) := by decide +kernel
theorem i_L_law_873 : mv_look m_L_law.2.2.2.1 32 873 = some (.iload 17, 0, []) := by decide +kernel
theorem i_L_law_875 : mv_look m_L_law.2.2.2.1 32 875 = some (.if_icmp .ne 7, 882, []) := by decide +kernel
theorem i_L_law_878 : mv_look m_L_law.2.2.2.1 32 878 = some (.iconst 1, 0, []) := by decide +kernel
theorem i_L_law_879 : mv_look m_L_law.2.2.2.1 32 879 = some (.goto 4, 883, []) := by decide +kernel
theorem i_L_law_882 : mv_look m_L_law.2.2.2.1 32 882 = some (.iconst 0, 0, []) := by decide +kernel
theorem i_L_law_883 : mv_look m_L_law.2.2.2.1 32 883 = some (.iand, 0, []) := by decide +kernel
theorem i_L_law_884 : mv_look m_L_law.2.2.2.1 32 884 = some (.istore 28, 0, []) := by decide +kernel
theorem i_L_law_886 : mv_look m_L_law.2.2.2.1 32 886 = some (.iload 28, 0, []) := by decide +kernel
theorem i_L_law_888 : mv_look m_L_law.2.2.2.1 32 888 = some (.iload 29, 0, []) := by decide +kernel
theorem i_L_law_890 : mv_look m_L_law.2.2.2.1 32 890 = some (.ifCond .ne 37, 927, []) := by decide +kernel
theorem i_L_law_893 : mv_look m_L_law.2.2.2.1 32 893 = some (.iload 9, 0, []) := by decide +kernel
theorem i_L_law_895 : mv_look m_L_law.2.2.2.1 32 895 = some (.bipush 43, 0, []) := by decide +kernel
theorem i_L_law_897 : mv_look m_L_law.2.2.2.1 32 897 = some (.if_icmp .gt 30, 927, []) := by decide +kernel
theorem i_L_law_900 : mv_look m_L_law.2.2.2.1 32 900 = some (.aload_n 1, 0, []) := by decide +kernel
theorem i_L_law_901 : mv_look m_L_law.2.2.2.1 32 901 = some (.invokevirtual 224, 0, []) := by decide +kernel
theorem i_L_law_904 : mv_look m_L_law.2.2.2.1 32 904 = some (.iload 23, 0, []) := by decide +kernel
theorem i_L_law_906 : mv_look m_L_law.2.2.2.1 32 906 = some (.if_icmp .ne 25, 931, []) := by decide +kernel
theorem i_L_law_909 : mv_look m_L_law.2.2.2.1 32 909 = some (.aload_n 1, 0, []) := by decide +kernel
theorem i_L_law_910 : mv_look m_L_law.2.2.2.1 32 910 = some (.invokevirtual 221, 0, []) := by decide +kernel
theorem i_L_law_913 : mv_look m_L_law.2.2.2.1 32 913 = some (.iload 22, 0, []) := by decide +kernel
theorem i_L_law_915 : mv_look m_L_law.2.2.2.1 32 915 = some (.if_icmp .ne 16, 931, []) := by decide +kernel
theorem i_L_law_918 : mv_look m_L_law.2.2.2.1 32 918 = some (.aload_n 1, 0, []) := by decide +kernel
theorem i_L_law_919 : mv_look m_L_law.2.2.2.1 32 919 = some (.invokevirtual 212, 0, []) := by decide +kernel
theorem i_L_law_922 : mv_look m_L_law.2.2.2.1 32 922 = some (.iload 19, 0, []) := by decide +kernel
theorem i_L_law_924 : mv_look m_L_law.2.2.2.1 32 924 = some (.if_icmp .ne 7, 931, []) := by decide +kernel
theorem i_L_law_927 : mv_look m_L_law.2.2.2.1 32 927 = some (.iconst 1, 0, []) := by decide +kernel
theorem i_L_law_928 : mv_look m_L_law.2.2.2.1 32 928 = some (.goto 4, 932, []) := by decide +kernel
theorem i_L_law_931 : mv_look m_L_law.2.2.2.1 32 931 = some (.iconst 0, 0, []) := by decide +kernel
theorem i_L_law_932 : mv_look m_L_law.2.2.2.1 32 932 = some (.iand, 0, []) := by decide +kernel
theorem i_L_law_933 : mv_look m_L_law.2.2.2.1 32 933 = some (.istore 28, 0, []) := by decide +kernel
theorem i_L_law_935 : mv_look m_L_law.2.2.2.1 32 935 = some (.iinc 4 5, 0, []) := by decide +kernel
theorem i_L_law_938 : mv_look m_L_law.2.2.2.1 32 938 = some (.iload 28, 0, []) := by decide +kernel
theorem i_L_law_940 : mv_look m_L_law.2.2.2.1 32 940 = some (.ifCond .eq 26, 966, []) := by decide +kernel
theorem i_L_law_943 : mv_look m_L_law.2.2.2.1 32 943 = some (.aload_n 1, 0, []) := by decide +kernel
theorem i_L_law_944 : mv_look m_L_law.2.2.2.1 32 944 = some (.aload_n 0, 0, []) := by decide +kernel
theorem i_L_law_945 : mv_look m_L_law.2.2.2.1 32 945 = some (.iload 4, 0, []) := by decide +kernel
theorem i_L_law_947 : mv_look m_L_law.2.2.2.1 32 947 = some (.iload 5, 0, []) := by decide +kernel
theorem i_L_law_949 : mv_look m_L_law.2.2.2.1 32 949 = some (.iconst 4, 0, []) := by decide +kernel
theorem i_L_law_950 : mv_look m_L_law.2.2.2.1 32 950 = some (.irem, 0, []) := by decide +kernel
theorem i_L_law_951 : mv_look m_L_law.2.2.2.1 32 951 = some (.iconst 3, 0, []) := by decide +kernel
theorem i_L_law_952 : mv_look m_L_law.2.2.2.1 32 952 = some (.if_icmp .ne 7, 959, []) := by decide +kernel
theorem i_L_law_955 : mv_look m_L_law.2.2.2.1 32 955 = some (.iconst 1, 0, []) := by decide +kernel
theorem i_L_law_956 : mv_look m_L_law.2.2.2.1 32 956 = some (.goto 4, 960, []) := by decide +kernel
theorem i_L_law_959 : mv_look m_L_law.2.2.2.1 32 959 = some (.iconst 0, 0, []) := by decide +kernel
theorem i_L_law_960 : mv_look m_L_law.2.2.2.1 32 960 = some (.invokestatic 236, 0, []) := by decide +kernel
theorem i_L_law_963 : mv_look m_L_law.2.2.2.1 32 963 = some (.ifCond .ne 5, 968, []) := by decide +kernel
theorem i_L_law_966 : mv_look m_L_law.2.2.2.1 32 966 = some (.iconst 0, 0, []) := by decide +kernel
theorem i_L_law_967 : mv_look m_L_law.2.2.2.1 32 967 = some (.ireturn, 0, []) := by decide +kernel
theorem i_L_law_968 : mv_look m_L_law.2.2.2.1 32 968 = some (.iload 27, 0, []) := by decide +kernel
theorem i_L_law_970 : mv_look m_L_law.2.2.2.1 32 970 = some (.ifCond .ne 24, 994, []) := by decide +kernel
theorem i_L_law_973 : mv_look m_L_law.2.2.2.1 32 973 = some (.aload_n 1, 0, []) := by decide +kernel
theorem i_L_law_974 : mv_look m_L_law.2.2.2.1 32 974 = some (.invokestatic 180, 0, []) := by decide +kernel
theorem i_L_law_977 : mv_look m_L_law.2.2.2.1 32 977 = some (.lload 6, 0, []) := by decide +kernel
theorem i_L_law_979 : mv_look m_L_law.2.2.2.1 32 979 = some (.lcmp, 0, []) := by decide +kernel
theorem i_L_law_980 : mv_look m_L_law.2.2.2.1 32 980 = some (.ifCond .ne 12, 992, []) := by decide +kernel
theorem i_L_law_983 : mv_look m_L_law.2.2.2.1 32 983 = some (.aload_n 1, 0, []) := by decide +kernel
theorem i_L_law_984 : mv_look m_L_law.2.2.2.1 32 984 = some (.invokevirtual 184, 0, []) := by decide +kernel
theorem i_L_law_987 : mv_look m_L_law.2.2.2.1 32 987 = some (.iload 8, 0, []) := by decide +kernel
theorem i_L_law_989 : mv_look m_L_law.2.2.2.1 32 989 = some (.if_icmp .eq 15, 1004, []) := by decide +kernel
theorem i_L_law_992 : mv_look m_L_law.2.2.2.1 32 992 = some (.iconst 0, 0, []) := by decide +kernel
theorem i_L_law_993 : mv_look m_L_law.2.2.2.1 32 993 = some (.ireturn, 0, []) := by decide +kernel
theorem i_L_law_994 : mv_look m_L_law.2.2.2.1 32 994 = some (.iinc 3 1, 0, []) := by decide +kernel
theorem i_L_law_997 : mv_look m_L_law.2.2.2.1 32 997 = some (.aload_n 2, 0, []) := by decide +kernel
theorem i_L_law_998 : mv_look m_L_law.2.2.2.1 32 998 = some (.iload_n 3, 0, []) := by decide +kernel
theorem i_L_law_999 : mv_look m_L_law.2.2.2.1 32 999 = some (.aload_n 1, 0, []) := by decide +kernel
theorem i_L_law_1000 : mv_look m_L_law.2.2.2.1 32 1000 = some (.invokestatic 180, 0, []) := by decide +kernel
theorem i_L_law_1003 : mv_look m_L_law.2.2.2.1 32 1003 = some (.lastore, 0, []) := by decide +kernel
theorem i_L_law_1004 : mv_look m_L_law.2.2.2.1 32 1004 = some (.iinc 5 1, 0, []) := by decide +kernel
theorem i_L_law_1007 : mv_look m_L_law.2.2.2.1 32 1007 = some (.goto (-979), 28, []) := by decide +kernel
theorem i_L_law_1010 : mv_look m_L_law.2.2.2.1 32 1010 = some (.aload_n 1, 0, []) := by decide +kernel
theorem i_L_law_1011 : mv_look m_L_law.2.2.2.1 32 1011 = some (.aload_n 2, 0, []) := by decide +kernel
theorem i_L_law_1012 : mv_look m_L_law.2.2.2.1 32 1012 = some (.iload_n 3, 0, []) := by decide +kernel
theorem i_L_law_1013 : mv_look m_L_law.2.2.2.1 32 1013 = some (.invokestatic 240, 0, []) := by decide +kernel
theorem i_L_law_1016 : mv_look m_L_law.2.2.2.1 32 1016 = some (.ireturn, 0, []) := by decide +kernel
theorem bk_L_law_0 (X : mv_X) (call : mv_G) (h : mv_H) (a0 : Nat) : mv_run X call m_L_law 0 [.ref a0, .retAddr 0, .retAddr 0, .retAddr 0, .retAddr 0, .retAddr 0, .retAddr 0, .retAddr 0, .retAddr 0, .retAddr 0, .retAddr 0, .retAddr 0, .retAddr 0, .retAddr 0, .retAddr 0, .retAddr 0, .retAddr 0, .retAddr 0, .retAddr 0, .retAddr 0, .retAddr 0, .retAddr 0, .retAddr 0, .retAddr 0, .retAddr 0, .retAddr 0, .retAddr 0, .retAddr 0, .retAddr 0, .retAddr 0] [] h =
  mv_new h (.inl (12, mv_df 12)) 14 fun r1 h1 =>
  mv_clV call 83 [.ref r1] h1 mv_raise fun h2 =>
  mv_newa h2 .long (.long 0) (nZ 70) fun r2 h3 =>
  mv_clL call 383 [.ref r1] h3 mv_raise fun l1 h4 =>
  mv_as h4 3 r2 (nZ 0) (.long l1) fun h5 =>
  mv_run X call m_L_law 28 [.ref a0, .ref r1, .ref r2, .int (nZ 0), .int (nZ 0), .int (nZ 0), .retAddr 0, .retAddr 0, .retAddr 0, .retAddr 0, .retAddr 0, .retAddr 0, .retAddr 0, .retAddr 0, .retAddr 0, .retAddr 0, .retAddr 0, .retAddr 0, .retAddr 0, .retAddr 0, .retAddr 0, .retAddr 0, .retAddr 0, .retAddr 0, .retAddr 0, .retAddr 0, .retAddr 0, .retAddr 0, .retAddr 0, .retAddr 0] [] h5 :=
  (s_new i_L_law_0 rfl).trans <| c_new fun r1 h1 => (s_dupR i_L_law_3).trans <| (s_i0 [] [.ref r1] i_L_law_4 rfl (fun _ => rfl)).trans <| c_clV fun h2 => (s_astore_n (ls2 := [.ref a0, .ref r1, .retAddr 0, .retAddr 0, .retAddr 0, .retAddr 0, .retAddr 0, .retAddr 0, .retAddr 0, .retAddr 0, .retAddr 0, .retAddr 0, .retAddr 0, .retAddr 0, .retAddr 0, .retAddr 0, .retAddr 0, .retAddr 0, .retAddr 0, .retAddr 0, .retAddr 0, .retAddr 0, .retAddr 0, .retAddr 0, .retAddr 0, .retAddr 0, .retAddr 0, .retAddr 0, .retAddr 0, .retAddr 0]) i_L_law_7 (fun _ => rfl)).trans <| (s_bipush i_L_law_8).trans <| (s_newa_long i_L_law_10).trans <| c_newa fun r2 h3 => (s_astore_n (ls2 := [.ref a0, .ref r1, .ref r2, .retAddr 0, .retAddr 0, .retAddr 0, .retAddr 0, .retAddr 0, .retAddr 0, .retAddr 0, .retAddr 0, .retAddr 0, .retAddr 0, .retAddr 0, .retAddr 0, .retAddr 0, .retAddr 0, .retAddr 0, .retAddr 0, .retAddr 0, .retAddr 0, .retAddr 0, .retAddr 0, .retAddr 0, .retAddr 0, .retAddr 0, .retAddr 0, .retAddr 0, .retAddr 0, .retAddr 0]) i_L_law_12 (fun _ => rfl)).trans <| (s_iconst i_L_law_13).trans <| (s_istore_n (ls2 := [.ref a0, .ref r1, .ref r2, .int (nZ 0), .retAddr 0, .retAddr 0, .retAddr 0, .retAddr 0, .retAddr 0, .retAddr 0, .retAddr 0, .retAddr 0, .retAddr 0, .retAddr 0, .retAddr 0, .retAddr 0, .retAddr 0, .retAddr 0, .retAddr 0, .retAddr 0, .retAddr 0, .retAddr 0, .retAddr 0, .retAddr 0, .retAddr 0, .retAddr 0, .retAddr 0, .retAddr 0, .retAddr 0, .retAddr 0]) i_L_law_14 (fun _ => rfl)).trans <| (s_aload_n i_L_law_15 rfl).trans <| (s_iload_n i_L_law_16 rfl).trans <| (s_aload_n i_L_law_17 rfl).trans <| (s_s3 [.ref r1] [.int (nZ 0), .ref r2] i_L_law_18 rfl (fun _ => rfl)).trans <| c_clL fun l1 h4 => (s_lastore i_L_law_21).trans <| c_as fun h5 => (s_iconst i_L_law_22).trans <| (s_istore (ls2 := [.ref a0, .ref r1, .ref r2, .int (nZ 0), .int (nZ 0), .retAddr 0, .retAddr 0, .retAddr 0, .retAddr 0, .retAddr 0, .retAddr 0, .retAddr 0, .retAddr 0, .retAddr 0, .retAddr 0, .retAddr 0, .retAddr 0, .retAddr 0, .retAddr 0, .retAddr 0, .retAddr 0, .retAddr 0, .retAddr 0, .retAddr 0, .retAddr 0, .retAddr 0, .retAddr 0, .retAddr 0, .retAddr 0, .retAddr 0]) i_L_law_23 (fun _ => rfl)).trans <| (s_iconst i_L_law_25).trans <| (s_istore (ls2 := [.ref a0, .ref r1, .ref r2, .int (nZ 0), .int (nZ 0), .int (nZ 0), .retAddr 0, .retAddr 0, .retAddr 0, .retAddr 0, .retAddr 0, .retAddr 0, .retAddr 0, .retAddr 0, .retAddr 0, .retAddr 0, .retAddr 0, .retAddr 0, .retAddr 0, .retAddr 0, .retAddr 0, .retAddr 0, .retAddr 0, .retAddr 0, .retAddr 0, .retAddr 0, .retAddr 0, .retAddr 0, .retAddr 0, .retAddr 0]) i_L_law_26 (fun _ => rfl)).trans <| rfl
theorem bk_L_law_28 (X : mv_X) (call : mv_G) (h : mv_H) (a0 : Nat) (a1 : Nat) (a2 : Nat) (v3 : Int32) (v4 : Int32) (v5 : Int32) (j6 : Value) (j8 : Value) (j9 : Value) (j10 : Value) (j11 : Value) (j12 : Value) (j13 : Value) (j14 : Value) (j15 : Value) (j16 : Value) (j17 : Value) (j18 : Value) (j19 : Value) (j20 : Value) (j21 : Value) (j22 : Value) (j23 : Value) (j24 : Value) (j25 : Value) (j26 : Value) (j27 : Value) (j28 : Value) (j29 : Value) : mv_run X call m_L_law 28 [.ref a0, .ref a1, .ref a2, .int v3, .int v4, .int v5, j6, .retAddr 0, j8, j9, j10, j11, j12, j13, j14, j15, j16, j17, j18, j19, j20, j21, j22, j23, j24, j25, j26, j27, j28, j29] [] h =
  if (nZ 54) ≤ v5 then 
  (mv_clI call 386 [.ref a1, .ref a2, .int v3] h mv_raise fun x1 h1 =>
    mv_chk (mv_ok 6 x1) (some (.inl (some (.int x1)), h1)))
  else (mv_clL call 383 [.ref a1] h mv_raise fun l1 h2 =>
    mv_rcv X h2 [.ref a1] 12 (mv_clI call 134 [.ref a1] h2 mv_raise fun x2 h3 =>
    if (nZ 5) ≤ v5 then 
    (if (nZ 10) ≤ v5 then 
      (if (nZ 12) ≤ v5 then 
        (mv_clI call 343 [.ref a0, .int v4, .int (nZ 46)] h3 mv_raise fun x3 h4 =>
          mv_run X call m_L_law 89 [.ref a0, .ref a1, .ref a2, .int v3, .int v4, .int v5, .long l1, .retAddr 0, .int x2, j9, j10, j11, j12, j13, j14, j15, j16, j17, j18, j19, j20, j21, j22, j23, j24, j25, j26, j27, j28, j29] [.int x3] h4)
        else (mv_run X call m_L_law 89 [.ref a0, .ref a1, .ref a2, .int v3, .int v4, .int v5, .long l1, .retAddr 0, .int x2, j9, j10, j11, j12, j13, j14, j15, j16, j17, j18, j19, j20, j21, j22, j23, j24, j25, j26, j27, j28, j29] [.int (nZ 33)] h3))
      else (mv_run X call m_L_law 89 [.ref a0, .ref a1, .ref a2, .int v3, .int v4, .int v5, .long l1, .retAddr 0, .int x2, j9, j10, j11, j12, j13, j14, j15, j16, j17, j18, j19, j20, j21, j22, j23, j24, j25, j26, j27, j28, j29] [.int (nZ 8)] h3))
    else (mv_run X call m_L_law 89 [.ref a0, .ref a1, .ref a2, .int v3, .int v4, .int v5, .long l1, .retAddr 0, .int x2, j9, j10, j11, j12, j13, j14, j15, j16, j17, j18, j19, j20, j21, j22, j23, j24, j25, j26, j27, j28, j29] [.int (nZ 0)] h3))) :=
  (s_iload i_L_law_28 rfl).trans <| (s_bipush i_L_law_30).trans <| (s_icmp_ge i_L_law_32).trans <| c_ite ((s_aload_n i_L_law_1010 rfl).trans <| (s_aload_n i_L_law_1011 rfl).trans <| (s_iload_n i_L_law_1012 rfl).trans <| (s_s1 [.ref a1, .ref a2, .int v3] [] i_L_law_1013 rfl (fun _ => rfl)).trans <| c_clI fun x1 h1 => s_iret i_L_law_1016) ((s_aload_n i_L_law_35 rfl).trans <| (s_s3 [.ref a1] [] i_L_law_36 rfl (fun _ => rfl)).trans <| c_clL fun l1 h2 => (s_lstore (ls2 := [.ref a0, .ref a1, .ref a2, .int v3, .int v4, .int v5, .long l1, .retAddr 0, j8, j9, j10, j11, j12, j13, j14, j15, j16, j17, j18, j19, j20, j21, j22, j23, j24, j25, j26, j27, j28, j29]) i_L_law_39 (fun _ => rfl)).trans <| (s_aload_n i_L_law_41 rfl).trans <| (s_v1 [.ref a1] [] i_L_law_42 rfl (fun _ => rfl)).trans <| c_rcv <| c_clI fun x2 h3 => (s_istore (ls2 := [.ref a0, .ref a1, .ref a2, .int v3, .int v4, .int v5, .long l1, .retAddr 0, .int x2, j9, j10, j11, j12, j13, j14, j15, j16, j17, j18, j19, j20, j21, j22, j23, j24, j25, j26, j27, j28, j29]) i_L_law_45 (fun _ => rfl)).trans <| (s_iload i_L_law_47 rfl).trans <| (s_iconst i_L_law_49).trans <| (s_icmp_ge i_L_law_50).trans <| c_ite ((s_iload i_L_law_57 rfl).trans <| (s_bipush i_L_law_59).trans <| (s_icmp_ge i_L_law_61).trans <| c_ite ((s_iload i_L_law_69 rfl).trans <| (s_bipush i_L_law_71).trans <| (s_icmp_ge i_L_law_73).trans <| c_ite ((s_aload_n i_L_law_81 rfl).trans <| (s_iload i_L_law_82 rfl).trans <| (s_bipush i_L_law_84).trans <| (s_s1 [.ref a0, .int v4, .int (nZ 46)] [] i_L_law_86 rfl (fun _ => rfl)).trans <| c_clI fun x3 h4 => rfl) ((s_bipush i_L_law_76).trans <| (s_goto i_L_law_78).trans <| rfl)) ((s_bipush i_L_law_64).trans <| (s_goto i_L_law_66).trans <| rfl)) ((s_iconst i_L_law_53).trans <| (s_goto i_L_law_54).trans <| rfl))
theorem bk_L_law_89 (X : mv_X) (call : mv_G) (h : mv_H) (a0 : Nat) (a1 : Nat) (a2 : Nat) (v3 : Int32) (v4 : Int32) (v5 : Int32) (w6 : Int64) (v8 : Int32) (j9 : Value) (j10 : Value) (j11 : Value) (j12 : Value) (j13 : Value) (j14 : Value) (j15 : Value) (j16 : Value) (j17 : Value) (j18 : Value) (j19 : Value) (j20 : Value) (j21 : Value) (j22 : Value) (j23 : Value) (j24 : Value) (j25 : Value) (j26 : Value) (j27 : Value) (j28 : Value) (j29 : Value) (s0 : Int32) : mv_run X call m_L_law 89 [.ref a0, .ref a1, .ref a2, .int v3, .int v4, .int v5, .long w6, .retAddr 0, .int v8, j9, j10, j11, j12, j13, j14, j15, j16, j17, j18, j19, j20, j21, j22, j23, j24, j25, j26, j27, j28, j29] [.int s0] h =
  mv_clI call 343 [.ref a0, .int (v4 + (nZ 1)), .int (nZ 10)] h mv_raise fun x1 h1 =>
  if s0 < (nZ 8) then 
  (mv_run X call m_L_law 119 [.ref a0, .ref a1, .ref a2, .int v3, .int v4, .int v5, .long w6, .retAddr 0, .int v8, .int s0, j10, j11, j12, j13, j14, j15, j16, j17, j18, j19, j20, j21, j22, j23, j24, j25, j26, j27, j28, j29] [.int x1, .ref a1] h1)
  else (if (nZ 13) = 0 then none else 
    if (v5 - v5 / (nZ 13) * (nZ 13)) = (nZ 12) then 
    (mv_run X call m_L_law 119 [.ref a0, .ref a1, .ref a2, .int v3, .int v4, .int v5, .long w6, .retAddr 0, .int v8, .int s0, j10, j11, j12, j13, j14, j15, j16, j17, j18, j19, j20, j21, j22, j23, j24, j25, j26, j27, j28, j29] [.int x1, .ref a1] h1)
    else (mv_run X call m_L_law 124 [.ref a0, .ref a1, .ref a2, .int v3, .int v4, .int v5, .long w6, .retAddr 0, .int v8, .int s0, j10, j11, j12, j13, j14, j15, j16, j17, j18, j19, j20, j21, j22, j23, j24, j25, j26, j27, j28, j29] [.int (nZ 0), .int x1, .ref a1] h1)) :=
  (s_istore (ls2 := [.ref a0, .ref a1, .ref a2, .int v3, .int v4, .int v5, .long w6, .retAddr 0, .int v8, .int s0, j10, j11, j12, j13, j14, j15, j16, j17, j18, j19, j20, j21, j22, j23, j24, j25, j26, j27, j28, j29]) i_L_law_89 (fun _ => rfl)).trans <| (s_aload_n i_L_law_91 rfl).trans <| (s_aload_n i_L_law_92 rfl).trans <| (s_iload i_L_law_93 rfl).trans <| (s_iconst i_L_law_95).trans <| (s_iadd i_L_law_96).trans <| (s_bipush i_L_law_97).trans <| (s_s1 [.ref a0, .int (v4 + (nZ 1)), .int (nZ 10)] [.ref a1] i_L_law_99 rfl (fun _ => rfl)).trans <| c_clI fun x1 h1 => (s_iload i_L_law_102 rfl).trans <| (s_bipush i_L_law_104).trans <| (s_icmp_lt i_L_law_106).trans <| c_ite (rfl) ((s_iload i_L_law_109 rfl).trans <| (s_bipush i_L_law_111).trans <| (s_irem i_L_law_113).trans <| c_ite rfl <| (s_bipush i_L_law_114).trans <| (s_icmp_ne i_L_law_116).trans <| c_ite (rfl) ((s_iconst i_L_law_123).trans <| rfl))
theorem bk_L_law_119 (X : mv_X) (call : mv_G) (h : mv_H) (a0 : Nat) (a1 : Nat) (a2 : Nat) (v3 : Int32) (v4 : Int32) (v5 : Int32) (w6 : Int64) (v8 : Int32) (v9 : Int32) (j10 : Value) (j11 : Value) (j12 : Value) (j13 : Value) (j14 : Value) (j15 : Value) (j16 : Value) (j17 : Value) (j18 : Value) (j19 : Value) (j20 : Value) (j21 : Value) (j22 : Value) (j23 : Value) (j24 : Value) (j25 : Value) (j26 : Value) (j27 : Value) (j28 : Value) (j29 : Value) (s0 : Int32) (s1 : Nat) : mv_run X call m_L_law 119 [.ref a0, .ref a1, .ref a2, .int v3, .int v4, .int v5, .long w6, .retAddr 0, .int v8, .int v9, j10, j11, j12, j13, j14, j15, j16, j17, j18, j19, j20, j21, j22, j23, j24, j25, j26, j27, j28, j29] [.int s0, .ref s1] h =
  mv_run X call m_L_law 124 [.ref a0, .ref a1, .ref a2, .int v3, .int v4, .int v5, .long w6, .retAddr 0, .int v8, .int v9, j10, j11, j12, j13, j14, j15, j16, j17, j18, j19, j20, j21, j22, j23, j24, j25, j26, j27, j28, j29] [.int (nZ 1), .int s0, .ref s1] h :=
  (s_iconst i_L_law_119).trans <| (s_goto i_L_law_120).trans <| rfl
theorem bk_L_law_124 (X : mv_X) (call : mv_G) (h : mv_H) (a0 : Nat) (a1 : Nat) (a2 : Nat) (v3 : Int32) (v4 : Int32) (v5 : Int32) (w6 : Int64) (v8 : Int32) (v9 : Int32) (j10 : Value) (j11 : Value) (j12 : Value) (j13 : Value) (j14 : Value) (j15 : Value) (j16 : Value) (j17 : Value) (j18 : Value) (j19 : Value) (j20 : Value) (j21 : Value) (j22 : Value) (j23 : Value) (j24 : Value) (j25 : Value) (j26 : Value) (j27 : Value) (j28 : Value) (j29 : Value) (s0 : Int32) (s1 : Int32) (s2 : Nat) : mv_run X call m_L_law 124 [.ref a0, .ref a1, .ref a2, .int v3, .int v4, .int v5, .long w6, .retAddr 0, .int v8, .int v9, j10, j11, j12, j13, j14, j15, j16, j17, j18, j19, j20, j21, j22, j23, j24, j25, j26, j27, j28, j29] [.int s0, .int s1, .ref s2] h =
  mv_clI call 381 [.ref s2, .int s1, .int s0] h mv_raise fun x1 h1 =>
  mv_clI call 349 [.ref a1, .int x1] h1 mv_raise fun x2 h2 =>
  mv_clI call 343 [.ref a0, .int (v4 + (nZ 2)), .int (nZ 40)] h2 mv_raise fun x3 h3 =>
  mv_clI call 357 [.ref a1, .int x1, .int ((nZ 1) + x3)] h3 mv_raise fun x4 h4 =>
  mv_clI call 359 [.ref a1, .int x1, .int ((nZ 1) + x3)] h4 mv_raise fun x5 h5 =>
  mv_clI call 348 [.ref a1, .int x1] h5 mv_raise fun x6 h6 =>
  mv_clI call 355 [.ref a1, .int x1] h6 mv_raise fun x7 h7 =>
  mv_rcv X h7 [.ref a1] 12 (mv_clI call 116 [.ref a1] h7 mv_raise fun x8 h8 =>
  mv_rcv X h8 [.ref a1] 12 (mv_clI call 86 [.ref a1] h8 mv_raise fun x9 h9 =>
  mv_rcv X h9 [.ref a1] 12 (mv_clI call 122 [.ref a1] h9 mv_raise fun x10 h10 =>
  mv_rcv X h10 [.ref a1] 12 (mv_clI call 121 [.ref a1] h10 mv_raise fun x11 h11 =>
  mv_rcv X h11 [.ref a1] 12 (mv_clI call 119 [.ref a1] h11 mv_raise fun x12 h12 =>
  mv_rcv X h12 [.ref a1] 12 (mv_clI call 118 [.ref a1] h12 mv_raise fun x13 h13 =>
  mv_rcv X h13 [.ref a1] 12 (mv_clI call 117 [.ref a1] h13 mv_raise fun x14 h14 =>
  mv_rcv X h14 [.ref a1] 12 (mv_clI call 110 [.ref a1] h14 mv_raise fun x15 h15 =>
  mv_clI call 382 [.ref a0, .int v4, .int v9, .ref a1, .int x1, .int ((nZ 1) + x3)] h15 mv_raise fun x16 h16 =>
  if v9 ≤ (nZ 27) then 
  (mv_run X call m_L_law 268 [.ref a0, .ref a1, .ref a2, .int v3, .int v4, .int v5, .long w6, .retAddr 0, .int v8, .int v9, .int x1, .int x2, .int ((nZ 1) + x3), .int x4, .int x5, .int x6, .int x7, .int x8, .int x9, .int x10, .int x11, .int x12, .int x13, .int x14, .int x15, .int x16, j26, j27, j28, j29] [] h16)
  else (if (nZ 32) ≤ v9 then 
    (mv_run X call m_L_law 268 [.ref a0, .ref a1, .ref a2, .int v3, .int v4, .int v5, .long w6, .retAddr 0, .int v8, .int v9, .int x1, .int x2, .int ((nZ 1) + x3), .int x4, .int x5, .int x6, .int x7, .int x8, .int x9, .int x10, .int x11, .int x12, .int x13, .int x14, .int x15, .int x16, j26, j27, j28, j29] [] h16)
    else (mv_run X call m_L_law 269 [.ref a0, .ref a1, .ref a2, .int v3, .int v4, .int v5, .long w6, .retAddr 0, .int v8, .int v9, .int x1, .int x2, .int ((nZ 1) + x3), .int x4, .int x5, .int x6, .int x7, .int x8, .int x9, .int x10, .int x11, .int x12, .int x13, .int x14, .int x15, .int x16, j26, j27, j28, j29] [.int (nZ 1)] h16)))))))))) :=
  (s_s1 [.ref s2, .int s1, .int s0] [] i_L_law_124 rfl (fun _ => rfl)).trans <| c_clI fun x1 h1 => (s_istore (ls2 := [.ref a0, .ref a1, .ref a2, .int v3, .int v4, .int v5, .long w6, .retAddr 0, .int v8, .int v9, .int x1, j11, j12, j13, j14, j15, j16, j17, j18, j19, j20, j21, j22, j23, j24, j25, j26, j27, j28, j29]) i_L_law_127 (fun _ => rfl)).trans <| (s_aload_n i_L_law_129 rfl).trans <| (s_iload i_L_law_130 rfl).trans <| (s_s1 [.ref a1, .int x1] [] i_L_law_132 rfl (fun _ => rfl)).trans <| c_clI fun x2 h2 => (s_istore (ls2 := [.ref a0, .ref a1, .ref a2, .int v3, .int v4, .int v5, .long w6, .retAddr 0, .int v8, .int v9, .int x1, .int x2, j12, j13, j14, j15, j16, j17, j18, j19, j20, j21, j22, j23, j24, j25, j26, j27, j28, j29]) i_L_law_135 (fun _ => rfl)).trans <| (s_iconst i_L_law_137).trans <| (s_aload_n i_L_law_138 rfl).trans <| (s_iload i_L_law_139 rfl).trans <| (s_iconst i_L_law_141).trans <| (s_iadd i_L_law_142).trans <| (s_bipush i_L_law_143).trans <| (s_s1 [.ref a0, .int (v4 + (nZ 2)), .int (nZ 40)] [.int (nZ 1)] i_L_law_145 rfl (fun _ => rfl)).trans <| c_clI fun x3 h3 => (s_iadd i_L_law_148).trans <| (s_istore (ls2 := [.ref a0, .ref a1, .ref a2, .int v3, .int v4, .int v5, .long w6, .retAddr 0, .int v8, .int v9, .int x1, .int x2, .int ((nZ 1) + x3), j13, j14, j15, j16, j17, j18, j19, j20, j21, j22, j23, j24, j25, j26, j27, j28, j29]) i_L_law_149 (fun _ => rfl)).trans <| (s_aload_n i_L_law_151 rfl).trans <| (s_iload i_L_law_152 rfl).trans <| (s_iload i_L_law_154 rfl).trans <| (s_s1 [.ref a1, .int x1, .int ((nZ 1) + x3)] [] i_L_law_156 rfl (fun _ => rfl)).trans <| c_clI fun x4 h4 => (s_istore (ls2 := [.ref a0, .ref a1, .ref a2, .int v3, .int v4, .int v5, .long w6, .retAddr 0, .int v8, .int v9, .int x1, .int x2, .int ((nZ 1) + x3), .int x4, j14, j15, j16, j17, j18, j19, j20, j21, j22, j23, j24, j25, j26, j27, j28, j29]) i_L_law_159 (fun _ => rfl)).trans <| (s_aload_n i_L_law_161 rfl).trans <| (s_iload i_L_law_162 rfl).trans <| (s_iload i_L_law_164 rfl).trans <| (s_s1 [.ref a1, .int x1, .int ((nZ 1) + x3)] [] i_L_law_166 rfl (fun _ => rfl)).trans <| c_clI fun x5 h5 => (s_istore (ls2 := [.ref a0, .ref a1, .ref a2, .int v3, .int v4, .int v5, .long w6, .retAddr 0, .int v8, .int v9, .int x1, .int x2, .int ((nZ 1) + x3), .int x4, .int x5, j15, j16, j17, j18, j19, j20, j21, j22, j23, j24, j25, j26, j27, j28, j29]) i_L_law_169 (fun _ => rfl)).trans <| (s_aload_n i_L_law_171 rfl).trans <| (s_iload i_L_law_172 rfl).trans <| (s_s1 [.ref a1, .int x1] [] i_L_law_174 rfl (fun _ => rfl)).trans <| c_clI fun x6 h6 => (s_istore (ls2 := [.ref a0, .ref a1, .ref a2, .int v3, .int v4, .int v5, .long w6, .retAddr 0, .int v8, .int v9, .int x1, .int x2, .int ((nZ 1) + x3), .int x4, .int x5, .int x6, j16, j17, j18, j19, j20, j21, j22, j23, j24, j25, j26, j27, j28, j29]) i_L_law_177 (fun _ => rfl)).trans <| (s_aload_n i_L_law_179 rfl).trans <| (s_iload i_L_law_180 rfl).trans <| (s_s1 [.ref a1, .int x1] [] i_L_law_182 rfl (fun _ => rfl)).trans <| c_clI fun x7 h7 => (s_istore (ls2 := [.ref a0, .ref a1, .ref a2, .int v3, .int v4, .int v5, .long w6, .retAddr 0, .int v8, .int v9, .int x1, .int x2, .int ((nZ 1) + x3), .int x4, .int x5, .int x6, .int x7, j17, j18, j19, j20, j21, j22, j23, j24, j25, j26, j27, j28, j29]) i_L_law_185 (fun _ => rfl)).trans <| (s_aload_n i_L_law_187 rfl).trans <| (s_v1 [.ref a1] [] i_L_law_188 rfl (fun _ => rfl)).trans <| c_rcv <| c_clI fun x8 h8 => (s_istore (ls2 := [.ref a0, .ref a1, .ref a2, .int v3, .int v4, .int v5, .long w6, .retAddr 0, .int v8, .int v9, .int x1, .int x2, .int ((nZ 1) + x3), .int x4, .int x5, .int x6, .int x7, .int x8, j18, j19, j20, j21, j22, j23, j24, j25, j26, j27, j28, j29]) i_L_law_191 (fun _ => rfl)).trans <| (s_aload_n i_L_law_193 rfl).trans <| (s_v1 [.ref a1] [] i_L_law_194 rfl (fun _ => rfl)).trans <| c_rcv <| c_clI fun x9 h9 => (s_istore (ls2 := [.ref a0, .ref a1, .ref a2, .int v3, .int v4, .int v5, .long w6, .retAddr 0, .int v8, .int v9, .int x1, .int x2, .int ((nZ 1) + x3), .int x4, .int x5, .int x6, .int x7, .int x8, .int x9, j19, j20, j21, j22, j23, j24, j25, j26, j27, j28, j29]) i_L_law_197 (fun _ => rfl)).trans <| (s_aload_n i_L_law_199 rfl).trans <| (s_v1 [.ref a1] [] i_L_law_200 rfl (fun _ => rfl)).trans <| c_rcv <| c_clI fun x10 h10 => (s_istore (ls2 := [.ref a0, .ref a1, .ref a2, .int v3, .int v4, .int v5, .long w6, .retAddr 0, .int v8, .int v9, .int x1, .int x2, .int ((nZ 1) + x3), .int x4, .int x5, .int x6, .int x7, .int x8, .int x9, .int x10, j20, j21, j22, j23, j24, j25, j26, j27, j28, j29]) i_L_law_203 (fun _ => rfl)).trans <| (s_aload_n i_L_law_205 rfl).trans <| (s_v1 [.ref a1] [] i_L_law_206 rfl (fun _ => rfl)).trans <| c_rcv <| c_clI fun x11 h11 => (s_istore (ls2 := [.ref a0, .ref a1, .ref a2, .int v3, .int v4, .int v5, .long w6, .retAddr 0, .int v8, .int v9, .int x1, .int x2, .int ((nZ 1) + x3), .int x4, .int x5, .int x6, .int x7, .int x8, .int x9, .int x10, .int x11, j21, j22, j23, j24, j25, j26, j27, j28, j29]) i_L_law_209 (fun _ => rfl)).trans <| (s_aload_n i_L_law_211 rfl).trans <| (s_v1 [.ref a1] [] i_L_law_212 rfl (fun _ => rfl)).trans <| c_rcv <| c_clI fun x12 h12 => (s_istore (ls2 := [.ref a0, .ref a1, .ref a2, .int v3, .int v4, .int v5, .long w6, .retAddr 0, .int v8, .int v9, .int x1, .int x2, .int ((nZ 1) + x3), .int x4, .int x5, .int x6, .int x7, .int x8, .int x9, .int x10, .int x11, .int x12, j22, j23, j24, j25, j26, j27, j28, j29]) i_L_law_215 (fun _ => rfl)).trans <| (s_aload_n i_L_law_217 rfl).trans <| (s_v1 [.ref a1] [] i_L_law_218 rfl (fun _ => rfl)).trans <| c_rcv <| c_clI fun x13 h13 => (s_istore (ls2 := [.ref a0, .ref a1, .ref a2, .int v3, .int v4, .int v5, .long w6, .retAddr 0, .int v8, .int v9, .int x1, .int x2, .int ((nZ 1) + x3), .int x4, .int x5, .int x6, .int x7, .int x8, .int x9, .int x10, .int x11, .int x12, .int x13, j23, j24, j25, j26, j27, j28, j29]) i_L_law_221 (fun _ => rfl)).trans <| (s_aload_n i_L_law_223 rfl).trans <| (s_v1 [.ref a1] [] i_L_law_224 rfl (fun _ => rfl)).trans <| c_rcv <| c_clI fun x14 h14 => (s_istore (ls2 := [.ref a0, .ref a1, .ref a2, .int v3, .int v4, .int v5, .long w6, .retAddr 0, .int v8, .int v9, .int x1, .int x2, .int ((nZ 1) + x3), .int x4, .int x5, .int x6, .int x7, .int x8, .int x9, .int x10, .int x11, .int x12, .int x13, .int x14, j24, j25, j26, j27, j28, j29]) i_L_law_227 (fun _ => rfl)).trans <| (s_aload_n i_L_law_229 rfl).trans <| (s_v1 [.ref a1] [] i_L_law_230 rfl (fun _ => rfl)).trans <| c_rcv <| c_clI fun x15 h15 => (s_istore (ls2 := [.ref a0, .ref a1, .ref a2, .int v3, .int v4, .int v5, .long w6, .retAddr 0, .int v8, .int v9, .int x1, .int x2, .int ((nZ 1) + x3), .int x4, .int x5, .int x6, .int x7, .int x8, .int x9, .int x10, .int x11, .int x12, .int x13, .int x14, .int x15, j25, j26, j27, j28, j29]) i_L_law_233 (fun _ => rfl)).trans <| (s_aload_n i_L_law_235 rfl).trans <| (s_iload i_L_law_236 rfl).trans <| (s_iload i_L_law_238 rfl).trans <| (s_aload_n i_L_law_240 rfl).trans <| (s_iload i_L_law_241 rfl).trans <| (s_iload i_L_law_243 rfl).trans <| (s_s1 [.ref a0, .int v4, .int v9, .ref a1, .int x1, .int ((nZ 1) + x3)] [] i_L_law_245 rfl (fun _ => rfl)).trans <| c_clI fun x16 h16 => (s_istore (ls2 := [.ref a0, .ref a1, .ref a2, .int v3, .int v4, .int v5, .long w6, .retAddr 0, .int v8, .int v9, .int x1, .int x2, .int ((nZ 1) + x3), .int x4, .int x5, .int x6, .int x7, .int x8, .int x9, .int x10, .int x11, .int x12, .int x13, .int x14, .int x15, .int x16, j26, j27, j28, j29]) i_L_law_248 (fun _ => rfl)).trans <| (s_iload i_L_law_250 rfl).trans <| (s_bipush i_L_law_252).trans <| (s_icmp_le i_L_law_254).trans <| c_ite (rfl) ((s_iload i_L_law_257 rfl).trans <| (s_bipush i_L_law_259).trans <| (s_icmp_ge i_L_law_261).trans <| c_ite (rfl) ((s_iconst i_L_law_264).trans <| (s_goto i_L_law_265).trans <| rfl))
theorem bk_L_law_268 (X : mv_X) (call : mv_G) (h : mv_H) (a0 : Nat) (a1 : Nat) (a2 : Nat) (v3 : Int32) (v4 : Int32) (v5 : Int32) (w6 : Int64) (v8 : Int32) (v9 : Int32) (v10 : Int32) (v11 : Int32) (v12 : Int32) (v13 : Int32) (v14 : Int32) (v15 : Int32) (v16 : Int32) (v17 : Int32) (v18 : Int32) (v19 : Int32) (v20 : Int32) (v21 : Int32) (v22 : Int32) (v23 : Int32) (v24 : Int32) (v25 : Int32) (j26 : Value) (j27 : Value) (j28 : Value) (j29 : Value) : mv_run X call m_L_law 268 [.ref a0, .ref a1, .ref a2, .int v3, .int v4, .int v5, .long w6, .retAddr 0, .int v8, .int v9, .int v10, .int v11, .int v12, .int v13, .int v14, .int v15, .int v16, .int v17, .int v18, .int v19, .int v20, .int v21, .int v22, .int v23, .int v24, .int v25, j26, j27, j28, j29] [] h =
  mv_run X call m_L_law 269 [.ref a0, .ref a1, .ref a2, .int v3, .int v4, .int v5, .long w6, .retAddr 0, .int v8, .int v9, .int v10, .int v11, .int v12, .int v13, .int v14, .int v15, .int v16, .int v17, .int v18, .int v19, .int v20, .int v21, .int v22, .int v23, .int v24, .int v25, j26, j27, j28, j29] [.int (nZ 0)] h :=
  (s_iconst i_L_law_268).trans <| rfl
theorem bk_L_law_269 (X : mv_X) (call : mv_G) (h : mv_H) (a0 : Nat) (a1 : Nat) (a2 : Nat) (v3 : Int32) (v4 : Int32) (v5 : Int32) (w6 : Int64) (v8 : Int32) (v9 : Int32) (v10 : Int32) (v11 : Int32) (v12 : Int32) (v13 : Int32) (v14 : Int32) (v15 : Int32) (v16 : Int32) (v17 : Int32) (v18 : Int32) (v19 : Int32) (v20 : Int32) (v21 : Int32) (v22 : Int32) (v23 : Int32) (v24 : Int32) (v25 : Int32) (j26 : Value) (j27 : Value) (j28 : Value) (j29 : Value) (s0 : Int32) : mv_run X call m_L_law 269 [.ref a0, .ref a1, .ref a2, .int v3, .int v4, .int v5, .long w6, .retAddr 0, .int v8, .int v9, .int v10, .int v11, .int v12, .int v13, .int v14, .int v15, .int v16, .int v17, .int v18, .int v19, .int v20, .int v21, .int v22, .int v23, .int v24, .int v25, j26, j27, j28, j29] [.int s0] h =
  if s0 = 0 then 
  (if v25 < 0 then 
    (mv_run X call m_L_law 301 [.ref a0, .ref a1, .ref a2, .int v3, .int v4, .int v5, .long w6, .retAddr 0, .int v8, .int v9, .int v10, .int v11, .int v12, .int v13, .int v14, .int v15, .int v16, .int v17, .int v18, .int v19, .int v20, .int v21, .int v22, .int v23, .int v24, .int v25, .int s0, j27, j28, j29] [.int (nZ 0)] h)
    else (mv_run X call m_L_law 301 [.ref a0, .ref a1, .ref a2, .int v3, .int v4, .int v5, .long w6, .retAddr 0, .int v8, .int v9, .int v10, .int v11, .int v12, .int v13, .int v14, .int v15, .int v16, .int v17, .int v18, .int v19, .int v20, .int v21, .int v22, .int v23, .int v24, .int v25, .int s0, j27, j28, j29] [.int (nZ 1)] h))
  else (if v25 ≤ (nZ (-70)) then 
    (mv_run X call m_L_law 301 [.ref a0, .ref a1, .ref a2, .int v3, .int v4, .int v5, .long w6, .retAddr 0, .int v8, .int v9, .int v10, .int v11, .int v12, .int v13, .int v14, .int v15, .int v16, .int v17, .int v18, .int v19, .int v20, .int v21, .int v22, .int v23, .int v24, .int v25, .int s0, j27, j28, j29] [.int (nZ 0)] h)
    else (mv_run X call m_L_law 301 [.ref a0, .ref a1, .ref a2, .int v3, .int v4, .int v5, .long w6, .retAddr 0, .int v8, .int v9, .int v10, .int v11, .int v12, .int v13, .int v14, .int v15, .int v16, .int v17, .int v18, .int v19, .int v20, .int v21, .int v22, .int v23, .int v24, .int v25, .int s0, j27, j28, j29] [.int (nZ 1)] h)) :=
  (s_istore (ls2 := [.ref a0, .ref a1, .ref a2, .int v3, .int v4, .int v5, .long w6, .retAddr 0, .int v8, .int v9, .int v10, .int v11, .int v12, .int v13, .int v14, .int v15, .int v16, .int v17, .int v18, .int v19, .int v20, .int v21, .int v22, .int v23, .int v24, .int v25, .int s0, j27, j28, j29]) i_L_law_269 (fun _ => rfl)).trans <| (s_iload i_L_law_271 rfl).trans <| (s_if_eq i_L_law_273).trans <| c_ite ((s_iload i_L_law_291 rfl).trans <| (s_if_lt i_L_law_293).trans <| c_ite ((s_iconst i_L_law_300).trans <| rfl) ((s_iconst i_L_law_296).trans <| (s_goto i_L_law_297).trans <| rfl)) ((s_iload i_L_law_276 rfl).trans <| (s_bipush i_L_law_278).trans <| (s_icmp_le i_L_law_280).trans <| c_ite ((s_iconst i_L_law_287).trans <| (s_goto i_L_law_288).trans <| rfl) ((s_iconst i_L_law_283).trans <| (s_goto i_L_law_284).trans <| rfl))
theorem bk_L_law_301 (X : mv_X) (call : mv_G) (h : mv_H) (a0 : Nat) (a1 : Nat) (a2 : Nat) (v3 : Int32) (v4 : Int32) (v5 : Int32) (w6 : Int64) (v8 : Int32) (v9 : Int32) (v10 : Int32) (v11 : Int32) (v12 : Int32) (v13 : Int32) (v14 : Int32) (v15 : Int32) (v16 : Int32) (v17 : Int32) (v18 : Int32) (v19 : Int32) (v20 : Int32) (v21 : Int32) (v22 : Int32) (v23 : Int32) (v24 : Int32) (v25 : Int32) (v26 : Int32) (j27 : Value) (j28 : Value) (j29 : Value) (s0 : Int32) : mv_run X call m_L_law 301 [.ref a0, .ref a1, .ref a2, .int v3, .int v4, .int v5, .long w6, .retAddr 0, .int v8, .int v9, .int v10, .int v11, .int v12, .int v13, .int v14, .int v15, .int v16, .int v17, .int v18, .int v19, .int v20, .int v21, .int v22, .int v23, .int v24, .int v25, .int v26, j27, j28, j29] [.int s0] h =
  if s0 = 0 then 
  (mv_run X call m_L_law 346 [.ref a0, .ref a1, .ref a2, .int v3, .int v4, .int v5, .long w6, .retAddr 0, .int v8, .int v9, .int v10, .int v11, .int v12, .int v13, .int v14, .int v15, .int v16, .int v17, .int v18, .int v19, .int v20, .int v21, .int v22, .int v23, .int v24, .int v25, .int v26, .int s0, j28, j29] [] h)
  else (if (nZ 7) < v9 then 
    (mv_run X call m_L_law 346 [.ref a0, .ref a1, .ref a2, .int v3, .int v4, .int v5, .long w6, .retAddr 0, .int v8, .int v9, .int v10, .int v11, .int v12, .int v13, .int v14, .int v15, .int v16, .int v17, .int v18, .int v19, .int v20, .int v21, .int v22, .int v23, .int v24, .int v25, .int v26, .int s0, j28, j29] [] h)
    else (mv_clI call 349 [.ref a1, .int v10] h mv_raise fun x1 h1 =>
      if v25 = x1 then 
      (mv_rcv X h1 [.ref a1] 12 (mv_clI call 86 [.ref a1] h1 mv_raise fun x2 h2 =>
        if x2 = (v18 + (nZ 1)) then 
        (mv_clI call 355 [.ref a1, .int v10] h2 mv_raise fun x3 h3 =>
          if x3 = 0 then 
          (mv_run X call m_L_law 346 [.ref a0, .ref a1, .ref a2, .int v3, .int v4, .int v5, .long w6, .retAddr 0, .int v8, .int v9, .int v10, .int v11, .int v12, .int v13, .int v14, .int v15, .int v16, .int v17, .int v18, .int v19, .int v20, .int v21, .int v22, .int v23, .int v24, .int v25, .int v26, .int s0, j28, j29] [] h3)
          else (mv_run X call m_L_law 350 [.ref a0, .ref a1, .ref a2, .int v3, .int v4, .int v5, .long w6, .retAddr 0, .int v8, .int v9, .int v10, .int v11, .int v12, .int v13, .int v14, .int v15, .int v16, .int v17, .int v18, .int v19, .int v20, .int v21, .int v22, .int v23, .int v24, .int v25, .int v26, .int s0, j28, j29] [] h3))
        else (mv_run X call m_L_law 350 [.ref a0, .ref a1, .ref a2, .int v3, .int v4, .int v5, .long w6, .retAddr 0, .int v8, .int v9, .int v10, .int v11, .int v12, .int v13, .int v14, .int v15, .int v16, .int v17, .int v18, .int v19, .int v20, .int v21, .int v22, .int v23, .int v24, .int v25, .int v26, .int s0, j28, j29] [] h2)))
      else (mv_run X call m_L_law 350 [.ref a0, .ref a1, .ref a2, .int v3, .int v4, .int v5, .long w6, .retAddr 0, .int v8, .int v9, .int v10, .int v11, .int v12, .int v13, .int v14, .int v15, .int v16, .int v17, .int v18, .int v19, .int v20, .int v21, .int v22, .int v23, .int v24, .int v25, .int v26, .int s0, j28, j29] [] h1))) :=
  (s_istore (ls2 := [.ref a0, .ref a1, .ref a2, .int v3, .int v4, .int v5, .long w6, .retAddr 0, .int v8, .int v9, .int v10, .int v11, .int v12, .int v13, .int v14, .int v15, .int v16, .int v17, .int v18, .int v19, .int v20, .int v21, .int v22, .int v23, .int v24, .int v25, .int v26, .int s0, j28, j29]) i_L_law_301 (fun _ => rfl)).trans <| (s_iload i_L_law_303 rfl).trans <| (s_if_eq i_L_law_305).trans <| c_ite (rfl) ((s_iload i_L_law_308 rfl).trans <| (s_bipush i_L_law_310).trans <| (s_icmp_gt i_L_law_312).trans <| c_ite (rfl) ((s_iload i_L_law_315 rfl).trans <| (s_aload_n i_L_law_317 rfl).trans <| (s_iload i_L_law_318 rfl).trans <| (s_s1 [.ref a1, .int v10] [.int v25] i_L_law_320 rfl (fun _ => rfl)).trans <| c_clI fun x1 h1 => (s_icmp_ne i_L_law_323).trans <| c_ite ((s_aload_n i_L_law_326 rfl).trans <| (s_v1 [.ref a1] [] i_L_law_327 rfl (fun _ => rfl)).trans <| c_rcv <| c_clI fun x2 h2 => (s_iload i_L_law_330 rfl).trans <| (s_iconst i_L_law_332).trans <| (s_iadd i_L_law_333).trans <| (s_icmp_ne i_L_law_334).trans <| c_ite ((s_aload_n i_L_law_337 rfl).trans <| (s_iload i_L_law_338 rfl).trans <| (s_s1 [.ref a1, .int v10] [] i_L_law_340 rfl (fun _ => rfl)).trans <| c_clI fun x3 h3 => (s_if_ne i_L_law_343).trans <| c_ite (rfl) (rfl)) (rfl)) (rfl)))
theorem bk_L_law_346 (X : mv_X) (call : mv_G) (h : mv_H) (a0 : Nat) (a1 : Nat) (a2 : Nat) (v3 : Int32) (v4 : Int32) (v5 : Int32) (w6 : Int64) (v8 : Int32) (v9 : Int32) (v10 : Int32) (v11 : Int32) (v12 : Int32) (v13 : Int32) (v14 : Int32) (v15 : Int32) (v16 : Int32) (v17 : Int32) (v18 : Int32) (v19 : Int32) (v20 : Int32) (v21 : Int32) (v22 : Int32) (v23 : Int32) (v24 : Int32) (v25 : Int32) (v26 : Int32) (v27 : Int32) (j28 : Value) (j29 : Value) : mv_run X call m_L_law 346 [.ref a0, .ref a1, .ref a2, .int v3, .int v4, .int v5, .long w6, .retAddr 0, .int v8, .int v9, .int v10, .int v11, .int v12, .int v13, .int v14, .int v15, .int v16, .int v17, .int v18, .int v19, .int v20, .int v21, .int v22, .int v23, .int v24, .int v25, .int v26, .int v27, j28, j29] [] h =
  mv_run X call m_L_law 351 [.ref a0, .ref a1, .ref a2, .int v3, .int v4, .int v5, .long w6, .retAddr 0, .int v8, .int v9, .int v10, .int v11, .int v12, .int v13, .int v14, .int v15, .int v16, .int v17, .int v18, .int v19, .int v20, .int v21, .int v22, .int v23, .int v24, .int v25, .int v26, .int v27, j28, j29] [.int (nZ 1)] h :=
  (s_iconst i_L_law_346).trans <| (s_goto i_L_law_347).trans <| rfl
theorem bk_L_law_350 (X : mv_X) (call : mv_G) (h : mv_H) (a0 : Nat) (a1 : Nat) (a2 : Nat) (v3 : Int32) (v4 : Int32) (v5 : Int32) (w6 : Int64) (v8 : Int32) (v9 : Int32) (v10 : Int32) (v11 : Int32) (v12 : Int32) (v13 : Int32) (v14 : Int32) (v15 : Int32) (v16 : Int32) (v17 : Int32) (v18 : Int32) (v19 : Int32) (v20 : Int32) (v21 : Int32) (v22 : Int32) (v23 : Int32) (v24 : Int32) (v25 : Int32) (v26 : Int32) (v27 : Int32) (j28 : Value) (j29 : Value) : mv_run X call m_L_law 350 [.ref a0, .ref a1, .ref a2, .int v3, .int v4, .int v5, .long w6, .retAddr 0, .int v8, .int v9, .int v10, .int v11, .int v12, .int v13, .int v14, .int v15, .int v16, .int v17, .int v18, .int v19, .int v20, .int v21, .int v22, .int v23, .int v24, .int v25, .int v26, .int v27, j28, j29] [] h =
  mv_run X call m_L_law 351 [.ref a0, .ref a1, .ref a2, .int v3, .int v4, .int v5, .long w6, .retAddr 0, .int v8, .int v9, .int v10, .int v11, .int v12, .int v13, .int v14, .int v15, .int v16, .int v17, .int v18, .int v19, .int v20, .int v21, .int v22, .int v23, .int v24, .int v25, .int v26, .int v27, j28, j29] [.int (nZ 0)] h :=
  (s_iconst i_L_law_350).trans <| rfl
theorem bk_L_law_351 (X : mv_X) (call : mv_G) (h : mv_H) (a0 : Nat) (a1 : Nat) (a2 : Nat) (v3 : Int32) (v4 : Int32) (v5 : Int32) (w6 : Int64) (v8 : Int32) (v9 : Int32) (v10 : Int32) (v11 : Int32) (v12 : Int32) (v13 : Int32) (v14 : Int32) (v15 : Int32) (v16 : Int32) (v17 : Int32) (v18 : Int32) (v19 : Int32) (v20 : Int32) (v21 : Int32) (v22 : Int32) (v23 : Int32) (v24 : Int32) (v25 : Int32) (v26 : Int32) (v27 : Int32) (j28 : Value) (j29 : Value) (s0 : Int32) : mv_run X call m_L_law 351 [.ref a0, .ref a1, .ref a2, .int v3, .int v4, .int v5, .long w6, .retAddr 0, .int v8, .int v9, .int v10, .int v11, .int v12, .int v13, .int v14, .int v15, .int v16, .int v17, .int v18, .int v19, .int v20, .int v21, .int v22, .int v23, .int v24, .int v25, .int v26, .int v27, j28, j29] [.int s0] h =
  if v27 = 0 then 
  (mv_run X call m_L_law 431 [.ref a0, .ref a1, .ref a2, .int v3, .int v4, .int v5, .long w6, .retAddr 0, .int v8, .int v9, .int v10, .int v11, .int v12, .int v13, .int v14, .int v15, .int v16, .int v17, .int v18, .int v19, .int v20, .int v21, .int v22, .int v23, .int v24, .int v25, .int v26, .int v27, .int s0, j29] [.int s0] h)
  else (if v9 < (nZ 8) then 
    (mv_run X call m_L_law 431 [.ref a0, .ref a1, .ref a2, .int v3, .int v4, .int v5, .long w6, .retAddr 0, .int v8, .int v9, .int v10, .int v11, .int v12, .int v13, .int v14, .int v15, .int v16, .int v17, .int v18, .int v19, .int v20, .int v21, .int v22, .int v23, .int v24, .int v25, .int v26, .int v27, .int s0, j29] [.int s0] h)
    else (if (nZ 19) < v9 then 
      (mv_run X call m_L_law 431 [.ref a0, .ref a1, .ref a2, .int v3, .int v4, .int v5, .long w6, .retAddr 0, .int v8, .int v9, .int v10, .int v11, .int v12, .int v13, .int v14, .int v15, .int v16, .int v17, .int v18, .int v19, .int v20, .int v21, .int v22, .int v23, .int v24, .int v25, .int v26, .int v27, .int s0, j29] [.int s0] h)
      else (if v25 ≤ v15 then 
        (mv_run X call m_L_law 435 [.ref a0, .ref a1, .ref a2, .int v3, .int v4, .int v5, .long w6, .retAddr 0, .int v8, .int v9, .int v10, .int v11, .int v12, .int v13, .int v14, .int v15, .int v16, .int v17, .int v18, .int v19, .int v20, .int v21, .int v22, .int v23, .int v24, .int v25, .int v26, .int v27, .int s0, j29] [.int s0] h)
        else (mv_clI call 348 [.ref a1, .int v10] h mv_raise fun x1 h1 =>
          if v25 = x1 then 
          (mv_clI call 355 [.ref a1, .int v10] h1 mv_raise fun x2 h2 =>
            if x2 = (v16 + (nZ 1)) then 
            (mv_rcv X h2 [.ref a1] 12 (mv_clI call 119 [.ref a1] h2 mv_raise fun x3 h3 =>
              if x3 = ((v21 + v25) - v15) then 
              (mv_clI call 349 [.ref a1, .int v10] h3 mv_raise fun x4 h4 =>
                if v11 < x4 then 
                (mv_run X call m_L_law 435 [.ref a0, .ref a1, .ref a2, .int v3, .int v4, .int v5, .long w6, .retAddr 0, .int v8, .int v9, .int v10, .int v11, .int v12, .int v13, .int v14, .int v15, .int v16, .int v17, .int v18, .int v19, .int v20, .int v21, .int v22, .int v23, .int v24, .int v25, .int v26, .int v27, .int s0, j29] [.int s0] h4)
                else (mv_run X call m_L_law 431 [.ref a0, .ref a1, .ref a2, .int v3, .int v4, .int v5, .long w6, .retAddr 0, .int v8, .int v9, .int v10, .int v11, .int v12, .int v13, .int v14, .int v15, .int v16, .int v17, .int v18, .int v19, .int v20, .int v21, .int v22, .int v23, .int v24, .int v25, .int v26, .int v27, .int s0, j29] [.int s0] h4))
              else (mv_run X call m_L_law 435 [.ref a0, .ref a1, .ref a2, .int v3, .int v4, .int v5, .long w6, .retAddr 0, .int v8, .int v9, .int v10, .int v11, .int v12, .int v13, .int v14, .int v15, .int v16, .int v17, .int v18, .int v19, .int v20, .int v21, .int v22, .int v23, .int v24, .int v25, .int v26, .int v27, .int s0, j29] [.int s0] h3)))
            else (mv_run X call m_L_law 435 [.ref a0, .ref a1, .ref a2, .int v3, .int v4, .int v5, .long w6, .retAddr 0, .int v8, .int v9, .int v10, .int v11, .int v12, .int v13, .int v14, .int v15, .int v16, .int v17, .int v18, .int v19, .int v20, .int v21, .int v22, .int v23, .int v24, .int v25, .int v26, .int v27, .int s0, j29] [.int s0] h2))
          else (mv_run X call m_L_law 435 [.ref a0, .ref a1, .ref a2, .int v3, .int v4, .int v5, .long w6, .retAddr 0, .int v8, .int v9, .int v10, .int v11, .int v12, .int v13, .int v14, .int v15, .int v16, .int v17, .int v18, .int v19, .int v20, .int v21, .int v22, .int v23, .int v24, .int v25, .int v26, .int v27, .int s0, j29] [.int s0] h1))))) :=
  (s_istore (ls2 := [.ref a0, .ref a1, .ref a2, .int v3, .int v4, .int v5, .long w6, .retAddr 0, .int v8, .int v9, .int v10, .int v11, .int v12, .int v13, .int v14, .int v15, .int v16, .int v17, .int v18, .int v19, .int v20, .int v21, .int v22, .int v23, .int v24, .int v25, .int v26, .int v27, .int s0, j29]) i_L_law_351 (fun _ => rfl)).trans <| (s_iload i_L_law_353 rfl).trans <| (s_iload i_L_law_355 rfl).trans <| (s_if_eq i_L_law_357).trans <| c_ite (rfl) ((s_iload i_L_law_360 rfl).trans <| (s_bipush i_L_law_362).trans <| (s_icmp_lt i_L_law_364).trans <| c_ite (rfl) ((s_iload i_L_law_367 rfl).trans <| (s_bipush i_L_law_369).trans <| (s_icmp_gt i_L_law_371).trans <| c_ite (rfl) ((s_iload i_L_law_374 rfl).trans <| (s_iload i_L_law_376 rfl).trans <| (s_icmp_le i_L_law_378).trans <| c_ite (rfl) ((s_iload i_L_law_381 rfl).trans <| (s_aload_n i_L_law_383 rfl).trans <| (s_iload i_L_law_384 rfl).trans <| (s_s1 [.ref a1, .int v10] [.int v25, .int s0] i_L_law_386 rfl (fun _ => rfl)).trans <| c_clI fun x1 h1 => (s_icmp_ne i_L_law_389).trans <| c_ite ((s_aload_n i_L_law_392 rfl).trans <| (s_iload i_L_law_393 rfl).trans <| (s_s1 [.ref a1, .int v10] [.int s0] i_L_law_395 rfl (fun _ => rfl)).trans <| c_clI fun x2 h2 => (s_iload i_L_law_398 rfl).trans <| (s_iconst i_L_law_400).trans <| (s_iadd i_L_law_401).trans <| (s_icmp_ne i_L_law_402).trans <| c_ite ((s_aload_n i_L_law_405 rfl).trans <| (s_v1 [.ref a1] [.int s0] i_L_law_406 rfl (fun _ => rfl)).trans <| c_rcv <| c_clI fun x3 h3 => (s_iload i_L_law_409 rfl).trans <| (s_iload i_L_law_411 rfl).trans <| (s_iadd i_L_law_413).trans <| (s_iload i_L_law_414 rfl).trans <| (s_isub i_L_law_416).trans <| (s_icmp_ne i_L_law_417).trans <| c_ite ((s_aload_n i_L_law_420 rfl).trans <| (s_iload i_L_law_421 rfl).trans <| (s_s1 [.ref a1, .int v10] [.int s0] i_L_law_423 rfl (fun _ => rfl)).trans <| c_clI fun x4 h4 => (s_iload i_L_law_426 rfl).trans <| (s_icmp_gt i_L_law_428).trans <| c_ite (rfl) (rfl)) (rfl)) (rfl)) (rfl)))))
theorem bk_L_law_431 (X : mv_X) (call : mv_G) (h : mv_H) (a0 : Nat) (a1 : Nat) (a2 : Nat) (v3 : Int32) (v4 : Int32) (v5 : Int32) (w6 : Int64) (v8 : Int32) (v9 : Int32) (v10 : Int32) (v11 : Int32) (v12 : Int32) (v13 : Int32) (v14 : Int32) (v15 : Int32) (v16 : Int32) (v17 : Int32) (v18 : Int32) (v19 : Int32) (v20 : Int32) (v21 : Int32) (v22 : Int32) (v23 : Int32) (v24 : Int32) (v25 : Int32) (v26 : Int32) (v27 : Int32) (v28 : Int32) (j29 : Value) (s0 : Int32) : mv_run X call m_L_law 431 [.ref a0, .ref a1, .ref a2, .int v3, .int v4, .int v5, .long w6, .retAddr 0, .int v8, .int v9, .int v10, .int v11, .int v12, .int v13, .int v14, .int v15, .int v16, .int v17, .int v18, .int v19, .int v20, .int v21, .int v22, .int v23, .int v24, .int v25, .int v26, .int v27, .int v28, j29] [.int s0] h =
  mv_run X call m_L_law 436 [.ref a0, .ref a1, .ref a2, .int v3, .int v4, .int v5, .long w6, .retAddr 0, .int v8, .int v9, .int v10, .int v11, .int v12, .int v13, .int v14, .int v15, .int v16, .int v17, .int v18, .int v19, .int v20, .int v21, .int v22, .int v23, .int v24, .int v25, .int v26, .int v27, .int v28, j29] [.int (nZ 1), .int s0] h :=
  (s_iconst i_L_law_431).trans <| (s_goto i_L_law_432).trans <| rfl
theorem bk_L_law_435 (X : mv_X) (call : mv_G) (h : mv_H) (a0 : Nat) (a1 : Nat) (a2 : Nat) (v3 : Int32) (v4 : Int32) (v5 : Int32) (w6 : Int64) (v8 : Int32) (v9 : Int32) (v10 : Int32) (v11 : Int32) (v12 : Int32) (v13 : Int32) (v14 : Int32) (v15 : Int32) (v16 : Int32) (v17 : Int32) (v18 : Int32) (v19 : Int32) (v20 : Int32) (v21 : Int32) (v22 : Int32) (v23 : Int32) (v24 : Int32) (v25 : Int32) (v26 : Int32) (v27 : Int32) (v28 : Int32) (j29 : Value) (s0 : Int32) : mv_run X call m_L_law 435 [.ref a0, .ref a1, .ref a2, .int v3, .int v4, .int v5, .long w6, .retAddr 0, .int v8, .int v9, .int v10, .int v11, .int v12, .int v13, .int v14, .int v15, .int v16, .int v17, .int v18, .int v19, .int v20, .int v21, .int v22, .int v23, .int v24, .int v25, .int v26, .int v27, .int v28, j29] [.int s0] h =
  mv_run X call m_L_law 436 [.ref a0, .ref a1, .ref a2, .int v3, .int v4, .int v5, .long w6, .retAddr 0, .int v8, .int v9, .int v10, .int v11, .int v12, .int v13, .int v14, .int v15, .int v16, .int v17, .int v18, .int v19, .int v20, .int v21, .int v22, .int v23, .int v24, .int v25, .int v26, .int v27, .int v28, j29] [.int (nZ 0), .int s0] h :=
  (s_iconst i_L_law_435).trans <| rfl
theorem bk_L_law_436 (X : mv_X) (call : mv_G) (h : mv_H) (a0 : Nat) (a1 : Nat) (a2 : Nat) (v3 : Int32) (v4 : Int32) (v5 : Int32) (w6 : Int64) (v8 : Int32) (v9 : Int32) (v10 : Int32) (v11 : Int32) (v12 : Int32) (v13 : Int32) (v14 : Int32) (v15 : Int32) (v16 : Int32) (v17 : Int32) (v18 : Int32) (v19 : Int32) (v20 : Int32) (v21 : Int32) (v22 : Int32) (v23 : Int32) (v24 : Int32) (v25 : Int32) (v26 : Int32) (v27 : Int32) (v28 : Int32) (j29 : Value) (s0 : Int32) (s1 : Int32) : mv_run X call m_L_law 436 [.ref a0, .ref a1, .ref a2, .int v3, .int v4, .int v5, .long w6, .retAddr 0, .int v8, .int v9, .int v10, .int v11, .int v12, .int v13, .int v14, .int v15, .int v16, .int v17, .int v18, .int v19, .int v20, .int v21, .int v22, .int v23, .int v24, .int v25, .int v26, .int v27, .int v28, j29] [.int s0, .int s1] h =
  if v27 = 0 then 
  (mv_run X call m_L_law 481 [.ref a0, .ref a1, .ref a2, .int v3, .int v4, .int v5, .long w6, .retAddr 0, .int v8, .int v9, .int v10, .int v11, .int v12, .int v13, .int v14, .int v15, .int v16, .int v17, .int v18, .int v19, .int v20, .int v21, .int v22, .int v23, .int v24, .int v25, .int v26, .int v27, .int (s1 &&& s0), j29] [.int (s1 &&& s0)] h)
  else (if v9 = (nZ 20) then 
    (if v25 = v15 then 
      (mv_rcv X h [.ref a1] 12 (mv_clI call 121 [.ref a1] h mv_raise fun x1 h1 =>
        if x1 = (v20 + v15) then 
        (mv_clI call 346 [.ref a1, .int v10] h1 mv_raise fun x2 h2 =>
          if x2 = 0 then 
          (mv_run X call m_L_law 481 [.ref a0, .ref a1, .ref a2, .int v3, .int v4, .int v5, .long w6, .retAddr 0, .int v8, .int v9, .int v10, .int v11, .int v12, .int v13, .int v14, .int v15, .int v16, .int v17, .int v18, .int v19, .int v20, .int v21, .int v22, .int v23, .int v24, .int v25, .int v26, .int v27, .int (s1 &&& s0), j29] [.int (s1 &&& s0)] h2)
          else (mv_run X call m_L_law 485 [.ref a0, .ref a1, .ref a2, .int v3, .int v4, .int v5, .long w6, .retAddr 0, .int v8, .int v9, .int v10, .int v11, .int v12, .int v13, .int v14, .int v15, .int v16, .int v17, .int v18, .int v19, .int v20, .int v21, .int v22, .int v23, .int v24, .int v25, .int v26, .int v27, .int (s1 &&& s0), j29] [.int (s1 &&& s0)] h2))
        else (mv_run X call m_L_law 485 [.ref a0, .ref a1, .ref a2, .int v3, .int v4, .int v5, .long w6, .retAddr 0, .int v8, .int v9, .int v10, .int v11, .int v12, .int v13, .int v14, .int v15, .int v16, .int v17, .int v18, .int v19, .int v20, .int v21, .int v22, .int v23, .int v24, .int v25, .int v26, .int v27, .int (s1 &&& s0), j29] [.int (s1 &&& s0)] h1)))
      else (mv_run X call m_L_law 485 [.ref a0, .ref a1, .ref a2, .int v3, .int v4, .int v5, .long w6, .retAddr 0, .int v8, .int v9, .int v10, .int v11, .int v12, .int v13, .int v14, .int v15, .int v16, .int v17, .int v18, .int v19, .int v20, .int v21, .int v22, .int v23, .int v24, .int v25, .int v26, .int v27, .int (s1 &&& s0), j29] [.int (s1 &&& s0)] h))
    else (mv_run X call m_L_law 481 [.ref a0, .ref a1, .ref a2, .int v3, .int v4, .int v5, .long w6, .retAddr 0, .int v8, .int v9, .int v10, .int v11, .int v12, .int v13, .int v14, .int v15, .int v16, .int v17, .int v18, .int v19, .int v20, .int v21, .int v22, .int v23, .int v24, .int v25, .int v26, .int v27, .int (s1 &&& s0), j29] [.int (s1 &&& s0)] h)) :=
  (s_iand i_L_law_436).trans <| (s_istore (ls2 := [.ref a0, .ref a1, .ref a2, .int v3, .int v4, .int v5, .long w6, .retAddr 0, .int v8, .int v9, .int v10, .int v11, .int v12, .int v13, .int v14, .int v15, .int v16, .int v17, .int v18, .int v19, .int v20, .int v21, .int v22, .int v23, .int v24, .int v25, .int v26, .int v27, .int (s1 &&& s0), j29]) i_L_law_437 (fun _ => rfl)).trans <| (s_iload i_L_law_439 rfl).trans <| (s_iload i_L_law_441 rfl).trans <| (s_if_eq i_L_law_443).trans <| c_ite (rfl) ((s_iload i_L_law_446 rfl).trans <| (s_bipush i_L_law_448).trans <| (s_icmp_ne i_L_law_450).trans <| c_ite ((s_iload i_L_law_453 rfl).trans <| (s_iload i_L_law_455 rfl).trans <| (s_icmp_ne i_L_law_457).trans <| c_ite ((s_aload_n i_L_law_460 rfl).trans <| (s_v1 [.ref a1] [.int (s1 &&& s0)] i_L_law_461 rfl (fun _ => rfl)).trans <| c_rcv <| c_clI fun x1 h1 => (s_iload i_L_law_464 rfl).trans <| (s_iload i_L_law_466 rfl).trans <| (s_iadd i_L_law_468).trans <| (s_icmp_ne i_L_law_469).trans <| c_ite ((s_aload_n i_L_law_472 rfl).trans <| (s_iload i_L_law_473 rfl).trans <| (s_s1 [.ref a1, .int v10] [.int (s1 &&& s0)] i_L_law_475 rfl (fun _ => rfl)).trans <| c_clI fun x2 h2 => (s_if_ne i_L_law_478).trans <| c_ite (rfl) (rfl)) (rfl)) (rfl)) (rfl))
theorem bk_L_law_481 (X : mv_X) (call : mv_G) (h : mv_H) (a0 : Nat) (a1 : Nat) (a2 : Nat) (v3 : Int32) (v4 : Int32) (v5 : Int32) (w6 : Int64) (v8 : Int32) (v9 : Int32) (v10 : Int32) (v11 : Int32) (v12 : Int32) (v13 : Int32) (v14 : Int32) (v15 : Int32) (v16 : Int32) (v17 : Int32) (v18 : Int32) (v19 : Int32) (v20 : Int32) (v21 : Int32) (v22 : Int32) (v23 : Int32) (v24 : Int32) (v25 : Int32) (v26 : Int32) (v27 : Int32) (v28 : Int32) (j29 : Value) (s0 : Int32) : mv_run X call m_L_law 481 [.ref a0, .ref a1, .ref a2, .int v3, .int v4, .int v5, .long w6, .retAddr 0, .int v8, .int v9, .int v10, .int v11, .int v12, .int v13, .int v14, .int v15, .int v16, .int v17, .int v18, .int v19, .int v20, .int v21, .int v22, .int v23, .int v24, .int v25, .int v26, .int v27, .int v28, j29] [.int s0] h =
  mv_run X call m_L_law 486 [.ref a0, .ref a1, .ref a2, .int v3, .int v4, .int v5, .long w6, .retAddr 0, .int v8, .int v9, .int v10, .int v11, .int v12, .int v13, .int v14, .int v15, .int v16, .int v17, .int v18, .int v19, .int v20, .int v21, .int v22, .int v23, .int v24, .int v25, .int v26, .int v27, .int v28, j29] [.int (nZ 1), .int s0] h :=
  (s_iconst i_L_law_481).trans <| (s_goto i_L_law_482).trans <| rfl
theorem bk_L_law_485 (X : mv_X) (call : mv_G) (h : mv_H) (a0 : Nat) (a1 : Nat) (a2 : Nat) (v3 : Int32) (v4 : Int32) (v5 : Int32) (w6 : Int64) (v8 : Int32) (v9 : Int32) (v10 : Int32) (v11 : Int32) (v12 : Int32) (v13 : Int32) (v14 : Int32) (v15 : Int32) (v16 : Int32) (v17 : Int32) (v18 : Int32) (v19 : Int32) (v20 : Int32) (v21 : Int32) (v22 : Int32) (v23 : Int32) (v24 : Int32) (v25 : Int32) (v26 : Int32) (v27 : Int32) (v28 : Int32) (j29 : Value) (s0 : Int32) : mv_run X call m_L_law 485 [.ref a0, .ref a1, .ref a2, .int v3, .int v4, .int v5, .long w6, .retAddr 0, .int v8, .int v9, .int v10, .int v11, .int v12, .int v13, .int v14, .int v15, .int v16, .int v17, .int v18, .int v19, .int v20, .int v21, .int v22, .int v23, .int v24, .int v25, .int v26, .int v27, .int v28, j29] [.int s0] h =
  mv_run X call m_L_law 486 [.ref a0, .ref a1, .ref a2, .int v3, .int v4, .int v5, .long w6, .retAddr 0, .int v8, .int v9, .int v10, .int v11, .int v12, .int v13, .int v14, .int v15, .int v16, .int v17, .int v18, .int v19, .int v20, .int v21, .int v22, .int v23, .int v24, .int v25, .int v26, .int v27, .int v28, j29] [.int (nZ 0), .int s0] h :=
  (s_iconst i_L_law_485).trans <| rfl
theorem bk_L_law_486 (X : mv_X) (call : mv_G) (h : mv_H) (a0 : Nat) (a1 : Nat) (a2 : Nat) (v3 : Int32) (v4 : Int32) (v5 : Int32) (w6 : Int64) (v8 : Int32) (v9 : Int32) (v10 : Int32) (v11 : Int32) (v12 : Int32) (v13 : Int32) (v14 : Int32) (v15 : Int32) (v16 : Int32) (v17 : Int32) (v18 : Int32) (v19 : Int32) (v20 : Int32) (v21 : Int32) (v22 : Int32) (v23 : Int32) (v24 : Int32) (v25 : Int32) (v26 : Int32) (v27 : Int32) (v28 : Int32) (j29 : Value) (s0 : Int32) (s1 : Int32) : mv_run X call m_L_law 486 [.ref a0, .ref a1, .ref a2, .int v3, .int v4, .int v5, .long w6, .retAddr 0, .int v8, .int v9, .int v10, .int v11, .int v12, .int v13, .int v14, .int v15, .int v16, .int v17, .int v18, .int v19, .int v20, .int v21, .int v22, .int v23, .int v24, .int v25, .int v26, .int v27, .int v28, j29] [.int s0, .int s1] h =
  if v27 = 0 then 
  (mv_run X call m_L_law 547 [.ref a0, .ref a1, .ref a2, .int v3, .int v4, .int v5, .long w6, .retAddr 0, .int v8, .int v9, .int v10, .int v11, .int v12, .int v13, .int v14, .int v15, .int v16, .int v17, .int v18, .int v19, .int v20, .int v21, .int v22, .int v23, .int v24, .int v25, .int v26, .int v27, .int (s1 &&& s0), j29] [.int (s1 &&& s0)] h)
  else (if v9 < (nZ 21) then 
    (mv_run X call m_L_law 547 [.ref a0, .ref a1, .ref a2, .int v3, .int v4, .int v5, .long w6, .retAddr 0, .int v8, .int v9, .int v10, .int v11, .int v12, .int v13, .int v14, .int v15, .int v16, .int v17, .int v18, .int v19, .int v20, .int v21, .int v22, .int v23, .int v24, .int v25, .int v26, .int v27, .int (s1 &&& s0), j29] [.int (s1 &&& s0)] h)
    else (if (nZ 22) < v9 then 
      (mv_run X call m_L_law 547 [.ref a0, .ref a1, .ref a2, .int v3, .int v4, .int v5, .long w6, .retAddr 0, .int v8, .int v9, .int v10, .int v11, .int v12, .int v13, .int v14, .int v15, .int v16, .int v17, .int v18, .int v19, .int v20, .int v21, .int v22, .int v23, .int v24, .int v25, .int v26, .int v27, .int (s1 &&& s0), j29] [.int (s1 &&& s0)] h)
      else (mv_rcv X h [.ref a1] 12 (mv_clI call 121 [.ref a1] h mv_raise fun x1 h1 =>
        if x1 = (v20 + v25) then 
        (mv_clI call 348 [.ref a1, .int v10] h1 mv_raise fun x2 h2 =>
          if x2 = (v15 - v25) then 
          (mv_clI call 349 [.ref a1, .int v10] h2 mv_raise fun x3 h3 =>
            if x3 < v11 then 
            (mv_run X call m_L_law 551 [.ref a0, .ref a1, .ref a2, .int v3, .int v4, .int v5, .long w6, .retAddr 0, .int v8, .int v9, .int v10, .int v11, .int v12, .int v13, .int v14, .int v15, .int v16, .int v17, .int v18, .int v19, .int v20, .int v21, .int v22, .int v23, .int v24, .int v25, .int v26, .int v27, .int (s1 &&& s0), j29] [.int (s1 &&& s0)] h3)
            else (mv_run X call m_L_law 547 [.ref a0, .ref a1, .ref a2, .int v3, .int v4, .int v5, .long w6, .retAddr 0, .int v8, .int v9, .int v10, .int v11, .int v12, .int v13, .int v14, .int v15, .int v16, .int v17, .int v18, .int v19, .int v20, .int v21, .int v22, .int v23, .int v24, .int v25, .int v26, .int v27, .int (s1 &&& s0), j29] [.int (s1 &&& s0)] h3))
          else (mv_run X call m_L_law 551 [.ref a0, .ref a1, .ref a2, .int v3, .int v4, .int v5, .long w6, .retAddr 0, .int v8, .int v9, .int v10, .int v11, .int v12, .int v13, .int v14, .int v15, .int v16, .int v17, .int v18, .int v19, .int v20, .int v21, .int v22, .int v23, .int v24, .int v25, .int v26, .int v27, .int (s1 &&& s0), j29] [.int (s1 &&& s0)] h2))
        else (mv_run X call m_L_law 551 [.ref a0, .ref a1, .ref a2, .int v3, .int v4, .int v5, .long w6, .retAddr 0, .int v8, .int v9, .int v10, .int v11, .int v12, .int v13, .int v14, .int v15, .int v16, .int v17, .int v18, .int v19, .int v20, .int v21, .int v22, .int v23, .int v24, .int v25, .int v26, .int v27, .int (s1 &&& s0), j29] [.int (s1 &&& s0)] h1))))) :=
  (s_iand i_L_law_486).trans <| (s_istore (ls2 := [.ref a0, .ref a1, .ref a2, .int v3, .int v4, .int v5, .long w6, .retAddr 0, .int v8, .int v9, .int v10, .int v11, .int v12, .int v13, .int v14, .int v15, .int v16, .int v17, .int v18, .int v19, .int v20, .int v21, .int v22, .int v23, .int v24, .int v25, .int v26, .int v27, .int (s1 &&& s0), j29]) i_L_law_487 (fun _ => rfl)).trans <| (s_iload i_L_law_489 rfl).trans <| (s_iload i_L_law_491 rfl).trans <| (s_if_eq i_L_law_493).trans <| c_ite (rfl) ((s_iload i_L_law_496 rfl).trans <| (s_bipush i_L_law_498).trans <| (s_icmp_lt i_L_law_500).trans <| c_ite (rfl) ((s_iload i_L_law_503 rfl).trans <| (s_bipush i_L_law_505).trans <| (s_icmp_gt i_L_law_507).trans <| c_ite (rfl) ((s_aload_n i_L_law_510 rfl).trans <| (s_v1 [.ref a1] [.int (s1 &&& s0)] i_L_law_511 rfl (fun _ => rfl)).trans <| c_rcv <| c_clI fun x1 h1 => (s_iload i_L_law_514 rfl).trans <| (s_iload i_L_law_516 rfl).trans <| (s_iadd i_L_law_518).trans <| (s_icmp_ne i_L_law_519).trans <| c_ite ((s_aload_n i_L_law_522 rfl).trans <| (s_iload i_L_law_523 rfl).trans <| (s_s1 [.ref a1, .int v10] [.int (s1 &&& s0)] i_L_law_525 rfl (fun _ => rfl)).trans <| c_clI fun x2 h2 => (s_iload i_L_law_528 rfl).trans <| (s_iload i_L_law_530 rfl).trans <| (s_isub i_L_law_532).trans <| (s_icmp_ne i_L_law_533).trans <| c_ite ((s_aload_n i_L_law_536 rfl).trans <| (s_iload i_L_law_537 rfl).trans <| (s_s1 [.ref a1, .int v10] [.int (s1 &&& s0)] i_L_law_539 rfl (fun _ => rfl)).trans <| c_clI fun x3 h3 => (s_iload i_L_law_542 rfl).trans <| (s_icmp_lt i_L_law_544).trans <| c_ite (rfl) (rfl)) (rfl)) (rfl))))
theorem bk_L_law_547 (X : mv_X) (call : mv_G) (h : mv_H) (a0 : Nat) (a1 : Nat) (a2 : Nat) (v3 : Int32) (v4 : Int32) (v5 : Int32) (w6 : Int64) (v8 : Int32) (v9 : Int32) (v10 : Int32) (v11 : Int32) (v12 : Int32) (v13 : Int32) (v14 : Int32) (v15 : Int32) (v16 : Int32) (v17 : Int32) (v18 : Int32) (v19 : Int32) (v20 : Int32) (v21 : Int32) (v22 : Int32) (v23 : Int32) (v24 : Int32) (v25 : Int32) (v26 : Int32) (v27 : Int32) (v28 : Int32) (j29 : Value) (s0 : Int32) : mv_run X call m_L_law 547 [.ref a0, .ref a1, .ref a2, .int v3, .int v4, .int v5, .long w6, .retAddr 0, .int v8, .int v9, .int v10, .int v11, .int v12, .int v13, .int v14, .int v15, .int v16, .int v17, .int v18, .int v19, .int v20, .int v21, .int v22, .int v23, .int v24, .int v25, .int v26, .int v27, .int v28, j29] [.int s0] h =
  mv_run X call m_L_law 552 [.ref a0, .ref a1, .ref a2, .int v3, .int v4, .int v5, .long w6, .retAddr 0, .int v8, .int v9, .int v10, .int v11, .int v12, .int v13, .int v14, .int v15, .int v16, .int v17, .int v18, .int v19, .int v20, .int v21, .int v22, .int v23, .int v24, .int v25, .int v26, .int v27, .int v28, j29] [.int (nZ 1), .int s0] h :=
  (s_iconst i_L_law_547).trans <| (s_goto i_L_law_548).trans <| rfl
theorem bk_L_law_551 (X : mv_X) (call : mv_G) (h : mv_H) (a0 : Nat) (a1 : Nat) (a2 : Nat) (v3 : Int32) (v4 : Int32) (v5 : Int32) (w6 : Int64) (v8 : Int32) (v9 : Int32) (v10 : Int32) (v11 : Int32) (v12 : Int32) (v13 : Int32) (v14 : Int32) (v15 : Int32) (v16 : Int32) (v17 : Int32) (v18 : Int32) (v19 : Int32) (v20 : Int32) (v21 : Int32) (v22 : Int32) (v23 : Int32) (v24 : Int32) (v25 : Int32) (v26 : Int32) (v27 : Int32) (v28 : Int32) (j29 : Value) (s0 : Int32) : mv_run X call m_L_law 551 [.ref a0, .ref a1, .ref a2, .int v3, .int v4, .int v5, .long w6, .retAddr 0, .int v8, .int v9, .int v10, .int v11, .int v12, .int v13, .int v14, .int v15, .int v16, .int v17, .int v18, .int v19, .int v20, .int v21, .int v22, .int v23, .int v24, .int v25, .int v26, .int v27, .int v28, j29] [.int s0] h =
  mv_run X call m_L_law 552 [.ref a0, .ref a1, .ref a2, .int v3, .int v4, .int v5, .long w6, .retAddr 0, .int v8, .int v9, .int v10, .int v11, .int v12, .int v13, .int v14, .int v15, .int v16, .int v17, .int v18, .int v19, .int v20, .int v21, .int v22, .int v23, .int v24, .int v25, .int v26, .int v27, .int v28, j29] [.int (nZ 0), .int s0] h :=
  (s_iconst i_L_law_551).trans <| rfl
theorem bk_L_law_552 (X : mv_X) (call : mv_G) (h : mv_H) (a0 : Nat) (a1 : Nat) (a2 : Nat) (v3 : Int32) (v4 : Int32) (v5 : Int32) (w6 : Int64) (v8 : Int32) (v9 : Int32) (v10 : Int32) (v11 : Int32) (v12 : Int32) (v13 : Int32) (v14 : Int32) (v15 : Int32) (v16 : Int32) (v17 : Int32) (v18 : Int32) (v19 : Int32) (v20 : Int32) (v21 : Int32) (v22 : Int32) (v23 : Int32) (v24 : Int32) (v25 : Int32) (v26 : Int32) (v27 : Int32) (v28 : Int32) (j29 : Value) (s0 : Int32) (s1 : Int32) : mv_run X call m_L_law 552 [.ref a0, .ref a1, .ref a2, .int v3, .int v4, .int v5, .long w6, .retAddr 0, .int v8, .int v9, .int v10, .int v11, .int v12, .int v13, .int v14, .int v15, .int v16, .int v17, .int v18, .int v19, .int v20, .int v21, .int v22, .int v23, .int v24, .int v25, .int v26, .int v27, .int v28, j29] [.int s0, .int s1] h =
  if v9 < (nZ 23) then 
  (mv_run X call m_L_law 708 [.ref a0, .ref a1, .ref a2, .int v3, .int v4, .int v5, .long w6, .retAddr 0, .int v8, .int v9, .int v10, .int v11, .int v12, .int v13, .int v14, .int v15, .int v16, .int v17, .int v18, .int v19, .int v20, .int v21, .int v22, .int v23, .int v24, .int v25, .int v26, .int v27, .int (s1 &&& s0), j29] [.int (s1 &&& s0)] h)
  else (if (nZ 27) < v9 then 
    (mv_run X call m_L_law 708 [.ref a0, .ref a1, .ref a2, .int v3, .int v4, .int v5, .long w6, .retAddr 0, .int v8, .int v9, .int v10, .int v11, .int v12, .int v13, .int v14, .int v15, .int v16, .int v17, .int v18, .int v19, .int v20, .int v21, .int v22, .int v23, .int v24, .int v25, .int v26, .int v27, .int (s1 &&& s0), j29] [.int (s1 &&& s0)] h)
    else (if v27 = 0 then 
      (if v25 = (nZ (-75)) then 
        (if v11 = (nZ (-75)) then 
          (mv_run X call m_L_law 708 [.ref a0, .ref a1, .ref a2, .int v3, .int v4, .int v5, .long w6, .retAddr 0, .int v8, .int v9, .int v10, .int v11, .int v12, .int v13, .int v14, .int v15, .int v16, .int v17, .int v18, .int v19, .int v20, .int v21, .int v22, .int v23, .int v24, .int v25, .int v26, .int v27, .int (s1 &&& s0), j29] [.int (s1 &&& s0)] h)
          else (mv_run X call m_L_law 712 [.ref a0, .ref a1, .ref a2, .int v3, .int v4, .int v5, .long w6, .retAddr 0, .int v8, .int v9, .int v10, .int v11, .int v12, .int v13, .int v14, .int v15, .int v16, .int v17, .int v18, .int v19, .int v20, .int v21, .int v22, .int v23, .int v24, .int v25, .int v26, .int v27, .int (s1 &&& s0), j29] [.int (s1 &&& s0)] h))
        else (if v25 = (nZ (-76)) then 
          (mv_clI call 375 [.ref a1] h mv_raise fun x1 h1 =>
            if x1 = (nZ 4) then 
            (if v11 < v12 then 
              (mv_run X call m_L_law 712 [.ref a0, .ref a1, .ref a2, .int v3, .int v4, .int v5, .long w6, .retAddr 0, .int v8, .int v9, .int v10, .int v11, .int v12, .int v13, .int v14, .int v15, .int v16, .int v17, .int v18, .int v19, .int v20, .int v21, .int v22, .int v23, .int v24, .int v25, .int v26, .int v27, .int (s1 &&& s0), j29] [.int (s1 &&& s0)] h1)
              else (mv_clI call 376 [.ref a1] h1 mv_raise fun x2 h2 =>
                if x2 = v11 then 
                (if v13 = 0 then 
                  (mv_run X call m_L_law 708 [.ref a0, .ref a1, .ref a2, .int v3, .int v4, .int v5, .long w6, .retAddr 0, .int v8, .int v9, .int v10, .int v11, .int v12, .int v13, .int v14, .int v15, .int v16, .int v17, .int v18, .int v19, .int v20, .int v21, .int v22, .int v23, .int v24, .int v25, .int v26, .int v27, .int (s1 &&& s0), j29] [.int (s1 &&& s0)] h2)
                  else (mv_run X call m_L_law 712 [.ref a0, .ref a1, .ref a2, .int v3, .int v4, .int v5, .long w6, .retAddr 0, .int v8, .int v9, .int v10, .int v11, .int v12, .int v13, .int v14, .int v15, .int v16, .int v17, .int v18, .int v19, .int v20, .int v21, .int v22, .int v23, .int v24, .int v25, .int v26, .int v27, .int (s1 &&& s0), j29] [.int (s1 &&& s0)] h2))
                else (mv_run X call m_L_law 712 [.ref a0, .ref a1, .ref a2, .int v3, .int v4, .int v5, .long w6, .retAddr 0, .int v8, .int v9, .int v10, .int v11, .int v12, .int v13, .int v14, .int v15, .int v16, .int v17, .int v18, .int v19, .int v20, .int v21, .int v22, .int v23, .int v24, .int v25, .int v26, .int v27, .int (s1 &&& s0), j29] [.int (s1 &&& s0)] h2)))
            else (mv_clI call 375 [.ref a1] h1 mv_raise fun x3 h3 =>
              if x3 = (nZ 3) then 
              (if v13 = (nZ (-75)) then 
                (mv_clI call 376 [.ref a1] h3 mv_raise fun x4 h4 =>
                  if v12 ≤ x4 then 
                  (mv_run X call m_L_law 712 [.ref a0, .ref a1, .ref a2, .int v3, .int v4, .int v5, .long w6, .retAddr 0, .int v8, .int v9, .int v10, .int v11, .int v12, .int v13, .int v14, .int v15, .int v16, .int v17, .int v18, .int v19, .int v20, .int v21, .int v22, .int v23, .int v24, .int v25, .int v26, .int v27, .int (s1 &&& s0), j29] [.int (s1 &&& s0)] h4)
                  else (mv_run X call m_L_law 708 [.ref a0, .ref a1, .ref a2, .int v3, .int v4, .int v5, .long w6, .retAddr 0, .int v8, .int v9, .int v10, .int v11, .int v12, .int v13, .int v14, .int v15, .int v16, .int v17, .int v18, .int v19, .int v20, .int v21, .int v22, .int v23, .int v24, .int v25, .int v26, .int v27, .int (s1 &&& s0), j29] [.int (s1 &&& s0)] h4))
                else (mv_run X call m_L_law 712 [.ref a0, .ref a1, .ref a2, .int v3, .int v4, .int v5, .long w6, .retAddr 0, .int v8, .int v9, .int v10, .int v11, .int v12, .int v13, .int v14, .int v15, .int v16, .int v17, .int v18, .int v19, .int v20, .int v21, .int v22, .int v23, .int v24, .int v25, .int v26, .int v27, .int (s1 &&& s0), j29] [.int (s1 &&& s0)] h3))
              else (mv_run X call m_L_law 712 [.ref a0, .ref a1, .ref a2, .int v3, .int v4, .int v5, .long w6, .retAddr 0, .int v8, .int v9, .int v10, .int v11, .int v12, .int v13, .int v14, .int v15, .int v16, .int v17, .int v18, .int v19, .int v20, .int v21, .int v22, .int v23, .int v24, .int v25, .int v26, .int v27, .int (s1 &&& s0), j29] [.int (s1 &&& s0)] h3)))
          else (mv_run X call m_L_law 712 [.ref a0, .ref a1, .ref a2, .int v3, .int v4, .int v5, .long w6, .retAddr 0, .int v8, .int v9, .int v10, .int v11, .int v12, .int v13, .int v14, .int v15, .int v16, .int v17, .int v18, .int v19, .int v20, .int v21, .int v22, .int v23, .int v24, .int v25, .int v26, .int v27, .int (s1 &&& s0), j29] [.int (s1 &&& s0)] h)))
      else (if v25 = v13 then 
        (if v13 ≤ 0 then 
          (mv_run X call m_L_law 712 [.ref a0, .ref a1, .ref a2, .int v3, .int v4, .int v5, .long w6, .retAddr 0, .int v8, .int v9, .int v10, .int v11, .int v12, .int v13, .int v14, .int v15, .int v16, .int v17, .int v18, .int v19, .int v20, .int v21, .int v22, .int v23, .int v24, .int v25, .int v26, .int v27, .int (s1 &&& s0), j29] [.int (s1 &&& s0)] h)
          else (mv_rcv X h [.ref a1] 12 (mv_clI call 121 [.ref a1] h mv_raise fun x5 h5 =>
            if x5 = (v20 + v14) then 
            (mv_clI call 348 [.ref a1, .int v10] h5 mv_raise fun x6 h6 =>
              if x6 = (v15 - v14) then 
              (mv_clI call 349 [.ref a1, .int v10] h6 mv_raise fun x7 h7 =>
                if x7 < v12 then 
                (mv_run X call m_L_law 712 [.ref a0, .ref a1, .ref a2, .int v3, .int v4, .int v5, .long w6, .retAddr 0, .int v8, .int v9, .int v10, .int v11, .int v12, .int v13, .int v14, .int v15, .int v16, .int v17, .int v18, .int v19, .int v20, .int v21, .int v22, .int v23, .int v24, .int v25, .int v26, .int v27, .int (s1 &&& s0), j29] [.int (s1 &&& s0)] h7)
                else (mv_run X call m_L_law 708 [.ref a0, .ref a1, .ref a2, .int v3, .int v4, .int v5, .long w6, .retAddr 0, .int v8, .int v9, .int v10, .int v11, .int v12, .int v13, .int v14, .int v15, .int v16, .int v17, .int v18, .int v19, .int v20, .int v21, .int v22, .int v23, .int v24, .int v25, .int v26, .int v27, .int (s1 &&& s0), j29] [.int (s1 &&& s0)] h7))
              else (mv_run X call m_L_law 712 [.ref a0, .ref a1, .ref a2, .int v3, .int v4, .int v5, .long w6, .retAddr 0, .int v8, .int v9, .int v10, .int v11, .int v12, .int v13, .int v14, .int v15, .int v16, .int v17, .int v18, .int v19, .int v20, .int v21, .int v22, .int v23, .int v24, .int v25, .int v26, .int v27, .int (s1 &&& s0), j29] [.int (s1 &&& s0)] h6))
            else (mv_run X call m_L_law 712 [.ref a0, .ref a1, .ref a2, .int v3, .int v4, .int v5, .long w6, .retAddr 0, .int v8, .int v9, .int v10, .int v11, .int v12, .int v13, .int v14, .int v15, .int v16, .int v17, .int v18, .int v19, .int v20, .int v21, .int v22, .int v23, .int v24, .int v25, .int v26, .int v27, .int (s1 &&& s0), j29] [.int (s1 &&& s0)] h5))))
        else (mv_run X call m_L_law 712 [.ref a0, .ref a1, .ref a2, .int v3, .int v4, .int v5, .long w6, .retAddr 0, .int v8, .int v9, .int v10, .int v11, .int v12, .int v13, .int v14, .int v15, .int v16, .int v17, .int v18, .int v19, .int v20, .int v21, .int v22, .int v23, .int v24, .int v25, .int v26, .int v27, .int (s1 &&& s0), j29] [.int (s1 &&& s0)] h)))) :=
  (s_iand i_L_law_552).trans <| (s_istore (ls2 := [.ref a0, .ref a1, .ref a2, .int v3, .int v4, .int v5, .long w6, .retAddr 0, .int v8, .int v9, .int v10, .int v11, .int v12, .int v13, .int v14, .int v15, .int v16, .int v17, .int v18, .int v19, .int v20, .int v21, .int v22, .int v23, .int v24, .int v25, .int v26, .int v27, .int (s1 &&& s0), j29]) i_L_law_553 (fun _ => rfl)).trans <| (s_iload i_L_law_555 rfl).trans <| (s_iload i_L_law_557 rfl).trans <| (s_bipush i_L_law_559).trans <| (s_icmp_lt i_L_law_561).trans <| c_ite (rfl) ((s_iload i_L_law_564 rfl).trans <| (s_bipush i_L_law_566).trans <| (s_icmp_gt i_L_law_568).trans <| c_ite (rfl) ((s_iload i_L_law_571 rfl).trans <| (s_if_eq i_L_law_573).trans <| c_ite ((s_iload i_L_law_628 rfl).trans <| (s_bipush i_L_law_630).trans <| (s_icmp_ne i_L_law_632).trans <| c_ite ((s_iload i_L_law_635 rfl).trans <| (s_bipush i_L_law_637).trans <| (s_icmp_ne i_L_law_639).trans <| c_ite ((s_goto i_L_law_642).trans <| rfl) (rfl)) ((s_iload i_L_law_645 rfl).trans <| (s_bipush i_L_law_647).trans <| (s_icmp_ne i_L_law_649).trans <| c_ite ((s_aload_n i_L_law_652 rfl).trans <| (s_s1 [.ref a1] [.int (s1 &&& s0)] i_L_law_653 rfl (fun _ => rfl)).trans <| c_clI fun x1 h1 => (s_iconst i_L_law_656).trans <| (s_icmp_ne i_L_law_657).trans <| c_ite ((s_iload i_L_law_660 rfl).trans <| (s_iload i_L_law_662 rfl).trans <| (s_icmp_lt i_L_law_664).trans <| c_ite (rfl) ((s_aload_n i_L_law_667 rfl).trans <| (s_s1 [.ref a1] [.int (s1 &&& s0)] i_L_law_668 rfl (fun _ => rfl)).trans <| c_clI fun x2 h2 => (s_iload i_L_law_671 rfl).trans <| (s_icmp_ne i_L_law_673).trans <| c_ite ((s_iload i_L_law_676 rfl).trans <| (s_if_ne i_L_law_678).trans <| c_ite ((s_goto i_L_law_681).trans <| rfl) (rfl)) (rfl))) ((s_aload_n i_L_law_684 rfl).trans <| (s_s1 [.ref a1] [.int (s1 &&& s0)] i_L_law_685 rfl (fun _ => rfl)).trans <| c_clI fun x3 h3 => (s_iconst i_L_law_688).trans <| (s_icmp_ne i_L_law_689).trans <| c_ite ((s_iload i_L_law_692 rfl).trans <| (s_bipush i_L_law_694).trans <| (s_icmp_ne i_L_law_696).trans <| c_ite ((s_aload_n i_L_law_699 rfl).trans <| (s_s1 [.ref a1] [.int (s1 &&& s0)] i_L_law_700 rfl (fun _ => rfl)).trans <| c_clI fun x4 h4 => (s_iload i_L_law_703 rfl).trans <| (s_icmp_ge i_L_law_705).trans <| c_ite (rfl) (rfl)) (rfl)) (rfl))) (rfl))) ((s_iload i_L_law_576 rfl).trans <| (s_iload i_L_law_578 rfl).trans <| (s_icmp_ne i_L_law_580).trans <| c_ite ((s_iload i_L_law_583 rfl).trans <| (s_if_le i_L_law_585).trans <| c_ite (rfl) ((s_aload_n i_L_law_588 rfl).trans <| (s_v1 [.ref a1] [.int (s1 &&& s0)] i_L_law_589 rfl (fun _ => rfl)).trans <| c_rcv <| c_clI fun x5 h5 => (s_iload i_L_law_592 rfl).trans <| (s_iload i_L_law_594 rfl).trans <| (s_iadd i_L_law_596).trans <| (s_icmp_ne i_L_law_597).trans <| c_ite ((s_aload_n i_L_law_600 rfl).trans <| (s_iload i_L_law_601 rfl).trans <| (s_s1 [.ref a1, .int v10] [.int (s1 &&& s0)] i_L_law_603 rfl (fun _ => rfl)).trans <| c_clI fun x6 h6 => (s_iload i_L_law_606 rfl).trans <| (s_iload i_L_law_608 rfl).trans <| (s_isub i_L_law_610).trans <| (s_icmp_ne i_L_law_611).trans <| c_ite ((s_aload_n i_L_law_614 rfl).trans <| (s_iload i_L_law_615 rfl).trans <| (s_s1 [.ref a1, .int v10] [.int (s1 &&& s0)] i_L_law_617 rfl (fun _ => rfl)).trans <| c_clI fun x7 h7 => (s_iload i_L_law_620 rfl).trans <| (s_icmp_lt i_L_law_622).trans <| c_ite (rfl) ((s_goto i_L_law_625).trans <| rfl)) (rfl)) (rfl))) (rfl))))
theorem bk_L_law_708 (X : mv_X) (call : mv_G) (h : mv_H) (a0 : Nat) (a1 : Nat) (a2 : Nat) (v3 : Int32) (v4 : Int32) (v5 : Int32) (w6 : Int64) (v8 : Int32) (v9 : Int32) (v10 : Int32) (v11 : Int32) (v12 : Int32) (v13 : Int32) (v14 : Int32) (v15 : Int32) (v16 : Int32) (v17 : Int32) (v18 : Int32) (v19 : Int32) (v20 : Int32) (v21 : Int32) (v22 : Int32) (v23 : Int32) (v24 : Int32) (v25 : Int32) (v26 : Int32) (v27 : Int32) (v28 : Int32) (j29 : Value) (s0 : Int32) : mv_run X call m_L_law 708 [.ref a0, .ref a1, .ref a2, .int v3, .int v4, .int v5, .long w6, .retAddr 0, .int v8, .int v9, .int v10, .int v11, .int v12, .int v13, .int v14, .int v15, .int v16, .int v17, .int v18, .int v19, .int v20, .int v21, .int v22, .int v23, .int v24, .int v25, .int v26, .int v27, .int v28, j29] [.int s0] h =
  mv_run X call m_L_law 713 [.ref a0, .ref a1, .ref a2, .int v3, .int v4, .int v5, .long w6, .retAddr 0, .int v8, .int v9, .int v10, .int v11, .int v12, .int v13, .int v14, .int v15, .int v16, .int v17, .int v18, .int v19, .int v20, .int v21, .int v22, .int v23, .int v24, .int v25, .int v26, .int v27, .int v28, j29] [.int (nZ 1), .int s0] h :=
  (s_iconst i_L_law_708).trans <| (s_goto i_L_law_709).trans <| rfl
theorem bk_L_law_712 (X : mv_X) (call : mv_G) (h : mv_H) (a0 : Nat) (a1 : Nat) (a2 : Nat) (v3 : Int32) (v4 : Int32) (v5 : Int32) (w6 : Int64) (v8 : Int32) (v9 : Int32) (v10 : Int32) (v11 : Int32) (v12 : Int32) (v13 : Int32) (v14 : Int32) (v15 : Int32) (v16 : Int32) (v17 : Int32) (v18 : Int32) (v19 : Int32) (v20 : Int32) (v21 : Int32) (v22 : Int32) (v23 : Int32) (v24 : Int32) (v25 : Int32) (v26 : Int32) (v27 : Int32) (v28 : Int32) (j29 : Value) (s0 : Int32) : mv_run X call m_L_law 712 [.ref a0, .ref a1, .ref a2, .int v3, .int v4, .int v5, .long w6, .retAddr 0, .int v8, .int v9, .int v10, .int v11, .int v12, .int v13, .int v14, .int v15, .int v16, .int v17, .int v18, .int v19, .int v20, .int v21, .int v22, .int v23, .int v24, .int v25, .int v26, .int v27, .int v28, j29] [.int s0] h =
  mv_run X call m_L_law 713 [.ref a0, .ref a1, .ref a2, .int v3, .int v4, .int v5, .long w6, .retAddr 0, .int v8, .int v9, .int v10, .int v11, .int v12, .int v13, .int v14, .int v15, .int v16, .int v17, .int v18, .int v19, .int v20, .int v21, .int v22, .int v23, .int v24, .int v25, .int v26, .int v27, .int v28, j29] [.int (nZ 0), .int s0] h :=
  (s_iconst i_L_law_712).trans <| rfl
theorem bk_L_law_713 (X : mv_X) (call : mv_G) (h : mv_H) (a0 : Nat) (a1 : Nat) (a2 : Nat) (v3 : Int32) (v4 : Int32) (v5 : Int32) (w6 : Int64) (v8 : Int32) (v9 : Int32) (v10 : Int32) (v11 : Int32) (v12 : Int32) (v13 : Int32) (v14 : Int32) (v15 : Int32) (v16 : Int32) (v17 : Int32) (v18 : Int32) (v19 : Int32) (v20 : Int32) (v21 : Int32) (v22 : Int32) (v23 : Int32) (v24 : Int32) (v25 : Int32) (v26 : Int32) (v27 : Int32) (v28 : Int32) (j29 : Value) (s0 : Int32) (s1 : Int32) : mv_run X call m_L_law 713 [.ref a0, .ref a1, .ref a2, .int v3, .int v4, .int v5, .long w6, .retAddr 0, .int v8, .int v9, .int v10, .int v11, .int v12, .int v13, .int v14, .int v15, .int v16, .int v17, .int v18, .int v19, .int v20, .int v21, .int v22, .int v23, .int v24, .int v25, .int v26, .int v27, .int v28, j29] [.int s0, .int s1] h =
  if v27 = 0 then 
  (mv_run X call m_L_law 755 [.ref a0, .ref a1, .ref a2, .int v3, .int v4, .int v5, .long w6, .retAddr 0, .int v8, .int v9, .int v10, .int v11, .int v12, .int v13, .int v14, .int v15, .int v16, .int v17, .int v18, .int v19, .int v20, .int v21, .int v22, .int v23, .int v24, .int v25, .int v26, .int v27, .int (s1 &&& s0), j29] [.int (s1 &&& s0)] h)
  else (if v9 < (nZ 32) then 
    (mv_run X call m_L_law 755 [.ref a0, .ref a1, .ref a2, .int v3, .int v4, .int v5, .long w6, .retAddr 0, .int v8, .int v9, .int v10, .int v11, .int v12, .int v13, .int v14, .int v15, .int v16, .int v17, .int v18, .int v19, .int v20, .int v21, .int v22, .int v23, .int v24, .int v25, .int v26, .int v27, .int (s1 &&& s0), j29] [.int (s1 &&& s0)] h)
    else (if (nZ 35) < v9 then 
      (mv_run X call m_L_law 755 [.ref a0, .ref a1, .ref a2, .int v3, .int v4, .int v5, .long w6, .retAddr 0, .int v8, .int v9, .int v10, .int v11, .int v12, .int v13, .int v14, .int v15, .int v16, .int v17, .int v18, .int v19, .int v20, .int v21, .int v22, .int v23, .int v24, .int v25, .int v26, .int v27, .int (s1 &&& s0), j29] [.int (s1 &&& s0)] h)
      else (if v25 = v24 then 
        (mv_rcv X h [.ref a1] 12 (mv_clI call 110 [.ref a1] h mv_raise fun x1 h1 =>
          if x1 = (v24 + (nZ 1)) then 
          (mv_run X call m_L_law 755 [.ref a0, .ref a1, .ref a2, .int v3, .int v4, .int v5, .long w6, .retAddr 0, .int v8, .int v9, .int v10, .int v11, .int v12, .int v13, .int v14, .int v15, .int v16, .int v17, .int v18, .int v19, .int v20, .int v21, .int v22, .int v23, .int v24, .int v25, .int v26, .int v27, .int (s1 &&& s0), j29] [.int (s1 &&& s0)] h1)
          else (mv_run X call m_L_law 759 [.ref a0, .ref a1, .ref a2, .int v3, .int v4, .int v5, .long w6, .retAddr 0, .int v8, .int v9, .int v10, .int v11, .int v12, .int v13, .int v14, .int v15, .int v16, .int v17, .int v18, .int v19, .int v20, .int v21, .int v22, .int v23, .int v24, .int v25, .int v26, .int v27, .int (s1 &&& s0), j29] [.int (s1 &&& s0)] h1)))
        else (mv_run X call m_L_law 759 [.ref a0, .ref a1, .ref a2, .int v3, .int v4, .int v5, .long w6, .retAddr 0, .int v8, .int v9, .int v10, .int v11, .int v12, .int v13, .int v14, .int v15, .int v16, .int v17, .int v18, .int v19, .int v20, .int v21, .int v22, .int v23, .int v24, .int v25, .int v26, .int v27, .int (s1 &&& s0), j29] [.int (s1 &&& s0)] h)))) :=
  (s_iand i_L_law_713).trans <| (s_istore (ls2 := [.ref a0, .ref a1, .ref a2, .int v3, .int v4, .int v5, .long w6, .retAddr 0, .int v8, .int v9, .int v10, .int v11, .int v12, .int v13, .int v14, .int v15, .int v16, .int v17, .int v18, .int v19, .int v20, .int v21, .int v22, .int v23, .int v24, .int v25, .int v26, .int v27, .int (s1 &&& s0), j29]) i_L_law_714 (fun _ => rfl)).trans <| (s_iload i_L_law_716 rfl).trans <| (s_iload i_L_law_718 rfl).trans <| (s_if_eq i_L_law_720).trans <| c_ite (rfl) ((s_iload i_L_law_723 rfl).trans <| (s_bipush i_L_law_725).trans <| (s_icmp_lt i_L_law_727).trans <| c_ite (rfl) ((s_iload i_L_law_730 rfl).trans <| (s_bipush i_L_law_732).trans <| (s_icmp_gt i_L_law_734).trans <| c_ite (rfl) ((s_iload i_L_law_737 rfl).trans <| (s_iload i_L_law_739 rfl).trans <| (s_icmp_ne i_L_law_741).trans <| c_ite ((s_aload_n i_L_law_744 rfl).trans <| (s_v1 [.ref a1] [.int (s1 &&& s0)] i_L_law_745 rfl (fun _ => rfl)).trans <| c_rcv <| c_clI fun x1 h1 => (s_iload i_L_law_748 rfl).trans <| (s_iconst i_L_law_750).trans <| (s_iadd i_L_law_751).trans <| (s_icmp_ne i_L_law_752).trans <| c_ite (rfl) (rfl)) (rfl))))
theorem bk_L_law_755 (X : mv_X) (call : mv_G) (h : mv_H) (a0 : Nat) (a1 : Nat) (a2 : Nat) (v3 : Int32) (v4 : Int32) (v5 : Int32) (w6 : Int64) (v8 : Int32) (v9 : Int32) (v10 : Int32) (v11 : Int32) (v12 : Int32) (v13 : Int32) (v14 : Int32) (v15 : Int32) (v16 : Int32) (v17 : Int32) (v18 : Int32) (v19 : Int32) (v20 : Int32) (v21 : Int32) (v22 : Int32) (v23 : Int32) (v24 : Int32) (v25 : Int32) (v26 : Int32) (v27 : Int32) (v28 : Int32) (j29 : Value) (s0 : Int32) : mv_run X call m_L_law 755 [.ref a0, .ref a1, .ref a2, .int v3, .int v4, .int v5, .long w6, .retAddr 0, .int v8, .int v9, .int v10, .int v11, .int v12, .int v13, .int v14, .int v15, .int v16, .int v17, .int v18, .int v19, .int v20, .int v21, .int v22, .int v23, .int v24, .int v25, .int v26, .int v27, .int v28, j29] [.int s0] h =
  mv_run X call m_L_law 760 [.ref a0, .ref a1, .ref a2, .int v3, .int v4, .int v5, .long w6, .retAddr 0, .int v8, .int v9, .int v10, .int v11, .int v12, .int v13, .int v14, .int v15, .int v16, .int v17, .int v18, .int v19, .int v20, .int v21, .int v22, .int v23, .int v24, .int v25, .int v26, .int v27, .int v28, j29] [.int (nZ 1), .int s0] h :=
  (s_iconst i_L_law_755).trans <| (s_goto i_L_law_756).trans <| rfl
theorem bk_L_law_759 (X : mv_X) (call : mv_G) (h : mv_H) (a0 : Nat) (a1 : Nat) (a2 : Nat) (v3 : Int32) (v4 : Int32) (v5 : Int32) (w6 : Int64) (v8 : Int32) (v9 : Int32) (v10 : Int32) (v11 : Int32) (v12 : Int32) (v13 : Int32) (v14 : Int32) (v15 : Int32) (v16 : Int32) (v17 : Int32) (v18 : Int32) (v19 : Int32) (v20 : Int32) (v21 : Int32) (v22 : Int32) (v23 : Int32) (v24 : Int32) (v25 : Int32) (v26 : Int32) (v27 : Int32) (v28 : Int32) (j29 : Value) (s0 : Int32) : mv_run X call m_L_law 759 [.ref a0, .ref a1, .ref a2, .int v3, .int v4, .int v5, .long w6, .retAddr 0, .int v8, .int v9, .int v10, .int v11, .int v12, .int v13, .int v14, .int v15, .int v16, .int v17, .int v18, .int v19, .int v20, .int v21, .int v22, .int v23, .int v24, .int v25, .int v26, .int v27, .int v28, j29] [.int s0] h =
  mv_run X call m_L_law 760 [.ref a0, .ref a1, .ref a2, .int v3, .int v4, .int v5, .long w6, .retAddr 0, .int v8, .int v9, .int v10, .int v11, .int v12, .int v13, .int v14, .int v15, .int v16, .int v17, .int v18, .int v19, .int v20, .int v21, .int v22, .int v23, .int v24, .int v25, .int v26, .int v27, .int v28, j29] [.int (nZ 0), .int s0] h :=
  (s_iconst i_L_law_759).trans <| rfl
theorem bk_L_law_760 (X : mv_X) (call : mv_G) (h : mv_H) (a0 : Nat) (a1 : Nat) (a2 : Nat) (v3 : Int32) (v4 : Int32) (v5 : Int32) (w6 : Int64) (v8 : Int32) (v9 : Int32) (v10 : Int32) (v11 : Int32) (v12 : Int32) (v13 : Int32) (v14 : Int32) (v15 : Int32) (v16 : Int32) (v17 : Int32) (v18 : Int32) (v19 : Int32) (v20 : Int32) (v21 : Int32) (v22 : Int32) (v23 : Int32) (v24 : Int32) (v25 : Int32) (v26 : Int32) (v27 : Int32) (v28 : Int32) (j29 : Value) (s0 : Int32) (s1 : Int32) : mv_run X call m_L_law 760 [.ref a0, .ref a1, .ref a2, .int v3, .int v4, .int v5, .long w6, .retAddr 0, .int v8, .int v9, .int v10, .int v11, .int v12, .int v13, .int v14, .int v15, .int v16, .int v17, .int v18, .int v19, .int v20, .int v21, .int v22, .int v23, .int v24, .int v25, .int v26, .int v27, .int v28, j29] [.int s0, .int s1] h =
  if v27 = 0 then 
  (mv_run X call m_L_law 786 [.ref a0, .ref a1, .ref a2, .int v3, .int v4, .int v5, .long w6, .retAddr 0, .int v8, .int v9, .int v10, .int v11, .int v12, .int v13, .int v14, .int v15, .int v16, .int v17, .int v18, .int v19, .int v20, .int v21, .int v22, .int v23, .int v24, .int v25, .int v26, .int v27, .int (s1 &&& s0), j29] [] h)
  else (if v9 ≤ (nZ 36) then 
    (mv_run X call m_L_law 786 [.ref a0, .ref a1, .ref a2, .int v3, .int v4, .int v5, .long w6, .retAddr 0, .int v8, .int v9, .int v10, .int v11, .int v12, .int v13, .int v14, .int v15, .int v16, .int v17, .int v18, .int v19, .int v20, .int v21, .int v22, .int v23, .int v24, .int v25, .int v26, .int v27, .int (s1 &&& s0), j29] [] h)
    else (if (nZ 44) ≤ v9 then 
      (mv_run X call m_L_law 786 [.ref a0, .ref a1, .ref a2, .int v3, .int v4, .int v5, .long w6, .retAddr 0, .int v8, .int v9, .int v10, .int v11, .int v12, .int v13, .int v14, .int v15, .int v16, .int v17, .int v18, .int v19, .int v20, .int v21, .int v22, .int v23, .int v24, .int v25, .int v26, .int v27, .int (s1 &&& s0), j29] [] h)
      else (mv_run X call m_L_law 787 [.ref a0, .ref a1, .ref a2, .int v3, .int v4, .int v5, .long w6, .retAddr 0, .int v8, .int v9, .int v10, .int v11, .int v12, .int v13, .int v14, .int v15, .int v16, .int v17, .int v18, .int v19, .int v20, .int v21, .int v22, .int v23, .int v24, .int v25, .int v26, .int v27, .int (s1 &&& s0), j29] [.int (nZ 1)] h))) :=
  (s_iand i_L_law_760).trans <| (s_istore (ls2 := [.ref a0, .ref a1, .ref a2, .int v3, .int v4, .int v5, .long w6, .retAddr 0, .int v8, .int v9, .int v10, .int v11, .int v12, .int v13, .int v14, .int v15, .int v16, .int v17, .int v18, .int v19, .int v20, .int v21, .int v22, .int v23, .int v24, .int v25, .int v26, .int v27, .int (s1 &&& s0), j29]) i_L_law_761 (fun _ => rfl)).trans <| (s_iload i_L_law_763 rfl).trans <| (s_if_eq i_L_law_765).trans <| c_ite (rfl) ((s_iload i_L_law_768 rfl).trans <| (s_bipush i_L_law_770).trans <| (s_icmp_le i_L_law_772).trans <| c_ite (rfl) ((s_iload i_L_law_775 rfl).trans <| (s_bipush i_L_law_777).trans <| (s_icmp_ge i_L_law_779).trans <| c_ite (rfl) ((s_iconst i_L_law_782).trans <| (s_goto i_L_law_783).trans <| rfl)))
theorem bk_L_law_786 (X : mv_X) (call : mv_G) (h : mv_H) (a0 : Nat) (a1 : Nat) (a2 : Nat) (v3 : Int32) (v4 : Int32) (v5 : Int32) (w6 : Int64) (v8 : Int32) (v9 : Int32) (v10 : Int32) (v11 : Int32) (v12 : Int32) (v13 : Int32) (v14 : Int32) (v15 : Int32) (v16 : Int32) (v17 : Int32) (v18 : Int32) (v19 : Int32) (v20 : Int32) (v21 : Int32) (v22 : Int32) (v23 : Int32) (v24 : Int32) (v25 : Int32) (v26 : Int32) (v27 : Int32) (v28 : Int32) (j29 : Value) : mv_run X call m_L_law 786 [.ref a0, .ref a1, .ref a2, .int v3, .int v4, .int v5, .long w6, .retAddr 0, .int v8, .int v9, .int v10, .int v11, .int v12, .int v13, .int v14, .int v15, .int v16, .int v17, .int v18, .int v19, .int v20, .int v21, .int v22, .int v23, .int v24, .int v25, .int v26, .int v27, .int v28, j29] [] h =
  mv_run X call m_L_law 787 [.ref a0, .ref a1, .ref a2, .int v3, .int v4, .int v5, .long w6, .retAddr 0, .int v8, .int v9, .int v10, .int v11, .int v12, .int v13, .int v14, .int v15, .int v16, .int v17, .int v18, .int v19, .int v20, .int v21, .int v22, .int v23, .int v24, .int v25, .int v26, .int v27, .int v28, j29] [.int (nZ 0)] h :=
  (s_iconst i_L_law_786).trans <| rfl
theorem bk_L_law_787 (X : mv_X) (call : mv_G) (h : mv_H) (a0 : Nat) (a1 : Nat) (a2 : Nat) (v3 : Int32) (v4 : Int32) (v5 : Int32) (w6 : Int64) (v8 : Int32) (v9 : Int32) (v10 : Int32) (v11 : Int32) (v12 : Int32) (v13 : Int32) (v14 : Int32) (v15 : Int32) (v16 : Int32) (v17 : Int32) (v18 : Int32) (v19 : Int32) (v20 : Int32) (v21 : Int32) (v22 : Int32) (v23 : Int32) (v24 : Int32) (v25 : Int32) (v26 : Int32) (v27 : Int32) (v28 : Int32) (j29 : Value) (s0 : Int32) : mv_run X call m_L_law 787 [.ref a0, .ref a1, .ref a2, .int v3, .int v4, .int v5, .long w6, .retAddr 0, .int v8, .int v9, .int v10, .int v11, .int v12, .int v13, .int v14, .int v15, .int v16, .int v17, .int v18, .int v19, .int v20, .int v21, .int v22, .int v23, .int v24, .int v25, .int v26, .int v27, .int v28, j29] [.int s0] h =
  if s0 = 0 then 
  (mv_run X call m_L_law 878 [.ref a0, .ref a1, .ref a2, .int v3, .int v4, .int v5, .long w6, .retAddr 0, .int v8, .int v9, .int v10, .int v11, .int v12, .int v13, .int v14, .int v15, .int v16, .int v17, .int v18, .int v19, .int v20, .int v21, .int v22, .int v23, .int v24, .int v25, .int v26, .int v27, .int v28, .int s0] [.int v28] h)
  else (mv_rcv X h [.ref a1] 12 (mv_clI call 118 [.ref a1] h mv_raise fun x1 h1 =>
    if x1 = (v22 + v25) then 
    (mv_rcv X h1 [.ref a1] 12 (mv_clI call 86 [.ref a1] h1 mv_raise fun x2 h2 =>
      if x2 = (v18 - v25) then 
      (mv_rcv X h2 [.ref a1] 12 (mv_clI call 117 [.ref a1] h2 mv_raise fun x3 h3 =>
        if x3 ≤ v23 then 
        (mv_run X call m_L_law 882 [.ref a0, .ref a1, .ref a2, .int v3, .int v4, .int v5, .long w6, .retAddr 0, .int v8, .int v9, .int v10, .int v11, .int v12, .int v13, .int v14, .int v15, .int v16, .int v17, .int v18, .int v19, .int v20, .int v21, .int v22, .int v23, .int v24, .int v25, .int v26, .int v27, .int v28, .int s0] [.int v28] h3)
        else (mv_rcv X h3 [.ref a1] 12 (mv_clI call 122 [.ref a1] h3 mv_raise fun x4 h4 =>
          if x4 < v19 then 
          (mv_run X call m_L_law 882 [.ref a0, .ref a1, .ref a2, .int v3, .int v4, .int v5, .long w6, .retAddr 0, .int v8, .int v9, .int v10, .int v11, .int v12, .int v13, .int v14, .int v15, .int v16, .int v17, .int v18, .int v19, .int v20, .int v21, .int v22, .int v23, .int v24, .int v25, .int v26, .int v27, .int v28, .int s0] [.int v28] h4)
          else (mv_rcv X h4 [.ref a1] 12 (mv_clI call 117 [.ref a1] h4 mv_raise fun x5 h5 =>
            if x5 = (v23 + (nZ 1)) then 
            (mv_run X call m_L_law 857 [.ref a0, .ref a1, .ref a2, .int v3, .int v4, .int v5, .long w6, .retAddr 0, .int v8, .int v9, .int v10, .int v11, .int v12, .int v13, .int v14, .int v15, .int v16, .int v17, .int v18, .int v19, .int v20, .int v21, .int v22, .int v23, .int v24, .int v25, .int v26, .int v27, .int v28, .int s0] [.int v17, .int v25, .int v28] h5)
            else (mv_run X call m_L_law 857 [.ref a0, .ref a1, .ref a2, .int v3, .int v4, .int v5, .long w6, .retAddr 0, .int v8, .int v9, .int v10, .int v11, .int v12, .int v13, .int v14, .int v15, .int v16, .int v17, .int v18, .int v19, .int v20, .int v21, .int v22, .int v23, .int v24, .int v25, .int v26, .int v27, .int v28, .int s0] [.int (nZ 0), .int v25, .int v28] h5)))))))
      else (mv_run X call m_L_law 882 [.ref a0, .ref a1, .ref a2, .int v3, .int v4, .int v5, .long w6, .retAddr 0, .int v8, .int v9, .int v10, .int v11, .int v12, .int v13, .int v14, .int v15, .int v16, .int v17, .int v18, .int v19, .int v20, .int v21, .int v22, .int v23, .int v24, .int v25, .int v26, .int v27, .int v28, .int s0] [.int v28] h2)))
    else (mv_run X call m_L_law 882 [.ref a0, .ref a1, .ref a2, .int v3, .int v4, .int v5, .long w6, .retAddr 0, .int v8, .int v9, .int v10, .int v11, .int v12, .int v13, .int v14, .int v15, .int v16, .int v17, .int v18, .int v19, .int v20, .int v21, .int v22, .int v23, .int v24, .int v25, .int v26, .int v27, .int v28, .int s0] [.int v28] h1))) :=
  (s_istore (ls2 := [.ref a0, .ref a1, .ref a2, .int v3, .int v4, .int v5, .long w6, .retAddr 0, .int v8, .int v9, .int v10, .int v11, .int v12, .int v13, .int v14, .int v15, .int v16, .int v17, .int v18, .int v19, .int v20, .int v21, .int v22, .int v23, .int v24, .int v25, .int v26, .int v27, .int v28, .int s0]) i_L_law_787 (fun _ => rfl)).trans <| (s_iload i_L_law_789 rfl).trans <| (s_iload i_L_law_791 rfl).trans <| (s_if_eq i_L_law_793).trans <| c_ite (rfl) ((s_aload_n i_L_law_796 rfl).trans <| (s_v1 [.ref a1] [.int v28] i_L_law_797 rfl (fun _ => rfl)).trans <| c_rcv <| c_clI fun x1 h1 => (s_iload i_L_law_800 rfl).trans <| (s_iload i_L_law_802 rfl).trans <| (s_iadd i_L_law_804).trans <| (s_icmp_ne i_L_law_805).trans <| c_ite ((s_aload_n i_L_law_808 rfl).trans <| (s_v1 [.ref a1] [.int v28] i_L_law_809 rfl (fun _ => rfl)).trans <| c_rcv <| c_clI fun x2 h2 => (s_iload i_L_law_812 rfl).trans <| (s_iload i_L_law_814 rfl).trans <| (s_isub i_L_law_816).trans <| (s_icmp_ne i_L_law_817).trans <| c_ite ((s_aload_n i_L_law_820 rfl).trans <| (s_v1 [.ref a1] [.int v28] i_L_law_821 rfl (fun _ => rfl)).trans <| c_rcv <| c_clI fun x3 h3 => (s_iload i_L_law_824 rfl).trans <| (s_icmp_le i_L_law_826).trans <| c_ite (rfl) ((s_aload_n i_L_law_829 rfl).trans <| (s_v1 [.ref a1] [.int v28] i_L_law_830 rfl (fun _ => rfl)).trans <| c_rcv <| c_clI fun x4 h4 => (s_iload i_L_law_833 rfl).trans <| (s_icmp_lt i_L_law_835).trans <| c_ite (rfl) ((s_iload i_L_law_838 rfl).trans <| (s_aload_n i_L_law_840 rfl).trans <| (s_v1 [.ref a1] [.int v25, .int v28] i_L_law_841 rfl (fun _ => rfl)).trans <| c_rcv <| c_clI fun x5 h5 => (s_iload i_L_law_844 rfl).trans <| (s_iconst i_L_law_846).trans <| (s_iadd i_L_law_847).trans <| (s_icmp_ne i_L_law_848).trans <| c_ite ((s_iload i_L_law_851 rfl).trans <| (s_goto i_L_law_853).trans <| rfl) ((s_iconst i_L_law_856).trans <| rfl)))) (rfl)) (rfl))
theorem bk_L_law_857 (X : mv_X) (call : mv_G) (h : mv_H) (a0 : Nat) (a1 : Nat) (a2 : Nat) (v3 : Int32) (v4 : Int32) (v5 : Int32) (w6 : Int64) (v8 : Int32) (v9 : Int32) (v10 : Int32) (v11 : Int32) (v12 : Int32) (v13 : Int32) (v14 : Int32) (v15 : Int32) (v16 : Int32) (v17 : Int32) (v18 : Int32) (v19 : Int32) (v20 : Int32) (v21 : Int32) (v22 : Int32) (v23 : Int32) (v24 : Int32) (v25 : Int32) (v26 : Int32) (v27 : Int32) (v28 : Int32) (v29 : Int32) (s0 : Int32) (s1 : Int32) (s2 : Int32) : mv_run X call m_L_law 857 [.ref a0, .ref a1, .ref a2, .int v3, .int v4, .int v5, .long w6, .retAddr 0, .int v8, .int v9, .int v10, .int v11, .int v12, .int v13, .int v14, .int v15, .int v16, .int v17, .int v18, .int v19, .int v20, .int v21, .int v22, .int v23, .int v24, .int v25, .int v26, .int v27, .int v28, .int v29] [.int s0, .int s1, .int s2] h =
  if s1 < s0 then 
  (mv_run X call m_L_law 882 [.ref a0, .ref a1, .ref a2, .int v3, .int v4, .int v5, .long w6, .retAddr 0, .int v8, .int v9, .int v10, .int v11, .int v12, .int v13, .int v14, .int v15, .int v16, .int v17, .int v18, .int v19, .int v20, .int v21, .int v22, .int v23, .int v24, .int v25, .int v26, .int v27, .int v28, .int v29] [.int s2] h)
  else (mv_rcv X h [.ref a1] 12 (mv_clI call 117 [.ref a1] h mv_raise fun x1 h1 =>
    if (v23 + (nZ 1)) < x1 then 
    (mv_run X call m_L_law 878 [.ref a0, .ref a1, .ref a2, .int v3, .int v4, .int v5, .long w6, .retAddr 0, .int v8, .int v9, .int v10, .int v11, .int v12, .int v13, .int v14, .int v15, .int v16, .int v17, .int v18, .int v19, .int v20, .int v21, .int v22, .int v23, .int v24, .int v25, .int v26, .int v27, .int v28, .int v29] [.int s2] h1)
    else (if v25 = v17 then 
      (mv_run X call m_L_law 878 [.ref a0, .ref a1, .ref a2, .int v3, .int v4, .int v5, .long w6, .retAddr 0, .int v8, .int v9, .int v10, .int v11, .int v12, .int v13, .int v14, .int v15, .int v16, .int v17, .int v18, .int v19, .int v20, .int v21, .int v22, .int v23, .int v24, .int v25, .int v26, .int v27, .int v28, .int v29] [.int s2] h1)
      else (mv_run X call m_L_law 882 [.ref a0, .ref a1, .ref a2, .int v3, .int v4, .int v5, .long w6, .retAddr 0, .int v8, .int v9, .int v10, .int v11, .int v12, .int v13, .int v14, .int v15, .int v16, .int v17, .int v18, .int v19, .int v20, .int v21, .int v22, .int v23, .int v24, .int v25, .int v26, .int v27, .int v28, .int v29] [.int s2] h1)))) :=
  (s_icmp_lt i_L_law_857).trans <| c_ite (rfl) ((s_aload_n i_L_law_860 rfl).trans <| (s_v1 [.ref a1] [.int s2] i_L_law_861 rfl (fun _ => rfl)).trans <| c_rcv <| c_clI fun x1 h1 => (s_iload i_L_law_864 rfl).trans <| (s_iconst i_L_law_866).trans <| (s_iadd i_L_law_867).trans <| (s_icmp_gt i_L_law_868).trans <| c_ite (rfl) ((s_iload i_L_law_871 rfl).trans <| (s_iload i_L_law_873 rfl).trans <| (s_icmp_ne i_L_law_875).trans <| c_ite (rfl) (rfl)))
theorem bk_L_law_878 (X : mv_X) (call : mv_G) (h : mv_H) (a0 : Nat) (a1 : Nat) (a2 : Nat) (v3 : Int32) (v4 : Int32) (v5 : Int32) (w6 : Int64) (v8 : Int32) (v9 : Int32) (v10 : Int32) (v11 : Int32) (v12 : Int32) (v13 : Int32) (v14 : Int32) (v15 : Int32) (v16 : Int32) (v17 : Int32) (v18 : Int32) (v19 : Int32) (v20 : Int32) (v21 : Int32) (v22 : Int32) (v23 : Int32) (v24 : Int32) (v25 : Int32) (v26 : Int32) (v27 : Int32) (v28 : Int32) (v29 : Int32) (s0 : Int32) : mv_run X call m_L_law 878 [.ref a0, .ref a1, .ref a2, .int v3, .int v4, .int v5, .long w6, .retAddr 0, .int v8, .int v9, .int v10, .int v11, .int v12, .int v13, .int v14, .int v15, .int v16, .int v17, .int v18, .int v19, .int v20, .int v21, .int v22, .int v23, .int v24, .int v25, .int v26, .int v27, .int v28, .int v29] [.int s0] h =
  mv_run X call m_L_law 883 [.ref a0, .ref a1, .ref a2, .int v3, .int v4, .int v5, .long w6, .retAddr 0, .int v8, .int v9, .int v10, .int v11, .int v12, .int v13, .int v14, .int v15, .int v16, .int v17, .int v18, .int v19, .int v20, .int v21, .int v22, .int v23, .int v24, .int v25, .int v26, .int v27, .int v28, .int v29] [.int (nZ 1), .int s0] h :=
  (s_iconst i_L_law_878).trans <| (s_goto i_L_law_879).trans <| rfl
theorem bk_L_law_882 (X : mv_X) (call : mv_G) (h : mv_H) (a0 : Nat) (a1 : Nat) (a2 : Nat) (v3 : Int32) (v4 : Int32) (v5 : Int32) (w6 : Int64) (v8 : Int32) (v9 : Int32) (v10 : Int32) (v11 : Int32) (v12 : Int32) (v13 : Int32) (v14 : Int32) (v15 : Int32) (v16 : Int32) (v17 : Int32) (v18 : Int32) (v19 : Int32) (v20 : Int32) (v21 : Int32) (v22 : Int32) (v23 : Int32) (v24 : Int32) (v25 : Int32) (v26 : Int32) (v27 : Int32) (v28 : Int32) (v29 : Int32) (s0 : Int32) : mv_run X call m_L_law 882 [.ref a0, .ref a1, .ref a2, .int v3, .int v4, .int v5, .long w6, .retAddr 0, .int v8, .int v9, .int v10, .int v11, .int v12, .int v13, .int v14, .int v15, .int v16, .int v17, .int v18, .int v19, .int v20, .int v21, .int v22, .int v23, .int v24, .int v25, .int v26, .int v27, .int v28, .int v29] [.int s0] h =
  mv_run X call m_L_law 883 [.ref a0, .ref a1, .ref a2, .int v3, .int v4, .int v5, .long w6, .retAddr 0, .int v8, .int v9, .int v10, .int v11, .int v12, .int v13, .int v14, .int v15, .int v16, .int v17, .int v18, .int v19, .int v20, .int v21, .int v22, .int v23, .int v24, .int v25, .int v26, .int v27, .int v28, .int v29] [.int (nZ 0), .int s0] h :=
  (s_iconst i_L_law_882).trans <| rfl
theorem bk_L_law_883 (X : mv_X) (call : mv_G) (h : mv_H) (a0 : Nat) (a1 : Nat) (a2 : Nat) (v3 : Int32) (v4 : Int32) (v5 : Int32) (w6 : Int64) (v8 : Int32) (v9 : Int32) (v10 : Int32) (v11 : Int32) (v12 : Int32) (v13 : Int32) (v14 : Int32) (v15 : Int32) (v16 : Int32) (v17 : Int32) (v18 : Int32) (v19 : Int32) (v20 : Int32) (v21 : Int32) (v22 : Int32) (v23 : Int32) (v24 : Int32) (v25 : Int32) (v26 : Int32) (v27 : Int32) (v28 : Int32) (v29 : Int32) (s0 : Int32) (s1 : Int32) : mv_run X call m_L_law 883 [.ref a0, .ref a1, .ref a2, .int v3, .int v4, .int v5, .long w6, .retAddr 0, .int v8, .int v9, .int v10, .int v11, .int v12, .int v13, .int v14, .int v15, .int v16, .int v17, .int v18, .int v19, .int v20, .int v21, .int v22, .int v23, .int v24, .int v25, .int v26, .int v27, .int v28, .int v29] [.int s0, .int s1] h =
  if v29 = 0 then 
  (if (nZ 43) < v9 then 
    (mv_run X call m_L_law 927 [.ref a0, .ref a1, .ref a2, .int v3, .int v4, .int v5, .long w6, .retAddr 0, .int v8, .int v9, .int v10, .int v11, .int v12, .int v13, .int v14, .int v15, .int v16, .int v17, .int v18, .int v19, .int v20, .int v21, .int v22, .int v23, .int v24, .int v25, .int v26, .int v27, .int (s1 &&& s0), .int v29] [.int (s1 &&& s0)] h)
    else (mv_rcv X h [.ref a1] 12 (mv_clI call 117 [.ref a1] h mv_raise fun x1 h1 =>
      if x1 = v23 then 
      (mv_rcv X h1 [.ref a1] 12 (mv_clI call 118 [.ref a1] h1 mv_raise fun x2 h2 =>
        if x2 = v22 then 
        (mv_rcv X h2 [.ref a1] 12 (mv_clI call 122 [.ref a1] h2 mv_raise fun x3 h3 =>
          if x3 = v19 then 
          (mv_run X call m_L_law 927 [.ref a0, .ref a1, .ref a2, .int v3, .int v4, .int v5, .long w6, .retAddr 0, .int v8, .int v9, .int v10, .int v11, .int v12, .int v13, .int v14, .int v15, .int v16, .int v17, .int v18, .int v19, .int v20, .int v21, .int v22, .int v23, .int v24, .int v25, .int v26, .int v27, .int (s1 &&& s0), .int v29] [.int (s1 &&& s0)] h3)
          else (mv_run X call m_L_law 931 [.ref a0, .ref a1, .ref a2, .int v3, .int v4, .int v5, .long w6, .retAddr 0, .int v8, .int v9, .int v10, .int v11, .int v12, .int v13, .int v14, .int v15, .int v16, .int v17, .int v18, .int v19, .int v20, .int v21, .int v22, .int v23, .int v24, .int v25, .int v26, .int v27, .int (s1 &&& s0), .int v29] [.int (s1 &&& s0)] h3)))
        else (mv_run X call m_L_law 931 [.ref a0, .ref a1, .ref a2, .int v3, .int v4, .int v5, .long w6, .retAddr 0, .int v8, .int v9, .int v10, .int v11, .int v12, .int v13, .int v14, .int v15, .int v16, .int v17, .int v18, .int v19, .int v20, .int v21, .int v22, .int v23, .int v24, .int v25, .int v26, .int v27, .int (s1 &&& s0), .int v29] [.int (s1 &&& s0)] h2)))
      else (mv_run X call m_L_law 931 [.ref a0, .ref a1, .ref a2, .int v3, .int v4, .int v5, .long w6, .retAddr 0, .int v8, .int v9, .int v10, .int v11, .int v12, .int v13, .int v14, .int v15, .int v16, .int v17, .int v18, .int v19, .int v20, .int v21, .int v22, .int v23, .int v24, .int v25, .int v26, .int v27, .int (s1 &&& s0), .int v29] [.int (s1 &&& s0)] h1))))
  else (mv_run X call m_L_law 927 [.ref a0, .ref a1, .ref a2, .int v3, .int v4, .int v5, .long w6, .retAddr 0, .int v8, .int v9, .int v10, .int v11, .int v12, .int v13, .int v14, .int v15, .int v16, .int v17, .int v18, .int v19, .int v20, .int v21, .int v22, .int v23, .int v24, .int v25, .int v26, .int v27, .int (s1 &&& s0), .int v29] [.int (s1 &&& s0)] h) :=
  (s_iand i_L_law_883).trans <| (s_istore (ls2 := [.ref a0, .ref a1, .ref a2, .int v3, .int v4, .int v5, .long w6, .retAddr 0, .int v8, .int v9, .int v10, .int v11, .int v12, .int v13, .int v14, .int v15, .int v16, .int v17, .int v18, .int v19, .int v20, .int v21, .int v22, .int v23, .int v24, .int v25, .int v26, .int v27, .int (s1 &&& s0), .int v29]) i_L_law_884 (fun _ => rfl)).trans <| (s_iload i_L_law_886 rfl).trans <| (s_iload i_L_law_888 rfl).trans <| (s_if_ne i_L_law_890).trans <| c_ite ((s_iload i_L_law_893 rfl).trans <| (s_bipush i_L_law_895).trans <| (s_icmp_gt i_L_law_897).trans <| c_ite (rfl) ((s_aload_n i_L_law_900 rfl).trans <| (s_v1 [.ref a1] [.int (s1 &&& s0)] i_L_law_901 rfl (fun _ => rfl)).trans <| c_rcv <| c_clI fun x1 h1 => (s_iload i_L_law_904 rfl).trans <| (s_icmp_ne i_L_law_906).trans <| c_ite ((s_aload_n i_L_law_909 rfl).trans <| (s_v1 [.ref a1] [.int (s1 &&& s0)] i_L_law_910 rfl (fun _ => rfl)).trans <| c_rcv <| c_clI fun x2 h2 => (s_iload i_L_law_913 rfl).trans <| (s_icmp_ne i_L_law_915).trans <| c_ite ((s_aload_n i_L_law_918 rfl).trans <| (s_v1 [.ref a1] [.int (s1 &&& s0)] i_L_law_919 rfl (fun _ => rfl)).trans <| c_rcv <| c_clI fun x3 h3 => (s_iload i_L_law_922 rfl).trans <| (s_icmp_ne i_L_law_924).trans <| c_ite (rfl) (rfl)) (rfl)) (rfl))) (rfl)
theorem bk_L_law_927 (X : mv_X) (call : mv_G) (h : mv_H) (a0 : Nat) (a1 : Nat) (a2 : Nat) (v3 : Int32) (v4 : Int32) (v5 : Int32) (w6 : Int64) (v8 : Int32) (v9 : Int32) (v10 : Int32) (v11 : Int32) (v12 : Int32) (v13 : Int32) (v14 : Int32) (v15 : Int32) (v16 : Int32) (v17 : Int32) (v18 : Int32) (v19 : Int32) (v20 : Int32) (v21 : Int32) (v22 : Int32) (v23 : Int32) (v24 : Int32) (v25 : Int32) (v26 : Int32) (v27 : Int32) (v28 : Int32) (v29 : Int32) (s0 : Int32) : mv_run X call m_L_law 927 [.ref a0, .ref a1, .ref a2, .int v3, .int v4, .int v5, .long w6, .retAddr 0, .int v8, .int v9, .int v10, .int v11, .int v12, .int v13, .int v14, .int v15, .int v16, .int v17, .int v18, .int v19, .int v20, .int v21, .int v22, .int v23, .int v24, .int v25, .int v26, .int v27, .int v28, .int v29] [.int s0] h =
  mv_run X call m_L_law 932 [.ref a0, .ref a1, .ref a2, .int v3, .int v4, .int v5, .long w6, .retAddr 0, .int v8, .int v9, .int v10, .int v11, .int v12, .int v13, .int v14, .int v15, .int v16, .int v17, .int v18, .int v19, .int v20, .int v21, .int v22, .int v23, .int v24, .int v25, .int v26, .int v27, .int v28, .int v29] [.int (nZ 1), .int s0] h :=
  (s_iconst i_L_law_927).trans <| (s_goto i_L_law_928).trans <| rfl
theorem bk_L_law_931 (X : mv_X) (call : mv_G) (h : mv_H) (a0 : Nat) (a1 : Nat) (a2 : Nat) (v3 : Int32) (v4 : Int32) (v5 : Int32) (w6 : Int64) (v8 : Int32) (v9 : Int32) (v10 : Int32) (v11 : Int32) (v12 : Int32) (v13 : Int32) (v14 : Int32) (v15 : Int32) (v16 : Int32) (v17 : Int32) (v18 : Int32) (v19 : Int32) (v20 : Int32) (v21 : Int32) (v22 : Int32) (v23 : Int32) (v24 : Int32) (v25 : Int32) (v26 : Int32) (v27 : Int32) (v28 : Int32) (v29 : Int32) (s0 : Int32) : mv_run X call m_L_law 931 [.ref a0, .ref a1, .ref a2, .int v3, .int v4, .int v5, .long w6, .retAddr 0, .int v8, .int v9, .int v10, .int v11, .int v12, .int v13, .int v14, .int v15, .int v16, .int v17, .int v18, .int v19, .int v20, .int v21, .int v22, .int v23, .int v24, .int v25, .int v26, .int v27, .int v28, .int v29] [.int s0] h =
  mv_run X call m_L_law 932 [.ref a0, .ref a1, .ref a2, .int v3, .int v4, .int v5, .long w6, .retAddr 0, .int v8, .int v9, .int v10, .int v11, .int v12, .int v13, .int v14, .int v15, .int v16, .int v17, .int v18, .int v19, .int v20, .int v21, .int v22, .int v23, .int v24, .int v25, .int v26, .int v27, .int v28, .int v29] [.int (nZ 0), .int s0] h :=
  (s_iconst i_L_law_931).trans <| rfl
theorem bk_L_law_932 (X : mv_X) (call : mv_G) (h : mv_H) (a0 : Nat) (a1 : Nat) (a2 : Nat) (v3 : Int32) (v4 : Int32) (v5 : Int32) (w6 : Int64) (v8 : Int32) (v9 : Int32) (v10 : Int32) (v11 : Int32) (v12 : Int32) (v13 : Int32) (v14 : Int32) (v15 : Int32) (v16 : Int32) (v17 : Int32) (v18 : Int32) (v19 : Int32) (v20 : Int32) (v21 : Int32) (v22 : Int32) (v23 : Int32) (v24 : Int32) (v25 : Int32) (v26 : Int32) (v27 : Int32) (v28 : Int32) (v29 : Int32) (s0 : Int32) (s1 : Int32) : mv_run X call m_L_law 932 [.ref a0, .ref a1, .ref a2, .int v3, .int v4, .int v5, .long w6, .retAddr 0, .int v8, .int v9, .int v10, .int v11, .int v12, .int v13, .int v14, .int v15, .int v16, .int v17, .int v18, .int v19, .int v20, .int v21, .int v22, .int v23, .int v24, .int v25, .int v26, .int v27, .int v28, .int v29] [.int s0, .int s1] h =
  if (s1 &&& s0) = 0 then 
  (mv_run X call m_L_law 966 [.ref a0, .ref a1, .ref a2, .int v3, .int (v4 + nZ 5), .int v5, .long w6, .retAddr 0, .int v8, .int v9, .int v10, .int v11, .int v12, .int v13, .int v14, .int v15, .int v16, .int v17, .int v18, .int v19, .int v20, .int v21, .int v22, .int v23, .int v24, .int v25, .int v26, .int v27, .int (s1 &&& s0), .int v29] [] h)
  else (if (nZ 4) = 0 then none else 
    if (v5 - v5 / (nZ 4) * (nZ 4)) = (nZ 3) then 
    (mv_run X call m_L_law 960 [.ref a0, .ref a1, .ref a2, .int v3, .int (v4 + nZ 5), .int v5, .long w6, .retAddr 0, .int v8, .int v9, .int v10, .int v11, .int v12, .int v13, .int v14, .int v15, .int v16, .int v17, .int v18, .int v19, .int v20, .int v21, .int v22, .int v23, .int v24, .int v25, .int v26, .int v27, .int (s1 &&& s0), .int v29] [.int (nZ 1), .int (v4 + nZ 5), .ref a0, .ref a1] h)
    else (mv_run X call m_L_law 960 [.ref a0, .ref a1, .ref a2, .int v3, .int (v4 + nZ 5), .int v5, .long w6, .retAddr 0, .int v8, .int v9, .int v10, .int v11, .int v12, .int v13, .int v14, .int v15, .int v16, .int v17, .int v18, .int v19, .int v20, .int v21, .int v22, .int v23, .int v24, .int v25, .int v26, .int v27, .int (s1 &&& s0), .int v29] [.int (nZ 0), .int (v4 + nZ 5), .ref a0, .ref a1] h)) :=
  (s_iand i_L_law_932).trans <| (s_istore (ls2 := [.ref a0, .ref a1, .ref a2, .int v3, .int v4, .int v5, .long w6, .retAddr 0, .int v8, .int v9, .int v10, .int v11, .int v12, .int v13, .int v14, .int v15, .int v16, .int v17, .int v18, .int v19, .int v20, .int v21, .int v22, .int v23, .int v24, .int v25, .int v26, .int v27, .int (s1 &&& s0), .int v29]) i_L_law_933 (fun _ => rfl)).trans <| (s_iinc (ls2 := [.ref a0, .ref a1, .ref a2, .int v3, .int (v4 + nZ 5), .int v5, .long w6, .retAddr 0, .int v8, .int v9, .int v10, .int v11, .int v12, .int v13, .int v14, .int v15, .int v16, .int v17, .int v18, .int v19, .int v20, .int v21, .int v22, .int v23, .int v24, .int v25, .int v26, .int v27, .int (s1 &&& s0), .int v29]) i_L_law_935 rfl (fun _ => rfl)).trans <| (s_iload i_L_law_938 rfl).trans <| (s_if_eq i_L_law_940).trans <| c_ite (rfl) ((s_aload_n i_L_law_943 rfl).trans <| (s_aload_n i_L_law_944 rfl).trans <| (s_iload i_L_law_945 rfl).trans <| (s_iload i_L_law_947 rfl).trans <| (s_iconst i_L_law_949).trans <| (s_irem i_L_law_950).trans <| c_ite rfl <| (s_iconst i_L_law_951).trans <| (s_icmp_ne i_L_law_952).trans <| c_ite ((s_iconst i_L_law_955).trans <| (s_goto i_L_law_956).trans <| rfl) ((s_iconst i_L_law_959).trans <| rfl))
theorem bk_L_law_960 (X : mv_X) (call : mv_G) (h : mv_H) (a0 : Nat) (a1 : Nat) (a2 : Nat) (v3 : Int32) (v4 : Int32) (v5 : Int32) (w6 : Int64) (v8 : Int32) (v9 : Int32) (v10 : Int32) (v11 : Int32) (v12 : Int32) (v13 : Int32) (v14 : Int32) (v15 : Int32) (v16 : Int32) (v17 : Int32) (v18 : Int32) (v19 : Int32) (v20 : Int32) (v21 : Int32) (v22 : Int32) (v23 : Int32) (v24 : Int32) (v25 : Int32) (v26 : Int32) (v27 : Int32) (v28 : Int32) (v29 : Int32) (s0 : Int32) (s1 : Int32) (s2 : Nat) (s3 : Nat) : mv_run X call m_L_law 960 [.ref a0, .ref a1, .ref a2, .int v3, .int v4, .int v5, .long w6, .retAddr 0, .int v8, .int v9, .int v10, .int v11, .int v12, .int v13, .int v14, .int v15, .int v16, .int v17, .int v18, .int v19, .int v20, .int v21, .int v22, .int v23, .int v24, .int v25, .int v26, .int v27, .int v28, .int v29] [.int s0, .int s1, .ref s2, .ref s3] h =
  mv_clI call 385 [.ref s3, .ref s2, .int s1, .int s0] h mv_raise fun x1 h1 =>
  if x1 = 0 then 
  (mv_run X call m_L_law 966 [.ref a0, .ref a1, .ref a2, .int v3, .int v4, .int v5, .long w6, .retAddr 0, .int v8, .int v9, .int v10, .int v11, .int v12, .int v13, .int v14, .int v15, .int v16, .int v17, .int v18, .int v19, .int v20, .int v21, .int v22, .int v23, .int v24, .int v25, .int v26, .int v27, .int v28, .int v29] [] h1)
  else (if v27 = 0 then 
    (mv_clL call 383 [.ref a1] h1 mv_raise fun l1 h2 =>
      if (lg_cmp l1 w6) = 0 then 
      (mv_rcv X h2 [.ref a1] 12 (mv_clI call 134 [.ref a1] h2 mv_raise fun x2 h3 =>
        if x2 = v8 then 
        (mv_run X call m_L_law 1004 [.ref a0, .ref a1, .ref a2, .int v3, .int v4, .int v5, .long w6, .retAddr 0, .int v8, .int v9, .int v10, .int v11, .int v12, .int v13, .int v14, .int v15, .int v16, .int v17, .int v18, .int v19, .int v20, .int v21, .int v22, .int v23, .int v24, .int v25, .int v26, .int v27, .int v28, .int v29] [] h3)
        else (mv_run X call m_L_law 992 [.ref a0, .ref a1, .ref a2, .int v3, .int v4, .int v5, .long w6, .retAddr 0, .int v8, .int v9, .int v10, .int v11, .int v12, .int v13, .int v14, .int v15, .int v16, .int v17, .int v18, .int v19, .int v20, .int v21, .int v22, .int v23, .int v24, .int v25, .int v26, .int v27, .int v28, .int v29] [] h3)))
      else (mv_run X call m_L_law 992 [.ref a0, .ref a1, .ref a2, .int v3, .int v4, .int v5, .long w6, .retAddr 0, .int v8, .int v9, .int v10, .int v11, .int v12, .int v13, .int v14, .int v15, .int v16, .int v17, .int v18, .int v19, .int v20, .int v21, .int v22, .int v23, .int v24, .int v25, .int v26, .int v27, .int v28, .int v29] [] h2))
    else (mv_clL call 383 [.ref a1] h1 mv_raise fun l2 h4 =>
      mv_as h4 3 a2 (v3 + nZ 1) (.long l2) fun h5 =>
      mv_run X call m_L_law 1004 [.ref a0, .ref a1, .ref a2, .int (v3 + nZ 1), .int v4, .int v5, .long w6, .retAddr 0, .int v8, .int v9, .int v10, .int v11, .int v12, .int v13, .int v14, .int v15, .int v16, .int v17, .int v18, .int v19, .int v20, .int v21, .int v22, .int v23, .int v24, .int v25, .int v26, .int v27, .int v28, .int v29] [] h5)) :=
  (s_s1 [.ref s3, .ref s2, .int s1, .int s0] [] i_L_law_960 rfl (fun _ => rfl)).trans <| c_clI fun x1 h1 => (s_if_ne i_L_law_963).trans <| c_ite (rfl) ((s_iload i_L_law_968 rfl).trans <| (s_if_ne i_L_law_970).trans <| c_ite ((s_aload_n i_L_law_973 rfl).trans <| (s_s3 [.ref a1] [] i_L_law_974 rfl (fun _ => rfl)).trans <| c_clL fun l1 h2 => (s_lload i_L_law_977 rfl).trans <| (s_lcmp i_L_law_979).trans <| (s_if_ne i_L_law_980).trans <| c_ite ((s_aload_n i_L_law_983 rfl).trans <| (s_v1 [.ref a1] [] i_L_law_984 rfl (fun _ => rfl)).trans <| c_rcv <| c_clI fun x2 h3 => (s_iload i_L_law_987 rfl).trans <| (s_icmp_eq i_L_law_989).trans <| c_ite (rfl) (rfl)) (rfl)) ((s_iinc (ls2 := [.ref a0, .ref a1, .ref a2, .int (v3 + nZ 1), .int v4, .int v5, .long w6, .retAddr 0, .int v8, .int v9, .int v10, .int v11, .int v12, .int v13, .int v14, .int v15, .int v16, .int v17, .int v18, .int v19, .int v20, .int v21, .int v22, .int v23, .int v24, .int v25, .int v26, .int v27, .int v28, .int v29]) i_L_law_994 rfl (fun _ => rfl)).trans <| (s_aload_n i_L_law_997 rfl).trans <| (s_iload_n i_L_law_998 rfl).trans <| (s_aload_n i_L_law_999 rfl).trans <| (s_s3 [.ref a1] [.int (v3 + nZ 1), .ref a2] i_L_law_1000 rfl (fun _ => rfl)).trans <| c_clL fun l2 h4 => (s_lastore i_L_law_1003).trans <| c_as fun h5 => rfl))
theorem bk_L_law_966 (X : mv_X) (call : mv_G) (h : mv_H) (a0 : Nat) (a1 : Nat) (a2 : Nat) (v3 : Int32) (v4 : Int32) (v5 : Int32) (w6 : Int64) (v8 : Int32) (v9 : Int32) (v10 : Int32) (v11 : Int32) (v12 : Int32) (v13 : Int32) (v14 : Int32) (v15 : Int32) (v16 : Int32) (v17 : Int32) (v18 : Int32) (v19 : Int32) (v20 : Int32) (v21 : Int32) (v22 : Int32) (v23 : Int32) (v24 : Int32) (v25 : Int32) (v26 : Int32) (v27 : Int32) (v28 : Int32) (v29 : Int32) : mv_run X call m_L_law 966 [.ref a0, .ref a1, .ref a2, .int v3, .int v4, .int v5, .long w6, .retAddr 0, .int v8, .int v9, .int v10, .int v11, .int v12, .int v13, .int v14, .int v15, .int v16, .int v17, .int v18, .int v19, .int v20, .int v21, .int v22, .int v23, .int v24, .int v25, .int v26, .int v27, .int v28, .int v29] [] h =
  (some (.inl (some (.int (nZ 0))), h)) :=
  (s_iconst i_L_law_966).trans <| s_iretb i_L_law_967 rfl
theorem bk_L_law_992 (X : mv_X) (call : mv_G) (h : mv_H) (a0 : Nat) (a1 : Nat) (a2 : Nat) (v3 : Int32) (v4 : Int32) (v5 : Int32) (w6 : Int64) (v8 : Int32) (v9 : Int32) (v10 : Int32) (v11 : Int32) (v12 : Int32) (v13 : Int32) (v14 : Int32) (v15 : Int32) (v16 : Int32) (v17 : Int32) (v18 : Int32) (v19 : Int32) (v20 : Int32) (v21 : Int32) (v22 : Int32) (v23 : Int32) (v24 : Int32) (v25 : Int32) (v26 : Int32) (v27 : Int32) (v28 : Int32) (v29 : Int32) : mv_run X call m_L_law 992 [.ref a0, .ref a1, .ref a2, .int v3, .int v4, .int v5, .long w6, .retAddr 0, .int v8, .int v9, .int v10, .int v11, .int v12, .int v13, .int v14, .int v15, .int v16, .int v17, .int v18, .int v19, .int v20, .int v21, .int v22, .int v23, .int v24, .int v25, .int v26, .int v27, .int v28, .int v29] [] h =
  (some (.inl (some (.int (nZ 0))), h)) :=
  (s_iconst i_L_law_992).trans <| s_iretb i_L_law_993 rfl
theorem bk_L_law_1004 (X : mv_X) (call : mv_G) (h : mv_H) (a0 : Nat) (a1 : Nat) (a2 : Nat) (v3 : Int32) (v4 : Int32) (v5 : Int32) (w6 : Int64) (v8 : Int32) (v9 : Int32) (v10 : Int32) (v11 : Int32) (v12 : Int32) (v13 : Int32) (v14 : Int32) (v15 : Int32) (v16 : Int32) (v17 : Int32) (v18 : Int32) (v19 : Int32) (v20 : Int32) (v21 : Int32) (v22 : Int32) (v23 : Int32) (v24 : Int32) (v25 : Int32) (v26 : Int32) (v27 : Int32) (v28 : Int32) (v29 : Int32) : mv_run X call m_L_law 1004 [.ref a0, .ref a1, .ref a2, .int v3, .int v4, .int v5, .long w6, .retAddr 0, .int v8, .int v9, .int v10, .int v11, .int v12, .int v13, .int v14, .int v15, .int v16, .int v17, .int v18, .int v19, .int v20, .int v21, .int v22, .int v23, .int v24, .int v25, .int v26, .int v27, .int v28, .int v29] [] h =
  mv_run X call m_L_law 28 [.ref a0, .ref a1, .ref a2, .int v3, .int v4, .int (v5 + nZ 1), .long w6, .retAddr 0, .int v8, .int v9, .int v10, .int v11, .int v12, .int v13, .int v14, .int v15, .int v16, .int v17, .int v18, .int v19, .int v20, .int v21, .int v22, .int v23, .int v24, .int v25, .int v26, .int v27, .int v28, .int v29] [] h :=
  (s_iinc (ls2 := [.ref a0, .ref a1, .ref a2, .int v3, .int v4, .int (v5 + nZ 1), .long w6, .retAddr 0, .int v8, .int v9, .int v10, .int v11, .int v12, .int v13, .int v14, .int v15, .int v16, .int v17, .int v18, .int v19, .int v20, .int v21, .int v22, .int v23, .int v24, .int v25, .int v26, .int v27, .int v28, .int v29]) i_L_law_1004 rfl (fun _ => rfl)).trans <| (s_goto i_L_law_1007).trans <| rfl
theorem mc_L_berth (X : mv_X) (d : Nat) (h : mv_H) (a0 : Nat) (v1 : Int32) (v2 : Int32) : mv_call X (d + 1) 381 [.ref a0, .int v1, .int v2] h = mv_run X (mv_call X d) m_L_berth 0 [.ref a0, .int v1, .int v2, .retAddr 0] [] h := rfl
theorem bk_L_berth_0 (X : mv_X) (call : mv_G) (h : mv_H) (a0 : Nat) (v1 : Int32) (v2 : Int32) : mv_run X call m_L_berth 0 [.ref a0, .int v1, .int v2, .retAddr 0] [] h =
  mv_run X call m_L_berth 2 [.ref a0, .int v1, .int v2, .int (nZ 0)] [] h :=
  (s_iconst rfl).trans <| (s_istore_n (ls2 := [.ref a0, .int v1, .int v2, .int (nZ 0)]) rfl (fun _ => rfl)).trans <| rfl
theorem bk_L_berth_2 (X : mv_X) (call : mv_G) (h : mv_H) (a0 : Nat) (v1 : Int32) (v2 : Int32) (v3 : Int32) : mv_run X call m_L_berth 2 [.ref a0, .int v1, .int v2, .int v3] [] h =
  if (nZ 10) ≤ v3 then 
  (mv_run X call m_L_berth 39 [.ref a0, .int v1, .int v2, .int v3] [] h)
  else (if v2 = 0 then 
    (if (nZ 10) = 0 then none else 
      mv_clI call 346 [.ref a0, .int ((v1 + v3) - (v1 + v3) / (nZ 10) * (nZ 10))] h mv_raise fun x1 h1 =>
      if x1 = (nZ 1) then 
      (if (nZ 10) = 0 then none else 
        (some (.inl (some (.int ((v1 + v3) - (v1 + v3) / (nZ 10) * (nZ 10)))), h1)))
      else (mv_run X call m_L_berth 2 [.ref a0, .int v1, .int v2, .int (v3 + nZ 1)] [] h1))
    else (mv_run X call m_L_berth 39 [.ref a0, .int v1, .int v2, .int v3] [] h)) :=
  (s_iload_n rfl rfl).trans <| (s_bipush rfl).trans <| (s_icmp_ge rfl).trans <| c_ite (rfl) ((s_iload_n rfl rfl).trans <| (s_if_ne rfl).trans <| c_ite ((s_aload_n rfl rfl).trans <| (s_iload_n rfl rfl).trans <| (s_iload_n rfl rfl).trans <| (s_iadd rfl).trans <| (s_bipush rfl).trans <| (s_irem rfl).trans <| c_ite rfl <| (s_s1 [.ref a0, .int ((v1 + v3) - (v1 + v3) / (nZ 10) * (nZ 10))] [] rfl rfl (fun _ => rfl)).trans <| c_clI fun x1 h1 => (s_iconst rfl).trans <| (s_icmp_ne rfl).trans <| c_ite ((s_iload_n rfl rfl).trans <| (s_iload_n rfl rfl).trans <| (s_iadd rfl).trans <| (s_bipush rfl).trans <| (s_irem rfl).trans <| c_ite rfl <| s_iret1 rfl rfl) ((s_iinc (ls2 := [.ref a0, .int v1, .int v2, .int (v3 + nZ 1)]) rfl rfl (fun _ => rfl)).trans <| (s_goto rfl).trans <| rfl)) (rfl))
theorem bk_L_berth_39 (X : mv_X) (call : mv_G) (h : mv_H) (a0 : Nat) (v1 : Int32) (v2 : Int32) (v3 : Int32) : mv_run X call m_L_berth 39 [.ref a0, .int v1, .int v2, .int v3] [] h =
  (some (.inl (some (.int v1)), h)) :=
  (s_iload_n rfl rfl).trans <| s_iret1 rfl rfl
theorem mc_L_does (X : mv_X) (d : Nat) (h : mv_H) (a0 : Nat) (v1 : Int32) (v2 : Int32) (a3 : Nat) (v4 : Int32) (v5 : Int32) : mv_call X (d + 1) 382 [.ref a0, .int v1, .int v2, .ref a3, .int v4, .int v5] h = mv_run X (mv_call X d) m_L_does 0 [.ref a0, .int v1, .int v2, .ref a3, .int v4, .int v5, .retAddr 0, .retAddr 0, .retAddr 0] [] h := rfl
theorem i_L_does_0 : mv_look m_L_does.2.2.2.1 32 0 = some (.aload_n 0, 0, []) := by decide +kernel
theorem i_L_does_1 : mv_look m_L_does.2.2.2.1 32 1 = some (.iload_n 1, 0, []) := by decide +kernel
theorem i_L_does_2 : mv_look m_L_does.2.2.2.1 32 2 = some (.iconst 3, 0, []) := by decide +kernel
theorem i_L_does_3 : mv_look m_L_does.2.2.2.1 32 3 = some (.iadd, 0, []) := by decide +kernel
theorem i_L_does_4 : mv_look m_L_does.2.2.2.1 32 4 = some (.sipush 1000, 0, []) := by decide +kernel
theorem i_L_does_7 : mv_look m_L_does.2.2.2.1 32 7 = some (.invokestatic 187, 0, []) := by decide +kernel
theorem i_L_does_10 : mv_look m_L_does.2.2.2.1 32 10 = some (.istore 6, 0, []) := by decide +kernel
theorem i_L_does_12 : mv_look m_L_does.2.2.2.1 32 12 = some (.aload_n 0, 0, []) := by decide +kernel
theorem i_L_does_13 : mv_look m_L_does.2.2.2.1 32 13 = some (.iload_n 1, 0, []) := by decide +kernel
theorem i_L_does_14 : mv_look m_L_does.2.2.2.1 32 14 = some (.iconst 4, 0, []) := by decide +kernel
theorem i_L_does_15 : mv_look m_L_does.2.2.2.1 32 15 = some (.iadd, 0, []) := by decide +kernel
theorem i_L_does_16 : mv_look m_L_does.2.2.2.1 32 16 = some (.sipush 1000, 0, []) := by decide +kernel
theorem i_L_does_19 : mv_look m_L_does.2.2.2.1 32 19 = some (.invokestatic 187, 0, []) := by decide +kernel
theorem i_L_does_22 : mv_look m_L_does.2.2.2.1 32 22 = some (.istore 7, 0, []) := by decide +kernel
theorem i_L_does_24 : mv_look m_L_does.2.2.2.1 32 24 = some (.aload_n 3, 0, []) := by decide +kernel
theorem i_L_does_25 : mv_look m_L_does.2.2.2.1 32 25 = some (.invokevirtual 227, 0, []) := by decide +kernel
theorem i_L_does_28 : mv_look m_L_does.2.2.2.1 32 28 = some (.istore 8, 0, []) := by decide +kernel
theorem i_L_does_30 : mv_look m_L_does.2.2.2.1 32 30 = some (.iload_n 2, 0, []) := by decide +kernel
theorem i_L_does_31 : mv_look m_L_does.2.2.2.1 32 31 = some (.bipush 8, 0, []) := by decide +kernel
theorem i_L_does_33 : mv_look m_L_does.2.2.2.1 32 33 = some (.if_icmp .ge 47, 80, []) := by decide +kernel
theorem i_L_does_36 : mv_look m_L_does.2.2.2.1 32 36 = some (.aload_n 3, 0, []) := by decide +kernel
theorem i_L_does_37 : mv_look m_L_does.2.2.2.1 32 37 = some (.iload 4, 0, []) := by decide +kernel
theorem i_L_does_39 : mv_look m_L_does.2.2.2.1 32 39 = some (.iconst 1, 0, []) := by decide +kernel
theorem i_L_does_40 : mv_look m_L_does.2.2.2.1 32 40 = some (.iload 7, 0, []) := by decide +kernel
theorem i_L_does_42 : mv_look m_L_does.2.2.2.1 32 42 = some (.bipush 99, 0, []) := by decide +kernel
theorem i_L_does_44 : mv_look m_L_does.2.2.2.1 32 44 = some (.irem, 0, []) := by decide +kernel
theorem i_L_does_45 : mv_look m_L_does.2.2.2.1 32 45 = some (.iadd, 0, []) := by decide +kernel
theorem i_L_does_46 : mv_look m_L_does.2.2.2.1 32 46 = some (.iload 6, 0, []) := by decide +kernel
theorem i_L_does_48 : mv_look m_L_does.2.2.2.1 32 48 = some (.bipush 31, 0, []) := by decide +kernel
theorem i_L_does_50 : mv_look m_L_does.2.2.2.1 32 50 = some (.irem, 0, []) := by decide +kernel
theorem i_L_does_51 : mv_look m_L_does.2.2.2.1 32 51 = some (.ifCond .ne 8, 59, []) := by decide +kernel
theorem i_L_does_54 : mv_look m_L_does.2.2.2.1 32 54 = some (.bipush 41, 0, []) := by decide +kernel
theorem i_L_does_56 : mv_look m_L_does.2.2.2.1 32 56 = some (.goto 10, 66, []) := by decide +kernel
theorem i_L_does_59 : mv_look m_L_does.2.2.2.1 32 59 = some (.iconst 1, 0, []) := by decide +kernel
theorem i_L_does_60 : mv_look m_L_does.2.2.2.1 32 60 = some (.iload 6, 0, []) := by decide +kernel
theorem i_L_does_62 : mv_look m_L_does.2.2.2.1 32 62 = some (.bipush 40, 0, []) := by decide +kernel
theorem i_L_does_64 : mv_look m_L_does.2.2.2.1 32 64 = some (.irem, 0, []) := by decide +kernel
theorem i_L_does_65 : mv_look m_L_does.2.2.2.1 32 65 = some (.iadd, 0, []) := by decide +kernel
theorem i_L_does_66 : mv_look m_L_does.2.2.2.1 32 66 = some (.iconst 1, 0, []) := by decide +kernel
theorem i_L_does_67 : mv_look m_L_does.2.2.2.1 32 67 = some (.iload 6, 0, []) := by decide +kernel
theorem i_L_does_69 : mv_look m_L_does.2.2.2.1 32 69 = some (.iload 7, 0, []) := by decide +kernel
theorem i_L_does_71 : mv_look m_L_does.2.2.2.1 32 71 = some (.iadd, 0, []) := by decide +kernel
theorem i_L_does_72 : mv_look m_L_does.2.2.2.1 32 72 = some (.bipush 60, 0, []) := by decide +kernel
theorem i_L_does_74 : mv_look m_L_does.2.2.2.1 32 74 = some (.irem, 0, []) := by decide +kernel
theorem i_L_does_75 : mv_look m_L_does.2.2.2.1 32 75 = some (.iadd, 0, []) := by decide +kernel
theorem i_L_does_76 : mv_look m_L_does.2.2.2.1 32 76 = some (.invokestatic 244, 0, []) := by decide +kernel
theorem i_L_does_79 : mv_look m_L_does.2.2.2.1 32 79 = some (.ireturn, 0, []) := by decide +kernel
theorem i_L_does_80 : mv_look m_L_does.2.2.2.1 32 80 = some (.iload_n 2, 0, []) := by decide +kernel
theorem i_L_does_81 : mv_look m_L_does.2.2.2.1 32 81 = some (.bipush 20, 0, []) := by decide +kernel
theorem i_L_does_83 : mv_look m_L_does.2.2.2.1 32 83 = some (.if_icmp .ge 30, 113, []) := by decide +kernel
theorem i_L_does_86 : mv_look m_L_does.2.2.2.1 32 86 = some (.aload_n 3, 0, []) := by decide +kernel
theorem i_L_does_87 : mv_look m_L_does.2.2.2.1 32 87 = some (.iload 4, 0, []) := by decide +kernel
theorem i_L_does_89 : mv_look m_L_does.2.2.2.1 32 89 = some (.iload 6, 0, []) := by decide +kernel
theorem i_L_does_91 : mv_look m_L_does.2.2.2.1 32 91 = some (.bipush 29, 0, []) := by decide +kernel
theorem i_L_does_93 : mv_look m_L_does.2.2.2.1 32 93 = some (.irem, 0, []) := by decide +kernel
theorem i_L_does_94 : mv_look m_L_does.2.2.2.1 32 94 = some (.ifCond .ne 8, 102, []) := by decide +kernel
theorem i_L_does_97 : mv_look m_L_does.2.2.2.1 32 97 = some (.bipush 21, 0, []) := by decide +kernel
theorem i_L_does_99 : mv_look m_L_does.2.2.2.1 32 99 = some (.goto 10, 109, []) := by decide +kernel
theorem i_L_does_102 : mv_look m_L_does.2.2.2.1 32 102 = some (.iconst 1, 0, []) := by decide +kernel
theorem i_L_does_103 : mv_look m_L_does.2.2.2.1 32 103 = some (.iload 7, 0, []) := by decide +kernel
theorem i_L_does_105 : mv_look m_L_does.2.2.2.1 32 105 = some (.bipush 20, 0, []) := by decide +kernel
theorem i_L_does_107 : mv_look m_L_does.2.2.2.1 32 107 = some (.irem, 0, []) := by decide +kernel
theorem i_L_does_108 : mv_look m_L_does.2.2.2.1 32 108 = some (.iadd, 0, []) := by decide +kernel
theorem i_L_does_109 : mv_look m_L_does.2.2.2.1 32 109 = some (.invokestatic 247, 0, []) := by decide +kernel
theorem i_L_does_112 : mv_look m_L_does.2.2.2.1 32 112 = some (.ireturn, 0, []) := by decide +kernel
theorem i_L_does_113 : mv_look m_L_does.2.2.2.1 32 113 = some (.iload_n 2, 0, []) := by decide +kernel
theorem i_L_does_114 : mv_look m_L_does.2.2.2.1 32 114 = some (.bipush 20, 0, []) := by decide +kernel
theorem i_L_does_116 : mv_look m_L_does.2.2.2.1 32 116 = some (.if_icmp .ne 10, 126, []) := by decide +kernel
theorem i_L_does_119 : mv_look m_L_does.2.2.2.1 32 119 = some (.aload_n 3, 0, []) := by decide +kernel
theorem i_L_does_120 : mv_look m_L_does.2.2.2.1 32 120 = some (.iload 4, 0, []) := by decide +kernel
theorem i_L_does_122 : mv_look m_L_does.2.2.2.1 32 122 = some (.invokestatic 249, 0, []) := by decide +kernel
theorem i_L_does_125 : mv_look m_L_does.2.2.2.1 32 125 = some (.ireturn, 0, []) := by decide +kernel
theorem i_L_does_126 : mv_look m_L_does.2.2.2.1 32 126 = some (.iload_n 2, 0, []) := by decide +kernel
theorem i_L_does_127 : mv_look m_L_does.2.2.2.1 32 127 = some (.bipush 23, 0, []) := by decide +kernel
theorem i_L_does_129 : mv_look m_L_does.2.2.2.1 32 129 = some (.if_icmp .ge 15, 144, []) := by decide +kernel
theorem i_L_does_132 : mv_look m_L_does.2.2.2.1 32 132 = some (.aload_n 3, 0, []) := by decide +kernel
theorem i_L_does_133 : mv_look m_L_does.2.2.2.1 32 133 = some (.iload 4, 0, []) := by decide +kernel
theorem i_L_does_135 : mv_look m_L_does.2.2.2.1 32 135 = some (.iload 7, 0, []) := by decide +kernel
theorem i_L_does_137 : mv_look m_L_does.2.2.2.1 32 137 = some (.bipush 7, 0, []) := by decide +kernel
theorem i_L_does_139 : mv_look m_L_does.2.2.2.1 32 139 = some (.irem, 0, []) := by decide +kernel
theorem i_L_does_140 : mv_look m_L_does.2.2.2.1 32 140 = some (.invokestatic 251, 0, []) := by decide +kernel
theorem i_L_does_143 : mv_look m_L_does.2.2.2.1 32 143 = some (.ireturn, 0, []) := by decide +kernel
theorem i_L_does_144 : mv_look m_L_does.2.2.2.1 32 144 = some (.iload_n 2, 0, []) := by decide +kernel
theorem i_L_does_145 : mv_look m_L_does.2.2.2.1 32 145 = some (.bipush 28, 0, []) := by decide +kernel
theorem i_L_does_147 : mv_look m_L_does.2.2.2.1 32 147 = some (.if_icmp .ge 12, 159, []) := by decide +kernel
theorem i_L_does_150 : mv_look m_L_does.2.2.2.1 32 150 = some (.aload_n 3, 0, []) := by decide +kernel
theorem i_L_does_151 : mv_look m_L_does.2.2.2.1 32 151 = some (.iload 4, 0, []) := by decide +kernel
theorem i_L_does_153 : mv_look m_L_does.2.2.2.1 32 153 = some (.iload 5, 0, []) := by decide +kernel
theorem i_L_does_155 : mv_look m_L_does.2.2.2.1 32 155 = some (.invokestatic 253, 0, []) := by decide +kernel
theorem i_L_does_158 : mv_look m_L_does.2.2.2.1 32 158 = some (.ireturn, 0, []) := by decide +kernel
theorem i_L_does_159 : mv_look m_L_does.2.2.2.1 32 159 = some (.iload_n 2, 0, []) := by decide +kernel
theorem i_L_does_160 : mv_look m_L_does.2.2.2.1 32 160 = some (.bipush 32, 0, []) := by decide +kernel
theorem i_L_does_162 : mv_look m_L_does.2.2.2.1 32 162 = some (.if_icmp .ge 51, 213, []) := by decide +kernel
theorem i_L_does_165 : mv_look m_L_does.2.2.2.1 32 165 = some (.aload_n 3, 0, []) := by decide +kernel
theorem i_L_does_166 : mv_look m_L_does.2.2.2.1 32 166 = some (.iload 6, 0, []) := by decide +kernel
theorem i_L_does_168 : mv_look m_L_does.2.2.2.1 32 168 = some (.iconst 3, 0, []) := by decide +kernel
theorem i_L_does_169 : mv_look m_L_does.2.2.2.1 32 169 = some (.irem, 0, []) := by decide +kernel
theorem i_L_does_170 : mv_look m_L_does.2.2.2.1 32 170 = some (.ifCond .ne 13, 183, []) := by decide +kernel
theorem i_L_does_173 : mv_look m_L_does.2.2.2.1 32 173 = some (.aload_n 3, 0, []) := by decide +kernel
theorem i_L_does_174 : mv_look m_L_does.2.2.2.1 32 174 = some (.invokevirtual 224, 0, []) := by decide +kernel
theorem i_L_does_177 : mv_look m_L_does.2.2.2.1 32 177 = some (.bipush 24, 0, []) := by decide +kernel
theorem i_L_does_179 : mv_look m_L_does.2.2.2.1 32 179 = some (.irem, 0, []) := by decide +kernel
theorem i_L_does_180 : mv_look m_L_does.2.2.2.1 32 180 = some (.goto 8, 188, []) := by decide +kernel
theorem i_L_does_183 : mv_look m_L_does.2.2.2.1 32 183 = some (.iload 7, 0, []) := by decide +kernel
theorem i_L_does_185 : mv_look m_L_does.2.2.2.1 32 185 = some (.bipush 24, 0, []) := by decide +kernel
theorem i_L_does_187 : mv_look m_L_does.2.2.2.1 32 187 = some (.irem, 0, []) := by decide +kernel
theorem i_L_does_188 : mv_look m_L_does.2.2.2.1 32 188 = some (.iload 6, 0, []) := by decide +kernel
theorem i_L_does_190 : mv_look m_L_does.2.2.2.1 32 190 = some (.bipush 31, 0, []) := by decide +kernel
theorem i_L_does_192 : mv_look m_L_does.2.2.2.1 32 192 = some (.irem, 0, []) := by decide +kernel
theorem i_L_does_193 : mv_look m_L_does.2.2.2.1 32 193 = some (.ifCond .ne 8, 201, []) := by decide +kernel
theorem i_L_does_196 : mv_look m_L_does.2.2.2.1 32 196 = some (.bipush 10, 0, []) := by decide +kernel
theorem i_L_does_198 : mv_look m_L_does.2.2.2.1 32 198 = some (.goto 11, 209, []) := by decide +kernel
theorem i_L_does_201 : mv_look m_L_does.2.2.2.1 32 201 = some (.iload 6, 0, []) := by decide +kernel
theorem i_L_does_203 : mv_look m_L_does.2.2.2.1 32 203 = some (.bipush 19, 0, []) := by decide +kernel
theorem i_L_does_205 : mv_look m_L_does.2.2.2.1 32 205 = some (.irem, 0, []) := by decide +kernel
theorem i_L_does_206 : mv_look m_L_does.2.2.2.1 32 206 = some (.bipush 9, 0, []) := by decide +kernel
theorem i_L_does_208 : mv_look m_L_does.2.2.2.1 32 208 = some (.isub, 0, []) := by decide +kernel
theorem i_L_does_209 : mv_look m_L_does.2.2.2.1 32 209 = some (.invokestatic 255, 0, []) := by decide +kernel
theorem i_L_does_212 : mv_look m_L_does.2.2.2.1 32 212 = some (.ireturn, 0, []) := by decide +kernel
theorem i_L_does_213 : mv_look m_L_does.2.2.2.1 32 213 = some (.iload_n 2, 0, []) := by decide +kernel
theorem i_L_does_214 : mv_look m_L_does.2.2.2.1 32 214 = some (.bipush 36, 0, []) := by decide +kernel
theorem i_L_does_216 : mv_look m_L_does.2.2.2.1 32 216 = some (.if_icmp .ge 58, 274, []) := by decide +kernel
theorem i_L_does_219 : mv_look m_L_does.2.2.2.1 32 219 = some (.aload_n 3, 0, []) := by decide +kernel
theorem i_L_does_220 : mv_look m_L_does.2.2.2.1 32 220 = some (.iload 6, 0, []) := by decide +kernel
theorem i_L_does_222 : mv_look m_L_does.2.2.2.1 32 222 = some (.bipush 29, 0, []) := by decide +kernel
theorem i_L_does_224 : mv_look m_L_does.2.2.2.1 32 224 = some (.irem, 0, []) := by decide +kernel
theorem i_L_does_225 : mv_look m_L_does.2.2.2.1 32 225 = some (.ifCond .ne 8, 233, []) := by decide +kernel
theorem i_L_does_228 : mv_look m_L_does.2.2.2.1 32 228 = some (.bipush 31, 0, []) := by decide +kernel
theorem i_L_does_230 : mv_look m_L_does.2.2.2.1 32 230 = some (.goto 10, 240, []) := by decide +kernel
theorem i_L_does_233 : mv_look m_L_does.2.2.2.1 32 233 = some (.iconst 1, 0, []) := by decide +kernel
theorem i_L_does_234 : mv_look m_L_does.2.2.2.1 32 234 = some (.iload 7, 0, []) := by decide +kernel
theorem i_L_does_236 : mv_look m_L_does.2.2.2.1 32 236 = some (.bipush 30, 0, []) := by decide +kernel
theorem i_L_does_238 : mv_look m_L_does.2.2.2.1 32 238 = some (.irem, 0, []) := by decide +kernel
theorem i_L_does_239 : mv_look m_L_does.2.2.2.1 32 239 = some (.iadd, 0, []) := by decide +kernel
theorem i_L_does_240 : mv_look m_L_does.2.2.2.1 32 240 = some (.iload 6, 0, []) := by decide +kernel
theorem i_L_does_242 : mv_look m_L_does.2.2.2.1 32 242 = some (.iconst 2, 0, []) := by decide +kernel
theorem i_L_does_243 : mv_look m_L_does.2.2.2.1 32 243 = some (.irem, 0, []) := by decide +kernel
theorem i_L_does_244 : mv_look m_L_does.2.2.2.1 32 244 = some (.ifCond .ne 13, 257, []) := by decide +kernel
theorem i_L_does_247 : mv_look m_L_does.2.2.2.1 32 247 = some (.aload_n 3, 0, []) := by decide +kernel
theorem i_L_does_248 : mv_look m_L_does.2.2.2.1 32 248 = some (.invokevirtual 224, 0, []) := by decide +kernel
theorem i_L_does_251 : mv_look m_L_does.2.2.2.1 32 251 = some (.bipush 24, 0, []) := by decide +kernel
theorem i_L_does_253 : mv_look m_L_does.2.2.2.1 32 253 = some (.irem, 0, []) := by decide +kernel
theorem i_L_does_254 : mv_look m_L_does.2.2.2.1 32 254 = some (.goto 8, 262, []) := by decide +kernel
theorem i_L_does_257 : mv_look m_L_does.2.2.2.1 32 257 = some (.iload 7, 0, []) := by decide +kernel
theorem i_L_does_259 : mv_look m_L_does.2.2.2.1 32 259 = some (.bipush 24, 0, []) := by decide +kernel
theorem i_L_does_261 : mv_look m_L_does.2.2.2.1 32 261 = some (.irem, 0, []) := by decide +kernel
theorem i_L_does_262 : mv_look m_L_does.2.2.2.1 32 262 = some (.iload 6, 0, []) := by decide +kernel
theorem i_L_does_264 : mv_look m_L_does.2.2.2.1 32 264 = some (.iload 7, 0, []) := by decide +kernel
theorem i_L_does_266 : mv_look m_L_does.2.2.2.1 32 266 = some (.iadd, 0, []) := by decide +kernel
theorem i_L_does_267 : mv_look m_L_does.2.2.2.1 32 267 = some (.bipush 24, 0, []) := by decide +kernel
theorem i_L_does_269 : mv_look m_L_does.2.2.2.1 32 269 = some (.irem, 0, []) := by decide +kernel
theorem i_L_does_270 : mv_look m_L_does.2.2.2.1 32 270 = some (.invokestatic 257, 0, []) := by decide +kernel
theorem i_L_does_273 : mv_look m_L_does.2.2.2.1 32 273 = some (.ireturn, 0, []) := by decide +kernel
theorem i_L_does_274 : mv_look m_L_does.2.2.2.1 32 274 = some (.iload_n 2, 0, []) := by decide +kernel
theorem i_L_does_275 : mv_look m_L_does.2.2.2.1 32 275 = some (.bipush 36, 0, []) := by decide +kernel
theorem i_L_does_277 : mv_look m_L_does.2.2.2.1 32 277 = some (.if_icmp .ne 31, 308, []) := by decide +kernel
theorem i_L_does_280 : mv_look m_L_does.2.2.2.1 32 280 = some (.aload_n 3, 0, []) := by decide +kernel
theorem i_L_does_281 : mv_look m_L_does.2.2.2.1 32 281 = some (.iload 6, 0, []) := by decide +kernel
theorem i_L_does_283 : mv_look m_L_does.2.2.2.1 32 283 = some (.bipush 19, 0, []) := by decide +kernel
theorem i_L_does_285 : mv_look m_L_does.2.2.2.1 32 285 = some (.irem, 0, []) := by decide +kernel
theorem i_L_does_286 : mv_look m_L_does.2.2.2.1 32 286 = some (.ifCond .eq 8, 294, []) := by decide +kernel
theorem i_L_does_289 : mv_look m_L_does.2.2.2.1 32 289 = some (.iload 8, 0, []) := by decide +kernel
theorem i_L_does_291 : mv_look m_L_does.2.2.2.1 32 291 = some (.ifCond .ne 8, 299, []) := by decide +kernel
theorem i_L_does_294 : mv_look m_L_does.2.2.2.1 32 294 = some (.iload 8, 0, []) := by decide +kernel
theorem i_L_does_296 : mv_look m_L_does.2.2.2.1 32 296 = some (.goto 8, 304, []) := by decide +kernel
theorem i_L_does_299 : mv_look m_L_does.2.2.2.1 32 299 = some (.iload 7, 0, []) := by decide +kernel
theorem i_L_does_301 : mv_look m_L_does.2.2.2.1 32 301 = some (.iload 8, 0, []) := by decide +kernel
theorem i_L_does_303 : mv_look m_L_does.2.2.2.1 32 303 = some (.irem, 0, []) := by decide +kernel
theorem i_L_does_304 : mv_look m_L_does.2.2.2.1 32 304 = some (.invokestatic 260, 0, []) := by decide +kernel
theorem i_L_does_307 : mv_look m_L_does.2.2.2.1 32 307 = some (.ireturn, 0, []) := by decide +kernel
theorem i_L_does_308 : mv_look m_L_does.2.2.2.1 32 308 = some (.iload_n 2, 0, []) := by decide +kernel
theorem i_L_does_309 : mv_look m_L_does.2.2.2.1 32 309 = some (.bipush 44, 0, []) := by decide +kernel
theorem i_L_does_311 : mv_look m_L_does.2.2.2.1 32 311 = some (.if_icmp .ge 26, 337, []) := by decide +kernel
theorem i_L_does_314 : mv_look m_L_does.2.2.2.1 32 314 = some (.aload_n 3, 0, []) := by decide +kernel
theorem i_L_does_315 : mv_look m_L_does.2.2.2.1 32 315 = some (.iload 6, 0, []) := by decide +kernel
theorem i_L_does_317 : mv_look m_L_does.2.2.2.1 32 317 = some (.iconst 5, 0, []) := by decide +kernel
theorem i_L_does_318 : mv_look m_L_does.2.2.2.1 32 318 = some (.irem, 0, []) := by decide +kernel
theorem i_L_does_319 : mv_look m_L_does.2.2.2.1 32 319 = some (.ifCond .ne 13, 332, []) := by decide +kernel
theorem i_L_does_322 : mv_look m_L_does.2.2.2.1 32 322 = some (.iconst 1, 0, []) := by decide +kernel
theorem i_L_does_323 : mv_look m_L_does.2.2.2.1 32 323 = some (.iload 7, 0, []) := by decide +kernel
theorem i_L_does_325 : mv_look m_L_does.2.2.2.1 32 325 = some (.bipush 20, 0, []) := by decide +kernel
theorem i_L_does_327 : mv_look m_L_does.2.2.2.1 32 327 = some (.irem, 0, []) := by decide +kernel
theorem i_L_does_328 : mv_look m_L_does.2.2.2.1 32 328 = some (.iadd, 0, []) := by decide +kernel
theorem i_L_does_329 : mv_look m_L_does.2.2.2.1 32 329 = some (.goto 4, 333, []) := by decide +kernel
theorem i_L_does_332 : mv_look m_L_does.2.2.2.1 32 332 = some (.iconst 1, 0, []) := by decide +kernel
theorem i_L_does_333 : mv_look m_L_does.2.2.2.1 32 333 = some (.invokestatic 262, 0, []) := by decide +kernel
theorem i_L_does_336 : mv_look m_L_does.2.2.2.1 32 336 = some (.ireturn, 0, []) := by decide +kernel
theorem i_L_does_337 : mv_look m_L_does.2.2.2.1 32 337 = some (.aload_n 3, 0, []) := by decide +kernel
theorem i_L_does_338 : mv_look m_L_does.2.2.2.1 32 338 = some (.new 264, 0, []) := by decide +kernel
theorem i_L_does_341 : mv_look m_L_does.2.2.2.1 32 341 = some (.dup, 0, []) := by decide +kernel
theorem i_L_does_342 : mv_look m_L_does.2.2.2.1 32 342 = some (.invokespecial 266, 0, []) := by decide +kernel
theorem i_L_does_345 : mv_look m_L_does.2.2.2.1 32 345 = some (.ldc_w 267, 0, []) := by decide +kernel
theorem i_L_does_348 : mv_look m_L_does.2.2.2.1 32 348 = some (.invokevirtual 269, 0, []) := by decide +kernel
theorem i_L_does_351 : mv_look m_L_does.2.2.2.1 32 351 = some (.iload 4, 0, []) := by decide +kernel
theorem i_L_does_353 : mv_look m_L_does.2.2.2.1 32 353 = some (.invokevirtual 273, 0, []) := by decide +kernel
theorem i_L_does_356 : mv_look m_L_does.2.2.2.1 32 356 = some (.ldc_w 276, 0, []) := by decide +kernel
theorem i_L_does_359 : mv_look m_L_does.2.2.2.1 32 359 = some (.invokevirtual 269, 0, []) := by decide +kernel
theorem i_L_does_362 : mv_look m_L_does.2.2.2.1 32 362 = some (.iconst 1, 0, []) := by decide +kernel
theorem i_L_does_363 : mv_look m_L_does.2.2.2.1 32 363 = some (.iload 7, 0, []) := by decide +kernel
theorem i_L_does_365 : mv_look m_L_does.2.2.2.1 32 365 = some (.bipush 20, 0, []) := by decide +kernel
theorem i_L_does_367 : mv_look m_L_does.2.2.2.1 32 367 = some (.irem, 0, []) := by decide +kernel
theorem i_L_does_368 : mv_look m_L_does.2.2.2.1 32 368 = some (.iadd, 0, []) := by decide +kernel
theorem i_L_does_369 : mv_look m_L_does.2.2.2.1 32 369 = some (.invokevirtual 273, 0, []) := by decide +kernel
theorem i_L_does_372 : mv_look m_L_does.2.2.2.1 32 372 = some (.iload 6, 0, []) := by decide +kernel
theorem i_L_does_374 : mv_look m_L_does.2.2.2.1 32 374 = some (.iconst 4, 0, []) := by decide +kernel
theorem i_L_does_375 : mv_look m_L_does.2.2.2.1 32 375 = some (.irem, 0, []) := by decide +kernel
theorem i_L_does_376 : mv_look m_L_does.2.2.2.1 32 376 = some (.ifCond .ne 9, 385, []) := by decide +kernel
theorem i_L_does_379 : mv_look m_L_does.2.2.2.1 32 379 = some (.ldc_w 278, 0, []) := by decide +kernel
theorem i_L_does_382 : mv_look m_L_does.2.2.2.1 32 382 = some (.goto 87, 469, []) := by decide +kernel
theorem i_L_does_385 : mv_look m_L_does.2.2.2.1 32 385 = some (.iload 6, 0, []) := by decide +kernel
theorem i_L_does_387 : mv_look m_L_does.2.2.2.1 32 387 = some (.iconst 4, 0, []) := by decide +kernel
theorem i_L_does_388 : mv_look m_L_does.2.2.2.1 32 388 = some (.irem, 0, []) := by decide +kernel
theorem i_L_does_389 : mv_look m_L_does.2.2.2.1 32 389 = some (.iconst 1, 0, []) := by decide +kernel
theorem i_L_does_390 : mv_look m_L_does.2.2.2.1 32 390 = some (.if_icmp .ne 33, 423, []) := by decide +kernel
theorem i_L_does_393 : mv_look m_L_does.2.2.2.1 32 393 = some (.new 264, 0, []) := by decide +kernel
theorem i_L_does_396 : mv_look m_L_does.2.2.2.1 32 396 = some (.dup, 0, []) := by decide +kernel
theorem i_L_does_397 : mv_look m_L_does.2.2.2.1 32 397 = some (.invokespecial 266, 0, []) := by decide +kernel
theorem i_L_does_400 : mv_look m_L_does.2.2.2.1 32 400 = some (.ldc_w 280, 0, []) := by decide +kernel
theorem i_L_does_403 : mv_look m_L_does.2.2.2.1 32 403 = some (.invokevirtual 269, 0, []) := by decide +kernel
theorem i_L_does_406 : mv_look m_L_does.2.2.2.1 32 406 = some (.iload 4, 0, []) := by decide +kernel
theorem i_L_does_408 : mv_look m_L_does.2.2.2.1 32 408 = some (.invokevirtual 273, 0, []) := by decide +kernel
theorem i_L_does_411 : mv_look m_L_does.2.2.2.1 32 411 = some (.ldc_w 282, 0, []) := by decide +kernel
theorem i_L_does_414 : mv_look m_L_does.2.2.2.1 32 414 = some (.invokevirtual 269, 0, []) := by decide +kernel
theorem i_L_does_417 : mv_look m_L_does.2.2.2.1 32 417 = some (.invokevirtual 284, 0, []) := by decide +kernel
theorem i_L_does_420 : mv_look m_L_does.2.2.2.1 32 420 = some (.goto 49, 469, []) := by decide +kernel
theorem i_L_does_423 : mv_look m_L_does.2.2.2.1 32 423 = some (.iload 6, 0, []) := by decide +kernel
theorem i_L_does_425 : mv_look m_L_does.2.2.2.1 32 425 = some (.iconst 4, 0, []) := by decide +kernel
theorem i_L_does_426 : mv_look m_L_does.2.2.2.1 32 426 = some (.irem, 0, []) := by decide +kernel
theorem i_L_does_427 : mv_look m_L_does.2.2.2.1 32 427 = some (.iconst 2, 0, []) := by decide +kernel
theorem i_L_does_428 : mv_look m_L_does.2.2.2.1 32 428 = some (.if_icmp .ne 38, 466, []) := by decide +kernel
theorem i_L_does_431 : mv_look m_L_does.2.2.2.1 32 431 = some (.new 264, 0, []) := by decide +kernel
theorem i_L_does_434 : mv_look m_L_does.2.2.2.1 32 434 = some (.dup, 0, []) := by decide +kernel
theorem i_L_does_435 : mv_look m_L_does.2.2.2.1 32 435 = some (.invokespecial 266, 0, []) := by decide +kernel
theorem i_L_does_438 : mv_look m_L_does.2.2.2.1 32 438 = some (.ldc_w 288, 0, []) := by decide +kernel
theorem i_L_does_441 : mv_look m_L_does.2.2.2.1 32 441 = some (.invokevirtual 269, 0, []) := by decide +kernel
theorem i_L_does_444 : mv_look m_L_does.2.2.2.1 32 444 = some (.iload 4, 0, []) := by decide +kernel
theorem i_L_does_446 : mv_look m_L_does.2.2.2.1 32 446 = some (.invokevirtual 273, 0, []) := by decide +kernel
theorem i_L_does_449 : mv_look m_L_does.2.2.2.1 32 449 = some (.ldc_w 276, 0, []) := by decide +kernel
theorem i_L_does_452 : mv_look m_L_does.2.2.2.1 32 452 = some (.invokevirtual 269, 0, []) := by decide +kernel
theorem i_L_does_455 : mv_look m_L_does.2.2.2.1 32 455 = some (.iload 5, 0, []) := by decide +kernel
theorem i_L_does_457 : mv_look m_L_does.2.2.2.1 32 457 = some (.invokevirtual 273, 0, []) := by decide +kernel
theorem i_L_does_460 : mv_look m_L_does.2.2.2.1 32 460 = some (.invokevirtual 284, 0, []) := by decide +kernel
theorem i_L_does_463 : mv_look m_L_does.2.2.2.1 32 463 = some (.goto 6, 469, []) := by decide +kernel
theorem i_L_does_466 : mv_look m_L_does.2.2.2.1 32 466 = some (.ldc_w 290, 0, []) := by decide +kernel
theorem i_L_does_469 : mv_look m_L_does.2.2.2.1 32 469 = some (.invokevirtual 269, 0, []) := by decide +kernel
theorem i_L_does_472 : mv_look m_L_does.2.2.2.1 32 472 = some (.invokevirtual 284, 0, []) := by decide +kernel
theorem i_L_does_475 : mv_look m_L_does.2.2.2.1 32 475 = some (.invokestatic 292, 0, []) := by decide +kernel
theorem i_L_does_478 : mv_look m_L_does.2.2.2.1 32 478 = some (.ireturn, 0, []) := by decide +kernel
theorem bk_L_does_0 (X : mv_X) (call : mv_G) (h : mv_H) (a0 : Nat) (v1 : Int32) (v2 : Int32) (a3 : Nat) (v4 : Int32) (v5 : Int32) : mv_run X call m_L_does 0 [.ref a0, .int v1, .int v2, .ref a3, .int v4, .int v5, .retAddr 0, .retAddr 0, .retAddr 0] [] h =
  mv_clI call 343 [.ref a0, .int (v1 + (nZ 3)), .int (nZ 1000)] h mv_raise fun x1 h1 =>
  mv_clI call 343 [.ref a0, .int (v1 + (nZ 4)), .int (nZ 1000)] h1 mv_raise fun x2 h2 =>
  mv_rcv X h2 [.ref a3] 12 (mv_clI call 110 [.ref a3] h2 mv_raise fun x3 h3 =>
  if (nZ 8) ≤ v2 then 
  (if (nZ 20) ≤ v2 then 
    (if v2 = (nZ 20) then 
      (mv_clI call 345 [.ref a3, .int v4] h3 mv_raise fun x4 h4 =>
        (some (.inl (some (.int x4)), h4)))
      else (if (nZ 23) ≤ v2 then 
        (if (nZ 28) ≤ v2 then 
          (if (nZ 32) ≤ v2 then 
            (if (nZ 36) ≤ v2 then 
              (if v2 = (nZ 36) then 
                (if (nZ 19) = 0 then none else 
                  if (x1 - x1 / (nZ 19) * (nZ 19)) = 0 then 
                  (mv_run X call m_L_does 294 [.ref a0, .int v1, .int v2, .ref a3, .int v4, .int v5, .int x1, .int x2, .int x3] [.ref a3] h3)
                  else (if x3 = 0 then 
                    (mv_run X call m_L_does 294 [.ref a0, .int v1, .int v2, .ref a3, .int v4, .int v5, .int x1, .int x2, .int x3] [.ref a3] h3)
                    else (if x3 = 0 then none else 
                      mv_run X call m_L_does 304 [.ref a0, .int v1, .int v2, .ref a3, .int v4, .int v5, .int x1, .int x2, .int x3] [.int (x2 - x2 / x3 * x3), .ref a3] h3)))
                else (if (nZ 44) ≤ v2 then 
                  (mv_new h3 (.inl (1, mv_df 1)) 4 fun r1 h5 =>
                    mv_clV call 273 [.ref r1] h5 mv_raise fun h6 =>
                    mv_rcv X h6 [.ref r1, .ref (X.2.1 43)] 1 (mv_clR call 337 [.ref r1, .ref (X.2.1 43)] h6 mv_raise fun r2 h7 =>
                    mv_rcv X h7 [.ref r2, .int v4] 1 (mv_clR call 275 [.ref r2, .int v4] h7 mv_raise fun r3 h8 =>
                    mv_rcv X h8 [.ref r3, .ref (X.2.1 44)] 1 (mv_clR call 337 [.ref r3, .ref (X.2.1 44)] h8 mv_raise fun r4 h9 =>
                    if (nZ 20) = 0 then none else 
                    mv_rcv X h9 [.ref r4, .int ((nZ 1) + (x2 - x2 / (nZ 20) * (nZ 20)))] 1 (mv_clR call 275 [.ref r4, .int ((nZ 1) + (x2 - x2 / (nZ 20) * (nZ 20)))] h9 mv_raise fun r5 h10 =>
                    if (nZ 4) = 0 then none else 
                    if (x1 - x1 / (nZ 4) * (nZ 4)) = 0 then 
                    (mv_run X call m_L_does 469 [.ref a0, .int v1, .int v2, .ref a3, .int v4, .int v5, .int x1, .int x2, .int x3] [.ref (X.2.1 45), .ref r5, .ref a3] h10)
                    else (if (nZ 4) = 0 then none else 
                      if (x1 - x1 / (nZ 4) * (nZ 4)) = (nZ 1) then 
                      (mv_new h10 (.inl (1, mv_df 1)) 4 fun r6 h11 =>
                        mv_clV call 273 [.ref r6] h11 mv_raise fun h12 =>
                        mv_rcv X h12 [.ref r6, .ref (X.2.1 46)] 1 (mv_clR call 337 [.ref r6, .ref (X.2.1 46)] h12 mv_raise fun r7 h13 =>
                        mv_rcv X h13 [.ref r7, .int v4] 1 (mv_clR call 275 [.ref r7, .int v4] h13 mv_raise fun r8 h14 =>
                        mv_rcv X h14 [.ref r8, .ref (X.2.1 47)] 1 (mv_clR call 337 [.ref r8, .ref (X.2.1 47)] h14 mv_raise fun r9 h15 =>
                        mv_rcv X h15 [.ref r9] 1 (mv_clR call 338 [.ref r9] h15 mv_raise fun r10 h16 =>
                        mv_run X call m_L_does 469 [.ref a0, .int v1, .int v2, .ref a3, .int v4, .int v5, .int x1, .int x2, .int x3] [.ref r10, .ref r5, .ref a3] h16)))))
                      else (if (nZ 4) = 0 then none else 
                        if (x1 - x1 / (nZ 4) * (nZ 4)) = (nZ 2) then 
                        (mv_new h10 (.inl (1, mv_df 1)) 4 fun r11 h17 =>
                          mv_clV call 273 [.ref r11] h17 mv_raise fun h18 =>
                          mv_rcv X h18 [.ref r11, .ref (X.2.1 48)] 1 (mv_clR call 337 [.ref r11, .ref (X.2.1 48)] h18 mv_raise fun r12 h19 =>
                          mv_rcv X h19 [.ref r12, .int v4] 1 (mv_clR call 275 [.ref r12, .int v4] h19 mv_raise fun r13 h20 =>
                          mv_rcv X h20 [.ref r13, .ref (X.2.1 44)] 1 (mv_clR call 337 [.ref r13, .ref (X.2.1 44)] h20 mv_raise fun r14 h21 =>
                          mv_rcv X h21 [.ref r14, .int v5] 1 (mv_clR call 275 [.ref r14, .int v5] h21 mv_raise fun r15 h22 =>
                          mv_rcv X h22 [.ref r15] 1 (mv_clR call 338 [.ref r15] h22 mv_raise fun r16 h23 =>
                          mv_run X call m_L_does 469 [.ref a0, .int v1, .int v2, .ref a3, .int v4, .int v5, .int x1, .int x2, .int x3] [.ref r16, .ref r5, .ref a3] h23))))))
                        else (mv_run X call m_L_does 469 [.ref a0, .int v1, .int v2, .ref a3, .int v4, .int v5, .int x1, .int x2, .int x3] [.ref (X.2.1 49), .ref r5, .ref a3] h10))))))))
                  else (if (nZ 5) = 0 then none else 
                    if (x1 - x1 / (nZ 5) * (nZ 5)) = 0 then 
                    (if (nZ 20) = 0 then none else 
                      mv_run X call m_L_does 333 [.ref a0, .int v1, .int v2, .ref a3, .int v4, .int v5, .int x1, .int x2, .int x3] [.int ((nZ 1) + (x2 - x2 / (nZ 20) * (nZ 20))), .ref a3] h3)
                    else (mv_run X call m_L_does 333 [.ref a0, .int v1, .int v2, .ref a3, .int v4, .int v5, .int x1, .int x2, .int x3] [.int (nZ 1), .ref a3] h3))))
              else (if (nZ 29) = 0 then none else 
                if (x1 - x1 / (nZ 29) * (nZ 29)) = 0 then 
                (mv_run X call m_L_does 240 [.ref a0, .int v1, .int v2, .ref a3, .int v4, .int v5, .int x1, .int x2, .int x3] [.int (nZ 31), .ref a3] h3)
                else (if (nZ 30) = 0 then none else 
                  mv_run X call m_L_does 240 [.ref a0, .int v1, .int v2, .ref a3, .int v4, .int v5, .int x1, .int x2, .int x3] [.int ((nZ 1) + (x2 - x2 / (nZ 30) * (nZ 30))), .ref a3] h3)))
            else (if (nZ 3) = 0 then none else 
              if (x1 - x1 / (nZ 3) * (nZ 3)) = 0 then 
              (mv_rcv X h3 [.ref a3] 12 (mv_clI call 117 [.ref a3] h3 mv_raise fun x5 h24 =>
                if (nZ 24) = 0 then none else 
                mv_run X call m_L_does 188 [.ref a0, .int v1, .int v2, .ref a3, .int v4, .int v5, .int x1, .int x2, .int x3] [.int (x5 - x5 / (nZ 24) * (nZ 24)), .ref a3] h24))
              else (if (nZ 24) = 0 then none else 
                mv_run X call m_L_does 188 [.ref a0, .int v1, .int v2, .ref a3, .int v4, .int v5, .int x1, .int x2, .int x3] [.int (x2 - x2 / (nZ 24) * (nZ 24)), .ref a3] h3)))
          else (mv_clI call 354 [.ref a3, .int v4, .int v5] h3 mv_raise fun x6 h25 =>
            (some (.inl (some (.int x6)), h25))))
        else (if (nZ 7) = 0 then none else 
          mv_clI call 353 [.ref a3, .int v4, .int (x2 - x2 / (nZ 7) * (nZ 7))] h3 mv_raise fun x7 h26 =>
          (some (.inl (some (.int x7)), h26)))))
    else (if (nZ 29) = 0 then none else 
      if (x1 - x1 / (nZ 29) * (nZ 29)) = 0 then 
      (mv_run X call m_L_does 109 [.ref a0, .int v1, .int v2, .ref a3, .int v4, .int v5, .int x1, .int x2, .int x3] [.int (nZ 21), .int v4, .ref a3] h3)
      else (if (nZ 20) = 0 then none else 
        mv_run X call m_L_does 109 [.ref a0, .int v1, .int v2, .ref a3, .int v4, .int v5, .int x1, .int x2, .int x3] [.int ((nZ 1) + (x2 - x2 / (nZ 20) * (nZ 20))), .int v4, .ref a3] h3)))
  else (if (nZ 99) = 0 then none else 
    if (nZ 31) = 0 then none else 
    if (x1 - x1 / (nZ 31) * (nZ 31)) = 0 then 
    (mv_run X call m_L_does 66 [.ref a0, .int v1, .int v2, .ref a3, .int v4, .int v5, .int x1, .int x2, .int x3] [.int (nZ 41), .int ((nZ 1) + (x2 - x2 / (nZ 99) * (nZ 99))), .int v4, .ref a3] h3)
    else (if (nZ 40) = 0 then none else 
      mv_run X call m_L_does 66 [.ref a0, .int v1, .int v2, .ref a3, .int v4, .int v5, .int x1, .int x2, .int x3] [.int ((nZ 1) + (x1 - x1 / (nZ 40) * (nZ 40))), .int ((nZ 1) + (x2 - x2 / (nZ 99) * (nZ 99))), .int v4, .ref a3] h3))) :=
  (s_aload_n i_L_does_0 rfl).trans <| (s_iload_n i_L_does_1 rfl).trans <| (s_iconst i_L_does_2).trans <| (s_iadd i_L_does_3).trans <| (s_sipush i_L_does_4).trans <| (s_s1 [.ref a0, .int (v1 + (nZ 3)), .int (nZ 1000)] [] i_L_does_7 rfl (fun _ => rfl)).trans <| c_clI fun x1 h1 => (s_istore (ls2 := [.ref a0, .int v1, .int v2, .ref a3, .int v4, .int v5, .int x1, .retAddr 0, .retAddr 0]) i_L_does_10 (fun _ => rfl)).trans <| (s_aload_n i_L_does_12 rfl).trans <| (s_iload_n i_L_does_13 rfl).trans <| (s_iconst i_L_does_14).trans <| (s_iadd i_L_does_15).trans <| (s_sipush i_L_does_16).trans <| (s_s1 [.ref a0, .int (v1 + (nZ 4)), .int (nZ 1000)] [] i_L_does_19 rfl (fun _ => rfl)).trans <| c_clI fun x2 h2 => (s_istore (ls2 := [.ref a0, .int v1, .int v2, .ref a3, .int v4, .int v5, .int x1, .int x2, .retAddr 0]) i_L_does_22 (fun _ => rfl)).trans <| (s_aload_n i_L_does_24 rfl).trans <| (s_v1 [.ref a3] [] i_L_does_25 rfl (fun _ => rfl)).trans <| c_rcv <| c_clI fun x3 h3 => (s_istore (ls2 := [.ref a0, .int v1, .int v2, .ref a3, .int v4, .int v5, .int x1, .int x2, .int x3]) i_L_does_28 (fun _ => rfl)).trans <| (s_iload_n i_L_does_30 rfl).trans <| (s_bipush i_L_does_31).trans <| (s_icmp_ge i_L_does_33).trans <| c_ite ((s_iload_n i_L_does_80 rfl).trans <| (s_bipush i_L_does_81).trans <| (s_icmp_ge i_L_does_83).trans <| c_ite ((s_iload_n i_L_does_113 rfl).trans <| (s_bipush i_L_does_114).trans <| (s_icmp_ne i_L_does_116).trans <| c_ite ((s_aload_n i_L_does_119 rfl).trans <| (s_iload i_L_does_120 rfl).trans <| (s_s1 [.ref a3, .int v4] [] i_L_does_122 rfl (fun _ => rfl)).trans <| c_clI fun x4 h4 => s_iret1 i_L_does_125 rfl) ((s_iload_n i_L_does_126 rfl).trans <| (s_bipush i_L_does_127).trans <| (s_icmp_ge i_L_does_129).trans <| c_ite ((s_iload_n i_L_does_144 rfl).trans <| (s_bipush i_L_does_145).trans <| (s_icmp_ge i_L_does_147).trans <| c_ite ((s_iload_n i_L_does_159 rfl).trans <| (s_bipush i_L_does_160).trans <| (s_icmp_ge i_L_does_162).trans <| c_ite ((s_iload_n i_L_does_213 rfl).trans <| (s_bipush i_L_does_214).trans <| (s_icmp_ge i_L_does_216).trans <| c_ite ((s_iload_n i_L_does_274 rfl).trans <| (s_bipush i_L_does_275).trans <| (s_icmp_ne i_L_does_277).trans <| c_ite ((s_aload_n i_L_does_280 rfl).trans <| (s_iload i_L_does_281 rfl).trans <| (s_bipush i_L_does_283).trans <| (s_irem i_L_does_285).trans <| c_ite rfl <| (s_if_eq i_L_does_286).trans <| c_ite (rfl) ((s_iload i_L_does_289 rfl).trans <| (s_if_ne i_L_does_291).trans <| c_ite (rfl) ((s_iload i_L_does_299 rfl).trans <| (s_iload i_L_does_301 rfl).trans <| (s_irem i_L_does_303).trans <| c_ite rfl <| rfl))) ((s_iload_n i_L_does_308 rfl).trans <| (s_bipush i_L_does_309).trans <| (s_icmp_ge i_L_does_311).trans <| c_ite ((s_aload_n i_L_does_337 rfl).trans <| (s_new i_L_does_338 rfl).trans <| c_new fun r1 h5 => (s_dupR i_L_does_341).trans <| (s_i0 [] [.ref r1, .ref a3] i_L_does_342 rfl (fun _ => rfl)).trans <| c_clV fun h6 => (s_ldcS_w i_L_does_345 rfl).trans <| (s_v2 [.ref r1, .ref (X.2.1 43)] [.ref a3] i_L_does_348 rfl (fun _ => rfl)).trans <| c_rcv <| c_clR fun r2 h7 => (s_iload i_L_does_351 rfl).trans <| (s_v2 [.ref r2, .int v4] [.ref a3] i_L_does_353 rfl (fun _ => rfl)).trans <| c_rcv <| c_clR fun r3 h8 => (s_ldcS_w i_L_does_356 rfl).trans <| (s_v2 [.ref r3, .ref (X.2.1 44)] [.ref a3] i_L_does_359 rfl (fun _ => rfl)).trans <| c_rcv <| c_clR fun r4 h9 => (s_iconst i_L_does_362).trans <| (s_iload i_L_does_363 rfl).trans <| (s_bipush i_L_does_365).trans <| (s_irem i_L_does_367).trans <| c_ite rfl <| (s_iadd i_L_does_368).trans <| (s_v2 [.ref r4, .int ((nZ 1) + (x2 - x2 / (nZ 20) * (nZ 20)))] [.ref a3] i_L_does_369 rfl (fun _ => rfl)).trans <| c_rcv <| c_clR fun r5 h10 => (s_iload i_L_does_372 rfl).trans <| (s_iconst i_L_does_374).trans <| (s_irem i_L_does_375).trans <| c_ite rfl <| (s_if_ne i_L_does_376).trans <| c_ite ((s_ldcS_w i_L_does_379 rfl).trans <| (s_goto i_L_does_382).trans <| rfl) ((s_iload i_L_does_385 rfl).trans <| (s_iconst i_L_does_387).trans <| (s_irem i_L_does_388).trans <| c_ite rfl <| (s_iconst i_L_does_389).trans <| (s_icmp_ne i_L_does_390).trans <| c_ite ((s_new i_L_does_393 rfl).trans <| c_new fun r6 h11 => (s_dupR i_L_does_396).trans <| (s_i0 [] [.ref r6, .ref r5, .ref a3] i_L_does_397 rfl (fun _ => rfl)).trans <| c_clV fun h12 => (s_ldcS_w i_L_does_400 rfl).trans <| (s_v2 [.ref r6, .ref (X.2.1 46)] [.ref r5, .ref a3] i_L_does_403 rfl (fun _ => rfl)).trans <| c_rcv <| c_clR fun r7 h13 => (s_iload i_L_does_406 rfl).trans <| (s_v2 [.ref r7, .int v4] [.ref r5, .ref a3] i_L_does_408 rfl (fun _ => rfl)).trans <| c_rcv <| c_clR fun r8 h14 => (s_ldcS_w i_L_does_411 rfl).trans <| (s_v2 [.ref r8, .ref (X.2.1 47)] [.ref r5, .ref a3] i_L_does_414 rfl (fun _ => rfl)).trans <| c_rcv <| c_clR fun r9 h15 => (s_v2 [.ref r9] [.ref r5, .ref a3] i_L_does_417 rfl (fun _ => rfl)).trans <| c_rcv <| c_clR fun r10 h16 => (s_goto i_L_does_420).trans <| rfl) ((s_iload i_L_does_423 rfl).trans <| (s_iconst i_L_does_425).trans <| (s_irem i_L_does_426).trans <| c_ite rfl <| (s_iconst i_L_does_427).trans <| (s_icmp_ne i_L_does_428).trans <| c_ite ((s_new i_L_does_431 rfl).trans <| c_new fun r11 h17 => (s_dupR i_L_does_434).trans <| (s_i0 [] [.ref r11, .ref r5, .ref a3] i_L_does_435 rfl (fun _ => rfl)).trans <| c_clV fun h18 => (s_ldcS_w i_L_does_438 rfl).trans <| (s_v2 [.ref r11, .ref (X.2.1 48)] [.ref r5, .ref a3] i_L_does_441 rfl (fun _ => rfl)).trans <| c_rcv <| c_clR fun r12 h19 => (s_iload i_L_does_444 rfl).trans <| (s_v2 [.ref r12, .int v4] [.ref r5, .ref a3] i_L_does_446 rfl (fun _ => rfl)).trans <| c_rcv <| c_clR fun r13 h20 => (s_ldcS_w i_L_does_449 rfl).trans <| (s_v2 [.ref r13, .ref (X.2.1 44)] [.ref r5, .ref a3] i_L_does_452 rfl (fun _ => rfl)).trans <| c_rcv <| c_clR fun r14 h21 => (s_iload i_L_does_455 rfl).trans <| (s_v2 [.ref r14, .int v5] [.ref r5, .ref a3] i_L_does_457 rfl (fun _ => rfl)).trans <| c_rcv <| c_clR fun r15 h22 => (s_v2 [.ref r15] [.ref r5, .ref a3] i_L_does_460 rfl (fun _ => rfl)).trans <| c_rcv <| c_clR fun r16 h23 => (s_goto i_L_does_463).trans <| rfl) ((s_ldcS_w i_L_does_466 rfl).trans <| rfl)))) ((s_aload_n i_L_does_314 rfl).trans <| (s_iload i_L_does_315 rfl).trans <| (s_iconst i_L_does_317).trans <| (s_irem i_L_does_318).trans <| c_ite rfl <| (s_if_ne i_L_does_319).trans <| c_ite ((s_iconst i_L_does_322).trans <| (s_iload i_L_does_323 rfl).trans <| (s_bipush i_L_does_325).trans <| (s_irem i_L_does_327).trans <| c_ite rfl <| (s_iadd i_L_does_328).trans <| (s_goto i_L_does_329).trans <| rfl) ((s_iconst i_L_does_332).trans <| rfl)))) ((s_aload_n i_L_does_219 rfl).trans <| (s_iload i_L_does_220 rfl).trans <| (s_bipush i_L_does_222).trans <| (s_irem i_L_does_224).trans <| c_ite rfl <| (s_if_ne i_L_does_225).trans <| c_ite ((s_bipush i_L_does_228).trans <| (s_goto i_L_does_230).trans <| rfl) ((s_iconst i_L_does_233).trans <| (s_iload i_L_does_234 rfl).trans <| (s_bipush i_L_does_236).trans <| (s_irem i_L_does_238).trans <| c_ite rfl <| (s_iadd i_L_does_239).trans <| rfl))) ((s_aload_n i_L_does_165 rfl).trans <| (s_iload i_L_does_166 rfl).trans <| (s_iconst i_L_does_168).trans <| (s_irem i_L_does_169).trans <| c_ite rfl <| (s_if_ne i_L_does_170).trans <| c_ite ((s_aload_n i_L_does_173 rfl).trans <| (s_v1 [.ref a3] [.ref a3] i_L_does_174 rfl (fun _ => rfl)).trans <| c_rcv <| c_clI fun x5 h24 => (s_bipush i_L_does_177).trans <| (s_irem i_L_does_179).trans <| c_ite rfl <| (s_goto i_L_does_180).trans <| rfl) ((s_iload i_L_does_183 rfl).trans <| (s_bipush i_L_does_185).trans <| (s_irem i_L_does_187).trans <| c_ite rfl <| rfl))) ((s_aload_n i_L_does_150 rfl).trans <| (s_iload i_L_does_151 rfl).trans <| (s_iload i_L_does_153 rfl).trans <| (s_s1 [.ref a3, .int v4, .int v5] [] i_L_does_155 rfl (fun _ => rfl)).trans <| c_clI fun x6 h25 => s_iret1 i_L_does_158 rfl)) ((s_aload_n i_L_does_132 rfl).trans <| (s_iload i_L_does_133 rfl).trans <| (s_iload i_L_does_135 rfl).trans <| (s_bipush i_L_does_137).trans <| (s_irem i_L_does_139).trans <| c_ite rfl <| (s_s1 [.ref a3, .int v4, .int (x2 - x2 / (nZ 7) * (nZ 7))] [] i_L_does_140 rfl (fun _ => rfl)).trans <| c_clI fun x7 h26 => s_iret1 i_L_does_143 rfl))) ((s_aload_n i_L_does_86 rfl).trans <| (s_iload i_L_does_87 rfl).trans <| (s_iload i_L_does_89 rfl).trans <| (s_bipush i_L_does_91).trans <| (s_irem i_L_does_93).trans <| c_ite rfl <| (s_if_ne i_L_does_94).trans <| c_ite ((s_bipush i_L_does_97).trans <| (s_goto i_L_does_99).trans <| rfl) ((s_iconst i_L_does_102).trans <| (s_iload i_L_does_103 rfl).trans <| (s_bipush i_L_does_105).trans <| (s_irem i_L_does_107).trans <| c_ite rfl <| (s_iadd i_L_does_108).trans <| rfl))) ((s_aload_n i_L_does_36 rfl).trans <| (s_iload i_L_does_37 rfl).trans <| (s_iconst i_L_does_39).trans <| (s_iload i_L_does_40 rfl).trans <| (s_bipush i_L_does_42).trans <| (s_irem i_L_does_44).trans <| c_ite rfl <| (s_iadd i_L_does_45).trans <| (s_iload i_L_does_46 rfl).trans <| (s_bipush i_L_does_48).trans <| (s_irem i_L_does_50).trans <| c_ite rfl <| (s_if_ne i_L_does_51).trans <| c_ite ((s_bipush i_L_does_54).trans <| (s_goto i_L_does_56).trans <| rfl) ((s_iconst i_L_does_59).trans <| (s_iload i_L_does_60 rfl).trans <| (s_bipush i_L_does_62).trans <| (s_irem i_L_does_64).trans <| c_ite rfl <| (s_iadd i_L_does_65).trans <| rfl))
theorem bk_L_does_66 (X : mv_X) (call : mv_G) (h : mv_H) (a0 : Nat) (v1 : Int32) (v2 : Int32) (a3 : Nat) (v4 : Int32) (v5 : Int32) (v6 : Int32) (v7 : Int32) (v8 : Int32) (s0 : Int32) (s1 : Int32) (s2 : Int32) (s3 : Nat) : mv_run X call m_L_does 66 [.ref a0, .int v1, .int v2, .ref a3, .int v4, .int v5, .int v6, .int v7, .int v8] [.int s0, .int s1, .int s2, .ref s3] h =
  if (nZ 60) = 0 then none else 
  mv_clI call 344 [.ref s3, .int s2, .int s1, .int s0, .int ((nZ 1) + ((v6 + v7) - (v6 + v7) / (nZ 60) * (nZ 60)))] h mv_raise fun x1 h1 =>
  (some (.inl (some (.int x1)), h1)) :=
  (s_iconst i_L_does_66).trans <| (s_iload i_L_does_67 rfl).trans <| (s_iload i_L_does_69 rfl).trans <| (s_iadd i_L_does_71).trans <| (s_bipush i_L_does_72).trans <| (s_irem i_L_does_74).trans <| c_ite rfl <| (s_iadd i_L_does_75).trans <| (s_s1 [.ref s3, .int s2, .int s1, .int s0, .int ((nZ 1) + ((v6 + v7) - (v6 + v7) / (nZ 60) * (nZ 60)))] [] i_L_does_76 rfl (fun _ => rfl)).trans <| c_clI fun x1 h1 => s_iret1 i_L_does_79 rfl
theorem bk_L_does_109 (X : mv_X) (call : mv_G) (h : mv_H) (a0 : Nat) (v1 : Int32) (v2 : Int32) (a3 : Nat) (v4 : Int32) (v5 : Int32) (v6 : Int32) (v7 : Int32) (v8 : Int32) (s0 : Int32) (s1 : Int32) (s2 : Nat) : mv_run X call m_L_does 109 [.ref a0, .int v1, .int v2, .ref a3, .int v4, .int v5, .int v6, .int v7, .int v8] [.int s0, .int s1, .ref s2] h =
  mv_clI call 352 [.ref s2, .int s1, .int s0] h mv_raise fun x1 h1 =>
  (some (.inl (some (.int x1)), h1)) :=
  (s_s1 [.ref s2, .int s1, .int s0] [] i_L_does_109 rfl (fun _ => rfl)).trans <| c_clI fun x1 h1 => s_iret1 i_L_does_112 rfl
theorem bk_L_does_188 (X : mv_X) (call : mv_G) (h : mv_H) (a0 : Nat) (v1 : Int32) (v2 : Int32) (a3 : Nat) (v4 : Int32) (v5 : Int32) (v6 : Int32) (v7 : Int32) (v8 : Int32) (s0 : Int32) (s1 : Nat) : mv_run X call m_L_does 188 [.ref a0, .int v1, .int v2, .ref a3, .int v4, .int v5, .int v6, .int v7, .int v8] [.int s0, .ref s1] h =
  if (nZ 31) = 0 then none else 
  if (v6 - v6 / (nZ 31) * (nZ 31)) = 0 then 
  (mv_run X call m_L_does 209 [.ref a0, .int v1, .int v2, .ref a3, .int v4, .int v5, .int v6, .int v7, .int v8] [.int (nZ 10), .int s0, .ref s1] h)
  else (if (nZ 19) = 0 then none else 
    mv_run X call m_L_does 209 [.ref a0, .int v1, .int v2, .ref a3, .int v4, .int v5, .int v6, .int v7, .int v8] [.int ((v6 - v6 / (nZ 19) * (nZ 19)) - (nZ 9)), .int s0, .ref s1] h) :=
  (s_iload i_L_does_188 rfl).trans <| (s_bipush i_L_does_190).trans <| (s_irem i_L_does_192).trans <| c_ite rfl <| (s_if_ne i_L_does_193).trans <| c_ite ((s_bipush i_L_does_196).trans <| (s_goto i_L_does_198).trans <| rfl) ((s_iload i_L_does_201 rfl).trans <| (s_bipush i_L_does_203).trans <| (s_irem i_L_does_205).trans <| c_ite rfl <| (s_bipush i_L_does_206).trans <| (s_isub i_L_does_208).trans <| rfl)
theorem bk_L_does_209 (X : mv_X) (call : mv_G) (h : mv_H) (a0 : Nat) (v1 : Int32) (v2 : Int32) (a3 : Nat) (v4 : Int32) (v5 : Int32) (v6 : Int32) (v7 : Int32) (v8 : Int32) (s0 : Int32) (s1 : Int32) (s2 : Nat) : mv_run X call m_L_does 209 [.ref a0, .int v1, .int v2, .ref a3, .int v4, .int v5, .int v6, .int v7, .int v8] [.int s0, .int s1, .ref s2] h =
  mv_clI call 360 [.ref s2, .int s1, .int s0] h mv_raise fun x1 h1 =>
  (some (.inl (some (.int x1)), h1)) :=
  (s_s1 [.ref s2, .int s1, .int s0] [] i_L_does_209 rfl (fun _ => rfl)).trans <| c_clI fun x1 h1 => s_iret1 i_L_does_212 rfl
theorem bk_L_does_240 (X : mv_X) (call : mv_G) (h : mv_H) (a0 : Nat) (v1 : Int32) (v2 : Int32) (a3 : Nat) (v4 : Int32) (v5 : Int32) (v6 : Int32) (v7 : Int32) (v8 : Int32) (s0 : Int32) (s1 : Nat) : mv_run X call m_L_does 240 [.ref a0, .int v1, .int v2, .ref a3, .int v4, .int v5, .int v6, .int v7, .int v8] [.int s0, .ref s1] h =
  if (nZ 2) = 0 then none else 
  if (v6 - v6 / (nZ 2) * (nZ 2)) = 0 then 
  (mv_rcv X h [.ref a3] 12 (mv_clI call 117 [.ref a3] h mv_raise fun x1 h1 =>
    if (nZ 24) = 0 then none else 
    mv_run X call m_L_does 262 [.ref a0, .int v1, .int v2, .ref a3, .int v4, .int v5, .int v6, .int v7, .int v8] [.int (x1 - x1 / (nZ 24) * (nZ 24)), .int s0, .ref s1] h1))
  else (if (nZ 24) = 0 then none else 
    mv_run X call m_L_does 262 [.ref a0, .int v1, .int v2, .ref a3, .int v4, .int v5, .int v6, .int v7, .int v8] [.int (v7 - v7 / (nZ 24) * (nZ 24)), .int s0, .ref s1] h) :=
  (s_iload i_L_does_240 rfl).trans <| (s_iconst i_L_does_242).trans <| (s_irem i_L_does_243).trans <| c_ite rfl <| (s_if_ne i_L_does_244).trans <| c_ite ((s_aload_n i_L_does_247 rfl).trans <| (s_v1 [.ref a3] [.int s0, .ref s1] i_L_does_248 rfl (fun _ => rfl)).trans <| c_rcv <| c_clI fun x1 h1 => (s_bipush i_L_does_251).trans <| (s_irem i_L_does_253).trans <| c_ite rfl <| (s_goto i_L_does_254).trans <| rfl) ((s_iload i_L_does_257 rfl).trans <| (s_bipush i_L_does_259).trans <| (s_irem i_L_does_261).trans <| c_ite rfl <| rfl)
theorem bk_L_does_262 (X : mv_X) (call : mv_G) (h : mv_H) (a0 : Nat) (v1 : Int32) (v2 : Int32) (a3 : Nat) (v4 : Int32) (v5 : Int32) (v6 : Int32) (v7 : Int32) (v8 : Int32) (s0 : Int32) (s1 : Int32) (s2 : Nat) : mv_run X call m_L_does 262 [.ref a0, .int v1, .int v2, .ref a3, .int v4, .int v5, .int v6, .int v7, .int v8] [.int s0, .int s1, .ref s2] h =
  if (nZ 24) = 0 then none else 
  mv_clI call 365 [.ref s2, .int s1, .int s0, .int ((v6 + v7) - (v6 + v7) / (nZ 24) * (nZ 24))] h mv_raise fun x1 h1 =>
  (some (.inl (some (.int x1)), h1)) :=
  (s_iload i_L_does_262 rfl).trans <| (s_iload i_L_does_264 rfl).trans <| (s_iadd i_L_does_266).trans <| (s_bipush i_L_does_267).trans <| (s_irem i_L_does_269).trans <| c_ite rfl <| (s_s1 [.ref s2, .int s1, .int s0, .int ((v6 + v7) - (v6 + v7) / (nZ 24) * (nZ 24))] [] i_L_does_270 rfl (fun _ => rfl)).trans <| c_clI fun x1 h1 => s_iret1 i_L_does_273 rfl
theorem bk_L_does_294 (X : mv_X) (call : mv_G) (h : mv_H) (a0 : Nat) (v1 : Int32) (v2 : Int32) (a3 : Nat) (v4 : Int32) (v5 : Int32) (v6 : Int32) (v7 : Int32) (v8 : Int32) (s0 : Nat) : mv_run X call m_L_does 294 [.ref a0, .int v1, .int v2, .ref a3, .int v4, .int v5, .int v6, .int v7, .int v8] [.ref s0] h =
  mv_run X call m_L_does 304 [.ref a0, .int v1, .int v2, .ref a3, .int v4, .int v5, .int v6, .int v7, .int v8] [.int v8, .ref s0] h :=
  (s_iload i_L_does_294 rfl).trans <| (s_goto i_L_does_296).trans <| rfl
theorem bk_L_does_304 (X : mv_X) (call : mv_G) (h : mv_H) (a0 : Nat) (v1 : Int32) (v2 : Int32) (a3 : Nat) (v4 : Int32) (v5 : Int32) (v6 : Int32) (v7 : Int32) (v8 : Int32) (s0 : Int32) (s1 : Nat) : mv_run X call m_L_does 304 [.ref a0, .int v1, .int v2, .ref a3, .int v4, .int v5, .int v6, .int v7, .int v8] [.int s0, .ref s1] h =
  mv_clI call 366 [.ref s1, .int s0] h mv_raise fun x1 h1 =>
  (some (.inl (some (.int x1)), h1)) :=
  (s_s1 [.ref s1, .int s0] [] i_L_does_304 rfl (fun _ => rfl)).trans <| c_clI fun x1 h1 => s_iret1 i_L_does_307 rfl
theorem bk_L_does_333 (X : mv_X) (call : mv_G) (h : mv_H) (a0 : Nat) (v1 : Int32) (v2 : Int32) (a3 : Nat) (v4 : Int32) (v5 : Int32) (v6 : Int32) (v7 : Int32) (v8 : Int32) (s0 : Int32) (s1 : Nat) : mv_run X call m_L_does 333 [.ref a0, .int v1, .int v2, .ref a3, .int v4, .int v5, .int v6, .int v7, .int v8] [.int s0, .ref s1] h =
  mv_clI call 369 [.ref s1, .int s0] h mv_raise fun x1 h1 =>
  (some (.inl (some (.int x1)), h1)) :=
  (s_s1 [.ref s1, .int s0] [] i_L_does_333 rfl (fun _ => rfl)).trans <| c_clI fun x1 h1 => s_iret1 i_L_does_336 rfl
theorem bk_L_does_469 (X : mv_X) (call : mv_G) (h : mv_H) (a0 : Nat) (v1 : Int32) (v2 : Int32) (a3 : Nat) (v4 : Int32) (v5 : Int32) (v6 : Int32) (v7 : Int32) (v8 : Int32) (s0 : Nat) (s1 : Nat) (s2 : Nat) : mv_run X call m_L_does 469 [.ref a0, .int v1, .int v2, .ref a3, .int v4, .int v5, .int v6, .int v7, .int v8] [.ref s0, .ref s1, .ref s2] h =
  mv_rcv X h [.ref s1, .ref s0] 1 (mv_clR call 337 [.ref s1, .ref s0] h mv_raise fun r1 h1 =>
  mv_rcv X h1 [.ref r1] 1 (mv_clR call 338 [.ref r1] h1 mv_raise fun r2 h2 =>
  mv_clI call 379 [.ref s2, .ref r2] h2 mv_raise fun x1 h3 =>
  (some (.inl (some (.int x1)), h3)))) :=
  (s_v2 [.ref s1, .ref s0] [.ref s2] i_L_does_469 rfl (fun _ => rfl)).trans <| c_rcv <| c_clR fun r1 h1 => (s_v2 [.ref r1] [.ref s2] i_L_does_472 rfl (fun _ => rfl)).trans <| c_rcv <| c_clR fun r2 h2 => (s_s1 [.ref s2, .ref r2] [] i_L_does_475 rfl (fun _ => rfl)).trans <| c_clI fun x1 h3 => s_iret1 i_L_does_478 rfl
theorem mc_L_sum (X : mv_X) (d : Nat) (h : mv_H) (a0 : Nat) : mv_call X (d + 1) 383 [.ref a0] h = mv_run X (mv_call X d) m_L_sum 0 [.ref a0, .retAddr 0, .retAddr 0, .retAddr 0, .retAddr 0] [] h := rfl
theorem i_L_sum_0 : mv_look m_L_sum.2.2.2.1 32 0 = some (.ldc2_w 296, 0, []) := by decide +kernel
theorem i_L_sum_3 : mv_look m_L_sum.2.2.2.1 32 3 = some (.aload_n 0, 0, []) := by decide +kernel
theorem i_L_sum_4 : mv_look m_L_sum.2.2.2.1 32 4 = some (.invokevirtual 224, 0, []) := by decide +kernel
theorem i_L_sum_7 : mv_look m_L_sum.2.2.2.1 32 7 = some (.i2l, 0, []) := by decide +kernel
theorem i_L_sum_8 : mv_look m_L_sum.2.2.2.1 32 8 = some (.lmul, 0, []) := by decide +kernel
theorem i_L_sum_9 : mv_look m_L_sum.2.2.2.1 32 9 = some (.ldc2_w 298, 0, []) := by decide +kernel
theorem i_L_sum_12 : mv_look m_L_sum.2.2.2.1 32 12 = some (.aload_n 0, 0, []) := by decide +kernel
theorem i_L_sum_13 : mv_look m_L_sum.2.2.2.1 32 13 = some (.invokevirtual 221, 0, []) := by decide +kernel
theorem i_L_sum_16 : mv_look m_L_sum.2.2.2.1 32 16 = some (.i2l, 0, []) := by decide +kernel
theorem i_L_sum_17 : mv_look m_L_sum.2.2.2.1 32 17 = some (.lmul, 0, []) := by decide +kernel
theorem i_L_sum_18 : mv_look m_L_sum.2.2.2.1 32 18 = some (.ladd, 0, []) := by decide +kernel
theorem i_L_sum_19 : mv_look m_L_sum.2.2.2.1 32 19 = some (.ldc2_w 300, 0, []) := by decide +kernel
theorem i_L_sum_22 : mv_look m_L_sum.2.2.2.1 32 22 = some (.aload_n 0, 0, []) := by decide +kernel
theorem i_L_sum_23 : mv_look m_L_sum.2.2.2.1 32 23 = some (.invokevirtual 218, 0, []) := by decide +kernel
theorem i_L_sum_26 : mv_look m_L_sum.2.2.2.1 32 26 = some (.i2l, 0, []) := by decide +kernel
theorem i_L_sum_27 : mv_look m_L_sum.2.2.2.1 32 27 = some (.lmul, 0, []) := by decide +kernel
theorem i_L_sum_28 : mv_look m_L_sum.2.2.2.1 32 28 = some (.ladd, 0, []) := by decide +kernel
theorem i_L_sum_29 : mv_look m_L_sum.2.2.2.1 32 29 = some (.ldc2_w 302, 0, []) := by decide +kernel
theorem i_L_sum_32 : mv_look m_L_sum.2.2.2.1 32 32 = some (.aload_n 0, 0, []) := by decide +kernel
theorem i_L_sum_33 : mv_look m_L_sum.2.2.2.1 32 33 = some (.invokevirtual 215, 0, []) := by decide +kernel
theorem i_L_sum_36 : mv_look m_L_sum.2.2.2.1 32 36 = some (.i2l, 0, []) := by decide +kernel
theorem i_L_sum_37 : mv_look m_L_sum.2.2.2.1 32 37 = some (.lmul, 0, []) := by decide +kernel
theorem i_L_sum_38 : mv_look m_L_sum.2.2.2.1 32 38 = some (.ladd, 0, []) := by decide +kernel
theorem i_L_sum_39 : mv_look m_L_sum.2.2.2.1 32 39 = some (.aload_n 0, 0, []) := by decide +kernel
theorem i_L_sum_40 : mv_look m_L_sum.2.2.2.1 32 40 = some (.invokevirtual 212, 0, []) := by decide +kernel
theorem i_L_sum_43 : mv_look m_L_sum.2.2.2.1 32 43 = some (.i2l, 0, []) := by decide +kernel
theorem i_L_sum_44 : mv_look m_L_sum.2.2.2.1 32 44 = some (.ladd, 0, []) := by decide +kernel
theorem i_L_sum_45 : mv_look m_L_sum.2.2.2.1 32 45 = some (.lstore_n 1, 0, []) := by decide +kernel
theorem i_L_sum_46 : mv_look m_L_sum.2.2.2.1 32 46 = some (.iconst 0, 0, []) := by decide +kernel
theorem i_L_sum_47 : mv_look m_L_sum.2.2.2.1 32 47 = some (.istore_n 3, 0, []) := by decide +kernel
theorem i_L_sum_48 : mv_look m_L_sum.2.2.2.1 32 48 = some (.iload_n 3, 0, []) := by decide +kernel
theorem i_L_sum_49 : mv_look m_L_sum.2.2.2.1 32 49 = some (.bipush 10, 0, []) := by decide +kernel
theorem i_L_sum_51 : mv_look m_L_sum.2.2.2.1 32 51 = some (.if_icmp .ge 89, 140, []) := by decide +kernel
theorem i_L_sum_54 : mv_look m_L_sum.2.2.2.1 32 54 = some (.ldc2_w 300, 0, []) := by decide +kernel
theorem i_L_sum_57 : mv_look m_L_sum.2.2.2.1 32 57 = some (.lload_n 1, 0, []) := by decide +kernel
theorem i_L_sum_58 : mv_look m_L_sum.2.2.2.1 32 58 = some (.lmul, 0, []) := by decide +kernel
theorem i_L_sum_59 : mv_look m_L_sum.2.2.2.1 32 59 = some (.ldc2_w 296, 0, []) := by decide +kernel
theorem i_L_sum_62 : mv_look m_L_sum.2.2.2.1 32 62 = some (.aload_n 0, 0, []) := by decide +kernel
theorem i_L_sum_63 : mv_look m_L_sum.2.2.2.1 32 63 = some (.iload_n 3, 0, []) := by decide +kernel
theorem i_L_sum_64 : mv_look m_L_sum.2.2.2.1 32 64 = some (.invokestatic 304, 0, []) := by decide +kernel
theorem i_L_sum_67 : mv_look m_L_sum.2.2.2.1 32 67 = some (.i2l, 0, []) := by decide +kernel
theorem i_L_sum_68 : mv_look m_L_sum.2.2.2.1 32 68 = some (.lmul, 0, []) := by decide +kernel
theorem i_L_sum_69 : mv_look m_L_sum.2.2.2.1 32 69 = some (.ladd, 0, []) := by decide +kernel
theorem i_L_sum_70 : mv_look m_L_sum.2.2.2.1 32 70 = some (.ldc2_w 298, 0, []) := by decide +kernel
theorem i_L_sum_73 : mv_look m_L_sum.2.2.2.1 32 73 = some (.aload_n 0, 0, []) := by decide +kernel
theorem i_L_sum_74 : mv_look m_L_sum.2.2.2.1 32 74 = some (.iload_n 3, 0, []) := by decide +kernel
theorem i_L_sum_75 : mv_look m_L_sum.2.2.2.1 32 75 = some (.invokestatic 195, 0, []) := by decide +kernel
theorem i_L_sum_78 : mv_look m_L_sum.2.2.2.1 32 78 = some (.i2l, 0, []) := by decide +kernel
theorem i_L_sum_79 : mv_look m_L_sum.2.2.2.1 32 79 = some (.lmul, 0, []) := by decide +kernel
theorem i_L_sum_80 : mv_look m_L_sum.2.2.2.1 32 80 = some (.ladd, 0, []) := by decide +kernel
theorem i_L_sum_81 : mv_look m_L_sum.2.2.2.1 32 81 = some (.aload_n 0, 0, []) := by decide +kernel
theorem i_L_sum_82 : mv_look m_L_sum.2.2.2.1 32 82 = some (.iload_n 3, 0, []) := by decide +kernel
theorem i_L_sum_83 : mv_look m_L_sum.2.2.2.1 32 83 = some (.invokestatic 202, 0, []) := by decide +kernel
theorem i_L_sum_86 : mv_look m_L_sum.2.2.2.1 32 86 = some (.i2l, 0, []) := by decide +kernel
theorem i_L_sum_87 : mv_look m_L_sum.2.2.2.1 32 87 = some (.ladd, 0, []) := by decide +kernel
theorem i_L_sum_88 : mv_look m_L_sum.2.2.2.1 32 88 = some (.ldc_w 306, 0, []) := by decide +kernel
theorem i_L_sum_91 : mv_look m_L_sum.2.2.2.1 32 91 = some (.aload_n 0, 0, []) := by decide +kernel
theorem i_L_sum_92 : mv_look m_L_sum.2.2.2.1 32 92 = some (.iload_n 3, 0, []) := by decide +kernel
theorem i_L_sum_93 : mv_look m_L_sum.2.2.2.1 32 93 = some (.invokestatic 307, 0, []) := by decide +kernel
theorem i_L_sum_96 : mv_look m_L_sum.2.2.2.1 32 96 = some (.fmul, 0, []) := by decide +kernel
theorem i_L_sum_97 : mv_look m_L_sum.2.2.2.1 32 97 = some (.f2l, 0, []) := by decide +kernel
theorem i_L_sum_98 : mv_look m_L_sum.2.2.2.1 32 98 = some (.ladd, 0, []) := by decide +kernel
theorem i_L_sum_99 : mv_look m_L_sum.2.2.2.1 32 99 = some (.lstore_n 1, 0, []) := by decide +kernel
theorem i_L_sum_100 : mv_look m_L_sum.2.2.2.1 32 100 = some (.iconst 0, 0, []) := by decide +kernel
theorem i_L_sum_101 : mv_look m_L_sum.2.2.2.1 32 101 = some (.istore 4, 0, []) := by decide +kernel
theorem i_L_sum_103 : mv_look m_L_sum.2.2.2.1 32 103 = some (.iload 4, 0, []) := by decide +kernel
theorem i_L_sum_105 : mv_look m_L_sum.2.2.2.1 32 105 = some (.aload_n 0, 0, []) := by decide +kernel
theorem i_L_sum_106 : mv_look m_L_sum.2.2.2.1 32 106 = some (.iload_n 3, 0, []) := by decide +kernel
theorem i_L_sum_107 : mv_look m_L_sum.2.2.2.1 32 107 = some (.invokestatic 204, 0, []) := by decide +kernel
theorem i_L_sum_110 : mv_look m_L_sum.2.2.2.1 32 110 = some (.if_icmp .ge 24, 134, []) := by decide +kernel
theorem i_L_sum_113 : mv_look m_L_sum.2.2.2.1 32 113 = some (.ldc2_w 300, 0, []) := by decide +kernel
theorem i_L_sum_116 : mv_look m_L_sum.2.2.2.1 32 116 = some (.lload_n 1, 0, []) := by decide +kernel
theorem i_L_sum_117 : mv_look m_L_sum.2.2.2.1 32 117 = some (.lmul, 0, []) := by decide +kernel
theorem i_L_sum_118 : mv_look m_L_sum.2.2.2.1 32 118 = some (.aload_n 0, 0, []) := by decide +kernel
theorem i_L_sum_119 : mv_look m_L_sum.2.2.2.1 32 119 = some (.iload_n 3, 0, []) := by decide +kernel
theorem i_L_sum_120 : mv_look m_L_sum.2.2.2.1 32 120 = some (.iload 4, 0, []) := by decide +kernel
theorem i_L_sum_122 : mv_look m_L_sum.2.2.2.1 32 122 = some (.invokestatic 310, 0, []) := by decide +kernel
theorem i_L_sum_125 : mv_look m_L_sum.2.2.2.1 32 125 = some (.i2l, 0, []) := by decide +kernel
theorem i_L_sum_126 : mv_look m_L_sum.2.2.2.1 32 126 = some (.ladd, 0, []) := by decide +kernel
theorem i_L_sum_127 : mv_look m_L_sum.2.2.2.1 32 127 = some (.lstore_n 1, 0, []) := by decide +kernel
theorem i_L_sum_128 : mv_look m_L_sum.2.2.2.1 32 128 = some (.iinc 4 1, 0, []) := by decide +kernel
theorem i_L_sum_131 : mv_look m_L_sum.2.2.2.1 32 131 = some (.goto (-28), 103, []) := by decide +kernel
theorem i_L_sum_134 : mv_look m_L_sum.2.2.2.1 32 134 = some (.iinc 3 1, 0, []) := by decide +kernel
theorem i_L_sum_137 : mv_look m_L_sum.2.2.2.1 32 137 = some (.goto (-89), 48, []) := by decide +kernel
theorem i_L_sum_140 : mv_look m_L_sum.2.2.2.1 32 140 = some (.iconst 0, 0, []) := by decide +kernel
theorem i_L_sum_141 : mv_look m_L_sum.2.2.2.1 32 141 = some (.istore_n 3, 0, []) := by decide +kernel
theorem i_L_sum_142 : mv_look m_L_sum.2.2.2.1 32 142 = some (.iload_n 3, 0, []) := by decide +kernel
theorem i_L_sum_143 : mv_look m_L_sum.2.2.2.1 32 143 = some (.bipush 24, 0, []) := by decide +kernel
theorem i_L_sum_145 : mv_look m_L_sum.2.2.2.1 32 145 = some (.if_icmp .ge 55, 200, []) := by decide +kernel
theorem i_L_sum_148 : mv_look m_L_sum.2.2.2.1 32 148 = some (.ldc2_w 300, 0, []) := by decide +kernel
theorem i_L_sum_151 : mv_look m_L_sum.2.2.2.1 32 151 = some (.lload_n 1, 0, []) := by decide +kernel
theorem i_L_sum_152 : mv_look m_L_sum.2.2.2.1 32 152 = some (.lmul, 0, []) := by decide +kernel
theorem i_L_sum_153 : mv_look m_L_sum.2.2.2.1 32 153 = some (.aload_n 0, 0, []) := by decide +kernel
theorem i_L_sum_154 : mv_look m_L_sum.2.2.2.1 32 154 = some (.iload_n 3, 0, []) := by decide +kernel
theorem i_L_sum_155 : mv_look m_L_sum.2.2.2.1 32 155 = some (.invokestatic 312, 0, []) := by decide +kernel
theorem i_L_sum_158 : mv_look m_L_sum.2.2.2.1 32 158 = some (.i2l, 0, []) := by decide +kernel
theorem i_L_sum_159 : mv_look m_L_sum.2.2.2.1 32 159 = some (.ladd, 0, []) := by decide +kernel
theorem i_L_sum_160 : mv_look m_L_sum.2.2.2.1 32 160 = some (.lstore_n 1, 0, []) := by decide +kernel
theorem i_L_sum_161 : mv_look m_L_sum.2.2.2.1 32 161 = some (.iconst 0, 0, []) := by decide +kernel
theorem i_L_sum_162 : mv_look m_L_sum.2.2.2.1 32 162 = some (.istore 4, 0, []) := by decide +kernel
theorem i_L_sum_164 : mv_look m_L_sum.2.2.2.1 32 164 = some (.iload 4, 0, []) := by decide +kernel
theorem i_L_sum_166 : mv_look m_L_sum.2.2.2.1 32 166 = some (.aload_n 0, 0, []) := by decide +kernel
theorem i_L_sum_167 : mv_look m_L_sum.2.2.2.1 32 167 = some (.invokevirtual 227, 0, []) := by decide +kernel
theorem i_L_sum_170 : mv_look m_L_sum.2.2.2.1 32 170 = some (.if_icmp .ge 24, 194, []) := by decide +kernel
theorem i_L_sum_173 : mv_look m_L_sum.2.2.2.1 32 173 = some (.ldc2_w 314, 0, []) := by decide +kernel
theorem i_L_sum_176 : mv_look m_L_sum.2.2.2.1 32 176 = some (.lload_n 1, 0, []) := by decide +kernel
theorem i_L_sum_177 : mv_look m_L_sum.2.2.2.1 32 177 = some (.lmul, 0, []) := by decide +kernel
theorem i_L_sum_178 : mv_look m_L_sum.2.2.2.1 32 178 = some (.aload_n 0, 0, []) := by decide +kernel
theorem i_L_sum_179 : mv_look m_L_sum.2.2.2.1 32 179 = some (.iload 4, 0, []) := by decide +kernel
theorem i_L_sum_181 : mv_look m_L_sum.2.2.2.1 32 181 = some (.iload_n 3, 0, []) := by decide +kernel
theorem i_L_sum_182 : mv_look m_L_sum.2.2.2.1 32 182 = some (.invokestatic 316, 0, []) := by decide +kernel
theorem i_L_sum_185 : mv_look m_L_sum.2.2.2.1 32 185 = some (.i2l, 0, []) := by decide +kernel
theorem i_L_sum_186 : mv_look m_L_sum.2.2.2.1 32 186 = some (.ladd, 0, []) := by decide +kernel
theorem i_L_sum_187 : mv_look m_L_sum.2.2.2.1 32 187 = some (.lstore_n 1, 0, []) := by decide +kernel
theorem i_L_sum_188 : mv_look m_L_sum.2.2.2.1 32 188 = some (.iinc 4 1, 0, []) := by decide +kernel
theorem i_L_sum_191 : mv_look m_L_sum.2.2.2.1 32 191 = some (.goto (-27), 164, []) := by decide +kernel
theorem i_L_sum_194 : mv_look m_L_sum.2.2.2.1 32 194 = some (.iinc 3 1, 0, []) := by decide +kernel
theorem i_L_sum_197 : mv_look m_L_sum.2.2.2.1 32 197 = some (.goto (-55), 142, []) := by decide +kernel
theorem i_L_sum_200 : mv_look m_L_sum.2.2.2.1 32 200 = some (.lload_n 1, 0, []) := by decide +kernel
theorem i_L_sum_201 : mv_look m_L_sum.2.2.2.1 32 201 = some (.lreturn, 0, []) := by decide +kernel
theorem bk_L_sum_0 (X : mv_X) (call : mv_G) (h : mv_H) (a0 : Nat) : mv_run X call m_L_sum 0 [.ref a0, .retAddr 0, .retAddr 0, .retAddr 0, .retAddr 0] [] h =
  mv_rcv X h [.ref a0] 12 (mv_clI call 117 [.ref a0] h mv_raise fun x1 h1 =>
  mv_rcv X h1 [.ref a0] 12 (mv_clI call 118 [.ref a0] h1 mv_raise fun x2 h2 =>
  mv_rcv X h2 [.ref a0] 12 (mv_clI call 119 [.ref a0] h2 mv_raise fun x3 h3 =>
  mv_rcv X h3 [.ref a0] 12 (mv_clI call 121 [.ref a0] h3 mv_raise fun x4 h4 =>
  mv_rcv X h4 [.ref a0] 12 (mv_clI call 122 [.ref a0] h4 mv_raise fun x5 h5 =>
  mv_run X call m_L_sum 48 [.ref a0, .long ((((((Int64.ofNat 1009) * (x1).toInt64) + ((Int64.ofNat 101) * (x2).toInt64)) + ((Int64.ofNat 31) * (x3).toInt64)) + ((Int64.ofNat 7) * (x4).toInt64)) + (x5).toInt64), .retAddr 0, .int (nZ 0), .retAddr 0] [] h5))))) :=
  (s_ldc2L i_L_sum_0 rfl).trans <| (s_aload_n i_L_sum_3 rfl).trans <| (s_v1 [.ref a0] [.long (Int64.ofNat 1009)] i_L_sum_4 rfl (fun _ => rfl)).trans <| c_rcv <| c_clI fun x1 h1 => (s_i2l i_L_sum_7).trans <| (s_lmul i_L_sum_8).trans <| (s_ldc2L i_L_sum_9 rfl).trans <| (s_aload_n i_L_sum_12 rfl).trans <| (s_v1 [.ref a0] [.long (Int64.ofNat 101), .long ((Int64.ofNat 1009) * (x1).toInt64)] i_L_sum_13 rfl (fun _ => rfl)).trans <| c_rcv <| c_clI fun x2 h2 => (s_i2l i_L_sum_16).trans <| (s_lmul i_L_sum_17).trans <| (s_ladd i_L_sum_18).trans <| (s_ldc2L i_L_sum_19 rfl).trans <| (s_aload_n i_L_sum_22 rfl).trans <| (s_v1 [.ref a0] [.long (Int64.ofNat 31), .long (((Int64.ofNat 1009) * (x1).toInt64) + ((Int64.ofNat 101) * (x2).toInt64))] i_L_sum_23 rfl (fun _ => rfl)).trans <| c_rcv <| c_clI fun x3 h3 => (s_i2l i_L_sum_26).trans <| (s_lmul i_L_sum_27).trans <| (s_ladd i_L_sum_28).trans <| (s_ldc2L i_L_sum_29 rfl).trans <| (s_aload_n i_L_sum_32 rfl).trans <| (s_v1 [.ref a0] [.long (Int64.ofNat 7), .long ((((Int64.ofNat 1009) * (x1).toInt64) + ((Int64.ofNat 101) * (x2).toInt64)) + ((Int64.ofNat 31) * (x3).toInt64))] i_L_sum_33 rfl (fun _ => rfl)).trans <| c_rcv <| c_clI fun x4 h4 => (s_i2l i_L_sum_36).trans <| (s_lmul i_L_sum_37).trans <| (s_ladd i_L_sum_38).trans <| (s_aload_n i_L_sum_39 rfl).trans <| (s_v1 [.ref a0] [.long (((((Int64.ofNat 1009) * (x1).toInt64) + ((Int64.ofNat 101) * (x2).toInt64)) + ((Int64.ofNat 31) * (x3).toInt64)) + ((Int64.ofNat 7) * (x4).toInt64))] i_L_sum_40 rfl (fun _ => rfl)).trans <| c_rcv <| c_clI fun x5 h5 => (s_i2l i_L_sum_43).trans <| (s_ladd i_L_sum_44).trans <| (s_lstore_n (ls2 := [.ref a0, .long ((((((Int64.ofNat 1009) * (x1).toInt64) + ((Int64.ofNat 101) * (x2).toInt64)) + ((Int64.ofNat 31) * (x3).toInt64)) + ((Int64.ofNat 7) * (x4).toInt64)) + (x5).toInt64), .retAddr 0, .retAddr 0, .retAddr 0]) i_L_sum_45 (fun _ => rfl)).trans <| (s_iconst i_L_sum_46).trans <| (s_istore_n (ls2 := [.ref a0, .long ((((((Int64.ofNat 1009) * (x1).toInt64) + ((Int64.ofNat 101) * (x2).toInt64)) + ((Int64.ofNat 31) * (x3).toInt64)) + ((Int64.ofNat 7) * (x4).toInt64)) + (x5).toInt64), .retAddr 0, .int (nZ 0), .retAddr 0]) i_L_sum_47 (fun _ => rfl)).trans <| rfl
theorem bk_L_sum_48 (X : mv_X) (call : mv_G) (h : mv_H) (a0 : Nat) (w1 : Int64) (v3 : Int32) (j4 : Value) : mv_run X call m_L_sum 48 [.ref a0, .long w1, .retAddr 0, .int v3, j4] [] h =
  if (nZ 10) ≤ v3 then 
  (mv_run X call m_L_sum 142 [.ref a0, .long w1, .retAddr 0, .int (nZ 0), j4] [] h)
  else (mv_clI call 347 [.ref a0, .int v3] h mv_raise fun x1 h1 =>
    mv_clI call 349 [.ref a0, .int v3] h1 mv_raise fun x2 h2 =>
    mv_clI call 348 [.ref a0, .int v3] h2 mv_raise fun x3 h3 =>
    mv_clF call 371 [.ref a0, .int v3] h3 mv_raise fun f1 h4 =>
    mv_chk (decide ((FP.fmul (UInt32.ofNat 1148846080) f1) &&& 0x7fffffff ≤ 0x7f800000)) (
    mv_run X call m_L_sum 103 [.ref a0, .long ((((((Int64.ofNat 31) * w1) + ((Int64.ofNat 1009) * (x1).toInt64)) + ((Int64.ofNat 101) * (x2).toInt64)) + (x3).toInt64) + (FP.f2l (FP.fmul (UInt32.ofNat 1148846080) f1))), .retAddr 0, .int v3, .int (nZ 0)] [] h4)) :=
  (s_iload_n i_L_sum_48 rfl).trans <| (s_bipush i_L_sum_49).trans <| (s_icmp_ge i_L_sum_51).trans <| c_ite ((s_iconst i_L_sum_140).trans <| (s_istore_n (ls2 := [.ref a0, .long w1, .retAddr 0, .int (nZ 0), j4]) i_L_sum_141 (fun _ => rfl)).trans <| rfl) ((s_ldc2L i_L_sum_54 rfl).trans <| (s_lload_n i_L_sum_57 rfl).trans <| (s_lmul i_L_sum_58).trans <| (s_ldc2L i_L_sum_59 rfl).trans <| (s_aload_n i_L_sum_62 rfl).trans <| (s_iload_n i_L_sum_63 rfl).trans <| (s_s1 [.ref a0, .int v3] [.long (Int64.ofNat 1009), .long ((Int64.ofNat 31) * w1)] i_L_sum_64 rfl (fun _ => rfl)).trans <| c_clI fun x1 h1 => (s_i2l i_L_sum_67).trans <| (s_lmul i_L_sum_68).trans <| (s_ladd i_L_sum_69).trans <| (s_ldc2L i_L_sum_70 rfl).trans <| (s_aload_n i_L_sum_73 rfl).trans <| (s_iload_n i_L_sum_74 rfl).trans <| (s_s1 [.ref a0, .int v3] [.long (Int64.ofNat 101), .long (((Int64.ofNat 31) * w1) + ((Int64.ofNat 1009) * (x1).toInt64))] i_L_sum_75 rfl (fun _ => rfl)).trans <| c_clI fun x2 h2 => (s_i2l i_L_sum_78).trans <| (s_lmul i_L_sum_79).trans <| (s_ladd i_L_sum_80).trans <| (s_aload_n i_L_sum_81 rfl).trans <| (s_iload_n i_L_sum_82 rfl).trans <| (s_s1 [.ref a0, .int v3] [.long ((((Int64.ofNat 31) * w1) + ((Int64.ofNat 1009) * (x1).toInt64)) + ((Int64.ofNat 101) * (x2).toInt64))] i_L_sum_83 rfl (fun _ => rfl)).trans <| c_clI fun x3 h3 => (s_i2l i_L_sum_86).trans <| (s_ladd i_L_sum_87).trans <| (s_ldcF_w i_L_sum_88 rfl).trans <| (s_aload_n i_L_sum_91 rfl).trans <| (s_iload_n i_L_sum_92 rfl).trans <| (s_s4 [.ref a0, .int v3] [.float (UInt32.ofNat 1148846080), .long (((((Int64.ofNat 31) * w1) + ((Int64.ofNat 1009) * (x1).toInt64)) + ((Int64.ofNat 101) * (x2).toInt64)) + (x3).toInt64)] i_L_sum_93 rfl (fun _ => rfl)).trans <| c_clF fun f1 h4 => (s_fmul i_L_sum_96).trans <| c_chk <| (s_f2l i_L_sum_97).trans <| (s_ladd i_L_sum_98).trans <| (s_lstore_n (ls2 := [.ref a0, .long ((((((Int64.ofNat 31) * w1) + ((Int64.ofNat 1009) * (x1).toInt64)) + ((Int64.ofNat 101) * (x2).toInt64)) + (x3).toInt64) + (FP.f2l (FP.fmul (UInt32.ofNat 1148846080) f1))), .retAddr 0, .int v3, j4]) i_L_sum_99 (fun _ => rfl)).trans <| (s_iconst i_L_sum_100).trans <| (s_istore (ls2 := [.ref a0, .long ((((((Int64.ofNat 31) * w1) + ((Int64.ofNat 1009) * (x1).toInt64)) + ((Int64.ofNat 101) * (x2).toInt64)) + (x3).toInt64) + (FP.f2l (FP.fmul (UInt32.ofNat 1148846080) f1))), .retAddr 0, .int v3, .int (nZ 0)]) i_L_sum_101 (fun _ => rfl)).trans <| rfl)
theorem bk_L_sum_103 (X : mv_X) (call : mv_G) (h : mv_H) (a0 : Nat) (w1 : Int64) (v3 : Int32) (v4 : Int32) : mv_run X call m_L_sum 103 [.ref a0, .long w1, .retAddr 0, .int v3, .int v4] [] h =
  mv_clI call 355 [.ref a0, .int v3] h mv_raise fun x1 h1 =>
  if x1 ≤ v4 then 
  (mv_run X call m_L_sum 48 [.ref a0, .long w1, .retAddr 0, .int (v3 + nZ 1), .int v4] [] h1)
  else (mv_clI call 356 [.ref a0, .int v3, .int v4] h1 mv_raise fun x2 h2 =>
    mv_run X call m_L_sum 103 [.ref a0, .long (((Int64.ofNat 31) * w1) + (x2).toInt64), .retAddr 0, .int v3, .int (v4 + nZ 1)] [] h2) :=
  (s_iload i_L_sum_103 rfl).trans <| (s_aload_n i_L_sum_105 rfl).trans <| (s_iload_n i_L_sum_106 rfl).trans <| (s_s1 [.ref a0, .int v3] [.int v4] i_L_sum_107 rfl (fun _ => rfl)).trans <| c_clI fun x1 h1 => (s_icmp_ge i_L_sum_110).trans <| c_ite ((s_iinc (ls2 := [.ref a0, .long w1, .retAddr 0, .int (v3 + nZ 1), .int v4]) i_L_sum_134 rfl (fun _ => rfl)).trans <| (s_goto i_L_sum_137).trans <| rfl) ((s_ldc2L i_L_sum_113 rfl).trans <| (s_lload_n i_L_sum_116 rfl).trans <| (s_lmul i_L_sum_117).trans <| (s_aload_n i_L_sum_118 rfl).trans <| (s_iload_n i_L_sum_119 rfl).trans <| (s_iload i_L_sum_120 rfl).trans <| (s_s1 [.ref a0, .int v3, .int v4] [.long ((Int64.ofNat 31) * w1)] i_L_sum_122 rfl (fun _ => rfl)).trans <| c_clI fun x2 h2 => (s_i2l i_L_sum_125).trans <| (s_ladd i_L_sum_126).trans <| (s_lstore_n (ls2 := [.ref a0, .long (((Int64.ofNat 31) * w1) + (x2).toInt64), .retAddr 0, .int v3, .int v4]) i_L_sum_127 (fun _ => rfl)).trans <| (s_iinc (ls2 := [.ref a0, .long (((Int64.ofNat 31) * w1) + (x2).toInt64), .retAddr 0, .int v3, .int (v4 + nZ 1)]) i_L_sum_128 rfl (fun _ => rfl)).trans <| (s_goto i_L_sum_131).trans <| rfl)
theorem bk_L_sum_142 (X : mv_X) (call : mv_G) (h : mv_H) (a0 : Nat) (w1 : Int64) (v3 : Int32) (j4 : Value) : mv_run X call m_L_sum 142 [.ref a0, .long w1, .retAddr 0, .int v3, j4] [] h =
  if (nZ 24) ≤ v3 then 
  ((some (.inl (some (.long w1)), h)))
  else (mv_clI call 361 [.ref a0, .int v3] h mv_raise fun x1 h1 =>
    mv_run X call m_L_sum 164 [.ref a0, .long (((Int64.ofNat 31) * w1) + (x1).toInt64), .retAddr 0, .int v3, .int (nZ 0)] [] h1) :=
  (s_iload_n i_L_sum_142 rfl).trans <| (s_bipush i_L_sum_143).trans <| (s_icmp_ge i_L_sum_145).trans <| c_ite ((s_lload_n i_L_sum_200 rfl).trans <| s_lreturn i_L_sum_201 rfl) ((s_ldc2L i_L_sum_148 rfl).trans <| (s_lload_n i_L_sum_151 rfl).trans <| (s_lmul i_L_sum_152).trans <| (s_aload_n i_L_sum_153 rfl).trans <| (s_iload_n i_L_sum_154 rfl).trans <| (s_s1 [.ref a0, .int v3] [.long ((Int64.ofNat 31) * w1)] i_L_sum_155 rfl (fun _ => rfl)).trans <| c_clI fun x1 h1 => (s_i2l i_L_sum_158).trans <| (s_ladd i_L_sum_159).trans <| (s_lstore_n (ls2 := [.ref a0, .long (((Int64.ofNat 31) * w1) + (x1).toInt64), .retAddr 0, .int v3, j4]) i_L_sum_160 (fun _ => rfl)).trans <| (s_iconst i_L_sum_161).trans <| (s_istore (ls2 := [.ref a0, .long (((Int64.ofNat 31) * w1) + (x1).toInt64), .retAddr 0, .int v3, .int (nZ 0)]) i_L_sum_162 (fun _ => rfl)).trans <| rfl)
theorem bk_L_sum_164 (X : mv_X) (call : mv_G) (h : mv_H) (a0 : Nat) (w1 : Int64) (v3 : Int32) (v4 : Int32) : mv_run X call m_L_sum 164 [.ref a0, .long w1, .retAddr 0, .int v3, .int v4] [] h =
  mv_rcv X h [.ref a0] 12 (mv_clI call 110 [.ref a0] h mv_raise fun x1 h1 =>
  if x1 ≤ v4 then 
  (mv_run X call m_L_sum 142 [.ref a0, .long w1, .retAddr 0, .int (v3 + nZ 1), .int v4] [] h1)
  else (mv_clI call 367 [.ref a0, .int v4, .int v3] h1 mv_raise fun x2 h2 =>
    mv_run X call m_L_sum 164 [.ref a0, .long (((Int64.ofNat 2) * w1) + (x2).toInt64), .retAddr 0, .int v3, .int (v4 + nZ 1)] [] h2)) :=
  (s_iload i_L_sum_164 rfl).trans <| (s_aload_n i_L_sum_166 rfl).trans <| (s_v1 [.ref a0] [.int v4] i_L_sum_167 rfl (fun _ => rfl)).trans <| c_rcv <| c_clI fun x1 h1 => (s_icmp_ge i_L_sum_170).trans <| c_ite ((s_iinc (ls2 := [.ref a0, .long w1, .retAddr 0, .int (v3 + nZ 1), .int v4]) i_L_sum_194 rfl (fun _ => rfl)).trans <| (s_goto i_L_sum_197).trans <| rfl) ((s_ldc2L i_L_sum_173 rfl).trans <| (s_lload_n i_L_sum_176 rfl).trans <| (s_lmul i_L_sum_177).trans <| (s_aload_n i_L_sum_178 rfl).trans <| (s_iload i_L_sum_179 rfl).trans <| (s_iload_n i_L_sum_181 rfl).trans <| (s_s1 [.ref a0, .int v4, .int v3] [.long ((Int64.ofNat 2) * w1)] i_L_sum_182 rfl (fun _ => rfl)).trans <| c_clI fun x2 h2 => (s_i2l i_L_sum_185).trans <| (s_ladd i_L_sum_186).trans <| (s_lstore_n (ls2 := [.ref a0, .long (((Int64.ofNat 2) * w1) + (x2).toInt64), .retAddr 0, .int v3, .int v4]) i_L_sum_187 (fun _ => rfl)).trans <| (s_iinc (ls2 := [.ref a0, .long (((Int64.ofNat 2) * w1) + (x2).toInt64), .retAddr 0, .int v3, .int (v4 + nZ 1)]) i_L_sum_188 rfl (fun _ => rfl)).trans <| (s_goto i_L_sum_191).trans <| rfl)
theorem mc_L_isBalloon (X : mv_X) (d : Nat) (h : mv_H) (a0 : Nat) (v1 : Int32) (v2 : Int32) : mv_call X (d + 1) 384 [.ref a0, .int v1, .int v2] h = mv_run X (mv_call X d) m_L_isBalloon 0 [.ref a0, .int v1, .int v2, .retAddr 0, .retAddr 0, .retAddr 0, .retAddr 0, .retAddr 0, .retAddr 0, .retAddr 0] [] h := rfl
theorem i_L_isBalloon_0 : mv_look m_L_isBalloon.2.2.2.1 32 0 = some (.iconst 0, 0, []) := by decide +kernel
theorem i_L_isBalloon_1 : mv_look m_L_isBalloon.2.2.2.1 32 1 = some (.istore_n 3, 0, []) := by decide +kernel
theorem i_L_isBalloon_2 : mv_look m_L_isBalloon.2.2.2.1 32 2 = some (.iconst 0, 0, []) := by decide +kernel
theorem i_L_isBalloon_3 : mv_look m_L_isBalloon.2.2.2.1 32 3 = some (.istore 4, 0, []) := by decide +kernel
theorem i_L_isBalloon_5 : mv_look m_L_isBalloon.2.2.2.1 32 5 = some (.iload 4, 0, []) := by decide +kernel
theorem i_L_isBalloon_7 : mv_look m_L_isBalloon.2.2.2.1 32 7 = some (.aload_n 0, 0, []) := by decide +kernel
theorem i_L_isBalloon_8 : mv_look m_L_isBalloon.2.2.2.1 32 8 = some (.iload_n 1, 0, []) := by decide +kernel
theorem i_L_isBalloon_9 : mv_look m_L_isBalloon.2.2.2.1 32 9 = some (.invokestatic 204, 0, []) := by decide +kernel
theorem i_L_isBalloon_12 : mv_look m_L_isBalloon.2.2.2.1 32 12 = some (.if_icmp .ge 19, 31, []) := by decide +kernel
theorem i_L_isBalloon_15 : mv_look m_L_isBalloon.2.2.2.1 32 15 = some (.iload_n 3, 0, []) := by decide +kernel
theorem i_L_isBalloon_16 : mv_look m_L_isBalloon.2.2.2.1 32 16 = some (.aload_n 0, 0, []) := by decide +kernel
theorem i_L_isBalloon_17 : mv_look m_L_isBalloon.2.2.2.1 32 17 = some (.iload_n 1, 0, []) := by decide +kernel
theorem i_L_isBalloon_18 : mv_look m_L_isBalloon.2.2.2.1 32 18 = some (.iload 4, 0, []) := by decide +kernel
theorem i_L_isBalloon_20 : mv_look m_L_isBalloon.2.2.2.1 32 20 = some (.invokestatic 310, 0, []) := by decide +kernel
theorem i_L_isBalloon_23 : mv_look m_L_isBalloon.2.2.2.1 32 23 = some (.iadd, 0, []) := by decide +kernel
theorem i_L_isBalloon_24 : mv_look m_L_isBalloon.2.2.2.1 32 24 = some (.istore_n 3, 0, []) := by decide +kernel
theorem i_L_isBalloon_25 : mv_look m_L_isBalloon.2.2.2.1 32 25 = some (.iinc 4 1, 0, []) := by decide +kernel
theorem i_L_isBalloon_28 : mv_look m_L_isBalloon.2.2.2.1 32 28 = some (.goto (-23), 5, []) := by decide +kernel
theorem i_L_isBalloon_31 : mv_look m_L_isBalloon.2.2.2.1 32 31 = some (.aload_n 0, 0, []) := by decide +kernel
theorem i_L_isBalloon_32 : mv_look m_L_isBalloon.2.2.2.1 32 32 = some (.iload_n 1, 0, []) := by decide +kernel
theorem i_L_isBalloon_33 : mv_look m_L_isBalloon.2.2.2.1 32 33 = some (.iload_n 2, 0, []) := by decide +kernel
theorem i_L_isBalloon_34 : mv_look m_L_isBalloon.2.2.2.1 32 34 = some (.invokestatic 197, 0, []) := by decide +kernel
theorem i_L_isBalloon_37 : mv_look m_L_isBalloon.2.2.2.1 32 37 = some (.istore 4, 0, []) := by decide +kernel
theorem i_L_isBalloon_39 : mv_look m_L_isBalloon.2.2.2.1 32 39 = some (.aload_n 0, 0, []) := by decide +kernel
theorem i_L_isBalloon_40 : mv_look m_L_isBalloon.2.2.2.1 32 40 = some (.iload_n 1, 0, []) := by decide +kernel
theorem i_L_isBalloon_41 : mv_look m_L_isBalloon.2.2.2.1 32 41 = some (.iload_n 2, 0, []) := by decide +kernel
theorem i_L_isBalloon_42 : mv_look m_L_isBalloon.2.2.2.1 32 42 = some (.invokestatic 200, 0, []) := by decide +kernel
theorem i_L_isBalloon_45 : mv_look m_L_isBalloon.2.2.2.1 32 45 = some (.istore 5, 0, []) := by decide +kernel
theorem i_L_isBalloon_47 : mv_look m_L_isBalloon.2.2.2.1 32 47 = some (.iload_n 2, 0, []) := by decide +kernel
theorem i_L_isBalloon_48 : mv_look m_L_isBalloon.2.2.2.1 32 48 = some (.bipush 40, 0, []) := by decide +kernel
theorem i_L_isBalloon_50 : mv_look m_L_isBalloon.2.2.2.1 32 50 = some (.if_icmp .ne 8, 58, []) := by decide +kernel
theorem i_L_isBalloon_53 : mv_look m_L_isBalloon.2.2.2.1 32 53 = some (.bipush (-75), 0, []) := by decide +kernel
theorem i_L_isBalloon_55 : mv_look m_L_isBalloon.2.2.2.1 32 55 = some (.goto 11, 66, []) := by decide +kernel
theorem i_L_isBalloon_58 : mv_look m_L_isBalloon.2.2.2.1 32 58 = some (.aload_n 0, 0, []) := by decide +kernel
theorem i_L_isBalloon_59 : mv_look m_L_isBalloon.2.2.2.1 32 59 = some (.iload_n 1, 0, []) := by decide +kernel
theorem i_L_isBalloon_60 : mv_look m_L_isBalloon.2.2.2.1 32 60 = some (.iload_n 2, 0, []) := by decide +kernel
theorem i_L_isBalloon_61 : mv_look m_L_isBalloon.2.2.2.1 32 61 = some (.iconst 1, 0, []) := by decide +kernel
theorem i_L_isBalloon_62 : mv_look m_L_isBalloon.2.2.2.1 32 62 = some (.iadd, 0, []) := by decide +kernel
theorem i_L_isBalloon_63 : mv_look m_L_isBalloon.2.2.2.1 32 63 = some (.invokestatic 197, 0, []) := by decide +kernel
theorem i_L_isBalloon_66 : mv_look m_L_isBalloon.2.2.2.1 32 66 = some (.istore 6, 0, []) := by decide +kernel
theorem i_L_isBalloon_68 : mv_look m_L_isBalloon.2.2.2.1 32 68 = some (.aload_n 0, 0, []) := by decide +kernel
theorem i_L_isBalloon_69 : mv_look m_L_isBalloon.2.2.2.1 32 69 = some (.iload_n 1, 0, []) := by decide +kernel
theorem i_L_isBalloon_70 : mv_look m_L_isBalloon.2.2.2.1 32 70 = some (.iload_n 2, 0, []) := by decide +kernel
theorem i_L_isBalloon_71 : mv_look m_L_isBalloon.2.2.2.1 32 71 = some (.invokestatic 318, 0, []) := by decide +kernel
theorem i_L_isBalloon_74 : mv_look m_L_isBalloon.2.2.2.1 32 74 = some (.iload 4, 0, []) := by decide +kernel
theorem i_L_isBalloon_76 : mv_look m_L_isBalloon.2.2.2.1 32 76 = some (.if_icmp .ne 109, 185, []) := by decide +kernel
theorem i_L_isBalloon_79 : mv_look m_L_isBalloon.2.2.2.1 32 79 = some (.iload 4, 0, []) := by decide +kernel
theorem i_L_isBalloon_81 : mv_look m_L_isBalloon.2.2.2.1 32 81 = some (.bipush (-75), 0, []) := by decide +kernel
theorem i_L_isBalloon_83 : mv_look m_L_isBalloon.2.2.2.1 32 83 = some (.if_icmp .ne 20, 103, []) := by decide +kernel
theorem i_L_isBalloon_86 : mv_look m_L_isBalloon.2.2.2.1 32 86 = some (.iload 5, 0, []) := by decide +kernel
theorem i_L_isBalloon_88 : mv_look m_L_isBalloon.2.2.2.1 32 88 = some (.bipush (-75), 0, []) := by decide +kernel
theorem i_L_isBalloon_90 : mv_look m_L_isBalloon.2.2.2.1 32 90 = some (.if_icmp .ne 95, 185, []) := by decide +kernel
theorem i_L_isBalloon_93 : mv_look m_L_isBalloon.2.2.2.1 32 93 = some (.iload 6, 0, []) := by decide +kernel
theorem i_L_isBalloon_95 : mv_look m_L_isBalloon.2.2.2.1 32 95 = some (.bipush (-75), 0, []) := by decide +kernel
theorem i_L_isBalloon_97 : mv_look m_L_isBalloon.2.2.2.1 32 97 = some (.if_icmp .ne 88, 185, []) := by decide +kernel
theorem i_L_isBalloon_100 : mv_look m_L_isBalloon.2.2.2.1 32 100 = some (.goto 81, 181, []) := by decide +kernel
theorem i_L_isBalloon_103 : mv_look m_L_isBalloon.2.2.2.1 32 103 = some (.iload 4, 0, []) := by decide +kernel
theorem i_L_isBalloon_105 : mv_look m_L_isBalloon.2.2.2.1 32 105 = some (.aload_n 0, 0, []) := by decide +kernel
theorem i_L_isBalloon_106 : mv_look m_L_isBalloon.2.2.2.1 32 106 = some (.iload_n 1, 0, []) := by decide +kernel
theorem i_L_isBalloon_107 : mv_look m_L_isBalloon.2.2.2.1 32 107 = some (.invokestatic 204, 0, []) := by decide +kernel
theorem i_L_isBalloon_110 : mv_look m_L_isBalloon.2.2.2.1 32 110 = some (.if_icmp .gt 75, 185, []) := by decide +kernel
theorem i_L_isBalloon_113 : mv_look m_L_isBalloon.2.2.2.1 32 113 = some (.iload 5, 0, []) := by decide +kernel
theorem i_L_isBalloon_115 : mv_look m_L_isBalloon.2.2.2.1 32 115 = some (.iload_n 3, 0, []) := by decide +kernel
theorem i_L_isBalloon_116 : mv_look m_L_isBalloon.2.2.2.1 32 116 = some (.if_icmp .gt 69, 185, []) := by decide +kernel
theorem i_L_isBalloon_119 : mv_look m_L_isBalloon.2.2.2.1 32 119 = some (.iload 5, 0, []) := by decide +kernel
theorem i_L_isBalloon_121 : mv_look m_L_isBalloon.2.2.2.1 32 121 = some (.iload 4, 0, []) := by decide +kernel
theorem i_L_isBalloon_123 : mv_look m_L_isBalloon.2.2.2.1 32 123 = some (.if_icmp .lt 62, 185, []) := by decide +kernel
theorem i_L_isBalloon_126 : mv_look m_L_isBalloon.2.2.2.1 32 126 = some (.iload 4, 0, []) := by decide +kernel
theorem i_L_isBalloon_128 : mv_look m_L_isBalloon.2.2.2.1 32 128 = some (.ifCond .ne 7, 135, []) := by decide +kernel
theorem i_L_isBalloon_131 : mv_look m_L_isBalloon.2.2.2.1 32 131 = some (.iconst 1, 0, []) := by decide +kernel
theorem i_L_isBalloon_132 : mv_look m_L_isBalloon.2.2.2.1 32 132 = some (.goto 4, 136, []) := by decide +kernel
theorem i_L_isBalloon_135 : mv_look m_L_isBalloon.2.2.2.1 32 135 = some (.iconst 0, 0, []) := by decide +kernel
theorem i_L_isBalloon_136 : mv_look m_L_isBalloon.2.2.2.1 32 136 = some (.aload_n 0, 0, []) := by decide +kernel
theorem i_L_isBalloon_137 : mv_look m_L_isBalloon.2.2.2.1 32 137 = some (.iload_n 1, 0, []) := by decide +kernel
theorem i_L_isBalloon_138 : mv_look m_L_isBalloon.2.2.2.1 32 138 = some (.invokestatic 195, 0, []) := by decide +kernel
theorem i_L_isBalloon_141 : mv_look m_L_isBalloon.2.2.2.1 32 141 = some (.iload_n 2, 0, []) := by decide +kernel
theorem i_L_isBalloon_142 : mv_look m_L_isBalloon.2.2.2.1 32 142 = some (.if_icmp .lt 7, 149, []) := by decide +kernel
theorem i_L_isBalloon_145 : mv_look m_L_isBalloon.2.2.2.1 32 145 = some (.iconst 1, 0, []) := by decide +kernel
theorem i_L_isBalloon_146 : mv_look m_L_isBalloon.2.2.2.1 32 146 = some (.goto 4, 150, []) := by decide +kernel
theorem i_L_isBalloon_149 : mv_look m_L_isBalloon.2.2.2.1 32 149 = some (.iconst 0, 0, []) := by decide +kernel
theorem i_L_isBalloon_150 : mv_look m_L_isBalloon.2.2.2.1 32 150 = some (.if_icmp .ne 35, 185, []) := by decide +kernel
theorem i_L_isBalloon_153 : mv_look m_L_isBalloon.2.2.2.1 32 153 = some (.aload_n 0, 0, []) := by decide +kernel
theorem i_L_isBalloon_154 : mv_look m_L_isBalloon.2.2.2.1 32 154 = some (.iload_n 1, 0, []) := by decide +kernel
theorem i_L_isBalloon_155 : mv_look m_L_isBalloon.2.2.2.1 32 155 = some (.invokestatic 304, 0, []) := by decide +kernel
theorem i_L_isBalloon_158 : mv_look m_L_isBalloon.2.2.2.1 32 158 = some (.iload_n 3, 0, []) := by decide +kernel
theorem i_L_isBalloon_159 : mv_look m_L_isBalloon.2.2.2.1 32 159 = some (.isub, 0, []) := by decide +kernel
theorem i_L_isBalloon_160 : mv_look m_L_isBalloon.2.2.2.1 32 160 = some (.iload 5, 0, []) := by decide +kernel
theorem i_L_isBalloon_162 : mv_look m_L_isBalloon.2.2.2.1 32 162 = some (.iadd, 0, []) := by decide +kernel
theorem i_L_isBalloon_163 : mv_look m_L_isBalloon.2.2.2.1 32 163 = some (.iload_n 2, 0, []) := by decide +kernel
theorem i_L_isBalloon_164 : mv_look m_L_isBalloon.2.2.2.1 32 164 = some (.if_icmp .lt 21, 185, []) := by decide +kernel
theorem i_L_isBalloon_167 : mv_look m_L_isBalloon.2.2.2.1 32 167 = some (.iload 6, 0, []) := by decide +kernel
theorem i_L_isBalloon_169 : mv_look m_L_isBalloon.2.2.2.1 32 169 = some (.bipush (-75), 0, []) := by decide +kernel
theorem i_L_isBalloon_171 : mv_look m_L_isBalloon.2.2.2.1 32 171 = some (.if_icmp .eq 10, 181, []) := by decide +kernel
theorem i_L_isBalloon_174 : mv_look m_L_isBalloon.2.2.2.1 32 174 = some (.iload 6, 0, []) := by decide +kernel
theorem i_L_isBalloon_176 : mv_look m_L_isBalloon.2.2.2.1 32 176 = some (.iload 4, 0, []) := by decide +kernel
theorem i_L_isBalloon_178 : mv_look m_L_isBalloon.2.2.2.1 32 178 = some (.if_icmp .lt 7, 185, []) := by decide +kernel
theorem i_L_isBalloon_181 : mv_look m_L_isBalloon.2.2.2.1 32 181 = some (.iconst 1, 0, []) := by decide +kernel
theorem i_L_isBalloon_182 : mv_look m_L_isBalloon.2.2.2.1 32 182 = some (.goto 4, 186, []) := by decide +kernel
theorem i_L_isBalloon_185 : mv_look m_L_isBalloon.2.2.2.1 32 185 = some (.iconst 0, 0, []) := by decide +kernel
theorem i_L_isBalloon_186 : mv_look m_L_isBalloon.2.2.2.1 32 186 = some (.istore 7, 0, []) := by decide +kernel
theorem i_L_isBalloon_188 : mv_look m_L_isBalloon.2.2.2.1 32 188 = some (.iconst 0, 0, []) := by decide +kernel
theorem i_L_isBalloon_189 : mv_look m_L_isBalloon.2.2.2.1 32 189 = some (.aload_n 0, 0, []) := by decide +kernel
theorem i_L_isBalloon_190 : mv_look m_L_isBalloon.2.2.2.1 32 190 = some (.iload_n 1, 0, []) := by decide +kernel
theorem i_L_isBalloon_191 : mv_look m_L_isBalloon.2.2.2.1 32 191 = some (.invokestatic 304, 0, []) := by decide +kernel
theorem i_L_isBalloon_194 : mv_look m_L_isBalloon.2.2.2.1 32 194 = some (.iload_n 3, 0, []) := by decide +kernel
theorem i_L_isBalloon_195 : mv_look m_L_isBalloon.2.2.2.1 32 195 = some (.isub, 0, []) := by decide +kernel
theorem i_L_isBalloon_196 : mv_look m_L_isBalloon.2.2.2.1 32 196 = some (.invokestatic 320, 0, []) := by decide +kernel
theorem i_L_isBalloon_199 : mv_look m_L_isBalloon.2.2.2.1 32 199 = some (.istore 8, 0, []) := by decide +kernel
theorem i_L_isBalloon_201 : mv_look m_L_isBalloon.2.2.2.1 32 201 = some (.iconst 0, 0, []) := by decide +kernel
theorem i_L_isBalloon_202 : mv_look m_L_isBalloon.2.2.2.1 32 202 = some (.istore 9, 0, []) := by decide +kernel
theorem i_L_isBalloon_204 : mv_look m_L_isBalloon.2.2.2.1 32 204 = some (.iload 9, 0, []) := by decide +kernel
theorem i_L_isBalloon_206 : mv_look m_L_isBalloon.2.2.2.1 32 206 = some (.aload_n 0, 0, []) := by decide +kernel
theorem i_L_isBalloon_207 : mv_look m_L_isBalloon.2.2.2.1 32 207 = some (.invokevirtual 227, 0, []) := by decide +kernel
theorem i_L_isBalloon_210 : mv_look m_L_isBalloon.2.2.2.1 32 210 = some (.if_icmp .ge 45, 255, []) := by decide +kernel
theorem i_L_isBalloon_213 : mv_look m_L_isBalloon.2.2.2.1 32 213 = some (.aload_n 0, 0, []) := by decide +kernel
theorem i_L_isBalloon_214 : mv_look m_L_isBalloon.2.2.2.1 32 214 = some (.iload 9, 0, []) := by decide +kernel
theorem i_L_isBalloon_216 : mv_look m_L_isBalloon.2.2.2.1 32 216 = some (.iload_n 1, 0, []) := by decide +kernel
theorem i_L_isBalloon_217 : mv_look m_L_isBalloon.2.2.2.1 32 217 = some (.invokestatic 325, 0, []) := by decide +kernel
theorem i_L_isBalloon_220 : mv_look m_L_isBalloon.2.2.2.1 32 220 = some (.iconst 1, 0, []) := by decide +kernel
theorem i_L_isBalloon_221 : mv_look m_L_isBalloon.2.2.2.1 32 221 = some (.if_icmp .ne 28, 249, []) := by decide +kernel
theorem i_L_isBalloon_224 : mv_look m_L_isBalloon.2.2.2.1 32 224 = some (.aload_n 0, 0, []) := by decide +kernel
theorem i_L_isBalloon_225 : mv_look m_L_isBalloon.2.2.2.1 32 225 = some (.iload 9, 0, []) := by decide +kernel
theorem i_L_isBalloon_227 : mv_look m_L_isBalloon.2.2.2.1 32 227 = some (.aload_n 0, 0, []) := by decide +kernel
theorem i_L_isBalloon_228 : mv_look m_L_isBalloon.2.2.2.1 32 228 = some (.invokevirtual 224, 0, []) := by decide +kernel
theorem i_L_isBalloon_231 : mv_look m_L_isBalloon.2.2.2.1 32 231 = some (.bipush 24, 0, []) := by decide +kernel
theorem i_L_isBalloon_233 : mv_look m_L_isBalloon.2.2.2.1 32 233 = some (.irem, 0, []) := by decide +kernel
theorem i_L_isBalloon_234 : mv_look m_L_isBalloon.2.2.2.1 32 234 = some (.invokestatic 316, 0, []) := by decide +kernel
theorem i_L_isBalloon_237 : mv_look m_L_isBalloon.2.2.2.1 32 237 = some (.iconst 1, 0, []) := by decide +kernel
theorem i_L_isBalloon_238 : mv_look m_L_isBalloon.2.2.2.1 32 238 = some (.if_icmp .ne 9, 247, []) := by decide +kernel
theorem i_L_isBalloon_241 : mv_look m_L_isBalloon.2.2.2.1 32 241 = some (.iload 8, 0, []) := by decide +kernel
theorem i_L_isBalloon_243 : mv_look m_L_isBalloon.2.2.2.1 32 243 = some (.iconst 1, 0, []) := by decide +kernel
theorem i_L_isBalloon_244 : mv_look m_L_isBalloon.2.2.2.1 32 244 = some (.if_icmp .ge 5, 249, []) := by decide +kernel
theorem i_L_isBalloon_247 : mv_look m_L_isBalloon.2.2.2.1 32 247 = some (.iconst 0, 0, []) := by decide +kernel
theorem i_L_isBalloon_248 : mv_look m_L_isBalloon.2.2.2.1 32 248 = some (.ireturn, 0, []) := by decide +kernel
theorem i_L_isBalloon_249 : mv_look m_L_isBalloon.2.2.2.1 32 249 = some (.iinc 9 1, 0, []) := by decide +kernel
theorem i_L_isBalloon_252 : mv_look m_L_isBalloon.2.2.2.1 32 252 = some (.goto (-48), 204, []) := by decide +kernel
theorem i_L_isBalloon_255 : mv_look m_L_isBalloon.2.2.2.1 32 255 = some (.iload 7, 0, []) := by decide +kernel
theorem i_L_isBalloon_257 : mv_look m_L_isBalloon.2.2.2.1 32 257 = some (.ifCond .eq 134, 391, []) := by decide +kernel
theorem i_L_isBalloon_260 : mv_look m_L_isBalloon.2.2.2.1 32 260 = some (.aload_n 0, 0, []) := by decide +kernel
theorem i_L_isBalloon_261 : mv_look m_L_isBalloon.2.2.2.1 32 261 = some (.iload_n 1, 0, []) := by decide +kernel
theorem i_L_isBalloon_262 : mv_look m_L_isBalloon.2.2.2.1 32 262 = some (.invokestatic 202, 0, []) := by decide +kernel
theorem i_L_isBalloon_265 : mv_look m_L_isBalloon.2.2.2.1 32 265 = some (.iload_n 3, 0, []) := by decide +kernel
theorem i_L_isBalloon_266 : mv_look m_L_isBalloon.2.2.2.1 32 266 = some (.if_icmp .ne 125, 391, []) := by decide +kernel
theorem i_L_isBalloon_269 : mv_look m_L_isBalloon.2.2.2.1 32 269 = some (.aload_n 0, 0, []) := by decide +kernel
theorem i_L_isBalloon_270 : mv_look m_L_isBalloon.2.2.2.1 32 270 = some (.iload_n 1, 0, []) := by decide +kernel
theorem i_L_isBalloon_271 : mv_look m_L_isBalloon.2.2.2.1 32 271 = some (.invokestatic 195, 0, []) := by decide +kernel
theorem i_L_isBalloon_274 : mv_look m_L_isBalloon.2.2.2.1 32 274 = some (.iload 8, 0, []) := by decide +kernel
theorem i_L_isBalloon_276 : mv_look m_L_isBalloon.2.2.2.1 32 276 = some (.if_icmp .gt 115, 391, []) := by decide +kernel
theorem i_L_isBalloon_279 : mv_look m_L_isBalloon.2.2.2.1 32 279 = some (.aload_n 0, 0, []) := by decide +kernel
theorem i_L_isBalloon_280 : mv_look m_L_isBalloon.2.2.2.1 32 280 = some (.iload_n 1, 0, []) := by decide +kernel
theorem i_L_isBalloon_281 : mv_look m_L_isBalloon.2.2.2.1 32 281 = some (.invokestatic 195, 0, []) := by decide +kernel
theorem i_L_isBalloon_284 : mv_look m_L_isBalloon.2.2.2.1 32 284 = some (.ifCond .lt 107, 391, []) := by decide +kernel
theorem i_L_isBalloon_287 : mv_look m_L_isBalloon.2.2.2.1 32 287 = some (.aload_n 0, 0, []) := by decide +kernel
theorem i_L_isBalloon_288 : mv_look m_L_isBalloon.2.2.2.1 32 288 = some (.iload_n 1, 0, []) := by decide +kernel
theorem i_L_isBalloon_289 : mv_look m_L_isBalloon.2.2.2.1 32 289 = some (.invokestatic 195, 0, []) := by decide +kernel
theorem i_L_isBalloon_292 : mv_look m_L_isBalloon.2.2.2.1 32 292 = some (.bipush 40, 0, []) := by decide +kernel
theorem i_L_isBalloon_294 : mv_look m_L_isBalloon.2.2.2.1 32 294 = some (.if_icmp .gt 97, 391, []) := by decide +kernel
theorem i_L_isBalloon_297 : mv_look m_L_isBalloon.2.2.2.1 32 297 = some (.aload_n 0, 0, []) := by decide +kernel
theorem i_L_isBalloon_298 : mv_look m_L_isBalloon.2.2.2.1 32 298 = some (.iload_n 1, 0, []) := by decide +kernel
theorem i_L_isBalloon_299 : mv_look m_L_isBalloon.2.2.2.1 32 299 = some (.invokestatic 304, 0, []) := by decide +kernel
theorem i_L_isBalloon_302 : mv_look m_L_isBalloon.2.2.2.1 32 302 = some (.iconst 1, 0, []) := by decide +kernel
theorem i_L_isBalloon_303 : mv_look m_L_isBalloon.2.2.2.1 32 303 = some (.if_icmp .lt 88, 391, []) := by decide +kernel
theorem i_L_isBalloon_306 : mv_look m_L_isBalloon.2.2.2.1 32 306 = some (.aload_n 0, 0, []) := by decide +kernel
theorem i_L_isBalloon_307 : mv_look m_L_isBalloon.2.2.2.1 32 307 = some (.iload_n 1, 0, []) := by decide +kernel
theorem i_L_isBalloon_308 : mv_look m_L_isBalloon.2.2.2.1 32 308 = some (.invokestatic 304, 0, []) := by decide +kernel
theorem i_L_isBalloon_311 : mv_look m_L_isBalloon.2.2.2.1 32 311 = some (.bipush 99, 0, []) := by decide +kernel
theorem i_L_isBalloon_313 : mv_look m_L_isBalloon.2.2.2.1 32 313 = some (.if_icmp .gt 78, 391, []) := by decide +kernel
theorem i_L_isBalloon_316 : mv_look m_L_isBalloon.2.2.2.1 32 316 = some (.aload_n 0, 0, []) := by decide +kernel
theorem i_L_isBalloon_317 : mv_look m_L_isBalloon.2.2.2.1 32 317 = some (.iload_n 1, 0, []) := by decide +kernel
theorem i_L_isBalloon_318 : mv_look m_L_isBalloon.2.2.2.1 32 318 = some (.invokestatic 327, 0, []) := by decide +kernel
theorem i_L_isBalloon_321 : mv_look m_L_isBalloon.2.2.2.1 32 321 = some (.bipush 10, 0, []) := by decide +kernel
theorem i_L_isBalloon_323 : mv_look m_L_isBalloon.2.2.2.1 32 323 = some (.iload_n 1, 0, []) := by decide +kernel
theorem i_L_isBalloon_324 : mv_look m_L_isBalloon.2.2.2.1 32 324 = some (.imul, 0, []) := by decide +kernel
theorem i_L_isBalloon_325 : mv_look m_L_isBalloon.2.2.2.1 32 325 = some (.aload_n 0, 0, []) := by decide +kernel
theorem i_L_isBalloon_326 : mv_look m_L_isBalloon.2.2.2.1 32 326 = some (.iload_n 1, 0, []) := by decide +kernel
theorem i_L_isBalloon_327 : mv_look m_L_isBalloon.2.2.2.1 32 327 = some (.invokestatic 195, 0, []) := by decide +kernel
theorem i_L_isBalloon_330 : mv_look m_L_isBalloon.2.2.2.1 32 330 = some (.aload_n 0, 0, []) := by decide +kernel
theorem i_L_isBalloon_331 : mv_look m_L_isBalloon.2.2.2.1 32 331 = some (.aload_n 0, 0, []) := by decide +kernel
theorem i_L_isBalloon_332 : mv_look m_L_isBalloon.2.2.2.1 32 332 = some (.invokevirtual 224, 0, []) := by decide +kernel
theorem i_L_isBalloon_335 : mv_look m_L_isBalloon.2.2.2.1 32 335 = some (.bipush 24, 0, []) := by decide +kernel
theorem i_L_isBalloon_337 : mv_look m_L_isBalloon.2.2.2.1 32 337 = some (.irem, 0, []) := by decide +kernel
theorem i_L_isBalloon_338 : mv_look m_L_isBalloon.2.2.2.1 32 338 = some (.invokestatic 312, 0, []) := by decide +kernel
theorem i_L_isBalloon_341 : mv_look m_L_isBalloon.2.2.2.1 32 341 = some (.imul, 0, []) := by decide +kernel
theorem i_L_isBalloon_342 : mv_look m_L_isBalloon.2.2.2.1 32 342 = some (.iadd, 0, []) := by decide +kernel
theorem i_L_isBalloon_343 : mv_look m_L_isBalloon.2.2.2.1 32 343 = some (.if_icmp .ne 48, 391, []) := by decide +kernel
theorem i_L_isBalloon_346 : mv_look m_L_isBalloon.2.2.2.1 32 346 = some (.aload_n 0, 0, []) := by decide +kernel
theorem i_L_isBalloon_347 : mv_look m_L_isBalloon.2.2.2.1 32 347 = some (.iload_n 1, 0, []) := by decide +kernel
theorem i_L_isBalloon_348 : mv_look m_L_isBalloon.2.2.2.1 32 348 = some (.invokestatic 329, 0, []) := by decide +kernel
theorem i_L_isBalloon_351 : mv_look m_L_isBalloon.2.2.2.1 32 351 = some (.iconst 1, 0, []) := by decide +kernel
theorem i_L_isBalloon_352 : mv_look m_L_isBalloon.2.2.2.1 32 352 = some (.if_icmp .ne 7, 359, []) := by decide +kernel
theorem i_L_isBalloon_355 : mv_look m_L_isBalloon.2.2.2.1 32 355 = some (.iconst 1, 0, []) := by decide +kernel
theorem i_L_isBalloon_356 : mv_look m_L_isBalloon.2.2.2.1 32 356 = some (.goto 4, 360, []) := by decide +kernel
theorem i_L_isBalloon_359 : mv_look m_L_isBalloon.2.2.2.1 32 359 = some (.iconst 0, 0, []) := by decide +kernel
theorem i_L_isBalloon_360 : mv_look m_L_isBalloon.2.2.2.1 32 360 = some (.aload_n 0, 0, []) := by decide +kernel
theorem i_L_isBalloon_361 : mv_look m_L_isBalloon.2.2.2.1 32 361 = some (.iload_n 1, 0, []) := by decide +kernel
theorem i_L_isBalloon_362 : mv_look m_L_isBalloon.2.2.2.1 32 362 = some (.invokestatic 307, 0, []) := by decide +kernel
theorem i_L_isBalloon_365 : mv_look m_L_isBalloon.2.2.2.1 32 365 = some (.fconst 1, 0, []) := by decide +kernel
theorem i_L_isBalloon_366 : mv_look m_L_isBalloon.2.2.2.1 32 366 = some (.fcmp .l, 0, []) := by decide +kernel
theorem i_L_isBalloon_367 : mv_look m_L_isBalloon.2.2.2.1 32 367 = some (.ifCond .le 7, 374, []) := by decide +kernel
theorem i_L_isBalloon_370 : mv_look m_L_isBalloon.2.2.2.1 32 370 = some (.iconst 1, 0, []) := by decide +kernel
theorem i_L_isBalloon_371 : mv_look m_L_isBalloon.2.2.2.1 32 371 = some (.goto 4, 375, []) := by decide +kernel
theorem i_L_isBalloon_374 : mv_look m_L_isBalloon.2.2.2.1 32 374 = some (.iconst 0, 0, []) := by decide +kernel
theorem i_L_isBalloon_375 : mv_look m_L_isBalloon.2.2.2.1 32 375 = some (.if_icmp .ne 16, 391, []) := by decide +kernel
theorem i_L_isBalloon_378 : mv_look m_L_isBalloon.2.2.2.1 32 378 = some (.aload_n 0, 0, []) := by decide +kernel
theorem i_L_isBalloon_379 : mv_look m_L_isBalloon.2.2.2.1 32 379 = some (.iload_n 1, 0, []) := by decide +kernel
theorem i_L_isBalloon_380 : mv_look m_L_isBalloon.2.2.2.1 32 380 = some (.invokestatic 331, 0, []) := by decide +kernel
theorem i_L_isBalloon_383 : mv_look m_L_isBalloon.2.2.2.1 32 383 = some (.iconst 5, 0, []) := by decide +kernel
theorem i_L_isBalloon_384 : mv_look m_L_isBalloon.2.2.2.1 32 384 = some (.if_icmp .lt 7, 391, []) := by decide +kernel
theorem i_L_isBalloon_387 : mv_look m_L_isBalloon.2.2.2.1 32 387 = some (.iconst 1, 0, []) := by decide +kernel
theorem i_L_isBalloon_388 : mv_look m_L_isBalloon.2.2.2.1 32 388 = some (.goto 4, 392, []) := by decide +kernel
theorem i_L_isBalloon_391 : mv_look m_L_isBalloon.2.2.2.1 32 391 = some (.iconst 0, 0, []) := by decide +kernel
theorem i_L_isBalloon_392 : mv_look m_L_isBalloon.2.2.2.1 32 392 = some (.ireturn, 0, []) := by decide +kernel
theorem bk_L_isBalloon_0 (X : mv_X) (call : mv_G) (h : mv_H) (a0 : Nat) (v1 : Int32) (v2 : Int32) : mv_run X call m_L_isBalloon 0 [.ref a0, .int v1, .int v2, .retAddr 0, .retAddr 0, .retAddr 0, .retAddr 0, .retAddr 0, .retAddr 0, .retAddr 0] [] h =
  mv_run X call m_L_isBalloon 5 [.ref a0, .int v1, .int v2, .int (nZ 0), .int (nZ 0), .retAddr 0, .retAddr 0, .retAddr 0, .retAddr 0, .retAddr 0] [] h :=
  (s_iconst i_L_isBalloon_0).trans <| (s_istore_n (ls2 := [.ref a0, .int v1, .int v2, .int (nZ 0), .retAddr 0, .retAddr 0, .retAddr 0, .retAddr 0, .retAddr 0, .retAddr 0]) i_L_isBalloon_1 (fun _ => rfl)).trans <| (s_iconst i_L_isBalloon_2).trans <| (s_istore (ls2 := [.ref a0, .int v1, .int v2, .int (nZ 0), .int (nZ 0), .retAddr 0, .retAddr 0, .retAddr 0, .retAddr 0, .retAddr 0]) i_L_isBalloon_3 (fun _ => rfl)).trans <| rfl
theorem bk_L_isBalloon_5 (X : mv_X) (call : mv_G) (h : mv_H) (a0 : Nat) (v1 : Int32) (v2 : Int32) (v3 : Int32) (v4 : Int32) : mv_run X call m_L_isBalloon 5 [.ref a0, .int v1, .int v2, .int v3, .int v4, .retAddr 0, .retAddr 0, .retAddr 0, .retAddr 0, .retAddr 0] [] h =
  mv_clI call 355 [.ref a0, .int v1] h mv_raise fun x1 h1 =>
  if x1 ≤ v4 then 
  (mv_clI call 357 [.ref a0, .int v1, .int v2] h1 mv_raise fun x2 h2 =>
    mv_clI call 359 [.ref a0, .int v1, .int v2] h2 mv_raise fun x3 h3 =>
    if v2 = (nZ 40) then 
    (mv_run X call m_L_isBalloon 66 [.ref a0, .int v1, .int v2, .int v3, .int x2, .int x3, .retAddr 0, .retAddr 0, .retAddr 0, .retAddr 0] [.int (nZ (-75))] h3)
    else (mv_clI call 357 [.ref a0, .int v1, .int (v2 + (nZ 1))] h3 mv_raise fun x4 h4 =>
      mv_run X call m_L_isBalloon 66 [.ref a0, .int v1, .int v2, .int v3, .int x2, .int x3, .retAddr 0, .retAddr 0, .retAddr 0, .retAddr 0] [.int x4] h4))
  else (mv_clI call 356 [.ref a0, .int v1, .int v4] h1 mv_raise fun x5 h5 =>
    mv_run X call m_L_isBalloon 5 [.ref a0, .int v1, .int v2, .int (v3 + x5), .int (v4 + nZ 1), .retAddr 0, .retAddr 0, .retAddr 0, .retAddr 0, .retAddr 0] [] h5) :=
  (s_iload i_L_isBalloon_5 rfl).trans <| (s_aload_n i_L_isBalloon_7 rfl).trans <| (s_iload_n i_L_isBalloon_8 rfl).trans <| (s_s1 [.ref a0, .int v1] [.int v4] i_L_isBalloon_9 rfl (fun _ => rfl)).trans <| c_clI fun x1 h1 => (s_icmp_ge i_L_isBalloon_12).trans <| c_ite ((s_aload_n i_L_isBalloon_31 rfl).trans <| (s_iload_n i_L_isBalloon_32 rfl).trans <| (s_iload_n i_L_isBalloon_33 rfl).trans <| (s_s1 [.ref a0, .int v1, .int v2] [] i_L_isBalloon_34 rfl (fun _ => rfl)).trans <| c_clI fun x2 h2 => (s_istore (ls2 := [.ref a0, .int v1, .int v2, .int v3, .int x2, .retAddr 0, .retAddr 0, .retAddr 0, .retAddr 0, .retAddr 0]) i_L_isBalloon_37 (fun _ => rfl)).trans <| (s_aload_n i_L_isBalloon_39 rfl).trans <| (s_iload_n i_L_isBalloon_40 rfl).trans <| (s_iload_n i_L_isBalloon_41 rfl).trans <| (s_s1 [.ref a0, .int v1, .int v2] [] i_L_isBalloon_42 rfl (fun _ => rfl)).trans <| c_clI fun x3 h3 => (s_istore (ls2 := [.ref a0, .int v1, .int v2, .int v3, .int x2, .int x3, .retAddr 0, .retAddr 0, .retAddr 0, .retAddr 0]) i_L_isBalloon_45 (fun _ => rfl)).trans <| (s_iload_n i_L_isBalloon_47 rfl).trans <| (s_bipush i_L_isBalloon_48).trans <| (s_icmp_ne i_L_isBalloon_50).trans <| c_ite ((s_bipush i_L_isBalloon_53).trans <| (s_goto i_L_isBalloon_55).trans <| rfl) ((s_aload_n i_L_isBalloon_58 rfl).trans <| (s_iload_n i_L_isBalloon_59 rfl).trans <| (s_iload_n i_L_isBalloon_60 rfl).trans <| (s_iconst i_L_isBalloon_61).trans <| (s_iadd i_L_isBalloon_62).trans <| (s_s1 [.ref a0, .int v1, .int (v2 + (nZ 1))] [] i_L_isBalloon_63 rfl (fun _ => rfl)).trans <| c_clI fun x4 h4 => rfl)) ((s_iload_n i_L_isBalloon_15 rfl).trans <| (s_aload_n i_L_isBalloon_16 rfl).trans <| (s_iload_n i_L_isBalloon_17 rfl).trans <| (s_iload i_L_isBalloon_18 rfl).trans <| (s_s1 [.ref a0, .int v1, .int v4] [.int v3] i_L_isBalloon_20 rfl (fun _ => rfl)).trans <| c_clI fun x5 h5 => (s_iadd i_L_isBalloon_23).trans <| (s_istore_n (ls2 := [.ref a0, .int v1, .int v2, .int (v3 + x5), .int v4, .retAddr 0, .retAddr 0, .retAddr 0, .retAddr 0, .retAddr 0]) i_L_isBalloon_24 (fun _ => rfl)).trans <| (s_iinc (ls2 := [.ref a0, .int v1, .int v2, .int (v3 + x5), .int (v4 + nZ 1), .retAddr 0, .retAddr 0, .retAddr 0, .retAddr 0, .retAddr 0]) i_L_isBalloon_25 rfl (fun _ => rfl)).trans <| (s_goto i_L_isBalloon_28).trans <| rfl)
theorem bk_L_isBalloon_66 (X : mv_X) (call : mv_G) (h : mv_H) (a0 : Nat) (v1 : Int32) (v2 : Int32) (v3 : Int32) (v4 : Int32) (v5 : Int32) (s0 : Int32) : mv_run X call m_L_isBalloon 66 [.ref a0, .int v1, .int v2, .int v3, .int v4, .int v5, .retAddr 0, .retAddr 0, .retAddr 0, .retAddr 0] [.int s0] h =
  mv_clI call 358 [.ref a0, .int v1, .int v2] h mv_raise fun x1 h1 =>
  if x1 = v4 then 
  (if v4 = (nZ (-75)) then 
    (if v5 = (nZ (-75)) then 
      (if s0 = (nZ (-75)) then 
        (mv_run X call m_L_isBalloon 181 [.ref a0, .int v1, .int v2, .int v3, .int v4, .int v5, .int s0, .retAddr 0, .retAddr 0, .retAddr 0] [] h1)
        else (mv_run X call m_L_isBalloon 185 [.ref a0, .int v1, .int v2, .int v3, .int v4, .int v5, .int s0, .retAddr 0, .retAddr 0, .retAddr 0] [] h1))
      else (mv_run X call m_L_isBalloon 185 [.ref a0, .int v1, .int v2, .int v3, .int v4, .int v5, .int s0, .retAddr 0, .retAddr 0, .retAddr 0] [] h1))
    else (mv_clI call 355 [.ref a0, .int v1] h1 mv_raise fun x2 h2 =>
      if x2 < v4 then 
      (mv_run X call m_L_isBalloon 185 [.ref a0, .int v1, .int v2, .int v3, .int v4, .int v5, .int s0, .retAddr 0, .retAddr 0, .retAddr 0] [] h2)
      else (if v3 < v5 then 
        (mv_run X call m_L_isBalloon 185 [.ref a0, .int v1, .int v2, .int v3, .int v4, .int v5, .int s0, .retAddr 0, .retAddr 0, .retAddr 0] [] h2)
        else (if v5 < v4 then 
          (mv_run X call m_L_isBalloon 185 [.ref a0, .int v1, .int v2, .int v3, .int v4, .int v5, .int s0, .retAddr 0, .retAddr 0, .retAddr 0] [] h2)
          else (if v4 = 0 then 
            (mv_run X call m_L_isBalloon 136 [.ref a0, .int v1, .int v2, .int v3, .int v4, .int v5, .int s0, .retAddr 0, .retAddr 0, .retAddr 0] [.int (nZ 1)] h2)
            else (mv_run X call m_L_isBalloon 136 [.ref a0, .int v1, .int v2, .int v3, .int v4, .int v5, .int s0, .retAddr 0, .retAddr 0, .retAddr 0] [.int (nZ 0)] h2))))))
  else (mv_run X call m_L_isBalloon 185 [.ref a0, .int v1, .int v2, .int v3, .int v4, .int v5, .int s0, .retAddr 0, .retAddr 0, .retAddr 0] [] h1) :=
  (s_istore (ls2 := [.ref a0, .int v1, .int v2, .int v3, .int v4, .int v5, .int s0, .retAddr 0, .retAddr 0, .retAddr 0]) i_L_isBalloon_66 (fun _ => rfl)).trans <| (s_aload_n i_L_isBalloon_68 rfl).trans <| (s_iload_n i_L_isBalloon_69 rfl).trans <| (s_iload_n i_L_isBalloon_70 rfl).trans <| (s_s1 [.ref a0, .int v1, .int v2] [] i_L_isBalloon_71 rfl (fun _ => rfl)).trans <| c_clI fun x1 h1 => (s_iload i_L_isBalloon_74 rfl).trans <| (s_icmp_ne i_L_isBalloon_76).trans <| c_ite ((s_iload i_L_isBalloon_79 rfl).trans <| (s_bipush i_L_isBalloon_81).trans <| (s_icmp_ne i_L_isBalloon_83).trans <| c_ite ((s_iload i_L_isBalloon_86 rfl).trans <| (s_bipush i_L_isBalloon_88).trans <| (s_icmp_ne i_L_isBalloon_90).trans <| c_ite ((s_iload i_L_isBalloon_93 rfl).trans <| (s_bipush i_L_isBalloon_95).trans <| (s_icmp_ne i_L_isBalloon_97).trans <| c_ite ((s_goto i_L_isBalloon_100).trans <| rfl) (rfl)) (rfl)) ((s_iload i_L_isBalloon_103 rfl).trans <| (s_aload_n i_L_isBalloon_105 rfl).trans <| (s_iload_n i_L_isBalloon_106 rfl).trans <| (s_s1 [.ref a0, .int v1] [.int v4] i_L_isBalloon_107 rfl (fun _ => rfl)).trans <| c_clI fun x2 h2 => (s_icmp_gt i_L_isBalloon_110).trans <| c_ite (rfl) ((s_iload i_L_isBalloon_113 rfl).trans <| (s_iload_n i_L_isBalloon_115 rfl).trans <| (s_icmp_gt i_L_isBalloon_116).trans <| c_ite (rfl) ((s_iload i_L_isBalloon_119 rfl).trans <| (s_iload i_L_isBalloon_121 rfl).trans <| (s_icmp_lt i_L_isBalloon_123).trans <| c_ite (rfl) ((s_iload i_L_isBalloon_126 rfl).trans <| (s_if_ne i_L_isBalloon_128).trans <| c_ite ((s_iconst i_L_isBalloon_131).trans <| (s_goto i_L_isBalloon_132).trans <| rfl) ((s_iconst i_L_isBalloon_135).trans <| rfl)))))) (rfl)
theorem bk_L_isBalloon_136 (X : mv_X) (call : mv_G) (h : mv_H) (a0 : Nat) (v1 : Int32) (v2 : Int32) (v3 : Int32) (v4 : Int32) (v5 : Int32) (v6 : Int32) (s0 : Int32) : mv_run X call m_L_isBalloon 136 [.ref a0, .int v1, .int v2, .int v3, .int v4, .int v5, .int v6, .retAddr 0, .retAddr 0, .retAddr 0] [.int s0] h =
  mv_clI call 349 [.ref a0, .int v1] h mv_raise fun x1 h1 =>
  if x1 < v2 then 
  (mv_run X call m_L_isBalloon 150 [.ref a0, .int v1, .int v2, .int v3, .int v4, .int v5, .int v6, .retAddr 0, .retAddr 0, .retAddr 0] [.int (nZ 0), .int s0] h1)
  else (mv_run X call m_L_isBalloon 150 [.ref a0, .int v1, .int v2, .int v3, .int v4, .int v5, .int v6, .retAddr 0, .retAddr 0, .retAddr 0] [.int (nZ 1), .int s0] h1) :=
  (s_aload_n i_L_isBalloon_136 rfl).trans <| (s_iload_n i_L_isBalloon_137 rfl).trans <| (s_s1 [.ref a0, .int v1] [.int s0] i_L_isBalloon_138 rfl (fun _ => rfl)).trans <| c_clI fun x1 h1 => (s_iload_n i_L_isBalloon_141 rfl).trans <| (s_icmp_lt i_L_isBalloon_142).trans <| c_ite ((s_iconst i_L_isBalloon_149).trans <| rfl) ((s_iconst i_L_isBalloon_145).trans <| (s_goto i_L_isBalloon_146).trans <| rfl)
theorem bk_L_isBalloon_150 (X : mv_X) (call : mv_G) (h : mv_H) (a0 : Nat) (v1 : Int32) (v2 : Int32) (v3 : Int32) (v4 : Int32) (v5 : Int32) (v6 : Int32) (s0 : Int32) (s1 : Int32) : mv_run X call m_L_isBalloon 150 [.ref a0, .int v1, .int v2, .int v3, .int v4, .int v5, .int v6, .retAddr 0, .retAddr 0, .retAddr 0] [.int s0, .int s1] h =
  if s1 = s0 then 
  (mv_clI call 347 [.ref a0, .int v1] h mv_raise fun x1 h1 =>
    if ((x1 - v3) + v5) < v2 then 
    (mv_run X call m_L_isBalloon 185 [.ref a0, .int v1, .int v2, .int v3, .int v4, .int v5, .int v6, .retAddr 0, .retAddr 0, .retAddr 0] [] h1)
    else (if v6 = (nZ (-75)) then 
      (mv_run X call m_L_isBalloon 181 [.ref a0, .int v1, .int v2, .int v3, .int v4, .int v5, .int v6, .retAddr 0, .retAddr 0, .retAddr 0] [] h1)
      else (if v6 < v4 then 
        (mv_run X call m_L_isBalloon 185 [.ref a0, .int v1, .int v2, .int v3, .int v4, .int v5, .int v6, .retAddr 0, .retAddr 0, .retAddr 0] [] h1)
        else (mv_run X call m_L_isBalloon 181 [.ref a0, .int v1, .int v2, .int v3, .int v4, .int v5, .int v6, .retAddr 0, .retAddr 0, .retAddr 0] [] h1))))
  else (mv_run X call m_L_isBalloon 185 [.ref a0, .int v1, .int v2, .int v3, .int v4, .int v5, .int v6, .retAddr 0, .retAddr 0, .retAddr 0] [] h) :=
  (s_icmp_ne i_L_isBalloon_150).trans <| c_ite ((s_aload_n i_L_isBalloon_153 rfl).trans <| (s_iload_n i_L_isBalloon_154 rfl).trans <| (s_s1 [.ref a0, .int v1] [] i_L_isBalloon_155 rfl (fun _ => rfl)).trans <| c_clI fun x1 h1 => (s_iload_n i_L_isBalloon_158 rfl).trans <| (s_isub i_L_isBalloon_159).trans <| (s_iload i_L_isBalloon_160 rfl).trans <| (s_iadd i_L_isBalloon_162).trans <| (s_iload_n i_L_isBalloon_163 rfl).trans <| (s_icmp_lt i_L_isBalloon_164).trans <| c_ite (rfl) ((s_iload i_L_isBalloon_167 rfl).trans <| (s_bipush i_L_isBalloon_169).trans <| (s_icmp_eq i_L_isBalloon_171).trans <| c_ite (rfl) ((s_iload i_L_isBalloon_174 rfl).trans <| (s_iload i_L_isBalloon_176 rfl).trans <| (s_icmp_lt i_L_isBalloon_178).trans <| c_ite (rfl) (rfl)))) (rfl)
theorem bk_L_isBalloon_181 (X : mv_X) (call : mv_G) (h : mv_H) (a0 : Nat) (v1 : Int32) (v2 : Int32) (v3 : Int32) (v4 : Int32) (v5 : Int32) (v6 : Int32) : mv_run X call m_L_isBalloon 181 [.ref a0, .int v1, .int v2, .int v3, .int v4, .int v5, .int v6, .retAddr 0, .retAddr 0, .retAddr 0] [] h =
  mv_run X call m_L_isBalloon 186 [.ref a0, .int v1, .int v2, .int v3, .int v4, .int v5, .int v6, .retAddr 0, .retAddr 0, .retAddr 0] [.int (nZ 1)] h :=
  (s_iconst i_L_isBalloon_181).trans <| (s_goto i_L_isBalloon_182).trans <| rfl
theorem bk_L_isBalloon_185 (X : mv_X) (call : mv_G) (h : mv_H) (a0 : Nat) (v1 : Int32) (v2 : Int32) (v3 : Int32) (v4 : Int32) (v5 : Int32) (v6 : Int32) : mv_run X call m_L_isBalloon 185 [.ref a0, .int v1, .int v2, .int v3, .int v4, .int v5, .int v6, .retAddr 0, .retAddr 0, .retAddr 0] [] h =
  mv_run X call m_L_isBalloon 186 [.ref a0, .int v1, .int v2, .int v3, .int v4, .int v5, .int v6, .retAddr 0, .retAddr 0, .retAddr 0] [.int (nZ 0)] h :=
  (s_iconst i_L_isBalloon_185).trans <| rfl
theorem bk_L_isBalloon_186 (X : mv_X) (call : mv_G) (h : mv_H) (a0 : Nat) (v1 : Int32) (v2 : Int32) (v3 : Int32) (v4 : Int32) (v5 : Int32) (v6 : Int32) (s0 : Int32) : mv_run X call m_L_isBalloon 186 [.ref a0, .int v1, .int v2, .int v3, .int v4, .int v5, .int v6, .retAddr 0, .retAddr 0, .retAddr 0] [.int s0] h =
  mv_clI call 347 [.ref a0, .int v1] h mv_raise fun x1 h1 =>
  mv_clI call 266 [.int (nZ 0), .int (x1 - v3)] h1 mv_raise fun x2 h2 =>
  mv_run X call m_L_isBalloon 204 [.ref a0, .int v1, .int v2, .int v3, .int v4, .int v5, .int v6, .int s0, .int x2, .int (nZ 0)] [] h2 :=
  (s_istore (ls2 := [.ref a0, .int v1, .int v2, .int v3, .int v4, .int v5, .int v6, .int s0, .retAddr 0, .retAddr 0]) i_L_isBalloon_186 (fun _ => rfl)).trans <| (s_iconst i_L_isBalloon_188).trans <| (s_aload_n i_L_isBalloon_189 rfl).trans <| (s_iload_n i_L_isBalloon_190 rfl).trans <| (s_s1 [.ref a0, .int v1] [.int (nZ 0)] i_L_isBalloon_191 rfl (fun _ => rfl)).trans <| c_clI fun x1 h1 => (s_iload_n i_L_isBalloon_194 rfl).trans <| (s_isub i_L_isBalloon_195).trans <| (s_s1 [.int (nZ 0), .int (x1 - v3)] [] i_L_isBalloon_196 rfl (fun _ => rfl)).trans <| c_clI fun x2 h2 => (s_istore (ls2 := [.ref a0, .int v1, .int v2, .int v3, .int v4, .int v5, .int v6, .int s0, .int x2, .retAddr 0]) i_L_isBalloon_199 (fun _ => rfl)).trans <| (s_iconst i_L_isBalloon_201).trans <| (s_istore (ls2 := [.ref a0, .int v1, .int v2, .int v3, .int v4, .int v5, .int v6, .int s0, .int x2, .int (nZ 0)]) i_L_isBalloon_202 (fun _ => rfl)).trans <| rfl
theorem bk_L_isBalloon_204 (X : mv_X) (call : mv_G) (h : mv_H) (a0 : Nat) (v1 : Int32) (v2 : Int32) (v3 : Int32) (v4 : Int32) (v5 : Int32) (v6 : Int32) (v7 : Int32) (v8 : Int32) (v9 : Int32) : mv_run X call m_L_isBalloon 204 [.ref a0, .int v1, .int v2, .int v3, .int v4, .int v5, .int v6, .int v7, .int v8, .int v9] [] h =
  mv_rcv X h [.ref a0] 12 (mv_clI call 110 [.ref a0] h mv_raise fun x1 h1 =>
  if x1 ≤ v9 then 
  (if v7 = 0 then 
    (mv_run X call m_L_isBalloon 391 [.ref a0, .int v1, .int v2, .int v3, .int v4, .int v5, .int v6, .int v7, .int v8, .int v9] [] h1)
    else (mv_clI call 348 [.ref a0, .int v1] h1 mv_raise fun x2 h2 =>
      if x2 = v3 then 
      (mv_clI call 349 [.ref a0, .int v1] h2 mv_raise fun x3 h3 =>
        if v8 < x3 then 
        (mv_run X call m_L_isBalloon 391 [.ref a0, .int v1, .int v2, .int v3, .int v4, .int v5, .int v6, .int v7, .int v8, .int v9] [] h3)
        else (mv_clI call 349 [.ref a0, .int v1] h3 mv_raise fun x4 h4 =>
          if x4 < 0 then 
          (mv_run X call m_L_isBalloon 391 [.ref a0, .int v1, .int v2, .int v3, .int v4, .int v5, .int v6, .int v7, .int v8, .int v9] [] h4)
          else (mv_clI call 349 [.ref a0, .int v1] h4 mv_raise fun x5 h5 =>
            if (nZ 40) < x5 then 
            (mv_run X call m_L_isBalloon 391 [.ref a0, .int v1, .int v2, .int v3, .int v4, .int v5, .int v6, .int v7, .int v8, .int v9] [] h5)
            else (mv_clI call 347 [.ref a0, .int v1] h5 mv_raise fun x6 h6 =>
              if x6 < (nZ 1) then 
              (mv_run X call m_L_isBalloon 391 [.ref a0, .int v1, .int v2, .int v3, .int v4, .int v5, .int v6, .int v7, .int v8, .int v9] [] h6)
              else (mv_clI call 347 [.ref a0, .int v1] h6 mv_raise fun x7 h7 =>
                if (nZ 99) < x7 then 
                (mv_run X call m_L_isBalloon 391 [.ref a0, .int v1, .int v2, .int v3, .int v4, .int v5, .int v6, .int v7, .int v8, .int v9] [] h7)
                else (mv_clI call 362 [.ref a0, .int v1] h7 mv_raise fun x8 h8 =>
                  mv_clI call 349 [.ref a0, .int v1] h8 mv_raise fun x9 h9 =>
                  mv_rcv X h9 [.ref a0] 12 (mv_clI call 117 [.ref a0] h9 mv_raise fun x10 h10 =>
                  if (nZ 24) = 0 then none else 
                  mv_clI call 361 [.ref a0, .int (x10 - x10 / (nZ 24) * (nZ 24))] h10 mv_raise fun x11 h11 =>
                  if x8 = (((nZ 10) * v1) + (x9 * x11)) then 
                  (mv_clI call 350 [.ref a0, .int v1] h11 mv_raise fun x12 h12 =>
                    if x12 = (nZ 1) then 
                    (mv_run X call m_L_isBalloon 360 [.ref a0, .int v1, .int v2, .int v3, .int v4, .int v5, .int v6, .int v7, .int v8, .int v9] [.int (nZ 1)] h12)
                    else (mv_run X call m_L_isBalloon 360 [.ref a0, .int v1, .int v2, .int v3, .int v4, .int v5, .int v6, .int v7, .int v8, .int v9] [.int (nZ 0)] h12))
                  else (mv_run X call m_L_isBalloon 391 [.ref a0, .int v1, .int v2, .int v3, .int v4, .int v5, .int v6, .int v7, .int v8, .int v9] [] h11))))))))
      else (mv_run X call m_L_isBalloon 391 [.ref a0, .int v1, .int v2, .int v3, .int v4, .int v5, .int v6, .int v7, .int v8, .int v9] [] h2)))
  else (mv_clI call 368 [.ref a0, .int v9, .int v1] h1 mv_raise fun x13 h13 =>
    if x13 = (nZ 1) then 
    (mv_rcv X h13 [.ref a0] 12 (mv_clI call 117 [.ref a0] h13 mv_raise fun x14 h14 =>
      if (nZ 24) = 0 then none else 
      mv_clI call 367 [.ref a0, .int v9, .int (x14 - x14 / (nZ 24) * (nZ 24))] h14 mv_raise fun x15 h15 =>
      if x15 = (nZ 1) then 
      (if (nZ 1) ≤ v8 then 
        (mv_run X call m_L_isBalloon 249 [.ref a0, .int v1, .int v2, .int v3, .int v4, .int v5, .int v6, .int v7, .int v8, .int v9] [] h15)
        else (mv_run X call m_L_isBalloon 247 [.ref a0, .int v1, .int v2, .int v3, .int v4, .int v5, .int v6, .int v7, .int v8, .int v9] [] h15))
      else (mv_run X call m_L_isBalloon 247 [.ref a0, .int v1, .int v2, .int v3, .int v4, .int v5, .int v6, .int v7, .int v8, .int v9] [] h15)))
    else (mv_run X call m_L_isBalloon 249 [.ref a0, .int v1, .int v2, .int v3, .int v4, .int v5, .int v6, .int v7, .int v8, .int v9] [] h13))) :=
  (s_iload i_L_isBalloon_204 rfl).trans <| (s_aload_n i_L_isBalloon_206 rfl).trans <| (s_v1 [.ref a0] [.int v9] i_L_isBalloon_207 rfl (fun _ => rfl)).trans <| c_rcv <| c_clI fun x1 h1 => (s_icmp_ge i_L_isBalloon_210).trans <| c_ite ((s_iload i_L_isBalloon_255 rfl).trans <| (s_if_eq i_L_isBalloon_257).trans <| c_ite (rfl) ((s_aload_n i_L_isBalloon_260 rfl).trans <| (s_iload_n i_L_isBalloon_261 rfl).trans <| (s_s1 [.ref a0, .int v1] [] i_L_isBalloon_262 rfl (fun _ => rfl)).trans <| c_clI fun x2 h2 => (s_iload_n i_L_isBalloon_265 rfl).trans <| (s_icmp_ne i_L_isBalloon_266).trans <| c_ite ((s_aload_n i_L_isBalloon_269 rfl).trans <| (s_iload_n i_L_isBalloon_270 rfl).trans <| (s_s1 [.ref a0, .int v1] [] i_L_isBalloon_271 rfl (fun _ => rfl)).trans <| c_clI fun x3 h3 => (s_iload i_L_isBalloon_274 rfl).trans <| (s_icmp_gt i_L_isBalloon_276).trans <| c_ite (rfl) ((s_aload_n i_L_isBalloon_279 rfl).trans <| (s_iload_n i_L_isBalloon_280 rfl).trans <| (s_s1 [.ref a0, .int v1] [] i_L_isBalloon_281 rfl (fun _ => rfl)).trans <| c_clI fun x4 h4 => (s_if_lt i_L_isBalloon_284).trans <| c_ite (rfl) ((s_aload_n i_L_isBalloon_287 rfl).trans <| (s_iload_n i_L_isBalloon_288 rfl).trans <| (s_s1 [.ref a0, .int v1] [] i_L_isBalloon_289 rfl (fun _ => rfl)).trans <| c_clI fun x5 h5 => (s_bipush i_L_isBalloon_292).trans <| (s_icmp_gt i_L_isBalloon_294).trans <| c_ite (rfl) ((s_aload_n i_L_isBalloon_297 rfl).trans <| (s_iload_n i_L_isBalloon_298 rfl).trans <| (s_s1 [.ref a0, .int v1] [] i_L_isBalloon_299 rfl (fun _ => rfl)).trans <| c_clI fun x6 h6 => (s_iconst i_L_isBalloon_302).trans <| (s_icmp_lt i_L_isBalloon_303).trans <| c_ite (rfl) ((s_aload_n i_L_isBalloon_306 rfl).trans <| (s_iload_n i_L_isBalloon_307 rfl).trans <| (s_s1 [.ref a0, .int v1] [] i_L_isBalloon_308 rfl (fun _ => rfl)).trans <| c_clI fun x7 h7 => (s_bipush i_L_isBalloon_311).trans <| (s_icmp_gt i_L_isBalloon_313).trans <| c_ite (rfl) ((s_aload_n i_L_isBalloon_316 rfl).trans <| (s_iload_n i_L_isBalloon_317 rfl).trans <| (s_s1 [.ref a0, .int v1] [] i_L_isBalloon_318 rfl (fun _ => rfl)).trans <| c_clI fun x8 h8 => (s_bipush i_L_isBalloon_321).trans <| (s_iload_n i_L_isBalloon_323 rfl).trans <| (s_imul i_L_isBalloon_324).trans <| (s_aload_n i_L_isBalloon_325 rfl).trans <| (s_iload_n i_L_isBalloon_326 rfl).trans <| (s_s1 [.ref a0, .int v1] [.int ((nZ 10) * v1), .int x8] i_L_isBalloon_327 rfl (fun _ => rfl)).trans <| c_clI fun x9 h9 => (s_aload_n i_L_isBalloon_330 rfl).trans <| (s_aload_n i_L_isBalloon_331 rfl).trans <| (s_v1 [.ref a0] [.ref a0, .int x9, .int ((nZ 10) * v1), .int x8] i_L_isBalloon_332 rfl (fun _ => rfl)).trans <| c_rcv <| c_clI fun x10 h10 => (s_bipush i_L_isBalloon_335).trans <| (s_irem i_L_isBalloon_337).trans <| c_ite rfl <| (s_s1 [.ref a0, .int (x10 - x10 / (nZ 24) * (nZ 24))] [.int x9, .int ((nZ 10) * v1), .int x8] i_L_isBalloon_338 rfl (fun _ => rfl)).trans <| c_clI fun x11 h11 => (s_imul i_L_isBalloon_341).trans <| (s_iadd i_L_isBalloon_342).trans <| (s_icmp_ne i_L_isBalloon_343).trans <| c_ite ((s_aload_n i_L_isBalloon_346 rfl).trans <| (s_iload_n i_L_isBalloon_347 rfl).trans <| (s_s1 [.ref a0, .int v1] [] i_L_isBalloon_348 rfl (fun _ => rfl)).trans <| c_clI fun x12 h12 => (s_iconst i_L_isBalloon_351).trans <| (s_icmp_ne i_L_isBalloon_352).trans <| c_ite ((s_iconst i_L_isBalloon_355).trans <| (s_goto i_L_isBalloon_356).trans <| rfl) ((s_iconst i_L_isBalloon_359).trans <| rfl)) (rfl))))))) (rfl))) ((s_aload_n i_L_isBalloon_213 rfl).trans <| (s_iload i_L_isBalloon_214 rfl).trans <| (s_iload_n i_L_isBalloon_216 rfl).trans <| (s_s1 [.ref a0, .int v9, .int v1] [] i_L_isBalloon_217 rfl (fun _ => rfl)).trans <| c_clI fun x13 h13 => (s_iconst i_L_isBalloon_220).trans <| (s_icmp_ne i_L_isBalloon_221).trans <| c_ite ((s_aload_n i_L_isBalloon_224 rfl).trans <| (s_iload i_L_isBalloon_225 rfl).trans <| (s_aload_n i_L_isBalloon_227 rfl).trans <| (s_v1 [.ref a0] [.int v9, .ref a0] i_L_isBalloon_228 rfl (fun _ => rfl)).trans <| c_rcv <| c_clI fun x14 h14 => (s_bipush i_L_isBalloon_231).trans <| (s_irem i_L_isBalloon_233).trans <| c_ite rfl <| (s_s1 [.ref a0, .int v9, .int (x14 - x14 / (nZ 24) * (nZ 24))] [] i_L_isBalloon_234 rfl (fun _ => rfl)).trans <| c_clI fun x15 h15 => (s_iconst i_L_isBalloon_237).trans <| (s_icmp_ne i_L_isBalloon_238).trans <| c_ite ((s_iload i_L_isBalloon_241 rfl).trans <| (s_iconst i_L_isBalloon_243).trans <| (s_icmp_ge i_L_isBalloon_244).trans <| c_ite (rfl) (rfl)) (rfl)) (rfl))
theorem bk_L_isBalloon_247 (X : mv_X) (call : mv_G) (h : mv_H) (a0 : Nat) (v1 : Int32) (v2 : Int32) (v3 : Int32) (v4 : Int32) (v5 : Int32) (v6 : Int32) (v7 : Int32) (v8 : Int32) (v9 : Int32) : mv_run X call m_L_isBalloon 247 [.ref a0, .int v1, .int v2, .int v3, .int v4, .int v5, .int v6, .int v7, .int v8, .int v9] [] h =
  (some (.inl (some (.int (nZ 0))), h)) :=
  (s_iconst i_L_isBalloon_247).trans <| s_iretb i_L_isBalloon_248 rfl
theorem bk_L_isBalloon_249 (X : mv_X) (call : mv_G) (h : mv_H) (a0 : Nat) (v1 : Int32) (v2 : Int32) (v3 : Int32) (v4 : Int32) (v5 : Int32) (v6 : Int32) (v7 : Int32) (v8 : Int32) (v9 : Int32) : mv_run X call m_L_isBalloon 249 [.ref a0, .int v1, .int v2, .int v3, .int v4, .int v5, .int v6, .int v7, .int v8, .int v9] [] h =
  mv_run X call m_L_isBalloon 204 [.ref a0, .int v1, .int v2, .int v3, .int v4, .int v5, .int v6, .int v7, .int v8, .int (v9 + nZ 1)] [] h :=
  (s_iinc (ls2 := [.ref a0, .int v1, .int v2, .int v3, .int v4, .int v5, .int v6, .int v7, .int v8, .int (v9 + nZ 1)]) i_L_isBalloon_249 rfl (fun _ => rfl)).trans <| (s_goto i_L_isBalloon_252).trans <| rfl
theorem bk_L_isBalloon_360 (X : mv_X) (call : mv_G) (h : mv_H) (a0 : Nat) (v1 : Int32) (v2 : Int32) (v3 : Int32) (v4 : Int32) (v5 : Int32) (v6 : Int32) (v7 : Int32) (v8 : Int32) (v9 : Int32) (s0 : Int32) : mv_run X call m_L_isBalloon 360 [.ref a0, .int v1, .int v2, .int v3, .int v4, .int v5, .int v6, .int v7, .int v8, .int v9] [.int s0] h =
  mv_clF call 371 [.ref a0, .int v1] h mv_raise fun f1 h1 =>
  if (Op.cmpValue (FP.fcmp f1 (mv_fc 1)) .l) ≤ 0 then 
  (mv_run X call m_L_isBalloon 375 [.ref a0, .int v1, .int v2, .int v3, .int v4, .int v5, .int v6, .int v7, .int v8, .int v9] [.int (nZ 0), .int s0] h1)
  else (mv_run X call m_L_isBalloon 375 [.ref a0, .int v1, .int v2, .int v3, .int v4, .int v5, .int v6, .int v7, .int v8, .int v9] [.int (nZ 1), .int s0] h1) :=
  (s_aload_n i_L_isBalloon_360 rfl).trans <| (s_iload_n i_L_isBalloon_361 rfl).trans <| (s_s4 [.ref a0, .int v1] [.int s0] i_L_isBalloon_362 rfl (fun _ => rfl)).trans <| c_clF fun f1 h1 => (s_fconst i_L_isBalloon_365).trans <| (s_fcmp i_L_isBalloon_366).trans <| (s_if_le i_L_isBalloon_367).trans <| c_ite ((s_iconst i_L_isBalloon_374).trans <| rfl) ((s_iconst i_L_isBalloon_370).trans <| (s_goto i_L_isBalloon_371).trans <| rfl)
theorem bk_L_isBalloon_375 (X : mv_X) (call : mv_G) (h : mv_H) (a0 : Nat) (v1 : Int32) (v2 : Int32) (v3 : Int32) (v4 : Int32) (v5 : Int32) (v6 : Int32) (v7 : Int32) (v8 : Int32) (v9 : Int32) (s0 : Int32) (s1 : Int32) : mv_run X call m_L_isBalloon 375 [.ref a0, .int v1, .int v2, .int v3, .int v4, .int v5, .int v6, .int v7, .int v8, .int v9] [.int s0, .int s1] h =
  if s1 = s0 then 
  (mv_clI call 374 [.ref a0, .int v1] h mv_raise fun x1 h1 =>
    if x1 < (nZ 5) then 
    (mv_run X call m_L_isBalloon 391 [.ref a0, .int v1, .int v2, .int v3, .int v4, .int v5, .int v6, .int v7, .int v8, .int v9] [] h1)
    else (mv_run X call m_L_isBalloon 392 [.ref a0, .int v1, .int v2, .int v3, .int v4, .int v5, .int v6, .int v7, .int v8, .int v9] [.int (nZ 1)] h1))
  else (mv_run X call m_L_isBalloon 391 [.ref a0, .int v1, .int v2, .int v3, .int v4, .int v5, .int v6, .int v7, .int v8, .int v9] [] h) :=
  (s_icmp_ne i_L_isBalloon_375).trans <| c_ite ((s_aload_n i_L_isBalloon_378 rfl).trans <| (s_iload_n i_L_isBalloon_379 rfl).trans <| (s_s1 [.ref a0, .int v1] [] i_L_isBalloon_380 rfl (fun _ => rfl)).trans <| c_clI fun x1 h1 => (s_iconst i_L_isBalloon_383).trans <| (s_icmp_lt i_L_isBalloon_384).trans <| c_ite (rfl) ((s_iconst i_L_isBalloon_387).trans <| (s_goto i_L_isBalloon_388).trans <| rfl)) (rfl)
theorem bk_L_isBalloon_391 (X : mv_X) (call : mv_G) (h : mv_H) (a0 : Nat) (v1 : Int32) (v2 : Int32) (v3 : Int32) (v4 : Int32) (v5 : Int32) (v6 : Int32) (v7 : Int32) (v8 : Int32) (v9 : Int32) : mv_run X call m_L_isBalloon 391 [.ref a0, .int v1, .int v2, .int v3, .int v4, .int v5, .int v6, .int v7, .int v8, .int v9] [] h =
  mv_run X call m_L_isBalloon 392 [.ref a0, .int v1, .int v2, .int v3, .int v4, .int v5, .int v6, .int v7, .int v8, .int v9] [.int (nZ 0)] h :=
  (s_iconst i_L_isBalloon_391).trans <| rfl
theorem bk_L_isBalloon_392 (X : mv_X) (call : mv_G) (h : mv_H) (a0 : Nat) (v1 : Int32) (v2 : Int32) (v3 : Int32) (v4 : Int32) (v5 : Int32) (v6 : Int32) (v7 : Int32) (v8 : Int32) (v9 : Int32) (s0 : Int32) : mv_run X call m_L_isBalloon 392 [.ref a0, .int v1, .int v2, .int v3, .int v4, .int v5, .int v6, .int v7, .int v8, .int v9] [.int s0] h =
  mv_chk (mv_ok 6 s0) (some (.inl (some (.int s0)), h)) :=
  s_iret i_L_isBalloon_392
theorem mc_L_isWhole (X : mv_X) (d : Nat) (h : mv_H) (a0 : Nat) (a1 : Nat) (v2 : Int32) (v3 : Int32) : mv_call X (d + 1) 385 [.ref a0, .ref a1, .int v2, .int v3] h = mv_run X (mv_call X d) m_L_isWhole 0 [.ref a0, .ref a1, .int v2, .int v3, .retAddr 0, .retAddr 0, .retAddr 0, .retAddr 0, .retAddr 0, .retAddr 0, .retAddr 0, .retAddr 0, .retAddr 0, .retAddr 0, .retAddr 0, .retAddr 0] [] h := rfl
theorem i_L_isWhole_0 : mv_look m_L_isWhole.2.2.2.1 32 0 = some (.iconst 0, 0, []) := by decide +kernel
theorem i_L_isWhole_1 : mv_look m_L_isWhole.2.2.2.1 32 1 = some (.istore 4, 0, []) := by decide +kernel
theorem i_L_isWhole_3 : mv_look m_L_isWhole.2.2.2.1 32 3 = some (.iconst 0, 0, []) := by decide +kernel
theorem i_L_isWhole_4 : mv_look m_L_isWhole.2.2.2.1 32 4 = some (.istore 5, 0, []) := by decide +kernel
theorem i_L_isWhole_6 : mv_look m_L_isWhole.2.2.2.1 32 6 = some (.iconst 0, 0, []) := by decide +kernel
theorem i_L_isWhole_7 : mv_look m_L_isWhole.2.2.2.1 32 7 = some (.istore 6, 0, []) := by decide +kernel
theorem i_L_isWhole_9 : mv_look m_L_isWhole.2.2.2.1 32 9 = some (.iconst 0, 0, []) := by decide +kernel
theorem i_L_isWhole_10 : mv_look m_L_isWhole.2.2.2.1 32 10 = some (.istore 7, 0, []) := by decide +kernel
theorem i_L_isWhole_12 : mv_look m_L_isWhole.2.2.2.1 32 12 = some (.iconst 0, 0, []) := by decide +kernel
theorem i_L_isWhole_13 : mv_look m_L_isWhole.2.2.2.1 32 13 = some (.istore 8, 0, []) := by decide +kernel
theorem i_L_isWhole_15 : mv_look m_L_isWhole.2.2.2.1 32 15 = some (.iload 8, 0, []) := by decide +kernel
theorem i_L_isWhole_17 : mv_look m_L_isWhole.2.2.2.1 32 17 = some (.bipush 10, 0, []) := by decide +kernel
theorem i_L_isWhole_19 : mv_look m_L_isWhole.2.2.2.1 32 19 = some (.if_icmp .ge 138, 157, []) := by decide +kernel
theorem i_L_isWhole_22 : mv_look m_L_isWhole.2.2.2.1 32 22 = some (.aload_n 0, 0, []) := by decide +kernel
theorem i_L_isWhole_23 : mv_look m_L_isWhole.2.2.2.1 32 23 = some (.iload 8, 0, []) := by decide +kernel
theorem i_L_isWhole_25 : mv_look m_L_isWhole.2.2.2.1 32 25 = some (.invokestatic 234, 0, []) := by decide +kernel
theorem i_L_isWhole_28 : mv_look m_L_isWhole.2.2.2.1 32 28 = some (.iconst 1, 0, []) := by decide +kernel
theorem i_L_isWhole_29 : mv_look m_L_isWhole.2.2.2.1 32 29 = some (.if_icmp .ne 122, 151, []) := by decide +kernel
theorem i_L_isWhole_32 : mv_look m_L_isWhole.2.2.2.1 32 32 = some (.iinc 4 1, 0, []) := by decide +kernel
theorem i_L_isWhole_35 : mv_look m_L_isWhole.2.2.2.1 32 35 = some (.iload 5, 0, []) := by decide +kernel
theorem i_L_isWhole_37 : mv_look m_L_isWhole.2.2.2.1 32 37 = some (.aload_n 0, 0, []) := by decide +kernel
theorem i_L_isWhole_38 : mv_look m_L_isWhole.2.2.2.1 32 38 = some (.iload 8, 0, []) := by decide +kernel
theorem i_L_isWhole_40 : mv_look m_L_isWhole.2.2.2.1 32 40 = some (.invokestatic 202, 0, []) := by decide +kernel
theorem i_L_isWhole_43 : mv_look m_L_isWhole.2.2.2.1 32 43 = some (.iadd, 0, []) := by decide +kernel
theorem i_L_isWhole_44 : mv_look m_L_isWhole.2.2.2.1 32 44 = some (.istore 5, 0, []) := by decide +kernel
theorem i_L_isWhole_46 : mv_look m_L_isWhole.2.2.2.1 32 46 = some (.iload 6, 0, []) := by decide +kernel
theorem i_L_isWhole_48 : mv_look m_L_isWhole.2.2.2.1 32 48 = some (.aload_n 0, 0, []) := by decide +kernel
theorem i_L_isWhole_49 : mv_look m_L_isWhole.2.2.2.1 32 49 = some (.iload 8, 0, []) := by decide +kernel
theorem i_L_isWhole_51 : mv_look m_L_isWhole.2.2.2.1 32 51 = some (.invokestatic 195, 0, []) := by decide +kernel
theorem i_L_isWhole_54 : mv_look m_L_isWhole.2.2.2.1 32 54 = some (.iadd, 0, []) := by decide +kernel
theorem i_L_isWhole_55 : mv_look m_L_isWhole.2.2.2.1 32 55 = some (.istore 6, 0, []) := by decide +kernel
theorem i_L_isWhole_57 : mv_look m_L_isWhole.2.2.2.1 32 57 = some (.iload 8, 0, []) := by decide +kernel
theorem i_L_isWhole_59 : mv_look m_L_isWhole.2.2.2.1 32 59 = some (.iconst 1, 0, []) := by decide +kernel
theorem i_L_isWhole_60 : mv_look m_L_isWhole.2.2.2.1 32 60 = some (.iadd, 0, []) := by decide +kernel
theorem i_L_isWhole_61 : mv_look m_L_isWhole.2.2.2.1 32 61 = some (.istore 9, 0, []) := by decide +kernel
theorem i_L_isWhole_63 : mv_look m_L_isWhole.2.2.2.1 32 63 = some (.iload 9, 0, []) := by decide +kernel
theorem i_L_isWhole_65 : mv_look m_L_isWhole.2.2.2.1 32 65 = some (.bipush 10, 0, []) := by decide +kernel
theorem i_L_isWhole_67 : mv_look m_L_isWhole.2.2.2.1 32 67 = some (.if_icmp .ge 44, 111, []) := by decide +kernel
theorem i_L_isWhole_70 : mv_look m_L_isWhole.2.2.2.1 32 70 = some (.iload 7, 0, []) := by decide +kernel
theorem i_L_isWhole_72 : mv_look m_L_isWhole.2.2.2.1 32 72 = some (.aload_n 0, 0, []) := by decide +kernel
theorem i_L_isWhole_73 : mv_look m_L_isWhole.2.2.2.1 32 73 = some (.iload 9, 0, []) := by decide +kernel
theorem i_L_isWhole_75 : mv_look m_L_isWhole.2.2.2.1 32 75 = some (.invokestatic 234, 0, []) := by decide +kernel
theorem i_L_isWhole_78 : mv_look m_L_isWhole.2.2.2.1 32 78 = some (.iconst 1, 0, []) := by decide +kernel
theorem i_L_isWhole_79 : mv_look m_L_isWhole.2.2.2.1 32 79 = some (.if_icmp .ne 22, 101, []) := by decide +kernel
theorem i_L_isWhole_82 : mv_look m_L_isWhole.2.2.2.1 32 82 = some (.aload_n 0, 0, []) := by decide +kernel
theorem i_L_isWhole_83 : mv_look m_L_isWhole.2.2.2.1 32 83 = some (.iload 8, 0, []) := by decide +kernel
theorem i_L_isWhole_85 : mv_look m_L_isWhole.2.2.2.1 32 85 = some (.invokestatic 327, 0, []) := by decide +kernel
theorem i_L_isWhole_88 : mv_look m_L_isWhole.2.2.2.1 32 88 = some (.aload_n 0, 0, []) := by decide +kernel
theorem i_L_isWhole_89 : mv_look m_L_isWhole.2.2.2.1 32 89 = some (.iload 9, 0, []) := by decide +kernel
theorem i_L_isWhole_91 : mv_look m_L_isWhole.2.2.2.1 32 91 = some (.invokestatic 327, 0, []) := by decide +kernel
theorem i_L_isWhole_94 : mv_look m_L_isWhole.2.2.2.1 32 94 = some (.if_icmp .le 7, 101, []) := by decide +kernel
theorem i_L_isWhole_97 : mv_look m_L_isWhole.2.2.2.1 32 97 = some (.iconst 1, 0, []) := by decide +kernel
theorem i_L_isWhole_98 : mv_look m_L_isWhole.2.2.2.1 32 98 = some (.goto 4, 102, []) := by decide +kernel
theorem i_L_isWhole_101 : mv_look m_L_isWhole.2.2.2.1 32 101 = some (.iconst 0, 0, []) := by decide +kernel
theorem i_L_isWhole_102 : mv_look m_L_isWhole.2.2.2.1 32 102 = some (.iadd, 0, []) := by decide +kernel
theorem i_L_isWhole_103 : mv_look m_L_isWhole.2.2.2.1 32 103 = some (.istore 7, 0, []) := by decide +kernel
theorem i_L_isWhole_105 : mv_look m_L_isWhole.2.2.2.1 32 105 = some (.iinc 9 1, 0, []) := by decide +kernel
theorem i_L_isWhole_108 : mv_look m_L_isWhole.2.2.2.1 32 108 = some (.goto (-45), 63, []) := by decide +kernel
theorem i_L_isWhole_111 : mv_look m_L_isWhole.2.2.2.1 32 111 = some (.iload_n 3, 0, []) := by decide +kernel
theorem i_L_isWhole_112 : mv_look m_L_isWhole.2.2.2.1 32 112 = some (.ifCond .ne 17, 129, []) := by decide +kernel
theorem i_L_isWhole_115 : mv_look m_L_isWhole.2.2.2.1 32 115 = some (.iload 8, 0, []) := by decide +kernel
theorem i_L_isWhole_117 : mv_look m_L_isWhole.2.2.2.1 32 117 = some (.aload_n 1, 0, []) := by decide +kernel
theorem i_L_isWhole_118 : mv_look m_L_isWhole.2.2.2.1 32 118 = some (.iload_n 2, 0, []) := by decide +kernel
theorem i_L_isWhole_119 : mv_look m_L_isWhole.2.2.2.1 32 119 = some (.iconst 1, 0, []) := by decide +kernel
theorem i_L_isWhole_120 : mv_look m_L_isWhole.2.2.2.1 32 120 = some (.iadd, 0, []) := by decide +kernel
theorem i_L_isWhole_121 : mv_look m_L_isWhole.2.2.2.1 32 121 = some (.bipush 10, 0, []) := by decide +kernel
theorem i_L_isWhole_123 : mv_look m_L_isWhole.2.2.2.1 32 123 = some (.invokestatic 187, 0, []) := by decide +kernel
theorem i_L_isWhole_126 : mv_look m_L_isWhole.2.2.2.1 32 126 = some (.if_icmp .ne 25, 151, []) := by decide +kernel
theorem i_L_isWhole_129 : mv_look m_L_isWhole.2.2.2.1 32 129 = some (.aload_n 0, 0, []) := by decide +kernel
theorem i_L_isWhole_130 : mv_look m_L_isWhole.2.2.2.1 32 130 = some (.iload 8, 0, []) := by decide +kernel
theorem i_L_isWhole_132 : mv_look m_L_isWhole.2.2.2.1 32 132 = some (.iconst 1, 0, []) := by decide +kernel
theorem i_L_isWhole_133 : mv_look m_L_isWhole.2.2.2.1 32 133 = some (.aload_n 1, 0, []) := by decide +kernel
theorem i_L_isWhole_134 : mv_look m_L_isWhole.2.2.2.1 32 134 = some (.iload_n 2, 0, []) := by decide +kernel
theorem i_L_isWhole_135 : mv_look m_L_isWhole.2.2.2.1 32 135 = some (.iconst 2, 0, []) := by decide +kernel
theorem i_L_isWhole_136 : mv_look m_L_isWhole.2.2.2.1 32 136 = some (.iadd, 0, []) := by decide +kernel
theorem i_L_isWhole_137 : mv_look m_L_isWhole.2.2.2.1 32 137 = some (.bipush 40, 0, []) := by decide +kernel
theorem i_L_isWhole_139 : mv_look m_L_isWhole.2.2.2.1 32 139 = some (.invokestatic 187, 0, []) := by decide +kernel
theorem i_L_isWhole_142 : mv_look m_L_isWhole.2.2.2.1 32 142 = some (.iadd, 0, []) := by decide +kernel
theorem i_L_isWhole_143 : mv_look m_L_isWhole.2.2.2.1 32 143 = some (.invokestatic 333, 0, []) := by decide +kernel
theorem i_L_isWhole_146 : mv_look m_L_isWhole.2.2.2.1 32 146 = some (.ifCond .ne 5, 151, []) := by decide +kernel
theorem i_L_isWhole_149 : mv_look m_L_isWhole.2.2.2.1 32 149 = some (.iconst 0, 0, []) := by decide +kernel
theorem i_L_isWhole_150 : mv_look m_L_isWhole.2.2.2.1 32 150 = some (.ireturn, 0, []) := by decide +kernel
theorem i_L_isWhole_151 : mv_look m_L_isWhole.2.2.2.1 32 151 = some (.iinc 8 1, 0, []) := by decide +kernel
theorem i_L_isWhole_154 : mv_look m_L_isWhole.2.2.2.1 32 154 = some (.goto (-139), 15, []) := by decide +kernel
theorem i_L_isWhole_157 : mv_look m_L_isWhole.2.2.2.1 32 157 = some (.iconst 1, 0, []) := by decide +kernel
theorem i_L_isWhole_158 : mv_look m_L_isWhole.2.2.2.1 32 158 = some (.istore 8, 0, []) := by decide +kernel
theorem i_L_isWhole_160 : mv_look m_L_isWhole.2.2.2.1 32 160 = some (.iload 8, 0, []) := by decide +kernel
theorem i_L_isWhole_162 : mv_look m_L_isWhole.2.2.2.1 32 162 = some (.iload 4, 0, []) := by decide +kernel
theorem i_L_isWhole_164 : mv_look m_L_isWhole.2.2.2.1 32 164 = some (.if_icmp .ge 96, 260, []) := by decide +kernel
theorem i_L_isWhole_167 : mv_look m_L_isWhole.2.2.2.1 32 167 = some (.aload_n 0, 0, []) := by decide +kernel
theorem i_L_isWhole_168 : mv_look m_L_isWhole.2.2.2.1 32 168 = some (.iload 8, 0, []) := by decide +kernel
theorem i_L_isWhole_170 : mv_look m_L_isWhole.2.2.2.1 32 170 = some (.iconst 1, 0, []) := by decide +kernel
theorem i_L_isWhole_171 : mv_look m_L_isWhole.2.2.2.1 32 171 = some (.isub, 0, []) := by decide +kernel
theorem i_L_isWhole_172 : mv_look m_L_isWhole.2.2.2.1 32 172 = some (.invokestatic 337, 0, []) := by decide +kernel
theorem i_L_isWhole_175 : mv_look m_L_isWhole.2.2.2.1 32 175 = some (.istore 9, 0, []) := by decide +kernel
theorem i_L_isWhole_177 : mv_look m_L_isWhole.2.2.2.1 32 177 = some (.aload_n 0, 0, []) := by decide +kernel
theorem i_L_isWhole_178 : mv_look m_L_isWhole.2.2.2.1 32 178 = some (.iload 8, 0, []) := by decide +kernel
theorem i_L_isWhole_180 : mv_look m_L_isWhole.2.2.2.1 32 180 = some (.invokestatic 337, 0, []) := by decide +kernel
theorem i_L_isWhole_183 : mv_look m_L_isWhole.2.2.2.1 32 183 = some (.istore 10, 0, []) := by decide +kernel
theorem i_L_isWhole_185 : mv_look m_L_isWhole.2.2.2.1 32 185 = some (.aload_n 0, 0, []) := by decide +kernel
theorem i_L_isWhole_186 : mv_look m_L_isWhole.2.2.2.1 32 186 = some (.iload 9, 0, []) := by decide +kernel
theorem i_L_isWhole_188 : mv_look m_L_isWhole.2.2.2.1 32 188 = some (.invokestatic 195, 0, []) := by decide +kernel
theorem i_L_isWhole_191 : mv_look m_L_isWhole.2.2.2.1 32 191 = some (.aload_n 0, 0, []) := by decide +kernel
theorem i_L_isWhole_192 : mv_look m_L_isWhole.2.2.2.1 32 192 = some (.iload 10, 0, []) := by decide +kernel
theorem i_L_isWhole_194 : mv_look m_L_isWhole.2.2.2.1 32 194 = some (.invokestatic 195, 0, []) := by decide +kernel
theorem i_L_isWhole_197 : mv_look m_L_isWhole.2.2.2.1 32 197 = some (.if_icmp .lt 55, 252, []) := by decide +kernel
theorem i_L_isWhole_200 : mv_look m_L_isWhole.2.2.2.1 32 200 = some (.aload_n 0, 0, []) := by decide +kernel
theorem i_L_isWhole_201 : mv_look m_L_isWhole.2.2.2.1 32 201 = some (.iload 9, 0, []) := by decide +kernel
theorem i_L_isWhole_203 : mv_look m_L_isWhole.2.2.2.1 32 203 = some (.invokestatic 195, 0, []) := by decide +kernel
theorem i_L_isWhole_206 : mv_look m_L_isWhole.2.2.2.1 32 206 = some (.aload_n 0, 0, []) := by decide +kernel
theorem i_L_isWhole_207 : mv_look m_L_isWhole.2.2.2.1 32 207 = some (.iload 10, 0, []) := by decide +kernel
theorem i_L_isWhole_209 : mv_look m_L_isWhole.2.2.2.1 32 209 = some (.invokestatic 195, 0, []) := by decide +kernel
theorem i_L_isWhole_212 : mv_look m_L_isWhole.2.2.2.1 32 212 = some (.if_icmp .ne 42, 254, []) := by decide +kernel
theorem i_L_isWhole_215 : mv_look m_L_isWhole.2.2.2.1 32 215 = some (.aload_n 0, 0, []) := by decide +kernel
theorem i_L_isWhole_216 : mv_look m_L_isWhole.2.2.2.1 32 216 = some (.iload 9, 0, []) := by decide +kernel
theorem i_L_isWhole_218 : mv_look m_L_isWhole.2.2.2.1 32 218 = some (.invokestatic 202, 0, []) := by decide +kernel
theorem i_L_isWhole_221 : mv_look m_L_isWhole.2.2.2.1 32 221 = some (.aload_n 0, 0, []) := by decide +kernel
theorem i_L_isWhole_222 : mv_look m_L_isWhole.2.2.2.1 32 222 = some (.iload 10, 0, []) := by decide +kernel
theorem i_L_isWhole_224 : mv_look m_L_isWhole.2.2.2.1 32 224 = some (.invokestatic 202, 0, []) := by decide +kernel
theorem i_L_isWhole_227 : mv_look m_L_isWhole.2.2.2.1 32 227 = some (.if_icmp .lt 25, 252, []) := by decide +kernel
theorem i_L_isWhole_230 : mv_look m_L_isWhole.2.2.2.1 32 230 = some (.aload_n 0, 0, []) := by decide +kernel
theorem i_L_isWhole_231 : mv_look m_L_isWhole.2.2.2.1 32 231 = some (.iload 9, 0, []) := by decide +kernel
theorem i_L_isWhole_233 : mv_look m_L_isWhole.2.2.2.1 32 233 = some (.invokestatic 202, 0, []) := by decide +kernel
theorem i_L_isWhole_236 : mv_look m_L_isWhole.2.2.2.1 32 236 = some (.aload_n 0, 0, []) := by decide +kernel
theorem i_L_isWhole_237 : mv_look m_L_isWhole.2.2.2.1 32 237 = some (.iload 10, 0, []) := by decide +kernel
theorem i_L_isWhole_239 : mv_look m_L_isWhole.2.2.2.1 32 239 = some (.invokestatic 202, 0, []) := by decide +kernel
theorem i_L_isWhole_242 : mv_look m_L_isWhole.2.2.2.1 32 242 = some (.if_icmp .ne 12, 254, []) := by decide +kernel
theorem i_L_isWhole_245 : mv_look m_L_isWhole.2.2.2.1 32 245 = some (.iload 9, 0, []) := by decide +kernel
theorem i_L_isWhole_247 : mv_look m_L_isWhole.2.2.2.1 32 247 = some (.iload 10, 0, []) := by decide +kernel
theorem i_L_isWhole_249 : mv_look m_L_isWhole.2.2.2.1 32 249 = some (.if_icmp .le 5, 254, []) := by decide +kernel
theorem i_L_isWhole_252 : mv_look m_L_isWhole.2.2.2.1 32 252 = some (.iconst 0, 0, []) := by decide +kernel
theorem i_L_isWhole_253 : mv_look m_L_isWhole.2.2.2.1 32 253 = some (.ireturn, 0, []) := by decide +kernel
theorem i_L_isWhole_254 : mv_look m_L_isWhole.2.2.2.1 32 254 = some (.iinc 8 1, 0, []) := by decide +kernel
theorem i_L_isWhole_257 : mv_look m_L_isWhole.2.2.2.1 32 257 = some (.goto (-97), 160, []) := by decide +kernel
theorem i_L_isWhole_260 : mv_look m_L_isWhole.2.2.2.1 32 260 = some (.aload_n 1, 0, []) := by decide +kernel
theorem i_L_isWhole_261 : mv_look m_L_isWhole.2.2.2.1 32 261 = some (.iload_n 2, 0, []) := by decide +kernel
theorem i_L_isWhole_262 : mv_look m_L_isWhole.2.2.2.1 32 262 = some (.iconst 3, 0, []) := by decide +kernel
theorem i_L_isWhole_263 : mv_look m_L_isWhole.2.2.2.1 32 263 = some (.iadd, 0, []) := by decide +kernel
theorem i_L_isWhole_264 : mv_look m_L_isWhole.2.2.2.1 32 264 = some (.bipush 10, 0, []) := by decide +kernel
theorem i_L_isWhole_266 : mv_look m_L_isWhole.2.2.2.1 32 266 = some (.invokestatic 187, 0, []) := by decide +kernel
theorem i_L_isWhole_269 : mv_look m_L_isWhole.2.2.2.1 32 269 = some (.istore 8, 0, []) := by decide +kernel
theorem i_L_isWhole_271 : mv_look m_L_isWhole.2.2.2.1 32 271 = some (.aload_n 0, 0, []) := by decide +kernel
theorem i_L_isWhole_272 : mv_look m_L_isWhole.2.2.2.1 32 272 = some (.iload 8, 0, []) := by decide +kernel
theorem i_L_isWhole_274 : mv_look m_L_isWhole.2.2.2.1 32 274 = some (.invokestatic 339, 0, []) := by decide +kernel
theorem i_L_isWhole_277 : mv_look m_L_isWhole.2.2.2.1 32 277 = some (.istore 9, 0, []) := by decide +kernel
theorem i_L_isWhole_279 : mv_look m_L_isWhole.2.2.2.1 32 279 = some (.iload 8, 0, []) := by decide +kernel
theorem i_L_isWhole_281 : mv_look m_L_isWhole.2.2.2.1 32 281 = some (.ifCond .ne 7, 288, []) := by decide +kernel
theorem i_L_isWhole_284 : mv_look m_L_isWhole.2.2.2.1 32 284 = some (.iconst 0, 0, []) := by decide +kernel
theorem i_L_isWhole_285 : mv_look m_L_isWhole.2.2.2.1 32 285 = some (.goto 11, 296, []) := by decide +kernel
theorem i_L_isWhole_288 : mv_look m_L_isWhole.2.2.2.1 32 288 = some (.aload_n 0, 0, []) := by decide +kernel
theorem i_L_isWhole_289 : mv_look m_L_isWhole.2.2.2.1 32 289 = some (.iload 8, 0, []) := by decide +kernel
theorem i_L_isWhole_291 : mv_look m_L_isWhole.2.2.2.1 32 291 = some (.iconst 1, 0, []) := by decide +kernel
theorem i_L_isWhole_292 : mv_look m_L_isWhole.2.2.2.1 32 292 = some (.isub, 0, []) := by decide +kernel
theorem i_L_isWhole_293 : mv_look m_L_isWhole.2.2.2.1 32 293 = some (.invokestatic 339, 0, []) := by decide +kernel
theorem i_L_isWhole_296 : mv_look m_L_isWhole.2.2.2.1 32 296 = some (.istore 10, 0, []) := by decide +kernel
theorem i_L_isWhole_298 : mv_look m_L_isWhole.2.2.2.1 32 298 = some (.iconst 0, 0, []) := by decide +kernel
theorem i_L_isWhole_299 : mv_look m_L_isWhole.2.2.2.1 32 299 = some (.istore 11, 0, []) := by decide +kernel
theorem i_L_isWhole_301 : mv_look m_L_isWhole.2.2.2.1 32 301 = some (.iconst 0, 0, []) := by decide +kernel
theorem i_L_isWhole_302 : mv_look m_L_isWhole.2.2.2.1 32 302 = some (.istore 12, 0, []) := by decide +kernel
theorem i_L_isWhole_304 : mv_look m_L_isWhole.2.2.2.1 32 304 = some (.iload 12, 0, []) := by decide +kernel
theorem i_L_isWhole_306 : mv_look m_L_isWhole.2.2.2.1 32 306 = some (.aload_n 0, 0, []) := by decide +kernel
theorem i_L_isWhole_307 : mv_look m_L_isWhole.2.2.2.1 32 307 = some (.invokevirtual 227, 0, []) := by decide +kernel
theorem i_L_isWhole_310 : mv_look m_L_isWhole.2.2.2.1 32 310 = some (.if_icmp .ge 27, 337, []) := by decide +kernel
theorem i_L_isWhole_313 : mv_look m_L_isWhole.2.2.2.1 32 313 = some (.iload 11, 0, []) := by decide +kernel
theorem i_L_isWhole_315 : mv_look m_L_isWhole.2.2.2.1 32 315 = some (.aload_n 0, 0, []) := by decide +kernel
theorem i_L_isWhole_316 : mv_look m_L_isWhole.2.2.2.1 32 316 = some (.iload 12, 0, []) := by decide +kernel
theorem i_L_isWhole_318 : mv_look m_L_isWhole.2.2.2.1 32 318 = some (.aload_n 0, 0, []) := by decide +kernel
theorem i_L_isWhole_319 : mv_look m_L_isWhole.2.2.2.1 32 319 = some (.invokevirtual 224, 0, []) := by decide +kernel
theorem i_L_isWhole_322 : mv_look m_L_isWhole.2.2.2.1 32 322 = some (.bipush 24, 0, []) := by decide +kernel
theorem i_L_isWhole_324 : mv_look m_L_isWhole.2.2.2.1 32 324 = some (.irem, 0, []) := by decide +kernel
theorem i_L_isWhole_325 : mv_look m_L_isWhole.2.2.2.1 32 325 = some (.invokestatic 316, 0, []) := by decide +kernel
theorem i_L_isWhole_328 : mv_look m_L_isWhole.2.2.2.1 32 328 = some (.iadd, 0, []) := by decide +kernel
theorem i_L_isWhole_329 : mv_look m_L_isWhole.2.2.2.1 32 329 = some (.istore 11, 0, []) := by decide +kernel
theorem i_L_isWhole_331 : mv_look m_L_isWhole.2.2.2.1 32 331 = some (.iinc 12 1, 0, []) := by decide +kernel
theorem i_L_isWhole_334 : mv_look m_L_isWhole.2.2.2.1 32 334 = some (.goto (-30), 304, []) := by decide +kernel
theorem i_L_isWhole_337 : mv_look m_L_isWhole.2.2.2.1 32 337 = some (.iload_n 3, 0, []) := by decide +kernel
theorem i_L_isWhole_338 : mv_look m_L_isWhole.2.2.2.1 32 338 = some (.ifCond .eq 10, 348, []) := by decide +kernel
theorem i_L_isWhole_341 : mv_look m_L_isWhole.2.2.2.1 32 341 = some (.aload_n 0, 0, []) := by decide +kernel
theorem i_L_isWhole_342 : mv_look m_L_isWhole.2.2.2.1 32 342 = some (.invokevirtual 341, 0, []) := by decide +kernel
theorem i_L_isWhole_345 : mv_look m_L_isWhole.2.2.2.1 32 345 = some (.goto 4, 349, []) := by decide +kernel
theorem i_L_isWhole_348 : mv_look m_L_isWhole.2.2.2.1 32 348 = some (.iconst 0, 0, []) := by decide +kernel
theorem i_L_isWhole_349 : mv_look m_L_isWhole.2.2.2.1 32 349 = some (.istore 12, 0, []) := by decide +kernel
theorem i_L_isWhole_351 : mv_look m_L_isWhole.2.2.2.1 32 351 = some (.iload_n 3, 0, []) := by decide +kernel
theorem i_L_isWhole_352 : mv_look m_L_isWhole.2.2.2.1 32 352 = some (.ifCond .eq 26, 378, []) := by decide +kernel
theorem i_L_isWhole_355 : mv_look m_L_isWhole.2.2.2.1 32 355 = some (.aload_n 0, 0, []) := by decide +kernel
theorem i_L_isWhole_356 : mv_look m_L_isWhole.2.2.2.1 32 356 = some (.invokevirtual 344, 0, []) := by decide +kernel
theorem i_L_isWhole_359 : mv_look m_L_isWhole.2.2.2.1 32 359 = some (.iload 12, 0, []) := by decide +kernel
theorem i_L_isWhole_361 : mv_look m_L_isWhole.2.2.2.1 32 361 = some (.if_icmp .ne 21, 382, []) := by decide +kernel
theorem i_L_isWhole_364 : mv_look m_L_isWhole.2.2.2.1 32 364 = some (.iload 12, 0, []) := by decide +kernel
theorem i_L_isWhole_366 : mv_look m_L_isWhole.2.2.2.1 32 366 = some (.iload 11, 0, []) := by decide +kernel
theorem i_L_isWhole_368 : mv_look m_L_isWhole.2.2.2.1 32 368 = some (.if_icmp .gt 14, 382, []) := by decide +kernel
theorem i_L_isWhole_371 : mv_look m_L_isWhole.2.2.2.1 32 371 = some (.iload 12, 0, []) := by decide +kernel
theorem i_L_isWhole_373 : mv_look m_L_isWhole.2.2.2.1 32 373 = some (.iload 4, 0, []) := by decide +kernel
theorem i_L_isWhole_375 : mv_look m_L_isWhole.2.2.2.1 32 375 = some (.if_icmp .gt 7, 382, []) := by decide +kernel
theorem i_L_isWhole_378 : mv_look m_L_isWhole.2.2.2.1 32 378 = some (.iconst 1, 0, []) := by decide +kernel
theorem i_L_isWhole_379 : mv_look m_L_isWhole.2.2.2.1 32 379 = some (.goto 4, 383, []) := by decide +kernel
theorem i_L_isWhole_382 : mv_look m_L_isWhole.2.2.2.1 32 382 = some (.iconst 0, 0, []) := by decide +kernel
theorem i_L_isWhole_383 : mv_look m_L_isWhole.2.2.2.1 32 383 = some (.istore 13, 0, []) := by decide +kernel
theorem i_L_isWhole_385 : mv_look m_L_isWhole.2.2.2.1 32 385 = some (.iload 9, 0, []) := by decide +kernel
theorem i_L_isWhole_387 : mv_look m_L_isWhole.2.2.2.1 32 387 = some (.aload_n 0, 0, []) := by decide +kernel
theorem i_L_isWhole_388 : mv_look m_L_isWhole.2.2.2.1 32 388 = some (.iload 8, 0, []) := by decide +kernel
theorem i_L_isWhole_390 : mv_look m_L_isWhole.2.2.2.1 32 390 = some (.invokestatic 347, 0, []) := by decide +kernel
theorem i_L_isWhole_393 : mv_look m_L_isWhole.2.2.2.1 32 393 = some (.if_icmp .ne 40, 433, []) := by decide +kernel
theorem i_L_isWhole_396 : mv_look m_L_isWhole.2.2.2.1 32 396 = some (.iload 9, 0, []) := by decide +kernel
theorem i_L_isWhole_398 : mv_look m_L_isWhole.2.2.2.1 32 398 = some (.iload 10, 0, []) := by decide +kernel
theorem i_L_isWhole_400 : mv_look m_L_isWhole.2.2.2.1 32 400 = some (.if_icmp .lt 33, 433, []) := by decide +kernel
theorem i_L_isWhole_403 : mv_look m_L_isWhole.2.2.2.1 32 403 = some (.iload 9, 0, []) := by decide +kernel
theorem i_L_isWhole_405 : mv_look m_L_isWhole.2.2.2.1 32 405 = some (.ifCond .lt 28, 433, []) := by decide +kernel
theorem i_L_isWhole_408 : mv_look m_L_isWhole.2.2.2.1 32 408 = some (.iload 9, 0, []) := by decide +kernel
theorem i_L_isWhole_410 : mv_look m_L_isWhole.2.2.2.1 32 410 = some (.bipush 24, 0, []) := by decide +kernel
theorem i_L_isWhole_412 : mv_look m_L_isWhole.2.2.2.1 32 412 = some (.if_icmp .gt 21, 433, []) := by decide +kernel
theorem i_L_isWhole_415 : mv_look m_L_isWhole.2.2.2.1 32 415 = some (.iload 8, 0, []) := by decide +kernel
theorem i_L_isWhole_417 : mv_look m_L_isWhole.2.2.2.1 32 417 = some (.bipush 9, 0, []) := by decide +kernel
theorem i_L_isWhole_419 : mv_look m_L_isWhole.2.2.2.1 32 419 = some (.if_icmp .lt 10, 429, []) := by decide +kernel
theorem i_L_isWhole_422 : mv_look m_L_isWhole.2.2.2.1 32 422 = some (.iload 9, 0, []) := by decide +kernel
theorem i_L_isWhole_424 : mv_look m_L_isWhole.2.2.2.1 32 424 = some (.bipush 24, 0, []) := by decide +kernel
theorem i_L_isWhole_426 : mv_look m_L_isWhole.2.2.2.1 32 426 = some (.if_icmp .ne 7, 433, []) := by decide +kernel
theorem i_L_isWhole_429 : mv_look m_L_isWhole.2.2.2.1 32 429 = some (.iconst 1, 0, []) := by decide +kernel
theorem i_L_isWhole_430 : mv_look m_L_isWhole.2.2.2.1 32 430 = some (.goto 4, 434, []) := by decide +kernel
theorem i_L_isWhole_433 : mv_look m_L_isWhole.2.2.2.1 32 433 = some (.iconst 0, 0, []) := by decide +kernel
theorem i_L_isWhole_434 : mv_look m_L_isWhole.2.2.2.1 32 434 = some (.istore 14, 0, []) := by decide +kernel
theorem i_L_isWhole_436 : mv_look m_L_isWhole.2.2.2.1 32 436 = some (.aload_n 0, 0, []) := by decide +kernel
theorem i_L_isWhole_437 : mv_look m_L_isWhole.2.2.2.1 32 437 = some (.invokevirtual 349, 0, []) := by decide +kernel
theorem i_L_isWhole_440 : mv_look m_L_isWhole.2.2.2.1 32 440 = some (.iload 5, 0, []) := by decide +kernel
theorem i_L_isWhole_442 : mv_look m_L_isWhole.2.2.2.1 32 442 = some (.if_icmp .ne 52, 494, []) := by decide +kernel
theorem i_L_isWhole_445 : mv_look m_L_isWhole.2.2.2.1 32 445 = some (.aload_n 0, 0, []) := by decide +kernel
theorem i_L_isWhole_446 : mv_look m_L_isWhole.2.2.2.1 32 446 = some (.invokevirtual 218, 0, []) := by decide +kernel
theorem i_L_isWhole_449 : mv_look m_L_isWhole.2.2.2.1 32 449 = some (.iload 5, 0, []) := by decide +kernel
theorem i_L_isWhole_451 : mv_look m_L_isWhole.2.2.2.1 32 451 = some (.aload_n 0, 0, []) := by decide +kernel
theorem i_L_isWhole_452 : mv_look m_L_isWhole.2.2.2.1 32 452 = some (.invokevirtual 215, 0, []) := by decide +kernel
theorem i_L_isWhole_455 : mv_look m_L_isWhole.2.2.2.1 32 455 = some (.iadd, 0, []) := by decide +kernel
theorem i_L_isWhole_456 : mv_look m_L_isWhole.2.2.2.1 32 456 = some (.aload_n 0, 0, []) := by decide +kernel
theorem i_L_isWhole_457 : mv_look m_L_isWhole.2.2.2.1 32 457 = some (.invokevirtual 212, 0, []) := by decide +kernel
theorem i_L_isWhole_460 : mv_look m_L_isWhole.2.2.2.1 32 460 = some (.iadd, 0, []) := by decide +kernel
theorem i_L_isWhole_461 : mv_look m_L_isWhole.2.2.2.1 32 461 = some (.if_icmp .ne 33, 494, []) := by decide +kernel
theorem i_L_isWhole_464 : mv_look m_L_isWhole.2.2.2.1 32 464 = some (.aload_n 0, 0, []) := by decide +kernel
theorem i_L_isWhole_465 : mv_look m_L_isWhole.2.2.2.1 32 465 = some (.invokestatic 352, 0, []) := by decide +kernel
theorem i_L_isWhole_468 : mv_look m_L_isWhole.2.2.2.1 32 468 = some (.iload 4, 0, []) := by decide +kernel
theorem i_L_isWhole_470 : mv_look m_L_isWhole.2.2.2.1 32 470 = some (.ifCond .ne 9, 479, []) := by decide +kernel
theorem i_L_isWhole_473 : mv_look m_L_isWhole.2.2.2.1 32 473 = some (.ldc2_w 114, 0, []) := by decide +kernel
theorem i_L_isWhole_476 : mv_look m_L_isWhole.2.2.2.1 32 476 = some (.goto 10, 486, []) := by decide +kernel
theorem i_L_isWhole_479 : mv_look m_L_isWhole.2.2.2.1 32 479 = some (.iload 6, 0, []) := by decide +kernel
theorem i_L_isWhole_481 : mv_look m_L_isWhole.2.2.2.1 32 481 = some (.i2d, 0, []) := by decide +kernel
theorem i_L_isWhole_482 : mv_look m_L_isWhole.2.2.2.1 32 482 = some (.iload 4, 0, []) := by decide +kernel
theorem i_L_isWhole_484 : mv_look m_L_isWhole.2.2.2.1 32 484 = some (.i2d, 0, []) := by decide +kernel
theorem i_L_isWhole_485 : mv_look m_L_isWhole.2.2.2.1 32 485 = some (.ddiv, 0, []) := by decide +kernel
theorem i_L_isWhole_486 : mv_look m_L_isWhole.2.2.2.1 32 486 = some (.dcmp .l, 0, []) := by decide +kernel
theorem i_L_isWhole_487 : mv_look m_L_isWhole.2.2.2.1 32 487 = some (.ifCond .ne 7, 494, []) := by decide +kernel
theorem i_L_isWhole_490 : mv_look m_L_isWhole.2.2.2.1 32 490 = some (.iconst 1, 0, []) := by decide +kernel
theorem i_L_isWhole_491 : mv_look m_L_isWhole.2.2.2.1 32 491 = some (.goto 4, 495, []) := by decide +kernel
theorem i_L_isWhole_494 : mv_look m_L_isWhole.2.2.2.1 32 494 = some (.iconst 0, 0, []) := by decide +kernel
theorem i_L_isWhole_495 : mv_look m_L_isWhole.2.2.2.1 32 495 = some (.istore 15, 0, []) := by decide +kernel
theorem i_L_isWhole_497 : mv_look m_L_isWhole.2.2.2.1 32 497 = some (.iload 13, 0, []) := by decide +kernel
theorem i_L_isWhole_499 : mv_look m_L_isWhole.2.2.2.1 32 499 = some (.ifCond .eq 73, 572, []) := by decide +kernel
theorem i_L_isWhole_502 : mv_look m_L_isWhole.2.2.2.1 32 502 = some (.iload 14, 0, []) := by decide +kernel
theorem i_L_isWhole_504 : mv_look m_L_isWhole.2.2.2.1 32 504 = some (.ifCond .eq 68, 572, []) := by decide +kernel
theorem i_L_isWhole_507 : mv_look m_L_isWhole.2.2.2.1 32 507 = some (.iload 15, 0, []) := by decide +kernel
theorem i_L_isWhole_509 : mv_look m_L_isWhole.2.2.2.1 32 509 = some (.ifCond .eq 63, 572, []) := by decide +kernel
theorem i_L_isWhole_512 : mv_look m_L_isWhole.2.2.2.1 32 512 = some (.aload_n 0, 0, []) := by decide +kernel
theorem i_L_isWhole_513 : mv_look m_L_isWhole.2.2.2.1 32 513 = some (.invokevirtual 355, 0, []) := by decide +kernel
theorem i_L_isWhole_516 : mv_look m_L_isWhole.2.2.2.1 32 516 = some (.iload 7, 0, []) := by decide +kernel
theorem i_L_isWhole_518 : mv_look m_L_isWhole.2.2.2.1 32 518 = some (.if_icmp .ne 54, 572, []) := by decide +kernel
theorem i_L_isWhole_521 : mv_look m_L_isWhole.2.2.2.1 32 521 = some (.aload_n 0, 0, []) := by decide +kernel
theorem i_L_isWhole_522 : mv_look m_L_isWhole.2.2.2.1 32 522 = some (.invokevirtual 358, 0, []) := by decide +kernel
theorem i_L_isWhole_525 : mv_look m_L_isWhole.2.2.2.1 32 525 = some (.iload 7, 0, []) := by decide +kernel
theorem i_L_isWhole_527 : mv_look m_L_isWhole.2.2.2.1 32 527 = some (.if_icmp .ne 45, 572, []) := by decide +kernel
theorem i_L_isWhole_530 : mv_look m_L_isWhole.2.2.2.1 32 530 = some (.aload_n 0, 0, []) := by decide +kernel
theorem i_L_isWhole_531 : mv_look m_L_isWhole.2.2.2.1 32 531 = some (.invokevirtual 209, 0, []) := by decide +kernel
theorem i_L_isWhole_534 : mv_look m_L_isWhole.2.2.2.1 32 534 = some (.iload 4, 0, []) := by decide +kernel
theorem i_L_isWhole_536 : mv_look m_L_isWhole.2.2.2.1 32 536 = some (.if_icmp .ne 36, 572, []) := by decide +kernel
theorem i_L_isWhole_539 : mv_look m_L_isWhole.2.2.2.1 32 539 = some (.aload_n 0, 0, []) := by decide +kernel
theorem i_L_isWhole_540 : mv_look m_L_isWhole.2.2.2.1 32 540 = some (.iload 4, 0, []) := by decide +kernel
theorem i_L_isWhole_542 : mv_look m_L_isWhole.2.2.2.1 32 542 = some (.invokestatic 337, 0, []) := by decide +kernel
theorem i_L_isWhole_545 : mv_look m_L_isWhole.2.2.2.1 32 545 = some (.bipush (-75), 0, []) := by decide +kernel
theorem i_L_isWhole_547 : mv_look m_L_isWhole.2.2.2.1 32 547 = some (.if_icmp .ne 25, 572, []) := by decide +kernel
theorem i_L_isWhole_550 : mv_look m_L_isWhole.2.2.2.1 32 550 = some (.aload_n 0, 0, []) := by decide +kernel
theorem i_L_isWhole_551 : mv_look m_L_isWhole.2.2.2.1 32 551 = some (.invokevirtual 227, 0, []) := by decide +kernel
theorem i_L_isWhole_554 : mv_look m_L_isWhole.2.2.2.1 32 554 = some (.bipush 6, 0, []) := by decide +kernel
theorem i_L_isWhole_556 : mv_look m_L_isWhole.2.2.2.1 32 556 = some (.if_icmp .gt 16, 572, []) := by decide +kernel
theorem i_L_isWhole_559 : mv_look m_L_isWhole.2.2.2.1 32 559 = some (.aload_n 0, 0, []) := by decide +kernel
theorem i_L_isWhole_560 : mv_look m_L_isWhole.2.2.2.1 32 560 = some (.invokevirtual 206, 0, []) := by decide +kernel
theorem i_L_isWhole_563 : mv_look m_L_isWhole.2.2.2.1 32 563 = some (.iload 4, 0, []) := by decide +kernel
theorem i_L_isWhole_565 : mv_look m_L_isWhole.2.2.2.1 32 565 = some (.if_icmp .gt 7, 572, []) := by decide +kernel
theorem i_L_isWhole_568 : mv_look m_L_isWhole.2.2.2.1 32 568 = some (.iconst 1, 0, []) := by decide +kernel
theorem i_L_isWhole_569 : mv_look m_L_isWhole.2.2.2.1 32 569 = some (.goto 4, 573, []) := by decide +kernel
theorem i_L_isWhole_572 : mv_look m_L_isWhole.2.2.2.1 32 572 = some (.iconst 0, 0, []) := by decide +kernel
theorem i_L_isWhole_573 : mv_look m_L_isWhole.2.2.2.1 32 573 = some (.ireturn, 0, []) := by decide +kernel
theorem bk_L_isWhole_0 (X : mv_X) (call : mv_G) (h : mv_H) (a0 : Nat) (a1 : Nat) (v2 : Int32) (v3 : Int32) : mv_run X call m_L_isWhole 0 [.ref a0, .ref a1, .int v2, .int v3, .retAddr 0, .retAddr 0, .retAddr 0, .retAddr 0, .retAddr 0, .retAddr 0, .retAddr 0, .retAddr 0, .retAddr 0, .retAddr 0, .retAddr 0, .retAddr 0] [] h =
  mv_run X call m_L_isWhole 15 [.ref a0, .ref a1, .int v2, .int v3, .int (nZ 0), .int (nZ 0), .int (nZ 0), .int (nZ 0), .int (nZ 0), .retAddr 0, .retAddr 0, .retAddr 0, .retAddr 0, .retAddr 0, .retAddr 0, .retAddr 0] [] h :=
  (s_iconst i_L_isWhole_0).trans <| (s_istore (ls2 := [.ref a0, .ref a1, .int v2, .int v3, .int (nZ 0), .retAddr 0, .retAddr 0, .retAddr 0, .retAddr 0, .retAddr 0, .retAddr 0, .retAddr 0, .retAddr 0, .retAddr 0, .retAddr 0, .retAddr 0]) i_L_isWhole_1 (fun _ => rfl)).trans <| (s_iconst i_L_isWhole_3).trans <| (s_istore (ls2 := [.ref a0, .ref a1, .int v2, .int v3, .int (nZ 0), .int (nZ 0), .retAddr 0, .retAddr 0, .retAddr 0, .retAddr 0, .retAddr 0, .retAddr 0, .retAddr 0, .retAddr 0, .retAddr 0, .retAddr 0]) i_L_isWhole_4 (fun _ => rfl)).trans <| (s_iconst i_L_isWhole_6).trans <| (s_istore (ls2 := [.ref a0, .ref a1, .int v2, .int v3, .int (nZ 0), .int (nZ 0), .int (nZ 0), .retAddr 0, .retAddr 0, .retAddr 0, .retAddr 0, .retAddr 0, .retAddr 0, .retAddr 0, .retAddr 0, .retAddr 0]) i_L_isWhole_7 (fun _ => rfl)).trans <| (s_iconst i_L_isWhole_9).trans <| (s_istore (ls2 := [.ref a0, .ref a1, .int v2, .int v3, .int (nZ 0), .int (nZ 0), .int (nZ 0), .int (nZ 0), .retAddr 0, .retAddr 0, .retAddr 0, .retAddr 0, .retAddr 0, .retAddr 0, .retAddr 0, .retAddr 0]) i_L_isWhole_10 (fun _ => rfl)).trans <| (s_iconst i_L_isWhole_12).trans <| (s_istore (ls2 := [.ref a0, .ref a1, .int v2, .int v3, .int (nZ 0), .int (nZ 0), .int (nZ 0), .int (nZ 0), .int (nZ 0), .retAddr 0, .retAddr 0, .retAddr 0, .retAddr 0, .retAddr 0, .retAddr 0, .retAddr 0]) i_L_isWhole_13 (fun _ => rfl)).trans <| rfl
theorem bk_L_isWhole_15 (X : mv_X) (call : mv_G) (h : mv_H) (a0 : Nat) (a1 : Nat) (v2 : Int32) (v3 : Int32) (v4 : Int32) (v5 : Int32) (v6 : Int32) (v7 : Int32) (v8 : Int32) (j9 : Value) : mv_run X call m_L_isWhole 15 [.ref a0, .ref a1, .int v2, .int v3, .int v4, .int v5, .int v6, .int v7, .int v8, j9, .retAddr 0, .retAddr 0, .retAddr 0, .retAddr 0, .retAddr 0, .retAddr 0] [] h =
  if (nZ 10) ≤ v8 then 
  (mv_run X call m_L_isWhole 160 [.ref a0, .ref a1, .int v2, .int v3, .int v4, .int v5, .int v6, .int v7, .int (nZ 1), j9, .retAddr 0, .retAddr 0, .retAddr 0, .retAddr 0, .retAddr 0, .retAddr 0] [] h)
  else (mv_clI call 346 [.ref a0, .int v8] h mv_raise fun x1 h1 =>
    if x1 = (nZ 1) then 
    (mv_clI call 348 [.ref a0, .int v8] h1 mv_raise fun x2 h2 =>
      mv_clI call 349 [.ref a0, .int v8] h2 mv_raise fun x3 h3 =>
      mv_run X call m_L_isWhole 63 [.ref a0, .ref a1, .int v2, .int v3, .int (v4 + nZ 1), .int (v5 + x2), .int (v6 + x3), .int v7, .int v8, .int (v8 + (nZ 1)), .retAddr 0, .retAddr 0, .retAddr 0, .retAddr 0, .retAddr 0, .retAddr 0] [] h3)
    else (mv_run X call m_L_isWhole 151 [.ref a0, .ref a1, .int v2, .int v3, .int v4, .int v5, .int v6, .int v7, .int v8, j9, .retAddr 0, .retAddr 0, .retAddr 0, .retAddr 0, .retAddr 0, .retAddr 0] [] h1)) :=
  (s_iload i_L_isWhole_15 rfl).trans <| (s_bipush i_L_isWhole_17).trans <| (s_icmp_ge i_L_isWhole_19).trans <| c_ite ((s_iconst i_L_isWhole_157).trans <| (s_istore (ls2 := [.ref a0, .ref a1, .int v2, .int v3, .int v4, .int v5, .int v6, .int v7, .int (nZ 1), j9, .retAddr 0, .retAddr 0, .retAddr 0, .retAddr 0, .retAddr 0, .retAddr 0]) i_L_isWhole_158 (fun _ => rfl)).trans <| rfl) ((s_aload_n i_L_isWhole_22 rfl).trans <| (s_iload i_L_isWhole_23 rfl).trans <| (s_s1 [.ref a0, .int v8] [] i_L_isWhole_25 rfl (fun _ => rfl)).trans <| c_clI fun x1 h1 => (s_iconst i_L_isWhole_28).trans <| (s_icmp_ne i_L_isWhole_29).trans <| c_ite ((s_iinc (ls2 := [.ref a0, .ref a1, .int v2, .int v3, .int (v4 + nZ 1), .int v5, .int v6, .int v7, .int v8, j9, .retAddr 0, .retAddr 0, .retAddr 0, .retAddr 0, .retAddr 0, .retAddr 0]) i_L_isWhole_32 rfl (fun _ => rfl)).trans <| (s_iload i_L_isWhole_35 rfl).trans <| (s_aload_n i_L_isWhole_37 rfl).trans <| (s_iload i_L_isWhole_38 rfl).trans <| (s_s1 [.ref a0, .int v8] [.int v5] i_L_isWhole_40 rfl (fun _ => rfl)).trans <| c_clI fun x2 h2 => (s_iadd i_L_isWhole_43).trans <| (s_istore (ls2 := [.ref a0, .ref a1, .int v2, .int v3, .int (v4 + nZ 1), .int (v5 + x2), .int v6, .int v7, .int v8, j9, .retAddr 0, .retAddr 0, .retAddr 0, .retAddr 0, .retAddr 0, .retAddr 0]) i_L_isWhole_44 (fun _ => rfl)).trans <| (s_iload i_L_isWhole_46 rfl).trans <| (s_aload_n i_L_isWhole_48 rfl).trans <| (s_iload i_L_isWhole_49 rfl).trans <| (s_s1 [.ref a0, .int v8] [.int v6] i_L_isWhole_51 rfl (fun _ => rfl)).trans <| c_clI fun x3 h3 => (s_iadd i_L_isWhole_54).trans <| (s_istore (ls2 := [.ref a0, .ref a1, .int v2, .int v3, .int (v4 + nZ 1), .int (v5 + x2), .int (v6 + x3), .int v7, .int v8, j9, .retAddr 0, .retAddr 0, .retAddr 0, .retAddr 0, .retAddr 0, .retAddr 0]) i_L_isWhole_55 (fun _ => rfl)).trans <| (s_iload i_L_isWhole_57 rfl).trans <| (s_iconst i_L_isWhole_59).trans <| (s_iadd i_L_isWhole_60).trans <| (s_istore (ls2 := [.ref a0, .ref a1, .int v2, .int v3, .int (v4 + nZ 1), .int (v5 + x2), .int (v6 + x3), .int v7, .int v8, .int (v8 + (nZ 1)), .retAddr 0, .retAddr 0, .retAddr 0, .retAddr 0, .retAddr 0, .retAddr 0]) i_L_isWhole_61 (fun _ => rfl)).trans <| rfl) (rfl))
theorem bk_L_isWhole_63 (X : mv_X) (call : mv_G) (h : mv_H) (a0 : Nat) (a1 : Nat) (v2 : Int32) (v3 : Int32) (v4 : Int32) (v5 : Int32) (v6 : Int32) (v7 : Int32) (v8 : Int32) (v9 : Int32) : mv_run X call m_L_isWhole 63 [.ref a0, .ref a1, .int v2, .int v3, .int v4, .int v5, .int v6, .int v7, .int v8, .int v9, .retAddr 0, .retAddr 0, .retAddr 0, .retAddr 0, .retAddr 0, .retAddr 0] [] h =
  if (nZ 10) ≤ v9 then 
  (if v3 = 0 then 
    (mv_clI call 343 [.ref a1, .int (v2 + (nZ 1)), .int (nZ 10)] h mv_raise fun x1 h1 =>
      if v8 = x1 then 
      (mv_run X call m_L_isWhole 129 [.ref a0, .ref a1, .int v2, .int v3, .int v4, .int v5, .int v6, .int v7, .int v8, .int v9, .retAddr 0, .retAddr 0, .retAddr 0, .retAddr 0, .retAddr 0, .retAddr 0] [] h1)
      else (mv_run X call m_L_isWhole 151 [.ref a0, .ref a1, .int v2, .int v3, .int v4, .int v5, .int v6, .int v7, .int v8, .int v9, .retAddr 0, .retAddr 0, .retAddr 0, .retAddr 0, .retAddr 0, .retAddr 0] [] h1))
    else (mv_run X call m_L_isWhole 129 [.ref a0, .ref a1, .int v2, .int v3, .int v4, .int v5, .int v6, .int v7, .int v8, .int v9, .retAddr 0, .retAddr 0, .retAddr 0, .retAddr 0, .retAddr 0, .retAddr 0] [] h))
  else (mv_clI call 346 [.ref a0, .int v9] h mv_raise fun x2 h2 =>
    if x2 = (nZ 1) then 
    (mv_clI call 362 [.ref a0, .int v8] h2 mv_raise fun x3 h3 =>
      mv_clI call 362 [.ref a0, .int v9] h3 mv_raise fun x4 h4 =>
      if x3 ≤ x4 then 
      (mv_run X call m_L_isWhole 101 [.ref a0, .ref a1, .int v2, .int v3, .int v4, .int v5, .int v6, .int v7, .int v8, .int v9, .retAddr 0, .retAddr 0, .retAddr 0, .retAddr 0, .retAddr 0, .retAddr 0] [.int v7] h4)
      else (mv_run X call m_L_isWhole 102 [.ref a0, .ref a1, .int v2, .int v3, .int v4, .int v5, .int v6, .int v7, .int v8, .int v9, .retAddr 0, .retAddr 0, .retAddr 0, .retAddr 0, .retAddr 0, .retAddr 0] [.int (nZ 1), .int v7] h4))
    else (mv_run X call m_L_isWhole 101 [.ref a0, .ref a1, .int v2, .int v3, .int v4, .int v5, .int v6, .int v7, .int v8, .int v9, .retAddr 0, .retAddr 0, .retAddr 0, .retAddr 0, .retAddr 0, .retAddr 0] [.int v7] h2)) :=
  (s_iload i_L_isWhole_63 rfl).trans <| (s_bipush i_L_isWhole_65).trans <| (s_icmp_ge i_L_isWhole_67).trans <| c_ite ((s_iload_n i_L_isWhole_111 rfl).trans <| (s_if_ne i_L_isWhole_112).trans <| c_ite ((s_iload i_L_isWhole_115 rfl).trans <| (s_aload_n i_L_isWhole_117 rfl).trans <| (s_iload_n i_L_isWhole_118 rfl).trans <| (s_iconst i_L_isWhole_119).trans <| (s_iadd i_L_isWhole_120).trans <| (s_bipush i_L_isWhole_121).trans <| (s_s1 [.ref a1, .int (v2 + (nZ 1)), .int (nZ 10)] [.int v8] i_L_isWhole_123 rfl (fun _ => rfl)).trans <| c_clI fun x1 h1 => (s_icmp_ne i_L_isWhole_126).trans <| c_ite (rfl) (rfl)) (rfl)) ((s_iload i_L_isWhole_70 rfl).trans <| (s_aload_n i_L_isWhole_72 rfl).trans <| (s_iload i_L_isWhole_73 rfl).trans <| (s_s1 [.ref a0, .int v9] [.int v7] i_L_isWhole_75 rfl (fun _ => rfl)).trans <| c_clI fun x2 h2 => (s_iconst i_L_isWhole_78).trans <| (s_icmp_ne i_L_isWhole_79).trans <| c_ite ((s_aload_n i_L_isWhole_82 rfl).trans <| (s_iload i_L_isWhole_83 rfl).trans <| (s_s1 [.ref a0, .int v8] [.int v7] i_L_isWhole_85 rfl (fun _ => rfl)).trans <| c_clI fun x3 h3 => (s_aload_n i_L_isWhole_88 rfl).trans <| (s_iload i_L_isWhole_89 rfl).trans <| (s_s1 [.ref a0, .int v9] [.int x3, .int v7] i_L_isWhole_91 rfl (fun _ => rfl)).trans <| c_clI fun x4 h4 => (s_icmp_le i_L_isWhole_94).trans <| c_ite (rfl) ((s_iconst i_L_isWhole_97).trans <| (s_goto i_L_isWhole_98).trans <| rfl)) (rfl))
theorem bk_L_isWhole_101 (X : mv_X) (call : mv_G) (h : mv_H) (a0 : Nat) (a1 : Nat) (v2 : Int32) (v3 : Int32) (v4 : Int32) (v5 : Int32) (v6 : Int32) (v7 : Int32) (v8 : Int32) (v9 : Int32) (s0 : Int32) : mv_run X call m_L_isWhole 101 [.ref a0, .ref a1, .int v2, .int v3, .int v4, .int v5, .int v6, .int v7, .int v8, .int v9, .retAddr 0, .retAddr 0, .retAddr 0, .retAddr 0, .retAddr 0, .retAddr 0] [.int s0] h =
  mv_run X call m_L_isWhole 102 [.ref a0, .ref a1, .int v2, .int v3, .int v4, .int v5, .int v6, .int v7, .int v8, .int v9, .retAddr 0, .retAddr 0, .retAddr 0, .retAddr 0, .retAddr 0, .retAddr 0] [.int (nZ 0), .int s0] h :=
  (s_iconst i_L_isWhole_101).trans <| rfl
theorem bk_L_isWhole_102 (X : mv_X) (call : mv_G) (h : mv_H) (a0 : Nat) (a1 : Nat) (v2 : Int32) (v3 : Int32) (v4 : Int32) (v5 : Int32) (v6 : Int32) (v7 : Int32) (v8 : Int32) (v9 : Int32) (s0 : Int32) (s1 : Int32) : mv_run X call m_L_isWhole 102 [.ref a0, .ref a1, .int v2, .int v3, .int v4, .int v5, .int v6, .int v7, .int v8, .int v9, .retAddr 0, .retAddr 0, .retAddr 0, .retAddr 0, .retAddr 0, .retAddr 0] [.int s0, .int s1] h =
  mv_run X call m_L_isWhole 63 [.ref a0, .ref a1, .int v2, .int v3, .int v4, .int v5, .int v6, .int (s1 + s0), .int v8, .int (v9 + nZ 1), .retAddr 0, .retAddr 0, .retAddr 0, .retAddr 0, .retAddr 0, .retAddr 0] [] h :=
  (s_iadd i_L_isWhole_102).trans <| (s_istore (ls2 := [.ref a0, .ref a1, .int v2, .int v3, .int v4, .int v5, .int v6, .int (s1 + s0), .int v8, .int v9, .retAddr 0, .retAddr 0, .retAddr 0, .retAddr 0, .retAddr 0, .retAddr 0]) i_L_isWhole_103 (fun _ => rfl)).trans <| (s_iinc (ls2 := [.ref a0, .ref a1, .int v2, .int v3, .int v4, .int v5, .int v6, .int (s1 + s0), .int v8, .int (v9 + nZ 1), .retAddr 0, .retAddr 0, .retAddr 0, .retAddr 0, .retAddr 0, .retAddr 0]) i_L_isWhole_105 rfl (fun _ => rfl)).trans <| (s_goto i_L_isWhole_108).trans <| rfl
theorem bk_L_isWhole_129 (X : mv_X) (call : mv_G) (h : mv_H) (a0 : Nat) (a1 : Nat) (v2 : Int32) (v3 : Int32) (v4 : Int32) (v5 : Int32) (v6 : Int32) (v7 : Int32) (v8 : Int32) (v9 : Int32) : mv_run X call m_L_isWhole 129 [.ref a0, .ref a1, .int v2, .int v3, .int v4, .int v5, .int v6, .int v7, .int v8, .int v9, .retAddr 0, .retAddr 0, .retAddr 0, .retAddr 0, .retAddr 0, .retAddr 0] [] h =
  mv_clI call 343 [.ref a1, .int (v2 + (nZ 2)), .int (nZ 40)] h mv_raise fun x1 h1 =>
  mv_clI call 384 [.ref a0, .int v8, .int ((nZ 1) + x1)] h1 mv_raise fun x2 h2 =>
  if x2 = 0 then 
  ((some (.inl (some (.int (nZ 0))), h2)))
  else (mv_run X call m_L_isWhole 151 [.ref a0, .ref a1, .int v2, .int v3, .int v4, .int v5, .int v6, .int v7, .int v8, .int v9, .retAddr 0, .retAddr 0, .retAddr 0, .retAddr 0, .retAddr 0, .retAddr 0] [] h2) :=
  (s_aload_n i_L_isWhole_129 rfl).trans <| (s_iload i_L_isWhole_130 rfl).trans <| (s_iconst i_L_isWhole_132).trans <| (s_aload_n i_L_isWhole_133 rfl).trans <| (s_iload_n i_L_isWhole_134 rfl).trans <| (s_iconst i_L_isWhole_135).trans <| (s_iadd i_L_isWhole_136).trans <| (s_bipush i_L_isWhole_137).trans <| (s_s1 [.ref a1, .int (v2 + (nZ 2)), .int (nZ 40)] [.int (nZ 1), .int v8, .ref a0] i_L_isWhole_139 rfl (fun _ => rfl)).trans <| c_clI fun x1 h1 => (s_iadd i_L_isWhole_142).trans <| (s_s1 [.ref a0, .int v8, .int ((nZ 1) + x1)] [] i_L_isWhole_143 rfl (fun _ => rfl)).trans <| c_clI fun x2 h2 => (s_if_ne i_L_isWhole_146).trans <| c_ite ((s_iconst i_L_isWhole_149).trans <| s_iretb i_L_isWhole_150 rfl) (rfl)
theorem bk_L_isWhole_151 (X : mv_X) (call : mv_G) (h : mv_H) (a0 : Nat) (a1 : Nat) (v2 : Int32) (v3 : Int32) (v4 : Int32) (v5 : Int32) (v6 : Int32) (v7 : Int32) (v8 : Int32) (j9 : Value) : mv_run X call m_L_isWhole 151 [.ref a0, .ref a1, .int v2, .int v3, .int v4, .int v5, .int v6, .int v7, .int v8, j9, .retAddr 0, .retAddr 0, .retAddr 0, .retAddr 0, .retAddr 0, .retAddr 0] [] h =
  mv_run X call m_L_isWhole 15 [.ref a0, .ref a1, .int v2, .int v3, .int v4, .int v5, .int v6, .int v7, .int (v8 + nZ 1), j9, .retAddr 0, .retAddr 0, .retAddr 0, .retAddr 0, .retAddr 0, .retAddr 0] [] h :=
  (s_iinc (ls2 := [.ref a0, .ref a1, .int v2, .int v3, .int v4, .int v5, .int v6, .int v7, .int (v8 + nZ 1), j9, .retAddr 0, .retAddr 0, .retAddr 0, .retAddr 0, .retAddr 0, .retAddr 0]) i_L_isWhole_151 rfl (fun _ => rfl)).trans <| (s_goto i_L_isWhole_154).trans <| rfl
theorem bk_L_isWhole_160 (X : mv_X) (call : mv_G) (h : mv_H) (a0 : Nat) (a1 : Nat) (v2 : Int32) (v3 : Int32) (v4 : Int32) (v5 : Int32) (v6 : Int32) (v7 : Int32) (v8 : Int32) (j9 : Value) (j10 : Value) : mv_run X call m_L_isWhole 160 [.ref a0, .ref a1, .int v2, .int v3, .int v4, .int v5, .int v6, .int v7, .int v8, j9, j10, .retAddr 0, .retAddr 0, .retAddr 0, .retAddr 0, .retAddr 0] [] h =
  if v4 ≤ v8 then 
  (mv_clI call 343 [.ref a1, .int (v2 + (nZ 3)), .int (nZ 10)] h mv_raise fun x1 h1 =>
    mv_clI call 363 [.ref a0, .int x1] h1 mv_raise fun x2 h2 =>
    if x1 = 0 then 
    (mv_run X call m_L_isWhole 296 [.ref a0, .ref a1, .int v2, .int v3, .int v4, .int v5, .int v6, .int v7, .int x1, .int x2, j10, .retAddr 0, .retAddr 0, .retAddr 0, .retAddr 0, .retAddr 0] [.int (nZ 0)] h2)
    else (mv_clI call 363 [.ref a0, .int (x1 - (nZ 1))] h2 mv_raise fun x3 h3 =>
      mv_run X call m_L_isWhole 296 [.ref a0, .ref a1, .int v2, .int v3, .int v4, .int v5, .int v6, .int v7, .int x1, .int x2, j10, .retAddr 0, .retAddr 0, .retAddr 0, .retAddr 0, .retAddr 0] [.int x3] h3))
  else (mv_clI call 351 [.ref a0, .int (v8 - (nZ 1))] h mv_raise fun x4 h4 =>
    mv_clI call 351 [.ref a0, .int v8] h4 mv_raise fun x5 h5 =>
    mv_clI call 349 [.ref a0, .int x4] h5 mv_raise fun x6 h6 =>
    mv_clI call 349 [.ref a0, .int x5] h6 mv_raise fun x7 h7 =>
    if x6 < x7 then 
    (mv_run X call m_L_isWhole 252 [.ref a0, .ref a1, .int v2, .int v3, .int v4, .int v5, .int v6, .int v7, .int v8, .int x4, .int x5, .retAddr 0, .retAddr 0, .retAddr 0, .retAddr 0, .retAddr 0] [] h7)
    else (mv_clI call 349 [.ref a0, .int x4] h7 mv_raise fun x8 h8 =>
      mv_clI call 349 [.ref a0, .int x5] h8 mv_raise fun x9 h9 =>
      if x8 = x9 then 
      (mv_clI call 348 [.ref a0, .int x4] h9 mv_raise fun x10 h10 =>
        mv_clI call 348 [.ref a0, .int x5] h10 mv_raise fun x11 h11 =>
        if x10 < x11 then 
        (mv_run X call m_L_isWhole 252 [.ref a0, .ref a1, .int v2, .int v3, .int v4, .int v5, .int v6, .int v7, .int v8, .int x4, .int x5, .retAddr 0, .retAddr 0, .retAddr 0, .retAddr 0, .retAddr 0] [] h11)
        else (mv_clI call 348 [.ref a0, .int x4] h11 mv_raise fun x12 h12 =>
          mv_clI call 348 [.ref a0, .int x5] h12 mv_raise fun x13 h13 =>
          if x12 = x13 then 
          (if x4 ≤ x5 then 
            (mv_run X call m_L_isWhole 254 [.ref a0, .ref a1, .int v2, .int v3, .int v4, .int v5, .int v6, .int v7, .int v8, .int x4, .int x5, .retAddr 0, .retAddr 0, .retAddr 0, .retAddr 0, .retAddr 0] [] h13)
            else (mv_run X call m_L_isWhole 252 [.ref a0, .ref a1, .int v2, .int v3, .int v4, .int v5, .int v6, .int v7, .int v8, .int x4, .int x5, .retAddr 0, .retAddr 0, .retAddr 0, .retAddr 0, .retAddr 0] [] h13))
          else (mv_run X call m_L_isWhole 254 [.ref a0, .ref a1, .int v2, .int v3, .int v4, .int v5, .int v6, .int v7, .int v8, .int x4, .int x5, .retAddr 0, .retAddr 0, .retAddr 0, .retAddr 0, .retAddr 0] [] h13)))
      else (mv_run X call m_L_isWhole 254 [.ref a0, .ref a1, .int v2, .int v3, .int v4, .int v5, .int v6, .int v7, .int v8, .int x4, .int x5, .retAddr 0, .retAddr 0, .retAddr 0, .retAddr 0, .retAddr 0] [] h9))) :=
  (s_iload i_L_isWhole_160 rfl).trans <| (s_iload i_L_isWhole_162 rfl).trans <| (s_icmp_ge i_L_isWhole_164).trans <| c_ite ((s_aload_n i_L_isWhole_260 rfl).trans <| (s_iload_n i_L_isWhole_261 rfl).trans <| (s_iconst i_L_isWhole_262).trans <| (s_iadd i_L_isWhole_263).trans <| (s_bipush i_L_isWhole_264).trans <| (s_s1 [.ref a1, .int (v2 + (nZ 3)), .int (nZ 10)] [] i_L_isWhole_266 rfl (fun _ => rfl)).trans <| c_clI fun x1 h1 => (s_istore (ls2 := [.ref a0, .ref a1, .int v2, .int v3, .int v4, .int v5, .int v6, .int v7, .int x1, j9, j10, .retAddr 0, .retAddr 0, .retAddr 0, .retAddr 0, .retAddr 0]) i_L_isWhole_269 (fun _ => rfl)).trans <| (s_aload_n i_L_isWhole_271 rfl).trans <| (s_iload i_L_isWhole_272 rfl).trans <| (s_s1 [.ref a0, .int x1] [] i_L_isWhole_274 rfl (fun _ => rfl)).trans <| c_clI fun x2 h2 => (s_istore (ls2 := [.ref a0, .ref a1, .int v2, .int v3, .int v4, .int v5, .int v6, .int v7, .int x1, .int x2, j10, .retAddr 0, .retAddr 0, .retAddr 0, .retAddr 0, .retAddr 0]) i_L_isWhole_277 (fun _ => rfl)).trans <| (s_iload i_L_isWhole_279 rfl).trans <| (s_if_ne i_L_isWhole_281).trans <| c_ite ((s_iconst i_L_isWhole_284).trans <| (s_goto i_L_isWhole_285).trans <| rfl) ((s_aload_n i_L_isWhole_288 rfl).trans <| (s_iload i_L_isWhole_289 rfl).trans <| (s_iconst i_L_isWhole_291).trans <| (s_isub i_L_isWhole_292).trans <| (s_s1 [.ref a0, .int (x1 - (nZ 1))] [] i_L_isWhole_293 rfl (fun _ => rfl)).trans <| c_clI fun x3 h3 => rfl)) ((s_aload_n i_L_isWhole_167 rfl).trans <| (s_iload i_L_isWhole_168 rfl).trans <| (s_iconst i_L_isWhole_170).trans <| (s_isub i_L_isWhole_171).trans <| (s_s1 [.ref a0, .int (v8 - (nZ 1))] [] i_L_isWhole_172 rfl (fun _ => rfl)).trans <| c_clI fun x4 h4 => (s_istore (ls2 := [.ref a0, .ref a1, .int v2, .int v3, .int v4, .int v5, .int v6, .int v7, .int v8, .int x4, j10, .retAddr 0, .retAddr 0, .retAddr 0, .retAddr 0, .retAddr 0]) i_L_isWhole_175 (fun _ => rfl)).trans <| (s_aload_n i_L_isWhole_177 rfl).trans <| (s_iload i_L_isWhole_178 rfl).trans <| (s_s1 [.ref a0, .int v8] [] i_L_isWhole_180 rfl (fun _ => rfl)).trans <| c_clI fun x5 h5 => (s_istore (ls2 := [.ref a0, .ref a1, .int v2, .int v3, .int v4, .int v5, .int v6, .int v7, .int v8, .int x4, .int x5, .retAddr 0, .retAddr 0, .retAddr 0, .retAddr 0, .retAddr 0]) i_L_isWhole_183 (fun _ => rfl)).trans <| (s_aload_n i_L_isWhole_185 rfl).trans <| (s_iload i_L_isWhole_186 rfl).trans <| (s_s1 [.ref a0, .int x4] [] i_L_isWhole_188 rfl (fun _ => rfl)).trans <| c_clI fun x6 h6 => (s_aload_n i_L_isWhole_191 rfl).trans <| (s_iload i_L_isWhole_192 rfl).trans <| (s_s1 [.ref a0, .int x5] [.int x6] i_L_isWhole_194 rfl (fun _ => rfl)).trans <| c_clI fun x7 h7 => (s_icmp_lt i_L_isWhole_197).trans <| c_ite (rfl) ((s_aload_n i_L_isWhole_200 rfl).trans <| (s_iload i_L_isWhole_201 rfl).trans <| (s_s1 [.ref a0, .int x4] [] i_L_isWhole_203 rfl (fun _ => rfl)).trans <| c_clI fun x8 h8 => (s_aload_n i_L_isWhole_206 rfl).trans <| (s_iload i_L_isWhole_207 rfl).trans <| (s_s1 [.ref a0, .int x5] [.int x8] i_L_isWhole_209 rfl (fun _ => rfl)).trans <| c_clI fun x9 h9 => (s_icmp_ne i_L_isWhole_212).trans <| c_ite ((s_aload_n i_L_isWhole_215 rfl).trans <| (s_iload i_L_isWhole_216 rfl).trans <| (s_s1 [.ref a0, .int x4] [] i_L_isWhole_218 rfl (fun _ => rfl)).trans <| c_clI fun x10 h10 => (s_aload_n i_L_isWhole_221 rfl).trans <| (s_iload i_L_isWhole_222 rfl).trans <| (s_s1 [.ref a0, .int x5] [.int x10] i_L_isWhole_224 rfl (fun _ => rfl)).trans <| c_clI fun x11 h11 => (s_icmp_lt i_L_isWhole_227).trans <| c_ite (rfl) ((s_aload_n i_L_isWhole_230 rfl).trans <| (s_iload i_L_isWhole_231 rfl).trans <| (s_s1 [.ref a0, .int x4] [] i_L_isWhole_233 rfl (fun _ => rfl)).trans <| c_clI fun x12 h12 => (s_aload_n i_L_isWhole_236 rfl).trans <| (s_iload i_L_isWhole_237 rfl).trans <| (s_s1 [.ref a0, .int x5] [.int x12] i_L_isWhole_239 rfl (fun _ => rfl)).trans <| c_clI fun x13 h13 => (s_icmp_ne i_L_isWhole_242).trans <| c_ite ((s_iload i_L_isWhole_245 rfl).trans <| (s_iload i_L_isWhole_247 rfl).trans <| (s_icmp_le i_L_isWhole_249).trans <| c_ite (rfl) (rfl)) (rfl))) (rfl)))
theorem bk_L_isWhole_252 (X : mv_X) (call : mv_G) (h : mv_H) (a0 : Nat) (a1 : Nat) (v2 : Int32) (v3 : Int32) (v4 : Int32) (v5 : Int32) (v6 : Int32) (v7 : Int32) (v8 : Int32) (v9 : Int32) (v10 : Int32) : mv_run X call m_L_isWhole 252 [.ref a0, .ref a1, .int v2, .int v3, .int v4, .int v5, .int v6, .int v7, .int v8, .int v9, .int v10, .retAddr 0, .retAddr 0, .retAddr 0, .retAddr 0, .retAddr 0] [] h =
  (some (.inl (some (.int (nZ 0))), h)) :=
  (s_iconst i_L_isWhole_252).trans <| s_iretb i_L_isWhole_253 rfl
theorem bk_L_isWhole_254 (X : mv_X) (call : mv_G) (h : mv_H) (a0 : Nat) (a1 : Nat) (v2 : Int32) (v3 : Int32) (v4 : Int32) (v5 : Int32) (v6 : Int32) (v7 : Int32) (v8 : Int32) (v9 : Int32) (v10 : Int32) : mv_run X call m_L_isWhole 254 [.ref a0, .ref a1, .int v2, .int v3, .int v4, .int v5, .int v6, .int v7, .int v8, .int v9, .int v10, .retAddr 0, .retAddr 0, .retAddr 0, .retAddr 0, .retAddr 0] [] h =
  mv_run X call m_L_isWhole 160 [.ref a0, .ref a1, .int v2, .int v3, .int v4, .int v5, .int v6, .int v7, .int (v8 + nZ 1), .int v9, .int v10, .retAddr 0, .retAddr 0, .retAddr 0, .retAddr 0, .retAddr 0] [] h :=
  (s_iinc (ls2 := [.ref a0, .ref a1, .int v2, .int v3, .int v4, .int v5, .int v6, .int v7, .int (v8 + nZ 1), .int v9, .int v10, .retAddr 0, .retAddr 0, .retAddr 0, .retAddr 0, .retAddr 0]) i_L_isWhole_254 rfl (fun _ => rfl)).trans <| (s_goto i_L_isWhole_257).trans <| rfl
theorem bk_L_isWhole_296 (X : mv_X) (call : mv_G) (h : mv_H) (a0 : Nat) (a1 : Nat) (v2 : Int32) (v3 : Int32) (v4 : Int32) (v5 : Int32) (v6 : Int32) (v7 : Int32) (v8 : Int32) (v9 : Int32) (j10 : Value) (s0 : Int32) : mv_run X call m_L_isWhole 296 [.ref a0, .ref a1, .int v2, .int v3, .int v4, .int v5, .int v6, .int v7, .int v8, .int v9, j10, .retAddr 0, .retAddr 0, .retAddr 0, .retAddr 0, .retAddr 0] [.int s0] h =
  mv_run X call m_L_isWhole 304 [.ref a0, .ref a1, .int v2, .int v3, .int v4, .int v5, .int v6, .int v7, .int v8, .int v9, .int s0, .int (nZ 0), .int (nZ 0), .retAddr 0, .retAddr 0, .retAddr 0] [] h :=
  (s_istore (ls2 := [.ref a0, .ref a1, .int v2, .int v3, .int v4, .int v5, .int v6, .int v7, .int v8, .int v9, .int s0, .retAddr 0, .retAddr 0, .retAddr 0, .retAddr 0, .retAddr 0]) i_L_isWhole_296 (fun _ => rfl)).trans <| (s_iconst i_L_isWhole_298).trans <| (s_istore (ls2 := [.ref a0, .ref a1, .int v2, .int v3, .int v4, .int v5, .int v6, .int v7, .int v8, .int v9, .int s0, .int (nZ 0), .retAddr 0, .retAddr 0, .retAddr 0, .retAddr 0]) i_L_isWhole_299 (fun _ => rfl)).trans <| (s_iconst i_L_isWhole_301).trans <| (s_istore (ls2 := [.ref a0, .ref a1, .int v2, .int v3, .int v4, .int v5, .int v6, .int v7, .int v8, .int v9, .int s0, .int (nZ 0), .int (nZ 0), .retAddr 0, .retAddr 0, .retAddr 0]) i_L_isWhole_302 (fun _ => rfl)).trans <| rfl
theorem bk_L_isWhole_304 (X : mv_X) (call : mv_G) (h : mv_H) (a0 : Nat) (a1 : Nat) (v2 : Int32) (v3 : Int32) (v4 : Int32) (v5 : Int32) (v6 : Int32) (v7 : Int32) (v8 : Int32) (v9 : Int32) (v10 : Int32) (v11 : Int32) (v12 : Int32) : mv_run X call m_L_isWhole 304 [.ref a0, .ref a1, .int v2, .int v3, .int v4, .int v5, .int v6, .int v7, .int v8, .int v9, .int v10, .int v11, .int v12, .retAddr 0, .retAddr 0, .retAddr 0] [] h =
  mv_rcv X h [.ref a0] 12 (mv_clI call 110 [.ref a0] h mv_raise fun x1 h1 =>
  if x1 ≤ v12 then 
  (if v3 = 0 then 
    (mv_run X call m_L_isWhole 349 [.ref a0, .ref a1, .int v2, .int v3, .int v4, .int v5, .int v6, .int v7, .int v8, .int v9, .int v10, .int v11, .int v12, .retAddr 0, .retAddr 0, .retAddr 0] [.int (nZ 0)] h1)
    else (mv_rcv X h1 [.ref a0] 12 (mv_clI call 113 [.ref a0] h1 mv_raise fun x2 h2 =>
      mv_run X call m_L_isWhole 349 [.ref a0, .ref a1, .int v2, .int v3, .int v4, .int v5, .int v6, .int v7, .int v8, .int v9, .int v10, .int v11, .int v12, .retAddr 0, .retAddr 0, .retAddr 0] [.int x2] h2)))
  else (mv_rcv X h1 [.ref a0] 12 (mv_clI call 117 [.ref a0] h1 mv_raise fun x3 h3 =>
    if (nZ 24) = 0 then none else 
    mv_clI call 367 [.ref a0, .int v12, .int (x3 - x3 / (nZ 24) * (nZ 24))] h3 mv_raise fun x4 h4 =>
    mv_run X call m_L_isWhole 304 [.ref a0, .ref a1, .int v2, .int v3, .int v4, .int v5, .int v6, .int v7, .int v8, .int v9, .int v10, .int (v11 + x4), .int (v12 + nZ 1), .retAddr 0, .retAddr 0, .retAddr 0] [] h4))) :=
  (s_iload i_L_isWhole_304 rfl).trans <| (s_aload_n i_L_isWhole_306 rfl).trans <| (s_v1 [.ref a0] [.int v12] i_L_isWhole_307 rfl (fun _ => rfl)).trans <| c_rcv <| c_clI fun x1 h1 => (s_icmp_ge i_L_isWhole_310).trans <| c_ite ((s_iload_n i_L_isWhole_337 rfl).trans <| (s_if_eq i_L_isWhole_338).trans <| c_ite ((s_iconst i_L_isWhole_348).trans <| rfl) ((s_aload_n i_L_isWhole_341 rfl).trans <| (s_v1 [.ref a0] [] i_L_isWhole_342 rfl (fun _ => rfl)).trans <| c_rcv <| c_clI fun x2 h2 => (s_goto i_L_isWhole_345).trans <| rfl)) ((s_iload i_L_isWhole_313 rfl).trans <| (s_aload_n i_L_isWhole_315 rfl).trans <| (s_iload i_L_isWhole_316 rfl).trans <| (s_aload_n i_L_isWhole_318 rfl).trans <| (s_v1 [.ref a0] [.int v12, .ref a0, .int v11] i_L_isWhole_319 rfl (fun _ => rfl)).trans <| c_rcv <| c_clI fun x3 h3 => (s_bipush i_L_isWhole_322).trans <| (s_irem i_L_isWhole_324).trans <| c_ite rfl <| (s_s1 [.ref a0, .int v12, .int (x3 - x3 / (nZ 24) * (nZ 24))] [.int v11] i_L_isWhole_325 rfl (fun _ => rfl)).trans <| c_clI fun x4 h4 => (s_iadd i_L_isWhole_328).trans <| (s_istore (ls2 := [.ref a0, .ref a1, .int v2, .int v3, .int v4, .int v5, .int v6, .int v7, .int v8, .int v9, .int v10, .int (v11 + x4), .int v12, .retAddr 0, .retAddr 0, .retAddr 0]) i_L_isWhole_329 (fun _ => rfl)).trans <| (s_iinc (ls2 := [.ref a0, .ref a1, .int v2, .int v3, .int v4, .int v5, .int v6, .int v7, .int v8, .int v9, .int v10, .int (v11 + x4), .int (v12 + nZ 1), .retAddr 0, .retAddr 0, .retAddr 0]) i_L_isWhole_331 rfl (fun _ => rfl)).trans <| (s_goto i_L_isWhole_334).trans <| rfl)
theorem bk_L_isWhole_349 (X : mv_X) (call : mv_G) (h : mv_H) (a0 : Nat) (a1 : Nat) (v2 : Int32) (v3 : Int32) (v4 : Int32) (v5 : Int32) (v6 : Int32) (v7 : Int32) (v8 : Int32) (v9 : Int32) (v10 : Int32) (v11 : Int32) (v12 : Int32) (s0 : Int32) : mv_run X call m_L_isWhole 349 [.ref a0, .ref a1, .int v2, .int v3, .int v4, .int v5, .int v6, .int v7, .int v8, .int v9, .int v10, .int v11, .int v12, .retAddr 0, .retAddr 0, .retAddr 0] [.int s0] h =
  if v3 = 0 then 
  (mv_run X call m_L_isWhole 378 [.ref a0, .ref a1, .int v2, .int v3, .int v4, .int v5, .int v6, .int v7, .int v8, .int v9, .int v10, .int v11, .int s0, .retAddr 0, .retAddr 0, .retAddr 0] [] h)
  else (mv_rcv X h [.ref a0] 12 (mv_clI call 114 [.ref a0] h mv_raise fun x1 h1 =>
    if x1 = s0 then 
    (if v11 < s0 then 
      (mv_run X call m_L_isWhole 382 [.ref a0, .ref a1, .int v2, .int v3, .int v4, .int v5, .int v6, .int v7, .int v8, .int v9, .int v10, .int v11, .int s0, .retAddr 0, .retAddr 0, .retAddr 0] [] h1)
      else (if v4 < s0 then 
        (mv_run X call m_L_isWhole 382 [.ref a0, .ref a1, .int v2, .int v3, .int v4, .int v5, .int v6, .int v7, .int v8, .int v9, .int v10, .int v11, .int s0, .retAddr 0, .retAddr 0, .retAddr 0] [] h1)
        else (mv_run X call m_L_isWhole 378 [.ref a0, .ref a1, .int v2, .int v3, .int v4, .int v5, .int v6, .int v7, .int v8, .int v9, .int v10, .int v11, .int s0, .retAddr 0, .retAddr 0, .retAddr 0] [] h1)))
    else (mv_run X call m_L_isWhole 382 [.ref a0, .ref a1, .int v2, .int v3, .int v4, .int v5, .int v6, .int v7, .int v8, .int v9, .int v10, .int v11, .int s0, .retAddr 0, .retAddr 0, .retAddr 0] [] h1))) :=
  (s_istore (ls2 := [.ref a0, .ref a1, .int v2, .int v3, .int v4, .int v5, .int v6, .int v7, .int v8, .int v9, .int v10, .int v11, .int s0, .retAddr 0, .retAddr 0, .retAddr 0]) i_L_isWhole_349 (fun _ => rfl)).trans <| (s_iload_n i_L_isWhole_351 rfl).trans <| (s_if_eq i_L_isWhole_352).trans <| c_ite (rfl) ((s_aload_n i_L_isWhole_355 rfl).trans <| (s_v1 [.ref a0] [] i_L_isWhole_356 rfl (fun _ => rfl)).trans <| c_rcv <| c_clI fun x1 h1 => (s_iload i_L_isWhole_359 rfl).trans <| (s_icmp_ne i_L_isWhole_361).trans <| c_ite ((s_iload i_L_isWhole_364 rfl).trans <| (s_iload i_L_isWhole_366 rfl).trans <| (s_icmp_gt i_L_isWhole_368).trans <| c_ite (rfl) ((s_iload i_L_isWhole_371 rfl).trans <| (s_iload i_L_isWhole_373 rfl).trans <| (s_icmp_gt i_L_isWhole_375).trans <| c_ite (rfl) (rfl))) (rfl))
theorem bk_L_isWhole_378 (X : mv_X) (call : mv_G) (h : mv_H) (a0 : Nat) (a1 : Nat) (v2 : Int32) (v3 : Int32) (v4 : Int32) (v5 : Int32) (v6 : Int32) (v7 : Int32) (v8 : Int32) (v9 : Int32) (v10 : Int32) (v11 : Int32) (v12 : Int32) : mv_run X call m_L_isWhole 378 [.ref a0, .ref a1, .int v2, .int v3, .int v4, .int v5, .int v6, .int v7, .int v8, .int v9, .int v10, .int v11, .int v12, .retAddr 0, .retAddr 0, .retAddr 0] [] h =
  mv_run X call m_L_isWhole 383 [.ref a0, .ref a1, .int v2, .int v3, .int v4, .int v5, .int v6, .int v7, .int v8, .int v9, .int v10, .int v11, .int v12, .retAddr 0, .retAddr 0, .retAddr 0] [.int (nZ 1)] h :=
  (s_iconst i_L_isWhole_378).trans <| (s_goto i_L_isWhole_379).trans <| rfl
theorem bk_L_isWhole_382 (X : mv_X) (call : mv_G) (h : mv_H) (a0 : Nat) (a1 : Nat) (v2 : Int32) (v3 : Int32) (v4 : Int32) (v5 : Int32) (v6 : Int32) (v7 : Int32) (v8 : Int32) (v9 : Int32) (v10 : Int32) (v11 : Int32) (v12 : Int32) : mv_run X call m_L_isWhole 382 [.ref a0, .ref a1, .int v2, .int v3, .int v4, .int v5, .int v6, .int v7, .int v8, .int v9, .int v10, .int v11, .int v12, .retAddr 0, .retAddr 0, .retAddr 0] [] h =
  mv_run X call m_L_isWhole 383 [.ref a0, .ref a1, .int v2, .int v3, .int v4, .int v5, .int v6, .int v7, .int v8, .int v9, .int v10, .int v11, .int v12, .retAddr 0, .retAddr 0, .retAddr 0] [.int (nZ 0)] h :=
  (s_iconst i_L_isWhole_382).trans <| rfl
theorem bk_L_isWhole_383 (X : mv_X) (call : mv_G) (h : mv_H) (a0 : Nat) (a1 : Nat) (v2 : Int32) (v3 : Int32) (v4 : Int32) (v5 : Int32) (v6 : Int32) (v7 : Int32) (v8 : Int32) (v9 : Int32) (v10 : Int32) (v11 : Int32) (v12 : Int32) (s0 : Int32) : mv_run X call m_L_isWhole 383 [.ref a0, .ref a1, .int v2, .int v3, .int v4, .int v5, .int v6, .int v7, .int v8, .int v9, .int v10, .int v11, .int v12, .retAddr 0, .retAddr 0, .retAddr 0] [.int s0] h =
  mv_clI call 364 [.ref a0, .int v8] h mv_raise fun x1 h1 =>
  if v9 = x1 then 
  (if v9 < v10 then 
    (mv_run X call m_L_isWhole 433 [.ref a0, .ref a1, .int v2, .int v3, .int v4, .int v5, .int v6, .int v7, .int v8, .int v9, .int v10, .int v11, .int v12, .int s0, .retAddr 0, .retAddr 0] [] h1)
    else (if v9 < 0 then 
      (mv_run X call m_L_isWhole 433 [.ref a0, .ref a1, .int v2, .int v3, .int v4, .int v5, .int v6, .int v7, .int v8, .int v9, .int v10, .int v11, .int v12, .int s0, .retAddr 0, .retAddr 0] [] h1)
      else (if (nZ 24) < v9 then 
        (mv_run X call m_L_isWhole 433 [.ref a0, .ref a1, .int v2, .int v3, .int v4, .int v5, .int v6, .int v7, .int v8, .int v9, .int v10, .int v11, .int v12, .int s0, .retAddr 0, .retAddr 0] [] h1)
        else (if v8 < (nZ 9) then 
          (mv_run X call m_L_isWhole 429 [.ref a0, .ref a1, .int v2, .int v3, .int v4, .int v5, .int v6, .int v7, .int v8, .int v9, .int v10, .int v11, .int v12, .int s0, .retAddr 0, .retAddr 0] [] h1)
          else (if v9 = (nZ 24) then 
            (mv_run X call m_L_isWhole 429 [.ref a0, .ref a1, .int v2, .int v3, .int v4, .int v5, .int v6, .int v7, .int v8, .int v9, .int v10, .int v11, .int v12, .int s0, .retAddr 0, .retAddr 0] [] h1)
            else (mv_run X call m_L_isWhole 433 [.ref a0, .ref a1, .int v2, .int v3, .int v4, .int v5, .int v6, .int v7, .int v8, .int v9, .int v10, .int v11, .int v12, .int s0, .retAddr 0, .retAddr 0] [] h1))))))
  else (mv_run X call m_L_isWhole 433 [.ref a0, .ref a1, .int v2, .int v3, .int v4, .int v5, .int v6, .int v7, .int v8, .int v9, .int v10, .int v11, .int v12, .int s0, .retAddr 0, .retAddr 0] [] h1) :=
  (s_istore (ls2 := [.ref a0, .ref a1, .int v2, .int v3, .int v4, .int v5, .int v6, .int v7, .int v8, .int v9, .int v10, .int v11, .int v12, .int s0, .retAddr 0, .retAddr 0]) i_L_isWhole_383 (fun _ => rfl)).trans <| (s_iload i_L_isWhole_385 rfl).trans <| (s_aload_n i_L_isWhole_387 rfl).trans <| (s_iload i_L_isWhole_388 rfl).trans <| (s_s1 [.ref a0, .int v8] [.int v9] i_L_isWhole_390 rfl (fun _ => rfl)).trans <| c_clI fun x1 h1 => (s_icmp_ne i_L_isWhole_393).trans <| c_ite ((s_iload i_L_isWhole_396 rfl).trans <| (s_iload i_L_isWhole_398 rfl).trans <| (s_icmp_lt i_L_isWhole_400).trans <| c_ite (rfl) ((s_iload i_L_isWhole_403 rfl).trans <| (s_if_lt i_L_isWhole_405).trans <| c_ite (rfl) ((s_iload i_L_isWhole_408 rfl).trans <| (s_bipush i_L_isWhole_410).trans <| (s_icmp_gt i_L_isWhole_412).trans <| c_ite (rfl) ((s_iload i_L_isWhole_415 rfl).trans <| (s_bipush i_L_isWhole_417).trans <| (s_icmp_lt i_L_isWhole_419).trans <| c_ite (rfl) ((s_iload i_L_isWhole_422 rfl).trans <| (s_bipush i_L_isWhole_424).trans <| (s_icmp_ne i_L_isWhole_426).trans <| c_ite (rfl) (rfl)))))) (rfl)
theorem bk_L_isWhole_429 (X : mv_X) (call : mv_G) (h : mv_H) (a0 : Nat) (a1 : Nat) (v2 : Int32) (v3 : Int32) (v4 : Int32) (v5 : Int32) (v6 : Int32) (v7 : Int32) (v8 : Int32) (v9 : Int32) (v10 : Int32) (v11 : Int32) (v12 : Int32) (v13 : Int32) : mv_run X call m_L_isWhole 429 [.ref a0, .ref a1, .int v2, .int v3, .int v4, .int v5, .int v6, .int v7, .int v8, .int v9, .int v10, .int v11, .int v12, .int v13, .retAddr 0, .retAddr 0] [] h =
  mv_run X call m_L_isWhole 434 [.ref a0, .ref a1, .int v2, .int v3, .int v4, .int v5, .int v6, .int v7, .int v8, .int v9, .int v10, .int v11, .int v12, .int v13, .retAddr 0, .retAddr 0] [.int (nZ 1)] h :=
  (s_iconst i_L_isWhole_429).trans <| (s_goto i_L_isWhole_430).trans <| rfl
theorem bk_L_isWhole_433 (X : mv_X) (call : mv_G) (h : mv_H) (a0 : Nat) (a1 : Nat) (v2 : Int32) (v3 : Int32) (v4 : Int32) (v5 : Int32) (v6 : Int32) (v7 : Int32) (v8 : Int32) (v9 : Int32) (v10 : Int32) (v11 : Int32) (v12 : Int32) (v13 : Int32) : mv_run X call m_L_isWhole 433 [.ref a0, .ref a1, .int v2, .int v3, .int v4, .int v5, .int v6, .int v7, .int v8, .int v9, .int v10, .int v11, .int v12, .int v13, .retAddr 0, .retAddr 0] [] h =
  mv_run X call m_L_isWhole 434 [.ref a0, .ref a1, .int v2, .int v3, .int v4, .int v5, .int v6, .int v7, .int v8, .int v9, .int v10, .int v11, .int v12, .int v13, .retAddr 0, .retAddr 0] [.int (nZ 0)] h :=
  (s_iconst i_L_isWhole_433).trans <| rfl
theorem bk_L_isWhole_434 (X : mv_X) (call : mv_G) (h : mv_H) (a0 : Nat) (a1 : Nat) (v2 : Int32) (v3 : Int32) (v4 : Int32) (v5 : Int32) (v6 : Int32) (v7 : Int32) (v8 : Int32) (v9 : Int32) (v10 : Int32) (v11 : Int32) (v12 : Int32) (v13 : Int32) (s0 : Int32) : mv_run X call m_L_isWhole 434 [.ref a0, .ref a1, .int v2, .int v3, .int v4, .int v5, .int v6, .int v7, .int v8, .int v9, .int v10, .int v11, .int v12, .int v13, .retAddr 0, .retAddr 0] [.int s0] h =
  mv_rcv X h [.ref a0] 12 (mv_clI call 120 [.ref a0] h mv_raise fun x1 h1 =>
  if x1 = v5 then 
  (mv_rcv X h1 [.ref a0] 12 (mv_clI call 119 [.ref a0] h1 mv_raise fun x2 h2 =>
    mv_rcv X h2 [.ref a0] 12 (mv_clI call 121 [.ref a0] h2 mv_raise fun x3 h3 =>
    mv_rcv X h3 [.ref a0] 12 (mv_clI call 122 [.ref a0] h3 mv_raise fun x4 h4 =>
    if x2 = ((v5 + x3) + x4) then 
    (mv_clD call 370 [.ref a0] h4 mv_raise fun d1 h5 =>
      if v4 = 0 then 
      (mv_run X call m_L_isWhole 486 [.ref a0, .ref a1, .int v2, .int v3, .int v4, .int v5, .int v6, .int v7, .int v8, .int v9, .int v10, .int v11, .int v12, .int v13, .int s0, .retAddr 0] [.double (UInt64.ofNat 13858279740860792832), .double d1] h5)
      else (mv_chk (decide ((FP.ddiv (FP.i2d v6) (FP.i2d v4)) &&& 0x7fffffffffffffff ≤ 0x7ff0000000000000)) (
        mv_run X call m_L_isWhole 486 [.ref a0, .ref a1, .int v2, .int v3, .int v4, .int v5, .int v6, .int v7, .int v8, .int v9, .int v10, .int v11, .int v12, .int v13, .int s0, .retAddr 0] [.double (FP.ddiv (FP.i2d v6) (FP.i2d v4)), .double d1] h5)))
    else (mv_run X call m_L_isWhole 494 [.ref a0, .ref a1, .int v2, .int v3, .int v4, .int v5, .int v6, .int v7, .int v8, .int v9, .int v10, .int v11, .int v12, .int v13, .int s0, .retAddr 0] [] h4)))))
  else (mv_run X call m_L_isWhole 494 [.ref a0, .ref a1, .int v2, .int v3, .int v4, .int v5, .int v6, .int v7, .int v8, .int v9, .int v10, .int v11, .int v12, .int v13, .int s0, .retAddr 0] [] h1)) :=
  (s_istore (ls2 := [.ref a0, .ref a1, .int v2, .int v3, .int v4, .int v5, .int v6, .int v7, .int v8, .int v9, .int v10, .int v11, .int v12, .int v13, .int s0, .retAddr 0]) i_L_isWhole_434 (fun _ => rfl)).trans <| (s_aload_n i_L_isWhole_436 rfl).trans <| (s_v1 [.ref a0] [] i_L_isWhole_437 rfl (fun _ => rfl)).trans <| c_rcv <| c_clI fun x1 h1 => (s_iload i_L_isWhole_440 rfl).trans <| (s_icmp_ne i_L_isWhole_442).trans <| c_ite ((s_aload_n i_L_isWhole_445 rfl).trans <| (s_v1 [.ref a0] [] i_L_isWhole_446 rfl (fun _ => rfl)).trans <| c_rcv <| c_clI fun x2 h2 => (s_iload i_L_isWhole_449 rfl).trans <| (s_aload_n i_L_isWhole_451 rfl).trans <| (s_v1 [.ref a0] [.int v5, .int x2] i_L_isWhole_452 rfl (fun _ => rfl)).trans <| c_rcv <| c_clI fun x3 h3 => (s_iadd i_L_isWhole_455).trans <| (s_aload_n i_L_isWhole_456 rfl).trans <| (s_v1 [.ref a0] [.int (v5 + x3), .int x2] i_L_isWhole_457 rfl (fun _ => rfl)).trans <| c_rcv <| c_clI fun x4 h4 => (s_iadd i_L_isWhole_460).trans <| (s_icmp_ne i_L_isWhole_461).trans <| c_ite ((s_aload_n i_L_isWhole_464 rfl).trans <| (s_s5 [.ref a0] [] i_L_isWhole_465 rfl (fun _ => rfl)).trans <| c_clD fun d1 h5 => (s_iload i_L_isWhole_468 rfl).trans <| (s_if_ne i_L_isWhole_470).trans <| c_ite ((s_ldc2D i_L_isWhole_473 rfl).trans <| (s_goto i_L_isWhole_476).trans <| rfl) ((s_iload i_L_isWhole_479 rfl).trans <| (s_i2d i_L_isWhole_481).trans <| (s_iload i_L_isWhole_482 rfl).trans <| (s_i2d i_L_isWhole_484).trans <| (s_ddiv i_L_isWhole_485).trans <| c_chk <| rfl)) (rfl)) (rfl)
theorem bk_L_isWhole_486 (X : mv_X) (call : mv_G) (h : mv_H) (a0 : Nat) (a1 : Nat) (v2 : Int32) (v3 : Int32) (v4 : Int32) (v5 : Int32) (v6 : Int32) (v7 : Int32) (v8 : Int32) (v9 : Int32) (v10 : Int32) (v11 : Int32) (v12 : Int32) (v13 : Int32) (v14 : Int32) (s0 : UInt64) (s1 : UInt64) : mv_run X call m_L_isWhole 486 [.ref a0, .ref a1, .int v2, .int v3, .int v4, .int v5, .int v6, .int v7, .int v8, .int v9, .int v10, .int v11, .int v12, .int v13, .int v14, .retAddr 0] [.double s0, .double s1] h =
  if (Op.cmpValue (FP.dcmp s1 s0) .l) = 0 then 
  (mv_run X call m_L_isWhole 495 [.ref a0, .ref a1, .int v2, .int v3, .int v4, .int v5, .int v6, .int v7, .int v8, .int v9, .int v10, .int v11, .int v12, .int v13, .int v14, .retAddr 0] [.int (nZ 1)] h)
  else (mv_run X call m_L_isWhole 494 [.ref a0, .ref a1, .int v2, .int v3, .int v4, .int v5, .int v6, .int v7, .int v8, .int v9, .int v10, .int v11, .int v12, .int v13, .int v14, .retAddr 0] [] h) :=
  (s_dcmp i_L_isWhole_486).trans <| (s_if_ne i_L_isWhole_487).trans <| c_ite ((s_iconst i_L_isWhole_490).trans <| (s_goto i_L_isWhole_491).trans <| rfl) (rfl)
theorem bk_L_isWhole_494 (X : mv_X) (call : mv_G) (h : mv_H) (a0 : Nat) (a1 : Nat) (v2 : Int32) (v3 : Int32) (v4 : Int32) (v5 : Int32) (v6 : Int32) (v7 : Int32) (v8 : Int32) (v9 : Int32) (v10 : Int32) (v11 : Int32) (v12 : Int32) (v13 : Int32) (v14 : Int32) : mv_run X call m_L_isWhole 494 [.ref a0, .ref a1, .int v2, .int v3, .int v4, .int v5, .int v6, .int v7, .int v8, .int v9, .int v10, .int v11, .int v12, .int v13, .int v14, .retAddr 0] [] h =
  mv_run X call m_L_isWhole 495 [.ref a0, .ref a1, .int v2, .int v3, .int v4, .int v5, .int v6, .int v7, .int v8, .int v9, .int v10, .int v11, .int v12, .int v13, .int v14, .retAddr 0] [.int (nZ 0)] h :=
  (s_iconst i_L_isWhole_494).trans <| rfl
theorem bk_L_isWhole_495 (X : mv_X) (call : mv_G) (h : mv_H) (a0 : Nat) (a1 : Nat) (v2 : Int32) (v3 : Int32) (v4 : Int32) (v5 : Int32) (v6 : Int32) (v7 : Int32) (v8 : Int32) (v9 : Int32) (v10 : Int32) (v11 : Int32) (v12 : Int32) (v13 : Int32) (v14 : Int32) (s0 : Int32) : mv_run X call m_L_isWhole 495 [.ref a0, .ref a1, .int v2, .int v3, .int v4, .int v5, .int v6, .int v7, .int v8, .int v9, .int v10, .int v11, .int v12, .int v13, .int v14, .retAddr 0] [.int s0] h =
  if v13 = 0 then 
  (mv_run X call m_L_isWhole 572 [.ref a0, .ref a1, .int v2, .int v3, .int v4, .int v5, .int v6, .int v7, .int v8, .int v9, .int v10, .int v11, .int v12, .int v13, .int v14, .int s0] [] h)
  else (if v14 = 0 then 
    (mv_run X call m_L_isWhole 572 [.ref a0, .ref a1, .int v2, .int v3, .int v4, .int v5, .int v6, .int v7, .int v8, .int v9, .int v10, .int v11, .int v12, .int v13, .int v14, .int s0] [] h)
    else (if s0 = 0 then 
      (mv_run X call m_L_isWhole 572 [.ref a0, .ref a1, .int v2, .int v3, .int v4, .int v5, .int v6, .int v7, .int v8, .int v9, .int v10, .int v11, .int v12, .int v13, .int v14, .int s0] [] h)
      else (mv_rcv X h [.ref a0] 12 (mv_clI call 104 [.ref a0] h mv_raise fun x1 h1 =>
        if x1 = v7 then 
        (mv_rcv X h1 [.ref a0] 12 (mv_clI call 105 [.ref a0] h1 mv_raise fun x2 h2 =>
          if x2 = v7 then 
          (mv_rcv X h2 [.ref a0] 12 (mv_clI call 86 [.ref a0] h2 mv_raise fun x3 h3 =>
            if x3 = v4 then 
            (mv_clI call 351 [.ref a0, .int v4] h3 mv_raise fun x4 h4 =>
              if x4 = (nZ (-75)) then 
              (mv_rcv X h4 [.ref a0] 12 (mv_clI call 110 [.ref a0] h4 mv_raise fun x5 h5 =>
                if (nZ 6) < x5 then 
                (mv_run X call m_L_isWhole 572 [.ref a0, .ref a1, .int v2, .int v3, .int v4, .int v5, .int v6, .int v7, .int v8, .int v9, .int v10, .int v11, .int v12, .int v13, .int v14, .int s0] [] h5)
                else (mv_rcv X h5 [.ref a0] 12 (mv_clI call 116 [.ref a0] h5 mv_raise fun x6 h6 =>
                  if v4 < x6 then 
                  (mv_run X call m_L_isWhole 572 [.ref a0, .ref a1, .int v2, .int v3, .int v4, .int v5, .int v6, .int v7, .int v8, .int v9, .int v10, .int v11, .int v12, .int v13, .int v14, .int s0] [] h6)
                  else (mv_run X call m_L_isWhole 573 [.ref a0, .ref a1, .int v2, .int v3, .int v4, .int v5, .int v6, .int v7, .int v8, .int v9, .int v10, .int v11, .int v12, .int v13, .int v14, .int s0] [.int (nZ 1)] h6)))))
              else (mv_run X call m_L_isWhole 572 [.ref a0, .ref a1, .int v2, .int v3, .int v4, .int v5, .int v6, .int v7, .int v8, .int v9, .int v10, .int v11, .int v12, .int v13, .int v14, .int s0] [] h4))
            else (mv_run X call m_L_isWhole 572 [.ref a0, .ref a1, .int v2, .int v3, .int v4, .int v5, .int v6, .int v7, .int v8, .int v9, .int v10, .int v11, .int v12, .int v13, .int v14, .int s0] [] h3)))
          else (mv_run X call m_L_isWhole 572 [.ref a0, .ref a1, .int v2, .int v3, .int v4, .int v5, .int v6, .int v7, .int v8, .int v9, .int v10, .int v11, .int v12, .int v13, .int v14, .int s0] [] h2)))
        else (mv_run X call m_L_isWhole 572 [.ref a0, .ref a1, .int v2, .int v3, .int v4, .int v5, .int v6, .int v7, .int v8, .int v9, .int v10, .int v11, .int v12, .int v13, .int v14, .int s0] [] h1))))) :=
  (s_istore (ls2 := [.ref a0, .ref a1, .int v2, .int v3, .int v4, .int v5, .int v6, .int v7, .int v8, .int v9, .int v10, .int v11, .int v12, .int v13, .int v14, .int s0]) i_L_isWhole_495 (fun _ => rfl)).trans <| (s_iload i_L_isWhole_497 rfl).trans <| (s_if_eq i_L_isWhole_499).trans <| c_ite (rfl) ((s_iload i_L_isWhole_502 rfl).trans <| (s_if_eq i_L_isWhole_504).trans <| c_ite (rfl) ((s_iload i_L_isWhole_507 rfl).trans <| (s_if_eq i_L_isWhole_509).trans <| c_ite (rfl) ((s_aload_n i_L_isWhole_512 rfl).trans <| (s_v1 [.ref a0] [] i_L_isWhole_513 rfl (fun _ => rfl)).trans <| c_rcv <| c_clI fun x1 h1 => (s_iload i_L_isWhole_516 rfl).trans <| (s_icmp_ne i_L_isWhole_518).trans <| c_ite ((s_aload_n i_L_isWhole_521 rfl).trans <| (s_v1 [.ref a0] [] i_L_isWhole_522 rfl (fun _ => rfl)).trans <| c_rcv <| c_clI fun x2 h2 => (s_iload i_L_isWhole_525 rfl).trans <| (s_icmp_ne i_L_isWhole_527).trans <| c_ite ((s_aload_n i_L_isWhole_530 rfl).trans <| (s_v1 [.ref a0] [] i_L_isWhole_531 rfl (fun _ => rfl)).trans <| c_rcv <| c_clI fun x3 h3 => (s_iload i_L_isWhole_534 rfl).trans <| (s_icmp_ne i_L_isWhole_536).trans <| c_ite ((s_aload_n i_L_isWhole_539 rfl).trans <| (s_iload i_L_isWhole_540 rfl).trans <| (s_s1 [.ref a0, .int v4] [] i_L_isWhole_542 rfl (fun _ => rfl)).trans <| c_clI fun x4 h4 => (s_bipush i_L_isWhole_545).trans <| (s_icmp_ne i_L_isWhole_547).trans <| c_ite ((s_aload_n i_L_isWhole_550 rfl).trans <| (s_v1 [.ref a0] [] i_L_isWhole_551 rfl (fun _ => rfl)).trans <| c_rcv <| c_clI fun x5 h5 => (s_bipush i_L_isWhole_554).trans <| (s_icmp_gt i_L_isWhole_556).trans <| c_ite (rfl) ((s_aload_n i_L_isWhole_559 rfl).trans <| (s_v1 [.ref a0] [] i_L_isWhole_560 rfl (fun _ => rfl)).trans <| c_rcv <| c_clI fun x6 h6 => (s_iload i_L_isWhole_563 rfl).trans <| (s_icmp_gt i_L_isWhole_565).trans <| c_ite (rfl) ((s_iconst i_L_isWhole_568).trans <| (s_goto i_L_isWhole_569).trans <| rfl))) (rfl)) (rfl)) (rfl)) (rfl))))
theorem bk_L_isWhole_572 (X : mv_X) (call : mv_G) (h : mv_H) (a0 : Nat) (a1 : Nat) (v2 : Int32) (v3 : Int32) (v4 : Int32) (v5 : Int32) (v6 : Int32) (v7 : Int32) (v8 : Int32) (v9 : Int32) (v10 : Int32) (v11 : Int32) (v12 : Int32) (v13 : Int32) (v14 : Int32) (v15 : Int32) : mv_run X call m_L_isWhole 572 [.ref a0, .ref a1, .int v2, .int v3, .int v4, .int v5, .int v6, .int v7, .int v8, .int v9, .int v10, .int v11, .int v12, .int v13, .int v14, .int v15] [] h =
  mv_run X call m_L_isWhole 573 [.ref a0, .ref a1, .int v2, .int v3, .int v4, .int v5, .int v6, .int v7, .int v8, .int v9, .int v10, .int v11, .int v12, .int v13, .int v14, .int v15] [.int (nZ 0)] h :=
  (s_iconst i_L_isWhole_572).trans <| rfl
theorem bk_L_isWhole_573 (X : mv_X) (call : mv_G) (h : mv_H) (a0 : Nat) (a1 : Nat) (v2 : Int32) (v3 : Int32) (v4 : Int32) (v5 : Int32) (v6 : Int32) (v7 : Int32) (v8 : Int32) (v9 : Int32) (v10 : Int32) (v11 : Int32) (v12 : Int32) (v13 : Int32) (v14 : Int32) (v15 : Int32) (s0 : Int32) : mv_run X call m_L_isWhole 573 [.ref a0, .ref a1, .int v2, .int v3, .int v4, .int v5, .int v6, .int v7, .int v8, .int v9, .int v10, .int v11, .int v12, .int v13, .int v14, .int v15] [.int s0] h =
  mv_chk (mv_ok 6 s0) (some (.inl (some (.int s0)), h)) :=
  s_iret i_L_isWhole_573
theorem mc_L_isKept (X : mv_X) (d : Nat) (h : mv_H) (a0 : Nat) (a1 : Nat) (v2 : Int32) : mv_call X (d + 1) 386 [.ref a0, .ref a1, .int v2] h = mv_run X (mv_call X d) m_L_isKept 0 [.ref a0, .ref a1, .int v2, .retAddr 0, .retAddr 0, .retAddr 0] [] h := rfl
theorem bk_L_isKept_0 (X : mv_X) (call : mv_G) (h : mv_H) (a0 : Nat) (a1 : Nat) (v2 : Int32) : mv_run X call m_L_isKept 0 [.ref a0, .ref a1, .int v2, .retAddr 0, .retAddr 0, .retAddr 0] [] h =
  mv_rcv X h [.ref a0] 12 (mv_clI call 135 [.ref a0] h mv_raise fun x1 h1 =>
  mv_clI call 267 [.int (nZ 8), .int v2] h1 mv_raise fun x2 h2 =>
  mv_rcv X h2 [.ref a0] 12 (mv_clI call 134 [.ref a0] h2 mv_raise fun x3 h3 =>
  if x3 = x2 then 
  (mv_run X call m_L_isKept 29 [.ref a0, .ref a1, .int v2, .int x1, .int x2, .int (v2 - (nZ 1))] [] h3)
  else ((some (.inl (some (.int (nZ 0))), h3))))) :=
  (s_aload_n rfl rfl).trans <| (s_v1 [.ref a0] [] rfl rfl (fun _ => rfl)).trans <| c_rcv <| c_clI fun x1 h1 => (s_istore_n (ls2 := [.ref a0, .ref a1, .int v2, .int x1, .retAddr 0, .retAddr 0]) rfl (fun _ => rfl)).trans <| (s_bipush rfl).trans <| (s_iload_n rfl rfl).trans <| (s_s1 [.int (nZ 8), .int v2] [] rfl rfl (fun _ => rfl)).trans <| c_clI fun x2 h2 => (s_istore (ls2 := [.ref a0, .ref a1, .int v2, .int x1, .int x2, .retAddr 0]) rfl (fun _ => rfl)).trans <| (s_aload_n rfl rfl).trans <| (s_v1 [.ref a0] [] rfl rfl (fun _ => rfl)).trans <| c_rcv <| c_clI fun x3 h3 => (s_iload rfl rfl).trans <| (s_icmp_eq rfl).trans <| c_ite ((s_iload_n rfl rfl).trans <| (s_iconst rfl).trans <| (s_isub rfl).trans <| (s_istore (ls2 := [.ref a0, .ref a1, .int v2, .int x1, .int x2, .int (v2 - (nZ 1))]) rfl (fun _ => rfl)).trans <| rfl) ((s_iconst rfl).trans <| s_iretb rfl rfl)
theorem bk_L_isKept_29 (X : mv_X) (call : mv_G) (h : mv_H) (a0 : Nat) (a1 : Nat) (v2 : Int32) (v3 : Int32) (v4 : Int32) (v5 : Int32) : mv_run X call m_L_isKept 29 [.ref a0, .ref a1, .int v2, .int v3, .int v4, .int v5] [] h =
  if v4 ≤ 0 then 
  (mv_clI call 377 [.ref a0] h mv_raise fun x1 h1 =>
    if x1 = (nZ (-79)) then 
    (mv_clI call 378 [.ref a0] h1 mv_raise fun x2 h2 =>
      if x2 = v3 then 
      (mv_clL call 383 [.ref a0] h2 mv_raise fun l1 h3 =>
        mv_aL X h3 a1 v2 fun l2 =>
        if (lg_cmp l1 l2) = 0 then 
        (mv_clI call 377 [.ref a0] h3 mv_raise fun x3 h4 =>
          if x3 = (nZ (-79)) then 
          (mv_run X call m_L_isKept 108 [.ref a0, .ref a1, .int v2, .int v3, .int v4, .int v5] [.int (nZ 1)] h4)
          else (mv_run X call m_L_isKept 107 [.ref a0, .ref a1, .int v2, .int v3, .int v4, .int v5] [] h4))
        else (mv_run X call m_L_isKept 107 [.ref a0, .ref a1, .int v2, .int v3, .int v4, .int v5] [] h3))
      else (mv_run X call m_L_isKept 107 [.ref a0, .ref a1, .int v2, .int v3, .int v4, .int v5] [] h2))
    else (mv_run X call m_L_isKept 107 [.ref a0, .ref a1, .int v2, .int v3, .int v4, .int v5] [] h1))
  else (mv_clI call 377 [.ref a0] h mv_raise fun x4 h5 =>
    if x4 = (v4 + nZ (-1)) then 
    (mv_clL call 383 [.ref a0] h5 mv_raise fun l3 h6 =>
      mv_aL X h6 a1 v5 fun l4 =>
      if (lg_cmp l3 l4) = 0 then 
      (mv_run X call m_L_isKept 29 [.ref a0, .ref a1, .int v2, .int v3, .int (v4 + nZ (-1)), .int (v5 + nZ (-1))] [] h6)
      else (mv_run X call m_L_isKept 58 [.ref a0, .ref a1, .int v2, .int v3, .int (v4 + nZ (-1)), .int v5] [] h6))
    else (mv_run X call m_L_isKept 58 [.ref a0, .ref a1, .int v2, .int v3, .int (v4 + nZ (-1)), .int v5] [] h5)) :=
  (s_iload rfl rfl).trans <| (s_if_le rfl).trans <| c_ite ((s_aload_n rfl rfl).trans <| (s_s1 [.ref a0] [] rfl rfl (fun _ => rfl)).trans <| c_clI fun x1 h1 => (s_bipush rfl).trans <| (s_icmp_ne rfl).trans <| c_ite ((s_aload_n rfl rfl).trans <| (s_s1 [.ref a0] [] rfl rfl (fun _ => rfl)).trans <| c_clI fun x2 h2 => (s_iload_n rfl rfl).trans <| (s_icmp_ne rfl).trans <| c_ite ((s_aload_n rfl rfl).trans <| (s_s3 [.ref a0] [] rfl rfl (fun _ => rfl)).trans <| c_clL fun l1 h3 => (s_aload_n rfl rfl).trans <| (s_iload_n rfl rfl).trans <| (s_laload rfl).trans <| c_aL fun l2 => (s_lcmp rfl).trans <| (s_if_ne rfl).trans <| c_ite ((s_aload_n rfl rfl).trans <| (s_s1 [.ref a0] [] rfl rfl (fun _ => rfl)).trans <| c_clI fun x3 h4 => (s_bipush rfl).trans <| (s_icmp_ne rfl).trans <| c_ite ((s_iconst rfl).trans <| (s_goto rfl).trans <| rfl) (rfl)) (rfl)) (rfl)) (rfl)) ((s_iinc (ls2 := [.ref a0, .ref a1, .int v2, .int v3, .int (v4 + nZ (-1)), .int v5]) rfl rfl (fun _ => rfl)).trans <| (s_aload_n rfl rfl).trans <| (s_s1 [.ref a0] [] rfl rfl (fun _ => rfl)).trans <| c_clI fun x4 h5 => (s_iload rfl rfl).trans <| (s_icmp_ne rfl).trans <| c_ite ((s_aload_n rfl rfl).trans <| (s_s3 [.ref a0] [] rfl rfl (fun _ => rfl)).trans <| c_clL fun l3 h6 => (s_aload_n rfl rfl).trans <| (s_iload rfl rfl).trans <| (s_laload rfl).trans <| c_aL fun l4 => (s_lcmp rfl).trans <| (s_if_eq rfl).trans <| c_ite ((s_iinc (ls2 := [.ref a0, .ref a1, .int v2, .int v3, .int (v4 + nZ (-1)), .int (v5 + nZ (-1))]) rfl rfl (fun _ => rfl)).trans <| (s_goto rfl).trans <| rfl) (rfl)) (rfl))
theorem bk_L_isKept_58 (X : mv_X) (call : mv_G) (h : mv_H) (a0 : Nat) (a1 : Nat) (v2 : Int32) (v3 : Int32) (v4 : Int32) (v5 : Int32) : mv_run X call m_L_isKept 58 [.ref a0, .ref a1, .int v2, .int v3, .int v4, .int v5] [] h =
  (some (.inl (some (.int (nZ 0))), h)) :=
  (s_iconst rfl).trans <| s_iretb rfl rfl
theorem bk_L_isKept_107 (X : mv_X) (call : mv_G) (h : mv_H) (a0 : Nat) (a1 : Nat) (v2 : Int32) (v3 : Int32) (v4 : Int32) (v5 : Int32) : mv_run X call m_L_isKept 107 [.ref a0, .ref a1, .int v2, .int v3, .int v4, .int v5] [] h =
  mv_run X call m_L_isKept 108 [.ref a0, .ref a1, .int v2, .int v3, .int v4, .int v5] [.int (nZ 0)] h :=
  (s_iconst rfl).trans <| rfl
theorem bk_L_isKept_108 (X : mv_X) (call : mv_G) (h : mv_H) (a0 : Nat) (a1 : Nat) (v2 : Int32) (v3 : Int32) (v4 : Int32) (v5 : Int32) (s0 : Int32) : mv_run X call m_L_isKept 108 [.ref a0, .ref a1, .int v2, .int v3, .int v4, .int v5] [.int s0] h =
  mv_chk (mv_ok 6 s0) (some (.inl (some (.int s0)), h)) :=
  s_iret rfl
